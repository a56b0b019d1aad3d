section
-- ===== PART A: goes FIRST, ahead of the names: the tables' words, and 'selects' of the private methods out of them =====
/-- a private method of a class that the tables say can be made, by its rows of tables_1 -/
def lw_okq (q : MethodName × Nat) : Prop := (q.1.cls ≠ "java/lang/invoke/MethodHandle" ∧ q.1.cls ≠ "java/lang/invoke/VarHandle") ∧ Cond.instantiable q.1.cls q.2 ∈ tables_1 ∧ Cond.privateMethod q.1 ∈ tables_1 ∧ Cond.instanceMethod q.1 ∈ tables_1
theorem lw_p0 : lw_okq (⟨"SuiteBench", "settle", "()V"⟩, 16) := ⟨⟨by decide +kernel, by decide +kernel⟩, List.mem_of_getElem? (i := 28) (by decide +kernel), List.mem_of_getElem? (i := 556) (by decide +kernel), List.mem_of_getElem? (i := 557) (by decide +kernel)⟩
theorem lw_p1 : lw_okq (⟨"SuiteBench$Traits", "learnTop", "()V"⟩, 12) := ⟨⟨by decide +kernel, by decide +kernel⟩, List.mem_of_getElem? (i := 197) (by decide +kernel), List.mem_of_getElem? (i := 572) (by decide +kernel), List.mem_of_getElem? (i := 573) (by decide +kernel)⟩
theorem lw_p2 : lw_okq (⟨"SuiteBench$Traits", "learnAccess", "()V"⟩, 12) := ⟨⟨by decide +kernel, by decide +kernel⟩, List.mem_of_getElem? (i := 197) (by decide +kernel), List.mem_of_getElem? (i := 579) (by decide +kernel), List.mem_of_getElem? (i := 580) (by decide +kernel)⟩
theorem lw_p3 : lw_okq (⟨"SuiteBench$Traits", "learnSeparators", "()V"⟩, 12) := ⟨⟨by decide +kernel, by decide +kernel⟩, List.mem_of_getElem? (i := 197) (by decide +kernel), List.mem_of_getElem? (i := 588) (by decide +kernel), List.mem_of_getElem? (i := 589) (by decide +kernel)⟩
theorem lw_p4 : lw_okq (⟨"SuiteBench$Traits", "areAlike", "(II)Z"⟩, 12) := ⟨⟨by decide +kernel, by decide +kernel⟩, List.mem_of_getElem? (i := 197) (by decide +kernel), List.mem_of_getElem? (i := 592) (by decide +kernel), List.mem_of_getElem? (i := 593) (by decide +kernel)⟩
theorem lw_p5 : lw_okq (⟨"SuiteBench$Traits", "separatorOfLength", "(III)I"⟩, 12) := ⟨⟨by decide +kernel, by decide +kernel⟩, List.mem_of_getElem? (i := 197) (by decide +kernel), List.mem_of_getElem? (i := 596) (by decide +kernel), List.mem_of_getElem? (i := 597) (by decide +kernel)⟩
theorem lw_p6 : lw_okq (⟨"SuiteBench$Traits", "learnKinds", "()V"⟩, 12) := ⟨⟨by decide +kernel, by decide +kernel⟩, List.mem_of_getElem? (i := 197) (by decide +kernel), List.mem_of_getElem? (i := 603) (by decide +kernel), List.mem_of_getElem? (i := 604) (by decide +kernel)⟩
theorem lw_p7 : lw_okq (⟨"SuiteBench$Traits", "learnSplitters", "()V"⟩, 12) := ⟨⟨by decide +kernel, by decide +kernel⟩, List.mem_of_getElem? (i := 197) (by decide +kernel), List.mem_of_getElem? (i := 607) (by decide +kernel), List.mem_of_getElem? (i := 608) (by decide +kernel)⟩
theorem lw_p8 : lw_okq (⟨"SuiteBench$Traits", "areSplit", "(II)Z"⟩, 12) := ⟨⟨by decide +kernel, by decide +kernel⟩, List.mem_of_getElem? (i := 197) (by decide +kernel), List.mem_of_getElem? (i := 611) (by decide +kernel), List.mem_of_getElem? (i := 612) (by decide +kernel)⟩
theorem lw_p9 : lw_okq (⟨"SuiteBench$Traits", "learnMarks", "(I)V"⟩, 12) := ⟨⟨by decide +kernel, by decide +kernel⟩, List.mem_of_getElem? (i := 197) (by decide +kernel), List.mem_of_getElem? (i := 624) (by decide +kernel), List.mem_of_getElem? (i := 625) (by decide +kernel)⟩
theorem lw_p10 : lw_okq (⟨"SuiteBench$Traits", "addMark", "(II)V"⟩, 12) := ⟨⟨by decide +kernel, by decide +kernel⟩, List.mem_of_getElem? (i := 197) (by decide +kernel), List.mem_of_getElem? (i := 628) (by decide +kernel), List.mem_of_getElem? (i := 629) (by decide +kernel)⟩
theorem lw_p11 : lw_okq (⟨"SuiteBench$Mutants", "listArc", "(I)V"⟩, 16) := ⟨⟨by decide +kernel, by decide +kernel⟩, List.mem_of_getElem? (i := 415) (by decide +kernel), List.mem_of_getElem? (i := 651) (by decide +kernel), List.mem_of_getElem? (i := 652) (by decide +kernel)⟩
theorem lw_p12 : lw_okq (⟨"SuiteBench$Mutants", "add", "(I)V"⟩, 16) := ⟨⟨by decide +kernel, by decide +kernel⟩, List.mem_of_getElem? (i := 415) (by decide +kernel), List.mem_of_getElem? (i := 655) (by decide +kernel), List.mem_of_getElem? (i := 656) (by decide +kernel)⟩
theorem lw_p13 : lw_okq (⟨"SuiteBench$Reader", "advance", "()V"⟩, 10) := ⟨⟨by decide +kernel, by decide +kernel⟩, List.mem_of_getElem? (i := 36) (by decide +kernel), List.mem_of_getElem? (i := 732) (by decide +kernel), List.mem_of_getElem? (i := 733) (by decide +kernel)⟩
theorem lw_p14 : lw_okq (⟨"SuiteBench$Reader", "readLine", "()Z"⟩, 10) := ⟨⟨by decide +kernel, by decide +kernel⟩, List.mem_of_getElem? (i := 36) (by decide +kernel), List.mem_of_getElem? (i := 737) (by decide +kernel), List.mem_of_getElem? (i := 738) (by decide +kernel)⟩
theorem lw_p15 : lw_okq (⟨"SuiteBench$Reader", "wrong", "(I)Z"⟩, 10) := ⟨⟨by decide +kernel, by decide +kernel⟩, List.mem_of_getElem? (i := 36) (by decide +kernel), List.mem_of_getElem? (i := 741) (by decide +kernel), List.mem_of_getElem? (i := 742) (by decide +kernel)⟩
def lw_privs_1 : List (MethodName × Nat) := [(⟨"SuiteBench", "settle", "()V"⟩, 16), (⟨"SuiteBench$Traits", "learnTop", "()V"⟩, 12), (⟨"SuiteBench$Traits", "learnAccess", "()V"⟩, 12), (⟨"SuiteBench$Traits", "learnSeparators", "()V"⟩, 12), (⟨"SuiteBench$Traits", "areAlike", "(II)Z"⟩, 12), (⟨"SuiteBench$Traits", "separatorOfLength", "(III)I"⟩, 12), (⟨"SuiteBench$Traits", "learnKinds", "()V"⟩, 12), (⟨"SuiteBench$Traits", "learnSplitters", "()V"⟩, 12), (⟨"SuiteBench$Traits", "areSplit", "(II)Z"⟩, 12), (⟨"SuiteBench$Traits", "learnMarks", "(I)V"⟩, 12), (⟨"SuiteBench$Traits", "addMark", "(II)V"⟩, 12), (⟨"SuiteBench$Mutants", "listArc", "(I)V"⟩, 16), (⟨"SuiteBench$Mutants", "add", "(I)V"⟩, 16), (⟨"SuiteBench$Reader", "advance", "()V"⟩, 10), (⟨"SuiteBench$Reader", "readLine", "()Z"⟩, 10), (⟨"SuiteBench$Reader", "wrong", "(I)Z"⟩, 10)]
theorem lw_r1 : ∀ q ∈ lw_privs_1, lw_okq q := List.forall_mem_cons.mpr ⟨lw_p0, List.forall_mem_cons.mpr ⟨lw_p1, List.forall_mem_cons.mpr ⟨lw_p2, List.forall_mem_cons.mpr ⟨lw_p3, List.forall_mem_cons.mpr ⟨lw_p4, List.forall_mem_cons.mpr ⟨lw_p5, List.forall_mem_cons.mpr ⟨lw_p6, List.forall_mem_cons.mpr ⟨lw_p7, List.forall_mem_cons.mpr ⟨lw_p8, List.forall_mem_cons.mpr ⟨lw_p9, List.forall_mem_cons.mpr ⟨lw_p10, List.forall_mem_cons.mpr ⟨lw_p11, List.forall_mem_cons.mpr ⟨lw_p12, List.forall_mem_cons.mpr ⟨lw_p13, List.forall_mem_cons.mpr ⟨lw_p14, List.forall_mem_cons.mpr ⟨lw_p15, fun _ h => absurd h List.not_mem_nil⟩⟩⟩⟩⟩⟩⟩⟩⟩⟩⟩⟩⟩⟩⟩⟩
theorem lw_p16 : lw_okq (⟨"SuiteBench$Reader", "readState", "()Z"⟩, 10) := ⟨⟨by decide +kernel, by decide +kernel⟩, List.mem_of_getElem? (i := 36) (by decide +kernel), List.mem_of_getElem? (i := 745) (by decide +kernel), List.mem_of_getElem? (i := 746) (by decide +kernel)⟩
theorem lw_p17 : lw_okq (⟨"SuiteBench$Reader", "readNewName", "()Z"⟩, 10) := ⟨⟨by decide +kernel, by decide +kernel⟩, List.mem_of_getElem? (i := 36) (by decide +kernel), List.mem_of_getElem? (i := 749) (by decide +kernel), List.mem_of_getElem? (i := 750) (by decide +kernel)⟩
theorem lw_p18 : lw_okq (⟨"SuiteBench$Reader", "readName", "()Z"⟩, 10) := ⟨⟨by decide +kernel, by decide +kernel⟩, List.mem_of_getElem? (i := 36) (by decide +kernel), List.mem_of_getElem? (i := 753) (by decide +kernel), List.mem_of_getElem? (i := 754) (by decide +kernel)⟩
theorem lw_p19 : lw_okq (⟨"SuiteBench$Reader", "readInput", "()Z"⟩, 10) := ⟨⟨by decide +kernel, by decide +kernel⟩, List.mem_of_getElem? (i := 36) (by decide +kernel), List.mem_of_getElem? (i := 779) (by decide +kernel), List.mem_of_getElem? (i := 780) (by decide +kernel)⟩
theorem lw_p20 : lw_okq (⟨"SuiteBench$Reader", "readMore", "()Z"⟩, 10) := ⟨⟨by decide +kernel, by decide +kernel⟩, List.mem_of_getElem? (i := 36) (by decide +kernel), List.mem_of_getElem? (i := 783) (by decide +kernel), List.mem_of_getElem? (i := 784) (by decide +kernel)⟩
theorem lw_p21 : lw_okq (⟨"SuiteBench$Reader", "readArc", "([II)Z"⟩, 10) := ⟨⟨by decide +kernel, by decide +kernel⟩, List.mem_of_getElem? (i := 36) (by decide +kernel), List.mem_of_getElem? (i := 787) (by decide +kernel), List.mem_of_getElem? (i := 788) (by decide +kernel)⟩
theorem lw_p22 : lw_okq (⟨"SuiteBench$Reader", "readPlace", "(I)I"⟩, 10) := ⟨⟨by decide +kernel, by decide +kernel⟩, List.mem_of_getElem? (i := 36) (by decide +kernel), List.mem_of_getElem? (i := 791) (by decide +kernel), List.mem_of_getElem? (i := 792) (by decide +kernel)⟩
theorem lw_p23 : lw_okq (⟨"SuiteBench$Reader", "readKnownInput", "()I"⟩, 10) := ⟨⟨by decide +kernel, by decide +kernel⟩, List.mem_of_getElem? (i := 36) (by decide +kernel), List.mem_of_getElem? (i := 796) (by decide +kernel), List.mem_of_getElem? (i := 797) (by decide +kernel)⟩
theorem lw_p24 : lw_okq (⟨"SuiteBench$Reader", "readNumber", "(I)Z"⟩, 10) := ⟨⟨by decide +kernel, by decide +kernel⟩, List.mem_of_getElem? (i := 36) (by decide +kernel), List.mem_of_getElem? (i := 801) (by decide +kernel), List.mem_of_getElem? (i := 802) (by decide +kernel)⟩
theorem lw_p25 : lw_okq (⟨"SuiteBench$Reader", "readExtra", "()Z"⟩, 10) := ⟨⟨by decide +kernel, by decide +kernel⟩, List.mem_of_getElem? (i := 36) (by decide +kernel), List.mem_of_getElem? (i := 805) (by decide +kernel), List.mem_of_getElem? (i := 806) (by decide +kernel)⟩
theorem lw_p26 : lw_okq (⟨"SuiteBench$Reader", "readSeed", "()Z"⟩, 10) := ⟨⟨by decide +kernel, by decide +kernel⟩, List.mem_of_getElem? (i := 36) (by decide +kernel), List.mem_of_getElem? (i := 809) (by decide +kernel), List.mem_of_getElem? (i := 810) (by decide +kernel)⟩
theorem lw_p27 : lw_okq (⟨"SuiteBench$Reader", "readClose", "()Z"⟩, 10) := ⟨⟨by decide +kernel, by decide +kernel⟩, List.mem_of_getElem? (i := 36) (by decide +kernel), List.mem_of_getElem? (i := 813) (by decide +kernel), List.mem_of_getElem? (i := 814) (by decide +kernel)⟩
theorem lw_p28 : lw_okq (⟨"SuiteBench", "isState", "(I)Z"⟩, 16) := ⟨⟨by decide +kernel, by decide +kernel⟩, List.mem_of_getElem? (i := 28) (by decide +kernel), List.mem_of_getElem? (i := 843) (by decide +kernel), List.mem_of_getElem? (i := 844) (by decide +kernel)⟩
theorem lw_p29 : lw_okq (⟨"SuiteBench$Search", "findSign", "(I)I"⟩, 11) := ⟨⟨by decide +kernel, by decide +kernel⟩, List.mem_of_getElem? (i := 257) (by decide +kernel), List.mem_of_getElem? (i := 895) (by decide +kernel), List.mem_of_getElem? (i := 896) (by decide +kernel)⟩
theorem lw_p30 : lw_okq (⟨"SuiteBench$Search", "push", "(II)V"⟩, 11) := ⟨⟨by decide +kernel, by decide +kernel⟩, List.mem_of_getElem? (i := 257) (by decide +kernel), List.mem_of_getElem? (i := 899) (by decide +kernel), List.mem_of_getElem? (i := 900) (by decide +kernel)⟩
theorem lw_p31 : lw_okq (⟨"SuiteBench$Search", "followSign", "(II)I"⟩, 11) := ⟨⟨by decide +kernel, by decide +kernel⟩, List.mem_of_getElem? (i := 257) (by decide +kernel), List.mem_of_getElem? (i := 904) (by decide +kernel), List.mem_of_getElem? (i := 905) (by decide +kernel)⟩
def lw_privs_2 : List (MethodName × Nat) := [(⟨"SuiteBench$Reader", "readState", "()Z"⟩, 10), (⟨"SuiteBench$Reader", "readNewName", "()Z"⟩, 10), (⟨"SuiteBench$Reader", "readName", "()Z"⟩, 10), (⟨"SuiteBench$Reader", "readInput", "()Z"⟩, 10), (⟨"SuiteBench$Reader", "readMore", "()Z"⟩, 10), (⟨"SuiteBench$Reader", "readArc", "([II)Z"⟩, 10), (⟨"SuiteBench$Reader", "readPlace", "(I)I"⟩, 10), (⟨"SuiteBench$Reader", "readKnownInput", "()I"⟩, 10), (⟨"SuiteBench$Reader", "readNumber", "(I)Z"⟩, 10), (⟨"SuiteBench$Reader", "readExtra", "()Z"⟩, 10), (⟨"SuiteBench$Reader", "readSeed", "()Z"⟩, 10), (⟨"SuiteBench$Reader", "readClose", "()Z"⟩, 10), (⟨"SuiteBench", "isState", "(I)Z"⟩, 16), (⟨"SuiteBench$Search", "findSign", "(I)I"⟩, 11), (⟨"SuiteBench$Search", "push", "(II)V"⟩, 11), (⟨"SuiteBench$Search", "followSign", "(II)I"⟩, 11)]
theorem lw_r2 : ∀ q ∈ lw_privs_2, lw_okq q := List.forall_mem_cons.mpr ⟨lw_p16, List.forall_mem_cons.mpr ⟨lw_p17, List.forall_mem_cons.mpr ⟨lw_p18, List.forall_mem_cons.mpr ⟨lw_p19, List.forall_mem_cons.mpr ⟨lw_p20, List.forall_mem_cons.mpr ⟨lw_p21, List.forall_mem_cons.mpr ⟨lw_p22, List.forall_mem_cons.mpr ⟨lw_p23, List.forall_mem_cons.mpr ⟨lw_p24, List.forall_mem_cons.mpr ⟨lw_p25, List.forall_mem_cons.mpr ⟨lw_p26, List.forall_mem_cons.mpr ⟨lw_p27, List.forall_mem_cons.mpr ⟨lw_p28, List.forall_mem_cons.mpr ⟨lw_p29, List.forall_mem_cons.mpr ⟨lw_p30, List.forall_mem_cons.mpr ⟨lw_p31, fun _ h => absurd h List.not_mem_nil⟩⟩⟩⟩⟩⟩⟩⟩⟩⟩⟩⟩⟩⟩⟩⟩
theorem lw_p32 : lw_okq (⟨"SuiteBench$Search", "leave", "()V"⟩, 11) := ⟨⟨by decide +kernel, by decide +kernel⟩, List.mem_of_getElem? (i := 257) (by decide +kernel), List.mem_of_getElem? (i := 908) (by decide +kernel), List.mem_of_getElem? (i := 909) (by decide +kernel)⟩
theorem lw_p33 : lw_okq (⟨"SuiteBench$Suites", "grow", "(II)V"⟩, 12) := ⟨⟨by decide +kernel, by decide +kernel⟩, List.mem_of_getElem? (i := 297) (by decide +kernel), List.mem_of_getElem? (i := 927) (by decide +kernel), List.mem_of_getElem? (i := 928) (by decide +kernel)⟩
theorem lw_p34 : lw_okq (⟨"SuiteBench$Suites", "growHeads", "(I)V"⟩, 12) := ⟨⟨by decide +kernel, by decide +kernel⟩, List.mem_of_getElem? (i := 297) (by decide +kernel), List.mem_of_getElem? (i := 931) (by decide +kernel), List.mem_of_getElem? (i := 932) (by decide +kernel)⟩
theorem lw_p35 : lw_okq (⟨"SuiteBench$Suites", "growWord", "(II)I"⟩, 12) := ⟨⟨by decide +kernel, by decide +kernel⟩, List.mem_of_getElem? (i := 297) (by decide +kernel), List.mem_of_getElem? (i := 936) (by decide +kernel), List.mem_of_getElem? (i := 937) (by decide +kernel)⟩
theorem lw_p36 : lw_okq (⟨"SuiteBench$Suites", "growChild", "(II)I"⟩, 12) := ⟨⟨by decide +kernel, by decide +kernel⟩, List.mem_of_getElem? (i := 297) (by decide +kernel), List.mem_of_getElem? (i := 942) (by decide +kernel), List.mem_of_getElem? (i := 943) (by decide +kernel)⟩
theorem lw_p37 : lw_okq (⟨"SuiteBench$Suites", "addHead", "(I)V"⟩, 12) := ⟨⟨by decide +kernel, by decide +kernel⟩, List.mem_of_getElem? (i := 297) (by decide +kernel), List.mem_of_getElem? (i := 946) (by decide +kernel), List.mem_of_getElem? (i := 947) (by decide +kernel)⟩
theorem lw_p38 : lw_okq (⟨"SuiteBench$Suites", "growAll", "(I[III)V"⟩, 12) := ⟨⟨by decide +kernel, by decide +kernel⟩, List.mem_of_getElem? (i := 297) (by decide +kernel), List.mem_of_getElem? (i := 950) (by decide +kernel), List.mem_of_getElem? (i := 951) (by decide +kernel)⟩
theorem lw_p39 : lw_okq (⟨"SuiteBench$Suites", "pour", "(LSuiteBench$Tests;)V"⟩, 12) := ⟨⟨by decide +kernel, by decide +kernel⟩, List.mem_of_getElem? (i := 297) (by decide +kernel), List.mem_of_getElem? (i := 954) (by decide +kernel), List.mem_of_getElem? (i := 955) (by decide +kernel)⟩
theorem lw_p40 : lw_okq (⟨"SuiteBench$Walk", "wordToNew", "()I"⟩, 6) := ⟨⟨by decide +kernel, by decide +kernel⟩, List.mem_of_getElem? (i := 305) (by decide +kernel), List.mem_of_getElem? (i := 971) (by decide +kernel), List.mem_of_getElem? (i := 972) (by decide +kernel)⟩
theorem lw_p41 : lw_okq (⟨"SuiteBench$Walk", "take", "(LSuiteBench$Tests;I)V"⟩, 6) := ⟨⟨by decide +kernel, by decide +kernel⟩, List.mem_of_getElem? (i := 305) (by decide +kernel), List.mem_of_getElem? (i := 975) (by decide +kernel), List.mem_of_getElem? (i := 976) (by decide +kernel)⟩
theorem lw_p42 : lw_okq (⟨"SuiteBench$Tests", "step", "(LSuiteBench$Machine;I)I"⟩, 10) := ⟨⟨by decide +kernel, by decide +kernel⟩, List.mem_of_getElem? (i := 331) (by decide +kernel), List.mem_of_getElem? (i := 1011) (by decide +kernel), List.mem_of_getElem? (i := 1012) (by decide +kernel)⟩
theorem lw_p43 : lw_okq (⟨"SuiteBench$Tests", "stepsBehindWrong", "(I)I"⟩, 10) := ⟨⟨by decide +kernel, by decide +kernel⟩, List.mem_of_getElem? (i := 331) (by decide +kernel), List.mem_of_getElem? (i := 1031) (by decide +kernel), List.mem_of_getElem? (i := 1032) (by decide +kernel)⟩
theorem lw_p44 : lw_okq (⟨"SuiteBench$Mutants", "learnNoticed", "(ILSuiteBench$Tests;)V"⟩, 16) := ⟨⟨by decide +kernel, by decide +kernel⟩, List.mem_of_getElem? (i := 415) (by decide +kernel), List.mem_of_getElem? (i := 1092) (by decide +kernel), List.mem_of_getElem? (i := 1093) (by decide +kernel)⟩
theorem lw_p45 : lw_okq (⟨"SuiteBench$Mutants", "learnSmall", "(IILSuiteBench$Tests;)V"⟩, 16) := ⟨⟨by decide +kernel, by decide +kernel⟩, List.mem_of_getElem? (i := 415) (by decide +kernel), List.mem_of_getElem? (i := 1134) (by decide +kernel), List.mem_of_getElem? (i := 1135) (by decide +kernel)⟩
theorem lw_p46 : lw_okq (⟨"SuiteBench$Mutants", "makeSmall", "(II)V"⟩, 16) := ⟨⟨by decide +kernel, by decide +kernel⟩, List.mem_of_getElem? (i := 415) (by decide +kernel), List.mem_of_getElem? (i := 1139) (by decide +kernel), List.mem_of_getElem? (i := 1140) (by decide +kernel)⟩
theorem lw_p47 : lw_okq (⟨"SuiteBench$Search", "learnTrees", "()V"⟩, 11) := ⟨⟨by decide +kernel, by decide +kernel⟩, List.mem_of_getElem? (i := 257) (by decide +kernel), List.mem_of_getElem? (i := 1165) (by decide +kernel), List.mem_of_getElem? (i := 1166) (by decide +kernel)⟩
def lw_privs_3 : List (MethodName × Nat) := [(⟨"SuiteBench$Search", "leave", "()V"⟩, 11), (⟨"SuiteBench$Suites", "grow", "(II)V"⟩, 12), (⟨"SuiteBench$Suites", "growHeads", "(I)V"⟩, 12), (⟨"SuiteBench$Suites", "growWord", "(II)I"⟩, 12), (⟨"SuiteBench$Suites", "growChild", "(II)I"⟩, 12), (⟨"SuiteBench$Suites", "addHead", "(I)V"⟩, 12), (⟨"SuiteBench$Suites", "growAll", "(I[III)V"⟩, 12), (⟨"SuiteBench$Suites", "pour", "(LSuiteBench$Tests;)V"⟩, 12), (⟨"SuiteBench$Walk", "wordToNew", "()I"⟩, 6), (⟨"SuiteBench$Walk", "take", "(LSuiteBench$Tests;I)V"⟩, 6), (⟨"SuiteBench$Tests", "step", "(LSuiteBench$Machine;I)I"⟩, 10), (⟨"SuiteBench$Tests", "stepsBehindWrong", "(I)I"⟩, 10), (⟨"SuiteBench$Mutants", "learnNoticed", "(ILSuiteBench$Tests;)V"⟩, 16), (⟨"SuiteBench$Mutants", "learnSmall", "(IILSuiteBench$Tests;)V"⟩, 16), (⟨"SuiteBench$Mutants", "makeSmall", "(II)V"⟩, 16), (⟨"SuiteBench$Search", "learnTrees", "()V"⟩, 11)]
theorem lw_r3 : ∀ q ∈ lw_privs_3, lw_okq q := List.forall_mem_cons.mpr ⟨lw_p32, List.forall_mem_cons.mpr ⟨lw_p33, List.forall_mem_cons.mpr ⟨lw_p34, List.forall_mem_cons.mpr ⟨lw_p35, List.forall_mem_cons.mpr ⟨lw_p36, List.forall_mem_cons.mpr ⟨lw_p37, List.forall_mem_cons.mpr ⟨lw_p38, List.forall_mem_cons.mpr ⟨lw_p39, List.forall_mem_cons.mpr ⟨lw_p40, List.forall_mem_cons.mpr ⟨lw_p41, List.forall_mem_cons.mpr ⟨lw_p42, List.forall_mem_cons.mpr ⟨lw_p43, List.forall_mem_cons.mpr ⟨lw_p44, List.forall_mem_cons.mpr ⟨lw_p45, List.forall_mem_cons.mpr ⟨lw_p46, List.forall_mem_cons.mpr ⟨lw_p47, fun _ h => absurd h List.not_mem_nil⟩⟩⟩⟩⟩⟩⟩⟩⟩⟩⟩⟩⟩⟩⟩⟩
theorem lw_p48 : lw_okq (⟨"SuiteBench$Search", "learnTree", "(II)V"⟩, 11) := ⟨⟨by decide +kernel, by decide +kernel⟩, List.mem_of_getElem? (i := 257) (by decide +kernel), List.mem_of_getElem? (i := 1171) (by decide +kernel), List.mem_of_getElem? (i := 1172) (by decide +kernel)⟩
theorem lw_p49 : lw_okq (⟨"SuiteBench$Search", "depthBehind", "(II)I"⟩, 11) := ⟨⟨by decide +kernel, by decide +kernel⟩, List.mem_of_getElem? (i := 257) (by decide +kernel), List.mem_of_getElem? (i := 1175) (by decide +kernel), List.mem_of_getElem? (i := 1176) (by decide +kernel)⟩
theorem lw_p50 : lw_okq (⟨"SuiteBench$Search", "likeOnes", "(III)I"⟩, 11) := ⟨⟨by decide +kernel, by decide +kernel⟩, List.mem_of_getElem? (i := 257) (by decide +kernel), List.mem_of_getElem? (i := 1179) (by decide +kernel), List.mem_of_getElem? (i := 1180) (by decide +kernel)⟩
theorem lw_p51 : lw_okq (⟨"SuiteBench$Search", "followAll", "(II)I"⟩, 11) := ⟨⟨by decide +kernel, by decide +kernel⟩, List.mem_of_getElem? (i := 257) (by decide +kernel), List.mem_of_getElem? (i := 1183) (by decide +kernel), List.mem_of_getElem? (i := 1184) (by decide +kernel)⟩
theorem lw_p52 : lw_okq (⟨"SuiteBench$Search", "findForAll", "(I)I"⟩, 11) := ⟨⟨by decide +kernel, by decide +kernel⟩, List.mem_of_getElem? (i := 257) (by decide +kernel), List.mem_of_getElem? (i := 1200) (by decide +kernel), List.mem_of_getElem? (i := 1201) (by decide +kernel)⟩
theorem lw_p53 : lw_okq (⟨"SuiteBench$Search", "followGroups", "(IIZ)I"⟩, 11) := ⟨⟨by decide +kernel, by decide +kernel⟩, List.mem_of_getElem? (i := 257) (by decide +kernel), List.mem_of_getElem? (i := 1204) (by decide +kernel), List.mem_of_getElem? (i := 1205) (by decide +kernel)⟩
theorem lw_p54 : lw_okq (⟨"SuiteBench$Mutants", "cover", "(LSuiteBench$Tests;)I"⟩, 16) := ⟨⟨by decide +kernel, by decide +kernel⟩, List.mem_of_getElem? (i := 415) (by decide +kernel), List.mem_of_getElem? (i := 1219) (by decide +kernel), List.mem_of_getElem? (i := 1220) (by decide +kernel)⟩
theorem lw_p55 : lw_okq (⟨"SuiteBench$Mutants", "learnFailing", "(LSuiteBench$Tests;I)V"⟩, 16) := ⟨⟨by decide +kernel, by decide +kernel⟩, List.mem_of_getElem? (i := 415) (by decide +kernel), List.mem_of_getElem? (i := 1224) (by decide +kernel), List.mem_of_getElem? (i := 1225) (by decide +kernel)⟩
theorem lw_p56 : lw_okq (⟨"SuiteBench$Mutants", "bestTest", "(I)I"⟩, 16) := ⟨⟨by decide +kernel, by decide +kernel⟩, List.mem_of_getElem? (i := 415) (by decide +kernel), List.mem_of_getElem? (i := 1230) (by decide +kernel), List.mem_of_getElem? (i := 1231) (by decide +kernel)⟩
theorem lw_p57 : lw_okq (⟨"SuiteBench$Suspects", "learn", "()V"⟩, 18) := ⟨⟨by decide +kernel, by decide +kernel⟩, List.mem_of_getElem? (i := 493) (by decide +kernel), List.mem_of_getElem? (i := 1256) (by decide +kernel), List.mem_of_getElem? (i := 1257) (by decide +kernel)⟩
theorem lw_p58 : lw_okq (⟨"SuiteBench$Suspects", "addIfFitting", "(I)V"⟩, 18) := ⟨⟨by decide +kernel, by decide +kernel⟩, List.mem_of_getElem? (i := 493) (by decide +kernel), List.mem_of_getElem? (i := 1262) (by decide +kernel), List.mem_of_getElem? (i := 1263) (by decide +kernel)⟩
theorem lw_p59 : lw_okq (⟨"SuiteBench$Suspects", "findNext", "(LSuiteBench$Tests;)I"⟩, 18) := ⟨⟨by decide +kernel, by decide +kernel⟩, List.mem_of_getElem? (i := 493) (by decide +kernel), List.mem_of_getElem? (i := 1292) (by decide +kernel), List.mem_of_getElem? (i := 1293) (by decide +kernel)⟩
theorem lw_p60 : lw_okq (⟨"SuiteBench$Suspects", "gatherCrowd", "()V"⟩, 18) := ⟨⟨by decide +kernel, by decide +kernel⟩, List.mem_of_getElem? (i := 493) (by decide +kernel), List.mem_of_getElem? (i := 1296) (by decide +kernel), List.mem_of_getElem? (i := 1297) (by decide +kernel)⟩
theorem lw_p61 : lw_okq (⟨"SuiteBench$Suspects", "greatestGroup", "(II)I"⟩, 18) := ⟨⟨by decide +kernel, by decide +kernel⟩, List.mem_of_getElem? (i := 493) (by decide +kernel), List.mem_of_getElem? (i := 1307) (by decide +kernel), List.mem_of_getElem? (i := 1308) (by decide +kernel)⟩
theorem lw_p62 : lw_okq (⟨"SuiteBench$Suspects", "split", "(II)V"⟩, 18) := ⟨⟨by decide +kernel, by decide +kernel⟩, List.mem_of_getElem? (i := 493) (by decide +kernel), List.mem_of_getElem? (i := 1312) (by decide +kernel), List.mem_of_getElem? (i := 1313) (by decide +kernel)⟩
theorem lw_p63 : lw_okq (⟨"SuiteBench", "remember", "()V"⟩, 16) := ⟨⟨by decide +kernel, by decide +kernel⟩, List.mem_of_getElem? (i := 28) (by decide +kernel), List.mem_of_getElem? (i := 1327) (by decide +kernel), List.mem_of_getElem? (i := 1328) (by decide +kernel)⟩
def lw_privs_4 : List (MethodName × Nat) := [(⟨"SuiteBench$Search", "learnTree", "(II)V"⟩, 11), (⟨"SuiteBench$Search", "depthBehind", "(II)I"⟩, 11), (⟨"SuiteBench$Search", "likeOnes", "(III)I"⟩, 11), (⟨"SuiteBench$Search", "followAll", "(II)I"⟩, 11), (⟨"SuiteBench$Search", "findForAll", "(I)I"⟩, 11), (⟨"SuiteBench$Search", "followGroups", "(IIZ)I"⟩, 11), (⟨"SuiteBench$Mutants", "cover", "(LSuiteBench$Tests;)I"⟩, 16), (⟨"SuiteBench$Mutants", "learnFailing", "(LSuiteBench$Tests;I)V"⟩, 16), (⟨"SuiteBench$Mutants", "bestTest", "(I)I"⟩, 16), (⟨"SuiteBench$Suspects", "learn", "()V"⟩, 18), (⟨"SuiteBench$Suspects", "addIfFitting", "(I)V"⟩, 18), (⟨"SuiteBench$Suspects", "findNext", "(LSuiteBench$Tests;)I"⟩, 18), (⟨"SuiteBench$Suspects", "gatherCrowd", "()V"⟩, 18), (⟨"SuiteBench$Suspects", "greatestGroup", "(II)I"⟩, 18), (⟨"SuiteBench$Suspects", "split", "(II)V"⟩, 18), (⟨"SuiteBench", "remember", "()V"⟩, 16)]
theorem lw_r4 : ∀ q ∈ lw_privs_4, lw_okq q := List.forall_mem_cons.mpr ⟨lw_p48, List.forall_mem_cons.mpr ⟨lw_p49, List.forall_mem_cons.mpr ⟨lw_p50, List.forall_mem_cons.mpr ⟨lw_p51, List.forall_mem_cons.mpr ⟨lw_p52, List.forall_mem_cons.mpr ⟨lw_p53, List.forall_mem_cons.mpr ⟨lw_p54, List.forall_mem_cons.mpr ⟨lw_p55, List.forall_mem_cons.mpr ⟨lw_p56, List.forall_mem_cons.mpr ⟨lw_p57, List.forall_mem_cons.mpr ⟨lw_p58, List.forall_mem_cons.mpr ⟨lw_p59, List.forall_mem_cons.mpr ⟨lw_p60, List.forall_mem_cons.mpr ⟨lw_p61, List.forall_mem_cons.mpr ⟨lw_p62, List.forall_mem_cons.mpr ⟨lw_p63, fun _ h => absurd h List.not_mem_nil⟩⟩⟩⟩⟩⟩⟩⟩⟩⟩⟩⟩⟩⟩⟩⟩
theorem lw_p64 : lw_okq (⟨"SuiteBench", "pastSlot", "()I"⟩, 16) := ⟨⟨by decide +kernel, by decide +kernel⟩, List.mem_of_getElem? (i := 28) (by decide +kernel), List.mem_of_getElem? (i := 1331) (by decide +kernel), List.mem_of_getElem? (i := 1332) (by decide +kernel)⟩
theorem lw_p65 : lw_okq (⟨"java/lang/Throwable", "fillInStackTrace", "(I)Ljava/lang/Throwable;"⟩, 6) := ⟨⟨by decide +kernel, by decide +kernel⟩, List.mem_of_getElem? (i := 1430) (by decide +kernel), List.mem_of_getElem? (i := 1428) (by decide +kernel), List.mem_of_getElem? (i := 1429) (by decide +kernel)⟩
theorem lw_p66 : lw_okq (⟨"SuiteBenchModel", "lays", "()V"⟩, 70) := ⟨⟨by decide +kernel, by decide +kernel⟩, List.mem_of_getElem? (i := 1475) (by decide +kernel), List.mem_of_getElem? (i := 1481) (by decide +kernel), List.mem_of_getElem? (i := 1482) (by decide +kernel)⟩
theorem lw_p67 : lw_okq (⟨"SuiteBenchModel", "states", "()I"⟩, 70) := ⟨⟨by decide +kernel, by decide +kernel⟩, List.mem_of_getElem? (i := 1475) (by decide +kernel), List.mem_of_getElem? (i := 1485) (by decide +kernel), List.mem_of_getElem? (i := 1486) (by decide +kernel)⟩
theorem lw_p68 : lw_okq (⟨"SuiteBenchModel", "laysAccess", "()V"⟩, 70) := ⟨⟨by decide +kernel, by decide +kernel⟩, List.mem_of_getElem? (i := 1475) (by decide +kernel), List.mem_of_getElem? (i := 1489) (by decide +kernel), List.mem_of_getElem? (i := 1490) (by decide +kernel)⟩
theorem lw_p69 : lw_okq (⟨"SuiteBenchModel", "inputs", "()I"⟩, 70) := ⟨⟨by decide +kernel, by decide +kernel⟩, List.mem_of_getElem? (i := 1475) (by decide +kernel), List.mem_of_getElem? (i := 1493) (by decide +kernel), List.mem_of_getElem? (i := 1494) (by decide +kernel)⟩
theorem lw_p70 : lw_okq (⟨"SuiteBenchModel", "isReached", "(I)Z"⟩, 70) := ⟨⟨by decide +kernel, by decide +kernel⟩, List.mem_of_getElem? (i := 1475) (by decide +kernel), List.mem_of_getElem? (i := 1497) (by decide +kernel), List.mem_of_getElem? (i := 1498) (by decide +kernel)⟩
theorem lw_p71 : lw_okq (⟨"SuiteBenchModel", "laysSeparators", "()V"⟩, 70) := ⟨⟨by decide +kernel, by decide +kernel⟩, List.mem_of_getElem? (i := 1475) (by decide +kernel), List.mem_of_getElem? (i := 1501) (by decide +kernel), List.mem_of_getElem? (i := 1502) (by decide +kernel)⟩
theorem lw_p72 : lw_okq (⟨"SuiteBenchModel", "unlike", "(IIII)I"⟩, 70) := ⟨⟨by decide +kernel, by decide +kernel⟩, List.mem_of_getElem? (i := 1475) (by decide +kernel), List.mem_of_getElem? (i := 1505) (by decide +kernel), List.mem_of_getElem? (i := 1506) (by decide +kernel)⟩
theorem lw_p73 : lw_okq (⟨"SuiteBenchModel", "laysSplitters", "()V"⟩, 70) := ⟨⟨by decide +kernel, by decide +kernel⟩, List.mem_of_getElem? (i := 1475) (by decide +kernel), List.mem_of_getElem? (i := 1509) (by decide +kernel), List.mem_of_getElem? (i := 1510) (by decide +kernel)⟩
theorem lw_p74 : lw_okq (⟨"SuiteBenchModel", "isSplit", "(II)Z"⟩, 70) := ⟨⟨by decide +kernel, by decide +kernel⟩, List.mem_of_getElem? (i := 1475) (by decide +kernel), List.mem_of_getElem? (i := 1513) (by decide +kernel), List.mem_of_getElem? (i := 1514) (by decide +kernel)⟩
theorem lw_p75 : lw_okq (⟨"SuiteBenchModel", "answers", "(III)J"⟩, 70) := ⟨⟨by decide +kernel, by decide +kernel⟩, List.mem_of_getElem? (i := 1475) (by decide +kernel), List.mem_of_getElem? (i := 1517) (by decide +kernel), List.mem_of_getElem? (i := 1518) (by decide +kernel)⟩
theorem lw_p76 : lw_okq (⟨"SuiteBenchModel", "forgets", "()V"⟩, 70) := ⟨⟨by decide +kernel, by decide +kernel⟩, List.mem_of_getElem? (i := 1475) (by decide +kernel), List.mem_of_getElem? (i := 1528) (by decide +kernel), List.mem_of_getElem? (i := 1529) (by decide +kernel)⟩
theorem lw_p77 : lw_okq (⟨"SuiteBenchModel", "readText", "(I)V"⟩, 70) := ⟨⟨by decide +kernel, by decide +kernel⟩, List.mem_of_getElem? (i := 1475) (by decide +kernel), List.mem_of_getElem? (i := 1755) (by decide +kernel), List.mem_of_getElem? (i := 1756) (by decide +kernel)⟩
theorem lw_p78 : lw_okq (⟨"SuiteBenchModel", "token", "()V"⟩, 70) := ⟨⟨by decide +kernel, by decide +kernel⟩, List.mem_of_getElem? (i := 1475) (by decide +kernel), List.mem_of_getElem? (i := 1759) (by decide +kernel), List.mem_of_getElem? (i := 1760) (by decide +kernel)⟩
theorem lw_p79 : lw_okq (⟨"SuiteBenchModel", "here", "()I"⟩, 70) := ⟨⟨by decide +kernel, by decide +kernel⟩, List.mem_of_getElem? (i := 1475) (by decide +kernel), List.mem_of_getElem? (i := 1763) (by decide +kernel), List.mem_of_getElem? (i := 1764) (by decide +kernel)⟩
def lw_privs_5 : List (MethodName × Nat) := [(⟨"SuiteBench", "pastSlot", "()I"⟩, 16), (⟨"java/lang/Throwable", "fillInStackTrace", "(I)Ljava/lang/Throwable;"⟩, 6), (⟨"SuiteBenchModel", "lays", "()V"⟩, 70), (⟨"SuiteBenchModel", "states", "()I"⟩, 70), (⟨"SuiteBenchModel", "laysAccess", "()V"⟩, 70), (⟨"SuiteBenchModel", "inputs", "()I"⟩, 70), (⟨"SuiteBenchModel", "isReached", "(I)Z"⟩, 70), (⟨"SuiteBenchModel", "laysSeparators", "()V"⟩, 70), (⟨"SuiteBenchModel", "unlike", "(IIII)I"⟩, 70), (⟨"SuiteBenchModel", "laysSplitters", "()V"⟩, 70), (⟨"SuiteBenchModel", "isSplit", "(II)Z"⟩, 70), (⟨"SuiteBenchModel", "answers", "(III)J"⟩, 70), (⟨"SuiteBenchModel", "forgets", "()V"⟩, 70), (⟨"SuiteBenchModel", "readText", "(I)V"⟩, 70), (⟨"SuiteBenchModel", "token", "()V"⟩, 70), (⟨"SuiteBenchModel", "here", "()I"⟩, 70)]
theorem lw_r5 : ∀ q ∈ lw_privs_5, lw_okq q := List.forall_mem_cons.mpr ⟨lw_p64, List.forall_mem_cons.mpr ⟨lw_p65, List.forall_mem_cons.mpr ⟨lw_p66, List.forall_mem_cons.mpr ⟨lw_p67, List.forall_mem_cons.mpr ⟨lw_p68, List.forall_mem_cons.mpr ⟨lw_p69, List.forall_mem_cons.mpr ⟨lw_p70, List.forall_mem_cons.mpr ⟨lw_p71, List.forall_mem_cons.mpr ⟨lw_p72, List.forall_mem_cons.mpr ⟨lw_p73, List.forall_mem_cons.mpr ⟨lw_p74, List.forall_mem_cons.mpr ⟨lw_p75, List.forall_mem_cons.mpr ⟨lw_p76, List.forall_mem_cons.mpr ⟨lw_p77, List.forall_mem_cons.mpr ⟨lw_p78, List.forall_mem_cons.mpr ⟨lw_p79, fun _ h => absurd h List.not_mem_nil⟩⟩⟩⟩⟩⟩⟩⟩⟩⟩⟩⟩⟩⟩⟩⟩
theorem lw_p80 : lw_okq (⟨"SuiteBenchModel", "wordHere", "()I"⟩, 70) := ⟨⟨by decide +kernel, by decide +kernel⟩, List.mem_of_getElem? (i := 1475) (by decide +kernel), List.mem_of_getElem? (i := 1770) (by decide +kernel), List.mem_of_getElem? (i := 1771) (by decide +kernel)⟩
theorem lw_p81 : lw_okq (⟨"SuiteBenchModel", "nameHere", "()V"⟩, 70) := ⟨⟨by decide +kernel, by decide +kernel⟩, List.mem_of_getElem? (i := 1475) (by decide +kernel), List.mem_of_getElem? (i := 1823) (by decide +kernel), List.mem_of_getElem? (i := 1824) (by decide +kernel)⟩
theorem lw_p82 : lw_okq (⟨"SuiteBenchModel", "readLine", "()V"⟩, 70) := ⟨⟨by decide +kernel, by decide +kernel⟩, List.mem_of_getElem? (i := 1475) (by decide +kernel), List.mem_of_getElem? (i := 1831) (by decide +kernel), List.mem_of_getElem? (i := 1832) (by decide +kernel)⟩
theorem lw_p83 : lw_okq (⟨"SuiteBenchModel", "isWord", "(I)Z"⟩, 70) := ⟨⟨by decide +kernel, by decide +kernel⟩, List.mem_of_getElem? (i := 1475) (by decide +kernel), List.mem_of_getElem? (i := 1835) (by decide +kernel), List.mem_of_getElem? (i := 1836) (by decide +kernel)⟩
theorem lw_p84 : lw_okq (⟨"SuiteBenchModel", "readState", "()V"⟩, 70) := ⟨⟨by decide +kernel, by decide +kernel⟩, List.mem_of_getElem? (i := 1475) (by decide +kernel), List.mem_of_getElem? (i := 1839) (by decide +kernel), List.mem_of_getElem? (i := 1840) (by decide +kernel)⟩
theorem lw_p85 : lw_okq (⟨"SuiteBenchModel", "reading", "(I)I"⟩, 70) := ⟨⟨by decide +kernel, by decide +kernel⟩, List.mem_of_getElem? (i := 1475) (by decide +kernel), List.mem_of_getElem? (i := 1843) (by decide +kernel), List.mem_of_getElem? (i := 1844) (by decide +kernel)⟩
theorem lw_p86 : lw_okq (⟨"SuiteBenchModel", "wrong", "(I)V"⟩, 70) := ⟨⟨by decide +kernel, by decide +kernel⟩, List.mem_of_getElem? (i := 1475) (by decide +kernel), List.mem_of_getElem? (i := 1847) (by decide +kernel), List.mem_of_getElem? (i := 1848) (by decide +kernel)⟩
theorem lw_p87 : lw_okq (⟨"SuiteBenchModel", "goOn", "()V"⟩, 70) := ⟨⟨by decide +kernel, by decide +kernel⟩, List.mem_of_getElem? (i := 1475) (by decide +kernel), List.mem_of_getElem? (i := 1851) (by decide +kernel), List.mem_of_getElem? (i := 1852) (by decide +kernel)⟩
theorem lw_p88 : lw_okq (⟨"SuiteBenchModel", "fresh", "()I"⟩, 70) := ⟨⟨by decide +kernel, by decide +kernel⟩, List.mem_of_getElem? (i := 1475) (by decide +kernel), List.mem_of_getElem? (i := 1855) (by decide +kernel), List.mem_of_getElem? (i := 1856) (by decide +kernel)⟩
theorem lw_p89 : lw_okq (⟨"SuiteBenchModel", "readPlaces", "()I"⟩, 70) := ⟨⟨by decide +kernel, by decide +kernel⟩, List.mem_of_getElem? (i := 1475) (by decide +kernel), List.mem_of_getElem? (i := 1859) (by decide +kernel), List.mem_of_getElem? (i := 1860) (by decide +kernel)⟩
theorem lw_p90 : lw_okq (⟨"SuiteBenchModel", "readInput", "()V"⟩, 70) := ⟨⟨by decide +kernel, by decide +kernel⟩, List.mem_of_getElem? (i := 1475) (by decide +kernel), List.mem_of_getElem? (i := 1866) (by decide +kernel), List.mem_of_getElem? (i := 1867) (by decide +kernel)⟩
theorem lw_p91 : lw_okq (⟨"SuiteBenchModel", "readMore", "()V"⟩, 70) := ⟨⟨by decide +kernel, by decide +kernel⟩, List.mem_of_getElem? (i := 1475) (by decide +kernel), List.mem_of_getElem? (i := 1870) (by decide +kernel), List.mem_of_getElem? (i := 1871) (by decide +kernel)⟩
theorem lw_p92 : lw_okq (⟨"SuiteBenchModel", "readArc", "(Z)V"⟩, 70) := ⟨⟨by decide +kernel, by decide +kernel⟩, List.mem_of_getElem? (i := 1475) (by decide +kernel), List.mem_of_getElem? (i := 1874) (by decide +kernel), List.mem_of_getElem? (i := 1875) (by decide +kernel)⟩
theorem lw_p93 : lw_okq (⟨"SuiteBenchModel", "atHand", "(ZI)I"⟩, 70) := ⟨⟨by decide +kernel, by decide +kernel⟩, List.mem_of_getElem? (i := 1475) (by decide +kernel), List.mem_of_getElem? (i := 1878) (by decide +kernel), List.mem_of_getElem? (i := 1879) (by decide +kernel)⟩
theorem lw_p94 : lw_okq (⟨"SuiteBenchModel", "numeral", "(I)I"⟩, 70) := ⟨⟨by decide +kernel, by decide +kernel⟩, List.mem_of_getElem? (i := 1475) (by decide +kernel), List.mem_of_getElem? (i := 1882) (by decide +kernel), List.mem_of_getElem? (i := 1883) (by decide +kernel)⟩
theorem lw_p95 : lw_okq (⟨"SuiteBenchModel", "readOnce", "(II)V"⟩, 70) := ⟨⟨by decide +kernel, by decide +kernel⟩, List.mem_of_getElem? (i := 1475) (by decide +kernel), List.mem_of_getElem? (i := 1886) (by decide +kernel), List.mem_of_getElem? (i := 1887) (by decide +kernel)⟩
def lw_privs_6 : List (MethodName × Nat) := [(⟨"SuiteBenchModel", "wordHere", "()I"⟩, 70), (⟨"SuiteBenchModel", "nameHere", "()V"⟩, 70), (⟨"SuiteBenchModel", "readLine", "()V"⟩, 70), (⟨"SuiteBenchModel", "isWord", "(I)Z"⟩, 70), (⟨"SuiteBenchModel", "readState", "()V"⟩, 70), (⟨"SuiteBenchModel", "reading", "(I)I"⟩, 70), (⟨"SuiteBenchModel", "wrong", "(I)V"⟩, 70), (⟨"SuiteBenchModel", "goOn", "()V"⟩, 70), (⟨"SuiteBenchModel", "fresh", "()I"⟩, 70), (⟨"SuiteBenchModel", "readPlaces", "()I"⟩, 70), (⟨"SuiteBenchModel", "readInput", "()V"⟩, 70), (⟨"SuiteBenchModel", "readMore", "()V"⟩, 70), (⟨"SuiteBenchModel", "readArc", "(Z)V"⟩, 70), (⟨"SuiteBenchModel", "atHand", "(ZI)I"⟩, 70), (⟨"SuiteBenchModel", "numeral", "(I)I"⟩, 70), (⟨"SuiteBenchModel", "readOnce", "(II)V"⟩, 70)]
theorem lw_r6 : ∀ q ∈ lw_privs_6, lw_okq q := List.forall_mem_cons.mpr ⟨lw_p80, List.forall_mem_cons.mpr ⟨lw_p81, List.forall_mem_cons.mpr ⟨lw_p82, List.forall_mem_cons.mpr ⟨lw_p83, List.forall_mem_cons.mpr ⟨lw_p84, List.forall_mem_cons.mpr ⟨lw_p85, List.forall_mem_cons.mpr ⟨lw_p86, List.forall_mem_cons.mpr ⟨lw_p87, List.forall_mem_cons.mpr ⟨lw_p88, List.forall_mem_cons.mpr ⟨lw_p89, List.forall_mem_cons.mpr ⟨lw_p90, List.forall_mem_cons.mpr ⟨lw_p91, List.forall_mem_cons.mpr ⟨lw_p92, List.forall_mem_cons.mpr ⟨lw_p93, List.forall_mem_cons.mpr ⟨lw_p94, List.forall_mem_cons.mpr ⟨lw_p95, fun _ h => absurd h List.not_mem_nil⟩⟩⟩⟩⟩⟩⟩⟩⟩⟩⟩⟩⟩⟩⟩⟩
theorem lw_p96 : lw_okq (⟨"SuiteBenchModel", "takeText", "()V"⟩, 70) := ⟨⟨by decide +kernel, by decide +kernel⟩, List.mem_of_getElem? (i := 1475) (by decide +kernel), List.mem_of_getElem? (i := 1890) (by decide +kernel), List.mem_of_getElem? (i := 1891) (by decide +kernel)⟩
theorem lw_p97 : lw_okq (⟨"SuiteBenchModel", "places", "()I"⟩, 70) := ⟨⟨by decide +kernel, by decide +kernel⟩, List.mem_of_getElem? (i := 1475) (by decide +kernel), List.mem_of_getElem? (i := 1902) (by decide +kernel), List.mem_of_getElem? (i := 1903) (by decide +kernel)⟩
theorem lw_p98 : lw_okq (⟨"SuiteBenchModel", "isState", "(I)Z"⟩, 70) := ⟨⟨by decide +kernel, by decide +kernel⟩, List.mem_of_getElem? (i := 1475) (by decide +kernel), List.mem_of_getElem? (i := 1910) (by decide +kernel), List.mem_of_getElem? (i := 1911) (by decide +kernel)⟩
theorem lw_p99 : lw_okq (⟨"SuiteBenchModel", "isInput", "(I)Z"⟩, 70) := ⟨⟨by decide +kernel, by decide +kernel⟩, List.mem_of_getElem? (i := 1475) (by decide +kernel), List.mem_of_getElem? (i := 1914) (by decide +kernel), List.mem_of_getElem? (i := 1915) (by decide +kernel)⟩
theorem lw_p100 : lw_okq (⟨"SuiteBenchModel", "isPlace", "(I)Z"⟩, 70) := ⟨⟨by decide +kernel, by decide +kernel⟩, List.mem_of_getElem? (i := 1475) (by decide +kernel), List.mem_of_getElem? (i := 1922) (by decide +kernel), List.mem_of_getElem? (i := 1923) (by decide +kernel)⟩
theorem lw_p101 : lw_okq (⟨"SuiteBenchModel", "isWordNumber", "(I)Z"⟩, 70) := ⟨⟨by decide +kernel, by decide +kernel⟩, List.mem_of_getElem? (i := 1475) (by decide +kernel), List.mem_of_getElem? (i := 1930) (by decide +kernel), List.mem_of_getElem? (i := 1931) (by decide +kernel)⟩
theorem lw_p102 : lw_okq (⟨"SuiteBenchModel", "leadsTo", "(III)I"⟩, 70) := ⟨⟨by decide +kernel, by decide +kernel⟩, List.mem_of_getElem? (i := 1475) (by decide +kernel), List.mem_of_getElem? (i := 1940) (by decide +kernel), List.mem_of_getElem? (i := 1941) (by decide +kernel)⟩
theorem lw_p103 : lw_okq (⟨"SuiteBenchModel", "kindOf", "(I)I"⟩, 70) := ⟨⟨by decide +kernel, by decide +kernel⟩, List.mem_of_getElem? (i := 1475) (by decide +kernel), List.mem_of_getElem? (i := 1956) (by decide +kernel), List.mem_of_getElem? (i := 1957) (by decide +kernel)⟩
theorem lw_p104 : lw_okq (⟨"SuiteBenchModel", "markAbove", "(II)I"⟩, 70) := ⟨⟨by decide +kernel, by decide +kernel⟩, List.mem_of_getElem? (i := 1475) (by decide +kernel), List.mem_of_getElem? (i := 1972) (by decide +kernel), List.mem_of_getElem? (i := 1973) (by decide +kernel)⟩
theorem lw_p105 : lw_okq (⟨"SuiteBenchModel", "laysSigns", "()V"⟩, 70) := ⟨⟨by decide +kernel, by decide +kernel⟩, List.mem_of_getElem? (i := 1475) (by decide +kernel), List.mem_of_getElem? (i := 1980) (by decide +kernel), List.mem_of_getElem? (i := 1981) (by decide +kernel)⟩
theorem lw_p106 : lw_okq (⟨"SuiteBenchModel", "isSign", "(II)Z"⟩, 70) := ⟨⟨by decide +kernel, by decide +kernel⟩, List.mem_of_getElem? (i := 1475) (by decide +kernel), List.mem_of_getElem? (i := 1984) (by decide +kernel), List.mem_of_getElem? (i := 1985) (by decide +kernel)⟩
theorem lw_p107 : lw_okq (⟨"SuiteBenchModel", "after", "(I)I"⟩, 70) := ⟨⟨by decide +kernel, by decide +kernel⟩, List.mem_of_getElem? (i := 1475) (by decide +kernel), List.mem_of_getElem? (i := 1988) (by decide +kernel), List.mem_of_getElem? (i := 1989) (by decide +kernel)⟩
theorem lw_p108 : lw_okq (⟨"SuiteBenchModel", "laysWay", "(I)V"⟩, 70) := ⟨⟨by decide +kernel, by decide +kernel⟩, List.mem_of_getElem? (i := 1475) (by decide +kernel), List.mem_of_getElem? (i := 1996) (by decide +kernel), List.mem_of_getElem? (i := 1997) (by decide +kernel)⟩
theorem lw_p109 : lw_okq (⟨"SuiteBenchModel", "wordToGo", "()I"⟩, 70) := ⟨⟨by decide +kernel, by decide +kernel⟩, List.mem_of_getElem? (i := 1475) (by decide +kernel), List.mem_of_getElem? (i := 2000) (by decide +kernel), List.mem_of_getElem? (i := 2001) (by decide +kernel)⟩
theorem lw_p110 : lw_okq (⟨"SuiteBenchModel", "goes", "(II)V"⟩, 70) := ⟨⟨by decide +kernel, by decide +kernel⟩, List.mem_of_getElem? (i := 1475) (by decide +kernel), List.mem_of_getElem? (i := 2004) (by decide +kernel), List.mem_of_getElem? (i := 2005) (by decide +kernel)⟩
theorem lw_p111 : lw_okq (⟨"SuiteBenchModel", "testsOf", "(I)I"⟩, 70) := ⟨⟨by decide +kernel, by decide +kernel⟩, List.mem_of_getElem? (i := 1475) (by decide +kernel), List.mem_of_getElem? (i := 2012) (by decide +kernel), List.mem_of_getElem? (i := 2013) (by decide +kernel)⟩
def lw_privs_7 : List (MethodName × Nat) := [(⟨"SuiteBenchModel", "takeText", "()V"⟩, 70), (⟨"SuiteBenchModel", "places", "()I"⟩, 70), (⟨"SuiteBenchModel", "isState", "(I)Z"⟩, 70), (⟨"SuiteBenchModel", "isInput", "(I)Z"⟩, 70), (⟨"SuiteBenchModel", "isPlace", "(I)Z"⟩, 70), (⟨"SuiteBenchModel", "isWordNumber", "(I)Z"⟩, 70), (⟨"SuiteBenchModel", "leadsTo", "(III)I"⟩, 70), (⟨"SuiteBenchModel", "kindOf", "(I)I"⟩, 70), (⟨"SuiteBenchModel", "markAbove", "(II)I"⟩, 70), (⟨"SuiteBenchModel", "laysSigns", "()V"⟩, 70), (⟨"SuiteBenchModel", "isSign", "(II)Z"⟩, 70), (⟨"SuiteBenchModel", "after", "(I)I"⟩, 70), (⟨"SuiteBenchModel", "laysWay", "(I)V"⟩, 70), (⟨"SuiteBenchModel", "wordToGo", "()I"⟩, 70), (⟨"SuiteBenchModel", "goes", "(II)V"⟩, 70), (⟨"SuiteBenchModel", "testsOf", "(I)I"⟩, 70)]
theorem lw_r7 : ∀ q ∈ lw_privs_7, lw_okq q := List.forall_mem_cons.mpr ⟨lw_p96, List.forall_mem_cons.mpr ⟨lw_p97, List.forall_mem_cons.mpr ⟨lw_p98, List.forall_mem_cons.mpr ⟨lw_p99, List.forall_mem_cons.mpr ⟨lw_p100, List.forall_mem_cons.mpr ⟨lw_p101, List.forall_mem_cons.mpr ⟨lw_p102, List.forall_mem_cons.mpr ⟨lw_p103, List.forall_mem_cons.mpr ⟨lw_p104, List.forall_mem_cons.mpr ⟨lw_p105, List.forall_mem_cons.mpr ⟨lw_p106, List.forall_mem_cons.mpr ⟨lw_p107, List.forall_mem_cons.mpr ⟨lw_p108, List.forall_mem_cons.mpr ⟨lw_p109, List.forall_mem_cons.mpr ⟨lw_p110, List.forall_mem_cons.mpr ⟨lw_p111, fun _ h => absurd h List.not_mem_nil⟩⟩⟩⟩⟩⟩⟩⟩⟩⟩⟩⟩⟩⟩⟩⟩
theorem lw_p112 : lw_okq (⟨"SuiteBenchModel", "suiteOf", "(I)I"⟩, 70) := ⟨⟨by decide +kernel, by decide +kernel⟩, List.mem_of_getElem? (i := 1475) (by decide +kernel), List.mem_of_getElem? (i := 2016) (by decide +kernel), List.mem_of_getElem? (i := 2017) (by decide +kernel)⟩
theorem lw_p113 : lw_okq (⟨"SuiteBenchModel", "extra", "()I"⟩, 70) := ⟨⟨by decide +kernel, by decide +kernel⟩, List.mem_of_getElem? (i := 1475) (by decide +kernel), List.mem_of_getElem? (i := 2020) (by decide +kernel), List.mem_of_getElem? (i := 2021) (by decide +kernel)⟩
theorem lw_p114 : lw_okq (⟨"SuiteBenchModel", "laysSuite", "(I)V"⟩, 70) := ⟨⟨by decide +kernel, by decide +kernel⟩, List.mem_of_getElem? (i := 1475) (by decide +kernel), List.mem_of_getElem? (i := 2024) (by decide +kernel), List.mem_of_getElem? (i := 2025) (by decide +kernel)⟩
theorem lw_p115 : lw_okq (⟨"SuiteBenchModel", "addsHead", "(II)V"⟩, 70) := ⟨⟨by decide +kernel, by decide +kernel⟩, List.mem_of_getElem? (i := 1475) (by decide +kernel), List.mem_of_getElem? (i := 2028) (by decide +kernel), List.mem_of_getElem? (i := 2029) (by decide +kernel)⟩
theorem lw_p116 : lw_okq (⟨"SuiteBenchModel", "adds", "(II)V"⟩, 70) := ⟨⟨by decide +kernel, by decide +kernel⟩, List.mem_of_getElem? (i := 1475) (by decide +kernel), List.mem_of_getElem? (i := 2035) (by decide +kernel), List.mem_of_getElem? (i := 2036) (by decide +kernel)⟩
theorem lw_p117 : lw_okq (⟨"SuiteBenchModel", "placeFor", "(II)I"⟩, 70) := ⟨⟨by decide +kernel, by decide +kernel⟩, List.mem_of_getElem? (i := 1475) (by decide +kernel), List.mem_of_getElem? (i := 2039) (by decide +kernel), List.mem_of_getElem? (i := 2040) (by decide +kernel)⟩
theorem lw_p118 : lw_okq (⟨"SuiteBenchModel", "testAt", "(II)I"⟩, 70) := ⟨⟨by decide +kernel, by decide +kernel⟩, List.mem_of_getElem? (i := 1475) (by decide +kernel), List.mem_of_getElem? (i := 2043) (by decide +kernel), List.mem_of_getElem? (i := 2044) (by decide +kernel)⟩
theorem lw_p119 : lw_okq (⟨"SuiteBenchModel", "drops", "(I)V"⟩, 70) := ⟨⟨by decide +kernel, by decide +kernel⟩, List.mem_of_getElem? (i := 1475) (by decide +kernel), List.mem_of_getElem? (i := 2047) (by decide +kernel), List.mem_of_getElem? (i := 2048) (by decide +kernel)⟩
theorem lw_p120 : lw_okq (⟨"SuiteBenchModel", "longOf", "(II)I"⟩, 70) := ⟨⟨by decide +kernel, by decide +kernel⟩, List.mem_of_getElem? (i := 1475) (by decide +kernel), List.mem_of_getElem? (i := 2051) (by decide +kernel), List.mem_of_getElem? (i := 2052) (by decide +kernel)⟩
theorem lw_p121 : lw_okq (⟨"SuiteBenchModel", "isTestPassed", "(III)Z"⟩, 70) := ⟨⟨by decide +kernel, by decide +kernel⟩, List.mem_of_getElem? (i := 1475) (by decide +kernel), List.mem_of_getElem? (i := 2066) (by decide +kernel), List.mem_of_getElem? (i := 2067) (by decide +kernel)⟩
theorem lw_p122 : lw_okq (⟨"SuiteBenchModel", "isPassed", "(II)Z"⟩, 70) := ⟨⟨by decide +kernel, by decide +kernel⟩, List.mem_of_getElem? (i := 1475) (by decide +kernel), List.mem_of_getElem? (i := 2070) (by decide +kernel), List.mem_of_getElem? (i := 2071) (by decide +kernel)⟩
theorem lw_p123 : lw_okq (⟨"SuiteBenchModel", "isWayPassed", "(II)Z"⟩, 70) := ⟨⟨by decide +kernel, by decide +kernel⟩, List.mem_of_getElem? (i := 1475) (by decide +kernel), List.mem_of_getElem? (i := 2074) (by decide +kernel), List.mem_of_getElem? (i := 2075) (by decide +kernel)⟩
theorem lw_p124 : lw_okq (⟨"SuiteBenchModel", "laysWrong", "(I)V"⟩, 70) := ⟨⟨by decide +kernel, by decide +kernel⟩, List.mem_of_getElem? (i := 1475) (by decide +kernel), List.mem_of_getElem? (i := 2078) (by decide +kernel), List.mem_of_getElem? (i := 2079) (by decide +kernel)⟩
theorem lw_p125 : lw_okq (⟨"SuiteBenchModel", "mutantMany", "()I"⟩, 70) := ⟨⟨by decide +kernel, by decide +kernel⟩, List.mem_of_getElem? (i := 1475) (by decide +kernel), List.mem_of_getElem? (i := 2098) (by decide +kernel), List.mem_of_getElem? (i := 2099) (by decide +kernel)⟩
theorem lw_p126 : lw_okq (⟨"SuiteBenchModel", "top", "()I"⟩, 70) := ⟨⟨by decide +kernel, by decide +kernel⟩, List.mem_of_getElem? (i := 1475) (by decide +kernel), List.mem_of_getElem? (i := 2102) (by decide +kernel), List.mem_of_getElem? (i := 2103) (by decide +kernel)⟩
theorem lw_p127 : lw_okq (⟨"SuiteBenchModel", "laysMutants", "(I)V"⟩, 70) := ⟨⟨by decide +kernel, by decide +kernel⟩, List.mem_of_getElem? (i := 1475) (by decide +kernel), List.mem_of_getElem? (i := 2106) (by decide +kernel), List.mem_of_getElem? (i := 2107) (by decide +kernel)⟩
def lw_privs_8 : List (MethodName × Nat) := [(⟨"SuiteBenchModel", "suiteOf", "(I)I"⟩, 70), (⟨"SuiteBenchModel", "extra", "()I"⟩, 70), (⟨"SuiteBenchModel", "laysSuite", "(I)V"⟩, 70), (⟨"SuiteBenchModel", "addsHead", "(II)V"⟩, 70), (⟨"SuiteBenchModel", "adds", "(II)V"⟩, 70), (⟨"SuiteBenchModel", "placeFor", "(II)I"⟩, 70), (⟨"SuiteBenchModel", "testAt", "(II)I"⟩, 70), (⟨"SuiteBenchModel", "drops", "(I)V"⟩, 70), (⟨"SuiteBenchModel", "longOf", "(II)I"⟩, 70), (⟨"SuiteBenchModel", "isTestPassed", "(III)Z"⟩, 70), (⟨"SuiteBenchModel", "isPassed", "(II)Z"⟩, 70), (⟨"SuiteBenchModel", "isWayPassed", "(II)Z"⟩, 70), (⟨"SuiteBenchModel", "laysWrong", "(I)V"⟩, 70), (⟨"SuiteBenchModel", "mutantMany", "()I"⟩, 70), (⟨"SuiteBenchModel", "top", "()I"⟩, 70), (⟨"SuiteBenchModel", "laysMutants", "(I)V"⟩, 70)]
theorem lw_r8 : ∀ q ∈ lw_privs_8, lw_okq q := List.forall_mem_cons.mpr ⟨lw_p112, List.forall_mem_cons.mpr ⟨lw_p113, List.forall_mem_cons.mpr ⟨lw_p114, List.forall_mem_cons.mpr ⟨lw_p115, List.forall_mem_cons.mpr ⟨lw_p116, List.forall_mem_cons.mpr ⟨lw_p117, List.forall_mem_cons.mpr ⟨lw_p118, List.forall_mem_cons.mpr ⟨lw_p119, List.forall_mem_cons.mpr ⟨lw_p120, List.forall_mem_cons.mpr ⟨lw_p121, List.forall_mem_cons.mpr ⟨lw_p122, List.forall_mem_cons.mpr ⟨lw_p123, List.forall_mem_cons.mpr ⟨lw_p124, List.forall_mem_cons.mpr ⟨lw_p125, List.forall_mem_cons.mpr ⟨lw_p126, List.forall_mem_cons.mpr ⟨lw_p127, fun _ h => absurd h List.not_mem_nil⟩⟩⟩⟩⟩⟩⟩⟩⟩⟩⟩⟩⟩⟩⟩⟩
theorem lw_p128 : lw_okq (⟨"SuiteBenchModel", "laysMutant", "(II)V"⟩, 70) := ⟨⟨by decide +kernel, by decide +kernel⟩, List.mem_of_getElem? (i := 1475) (by decide +kernel), List.mem_of_getElem? (i := 2110) (by decide +kernel), List.mem_of_getElem? (i := 2111) (by decide +kernel)⟩
theorem lw_p129 : lw_okq (⟨"SuiteBenchModel", "tellsMutant", "(I)V"⟩, 70) := ⟨⟨by decide +kernel, by decide +kernel⟩, List.mem_of_getElem? (i := 1475) (by decide +kernel), List.mem_of_getElem? (i := 2114) (by decide +kernel), List.mem_of_getElem? (i := 2115) (by decide +kernel)⟩
theorem lw_p130 : lw_okq (⟨"SuiteBenchModel", "doesFail", "(II)Z"⟩, 70) := ⟨⟨by decide +kernel, by decide +kernel⟩, List.mem_of_getElem? (i := 1475) (by decide +kernel), List.mem_of_getElem? (i := 2118) (by decide +kernel), List.mem_of_getElem? (i := 2119) (by decide +kernel)⟩
theorem lw_p131 : lw_okq (⟨"SuiteBenchModel", "isMutant", "(I)Z"⟩, 70) := ⟨⟨by decide +kernel, by decide +kernel⟩, List.mem_of_getElem? (i := 1475) (by decide +kernel), List.mem_of_getElem? (i := 2126) (by decide +kernel), List.mem_of_getElem? (i := 2127) (by decide +kernel)⟩
theorem lw_p132 : lw_okq (⟨"SuiteBenchModel", "laysSmall", "(II)V"⟩, 70) := ⟨⟨by decide +kernel, by decide +kernel⟩, List.mem_of_getElem? (i := 1475) (by decide +kernel), List.mem_of_getElem? (i := 2138) (by decide +kernel), List.mem_of_getElem? (i := 2139) (by decide +kernel)⟩
theorem lw_p133 : lw_okq (⟨"SuiteBenchModel", "smallMany", "(I)I"⟩, 70) := ⟨⟨by decide +kernel, by decide +kernel⟩, List.mem_of_getElem? (i := 1475) (by decide +kernel), List.mem_of_getElem? (i := 2142) (by decide +kernel), List.mem_of_getElem? (i := 2143) (by decide +kernel)⟩
theorem lw_p134 : lw_okq (⟨"SuiteBenchModel", "laysSmallOne", "(II)V"⟩, 70) := ⟨⟨by decide +kernel, by decide +kernel⟩, List.mem_of_getElem? (i := 1475) (by decide +kernel), List.mem_of_getElem? (i := 2146) (by decide +kernel), List.mem_of_getElem? (i := 2147) (by decide +kernel)⟩
theorem lw_p135 : lw_okq (⟨"SuiteBenchModel", "isTree", "(I)Z"⟩, 70) := ⟨⟨by decide +kernel, by decide +kernel⟩, List.mem_of_getElem? (i := 1475) (by decide +kernel), List.mem_of_getElem? (i := 2154) (by decide +kernel), List.mem_of_getElem? (i := 2155) (by decide +kernel)⟩
theorem lw_p136 : lw_okq (⟨"SuiteBenchModel", "answersSo", "(I)I"⟩, 70) := ⟨⟨by decide +kernel, by decide +kernel⟩, List.mem_of_getElem? (i := 1475) (by decide +kernel), List.mem_of_getElem? (i := 2158) (by decide +kernel), List.mem_of_getElem? (i := 2159) (by decide +kernel)⟩
theorem lw_p137 : lw_okq (⟨"SuiteBenchModel", "leftAt", "(I)I"⟩, 70) := ⟨⟨by decide +kernel, by decide +kernel⟩, List.mem_of_getElem? (i := 1475) (by decide +kernel), List.mem_of_getElem? (i := 2162) (by decide +kernel), List.mem_of_getElem? (i := 2163) (by decide +kernel)⟩
theorem lw_p138 : lw_okq (⟨"SuiteBenchModel", "isOf", "(II)Z"⟩, 70) := ⟨⟨by decide +kernel, by decide +kernel⟩, List.mem_of_getElem? (i := 1475) (by decide +kernel), List.mem_of_getElem? (i := 2170) (by decide +kernel), List.mem_of_getElem? (i := 2171) (by decide +kernel)⟩
theorem lw_p139 : lw_okq (⟨"SuiteBenchModel", "laysFails", "(I)V"⟩, 70) := ⟨⟨by decide +kernel, by decide +kernel⟩, List.mem_of_getElem? (i := 1475) (by decide +kernel), List.mem_of_getElem? (i := 2178) (by decide +kernel), List.mem_of_getElem? (i := 2179) (by decide +kernel)⟩
theorem lw_p140 : lw_okq (⟨"SuiteBenchModel", "newBy", "(I)I"⟩, 70) := ⟨⟨by decide +kernel, by decide +kernel⟩, List.mem_of_getElem? (i := 1475) (by decide +kernel), List.mem_of_getElem? (i := 2182) (by decide +kernel), List.mem_of_getElem? (i := 2183) (by decide +kernel)⟩
theorem lw_p141 : lw_okq (⟨"SuiteBenchModel", "laysSuspects", "()V"⟩, 70) := ⟨⟨by decide +kernel, by decide +kernel⟩, List.mem_of_getElem? (i := 1475) (by decide +kernel), List.mem_of_getElem? (i := 2202) (by decide +kernel), List.mem_of_getElem? (i := 2203) (by decide +kernel)⟩
theorem lw_p142 : lw_okq (⟨"SuiteBenchModel", "isSuspected", "(I)Z"⟩, 70) := ⟨⟨by decide +kernel, by decide +kernel⟩, List.mem_of_getElem? (i := 1475) (by decide +kernel), List.mem_of_getElem? (i := 2206) (by decide +kernel), List.mem_of_getElem? (i := 2207) (by decide +kernel)⟩
theorem lw_p143 : lw_okq (⟨"SuiteBenchModel", "laysAnswers", "(II)V"⟩, 70) := ⟨⟨by decide +kernel, by decide +kernel⟩, List.mem_of_getElem? (i := 1475) (by decide +kernel), List.mem_of_getElem? (i := 2218) (by decide +kernel), List.mem_of_getElem? (i := 2219) (by decide +kernel)⟩
def lw_privs_9 : List (MethodName × Nat) := [(⟨"SuiteBenchModel", "laysMutant", "(II)V"⟩, 70), (⟨"SuiteBenchModel", "tellsMutant", "(I)V"⟩, 70), (⟨"SuiteBenchModel", "doesFail", "(II)Z"⟩, 70), (⟨"SuiteBenchModel", "isMutant", "(I)Z"⟩, 70), (⟨"SuiteBenchModel", "laysSmall", "(II)V"⟩, 70), (⟨"SuiteBenchModel", "smallMany", "(I)I"⟩, 70), (⟨"SuiteBenchModel", "laysSmallOne", "(II)V"⟩, 70), (⟨"SuiteBenchModel", "isTree", "(I)Z"⟩, 70), (⟨"SuiteBenchModel", "answersSo", "(I)I"⟩, 70), (⟨"SuiteBenchModel", "leftAt", "(I)I"⟩, 70), (⟨"SuiteBenchModel", "isOf", "(II)Z"⟩, 70), (⟨"SuiteBenchModel", "laysFails", "(I)V"⟩, 70), (⟨"SuiteBenchModel", "newBy", "(I)I"⟩, 70), (⟨"SuiteBenchModel", "laysSuspects", "()V"⟩, 70), (⟨"SuiteBenchModel", "isSuspected", "(I)Z"⟩, 70), (⟨"SuiteBenchModel", "laysAnswers", "(II)V"⟩, 70)]
theorem lw_r9 : ∀ q ∈ lw_privs_9, lw_okq q := List.forall_mem_cons.mpr ⟨lw_p128, List.forall_mem_cons.mpr ⟨lw_p129, List.forall_mem_cons.mpr ⟨lw_p130, List.forall_mem_cons.mpr ⟨lw_p131, List.forall_mem_cons.mpr ⟨lw_p132, List.forall_mem_cons.mpr ⟨lw_p133, List.forall_mem_cons.mpr ⟨lw_p134, List.forall_mem_cons.mpr ⟨lw_p135, List.forall_mem_cons.mpr ⟨lw_p136, List.forall_mem_cons.mpr ⟨lw_p137, List.forall_mem_cons.mpr ⟨lw_p138, List.forall_mem_cons.mpr ⟨lw_p139, List.forall_mem_cons.mpr ⟨lw_p140, List.forall_mem_cons.mpr ⟨lw_p141, List.forall_mem_cons.mpr ⟨lw_p142, List.forall_mem_cons.mpr ⟨lw_p143, fun _ h => absurd h List.not_mem_nil⟩⟩⟩⟩⟩⟩⟩⟩⟩⟩⟩⟩⟩⟩⟩⟩
theorem lw_p144 : lw_okq (⟨"SuiteBenchModel", "greatestGroup", "(I)I"⟩, 70) := ⟨⟨by decide +kernel, by decide +kernel⟩, List.mem_of_getElem? (i := 1475) (by decide +kernel), List.mem_of_getElem? (i := 2222) (by decide +kernel), List.mem_of_getElem? (i := 2223) (by decide +kernel)⟩
theorem lw_p145 : lw_okq (⟨"SuiteBenchModel", "draw", "(I)I"⟩, 70) := ⟨⟨by decide +kernel, by decide +kernel⟩, List.mem_of_getElem? (i := 1475) (by decide +kernel), List.mem_of_getElem? (i := 2230) (by decide +kernel), List.mem_of_getElem? (i := 2231) (by decide +kernel)⟩
theorem lw_p146 : lw_okq (⟨"SuiteBenchModel", "remembers", "()V"⟩, 70) := ⟨⟨by decide +kernel, by decide +kernel⟩, List.mem_of_getElem? (i := 1475) (by decide +kernel), List.mem_of_getElem? (i := 2240) (by decide +kernel), List.mem_of_getElem? (i := 2241) (by decide +kernel)⟩
theorem lw_p147 : lw_okq (⟨"SuiteBenchModel", "copies", "(IZ)V"⟩, 70) := ⟨⟨by decide +kernel, by decide +kernel⟩, List.mem_of_getElem? (i := 1475) (by decide +kernel), List.mem_of_getElem? (i := 2244) (by decide +kernel), List.mem_of_getElem? (i := 2245) (by decide +kernel)⟩
theorem lw_p148 : lw_okq (⟨"SuiteBenchModel", "kinds", "()I"⟩, 70) := ⟨⟨by decide +kernel, by decide +kernel⟩, List.mem_of_getElem? (i := 1475) (by decide +kernel), List.mem_of_getElem? (i := 2272) (by decide +kernel), List.mem_of_getElem? (i := 2273) (by decide +kernel)⟩
theorem lw_p149 : lw_okq (⟨"SuiteBenchModel", "twisted", "()I"⟩, 70) := ⟨⟨by decide +kernel, by decide +kernel⟩, List.mem_of_getElem? (i := 1475) (by decide +kernel), List.mem_of_getElem? (i := 2276) (by decide +kernel), List.mem_of_getElem? (i := 2277) (by decide +kernel)⟩
theorem lw_p150 : lw_okq (⟨"SuiteBenchModel", "builtReached", "()I"⟩, 70) := ⟨⟨by decide +kernel, by decide +kernel⟩, List.mem_of_getElem? (i := 1475) (by decide +kernel), List.mem_of_getElem? (i := 2280) (by decide +kernel), List.mem_of_getElem? (i := 2281) (by decide +kernel)⟩
def lw_privs_10 : List (MethodName × Nat) := [(⟨"SuiteBenchModel", "greatestGroup", "(I)I"⟩, 70), (⟨"SuiteBenchModel", "draw", "(I)I"⟩, 70), (⟨"SuiteBenchModel", "remembers", "()V"⟩, 70), (⟨"SuiteBenchModel", "copies", "(IZ)V"⟩, 70), (⟨"SuiteBenchModel", "kinds", "()I"⟩, 70), (⟨"SuiteBenchModel", "twisted", "()I"⟩, 70), (⟨"SuiteBenchModel", "builtReached", "()I"⟩, 70)]
theorem lw_r10 : ∀ q ∈ lw_privs_10, lw_okq q := List.forall_mem_cons.mpr ⟨lw_p144, List.forall_mem_cons.mpr ⟨lw_p145, List.forall_mem_cons.mpr ⟨lw_p146, List.forall_mem_cons.mpr ⟨lw_p147, List.forall_mem_cons.mpr ⟨lw_p148, List.forall_mem_cons.mpr ⟨lw_p149, List.forall_mem_cons.mpr ⟨lw_p150, fun _ h => absurd h List.not_mem_nil⟩⟩⟩⟩⟩⟩⟩
def lw_privs : List (MethodName × Nat) := lw_privs_1 ++ (lw_privs_2 ++ (lw_privs_3 ++ (lw_privs_4 ++ (lw_privs_5 ++ (lw_privs_6 ++ (lw_privs_7 ++ (lw_privs_8 ++ (lw_privs_9 ++ (lw_privs_10)))))))))
def lw_tbl : List Cond := k2_sels lw_privs ++ tables_1
theorem lw_privs_ok : ∀ q ∈ lw_privs, lw_okq q := by
  show ∀ q ∈ lw_privs_1 ++ (lw_privs_2 ++ (lw_privs_3 ++ (lw_privs_4 ++ (lw_privs_5 ++ (lw_privs_6 ++ (lw_privs_7 ++ (lw_privs_8 ++ (lw_privs_9 ++ (lw_privs_10))))))))), lw_okq q
  exact List.forall_mem_append.mpr ⟨lw_r1, List.forall_mem_append.mpr ⟨lw_r2, List.forall_mem_append.mpr ⟨lw_r3, List.forall_mem_append.mpr ⟨lw_r4, List.forall_mem_append.mpr ⟨lw_r5, List.forall_mem_append.mpr ⟨lw_r6, List.forall_mem_append.mpr ⟨lw_r7, List.forall_mem_append.mpr ⟨lw_r8, List.forall_mem_append.mpr ⟨lw_r9, lw_r10⟩⟩⟩⟩⟩⟩⟩⟩⟩
-- ===== end of PART A; then your names; then what follows =====
end
section
def RL : String := "SuiteBenchLaw"
def RX0 : String := "SuiteBench$Log"
def TX0 : u_T := fun k => match k with
  | 0 => ("SuiteBench$Log", "words", "[I", true)
  | 1 => ("SuiteBench$Log", "answers", "[J", true)
  | _ => ("SuiteBench$Log", "count", "I", false)
def tyX0 : Nat → FieldType := fun k => match k with
  | 0 => .array .int
  | 1 => .array .long
  | _ => .int
abbrev wsX00 : List Cond := u_ws RX0 TX0 3
theorem nmX0 : ∀ a, a < 3 → ∀ b, b < 3 → a ≠ b → (TX0 a).2.1 ≠ (TX0 b).2.1 := by decide +kernel
theorem tyX0_ok : ∀ k, k < 3 → parseFieldDescriptor (TX0 k).2.2.1 = some (tyX0 k) := by decide +kernel
abbrev cX0_init : ByteArray := prog_2_method_1_code
def yX0_init : MethodName := ⟨RX0, "<init>", "()V"⟩
abbrev cX0_add : ByteArray := prog_2_method_2_code
def yX0_add : MethodName := ⟨RX0, "add", "(IJ)V"⟩
abbrev cX0_copy : ByteArray := prog_2_method_3_code
def yX0_copy : MethodName := ⟨RX0, "copy", "(LSuiteBench$Log;)V"⟩
abbrev cX0_fits : ByteArray := prog_2_method_4_code
def yX0_fits : MethodName := ⟨RX0, "fits", "(LSuiteBench$Machine;)Z"⟩
def RX1 : String := "SuiteBench$Machine"
def TX1 : u_T := fun k => match k with
  | 0 => ("SuiteBench$Machine", "to", "[I", true)
  | 1 => ("SuiteBench$Machine", "out", "[I", true)
  | 2 => ("SuiteBench$Machine", "places", "I", false)
  | _ => ("SuiteBench$Machine", "inputs", "I", false)
def tyX1 : Nat → FieldType := fun k => match k with
  | 0 => .array .int
  | 1 => .array .int
  | 2 => .int
  | _ => .int
abbrev wsX10 : List Cond := u_ws RX1 TX1 4
theorem nmX1 : ∀ a, a < 4 → ∀ b, b < 4 → a ≠ b → (TX1 a).2.1 ≠ (TX1 b).2.1 := by decide +kernel
theorem tyX1_ok : ∀ k, k < 4 → parseFieldDescriptor (TX1 k).2.2.1 = some (tyX1 k) := by decide +kernel
abbrev cX1_init : ByteArray := prog_3_method_1_code
def yX1_init : MethodName := ⟨RX1, "<init>", "()V"⟩
abbrev cX1_still : ByteArray := prog_3_method_2_code
def yX1_still : MethodName := ⟨RX1, "still", "(II)V"⟩
abbrev cX1_tellArcs : ByteArray := prog_3_method_3_code
def yX1_tellArcs : MethodName := ⟨RX1, "tellArcs", "([I)V"⟩
abbrev cX1_has : ByteArray := prog_3_method_4_code
def yX1_has : MethodName := ⟨RX1, "has", "(II)Z"⟩
abbrev cX1_part : ByteArray := prog_3_method_5_code
def yX1_part : MethodName := ⟨RX1, "part", "(III)I"⟩
abbrev cX1_set : ByteArray := prog_3_method_6_code
def yX1_set : MethodName := ⟨RX1, "set", "(IIII)V"⟩
abbrev cX1_copyArcs : ByteArray := prog_3_method_7_code
def yX1_copyArcs : MethodName := ⟨RX1, "copyArcs", "(LSuiteBench$Machine;)V"⟩
abbrev cX1_copy : ByteArray := prog_3_method_8_code
def yX1_copy : MethodName := ⟨RX1, "copy", "(LSuiteBench$Machine;)V"⟩
abbrev cX1_pack : ByteArray := prog_3_method_9_code
def yX1_pack : MethodName := ⟨RX1, "pack", "([II)V"⟩
abbrev cX1_unpack : ByteArray := prog_3_method_10_code
def yX1_unpack : MethodName := ⟨RX1, "unpack", "([II)V"⟩
abbrev cX1_go : ByteArray := prog_3_method_11_code
def yX1_go : MethodName := ⟨RX1, "go", "(II)I"⟩
abbrev cX1_tell : ByteArray := prog_3_method_12_code
def yX1_tell : MethodName := ⟨RX1, "tell", "(II)J"⟩
abbrev cX1_arcsUnlike : ByteArray := prog_3_method_13_code
def yX1_arcsUnlike : MethodName := ⟨RX1, "arcsUnlike", "(LSuiteBench$Machine;)I"⟩
abbrev cX1_placesReached : ByteArray := prog_3_method_14_code
def yX1_placesReached : MethodName := ⟨RX1, "placesReached", "()I"⟩
def RX2 : String := "SuiteBench$Mutants"
def TX2 : u_T := fun k => match k with
  | 0 => ("SuiteBench$Mutants", "meant", "LSuiteBench$Machine;", true)
  | 1 => ("SuiteBench$Mutants", "traits", "LSuiteBench$Traits;", true)
  | 2 => ("SuiteBench$Mutants", "search", "LSuiteBench$Search;", true)
  | 3 => ("SuiteBench$Mutants", "trial", "LSuiteBench$Machine;", true)
  | 4 => ("SuiteBench$Mutants", "other", "LSuiteBench$Machine;", true)
  | 5 => ("SuiteBench$Mutants", "codes", "[I", true)
  | 6 => ("SuiteBench$Mutants", "equal", "[Z", true)
  | 7 => ("SuiteBench$Mutants", "noticed", "[I", true)
  | 8 => ("SuiteBench$Mutants", "missed", "[I", true)
  | 9 => ("SuiteBench$Mutants", "covers", "[I", true)
  | 10 => ("SuiteBench$Mutants", "passing", "[I", true)
  | 11 => ("SuiteBench$Mutants", "same", "[I", true)
  | 12 => ("SuiteBench$Mutants", "failing", "[I", true)
  | 13 => ("SuiteBench$Mutants", "left", "[I", true)
  | 14 => ("SuiteBench$Mutants", "equalCount", "I", false)
  | _ => ("SuiteBench$Mutants", "count", "I", false)
def tyX2 : Nat → FieldType := fun k => match k with
  | 0 => .object "SuiteBench$Machine"
  | 1 => .object "SuiteBench$Traits"
  | 2 => .object "SuiteBench$Search"
  | 3 => .object "SuiteBench$Machine"
  | 4 => .object "SuiteBench$Machine"
  | 5 => .array .int
  | 6 => .array .boolean
  | 7 => .array .int
  | 8 => .array .int
  | 9 => .array .int
  | 10 => .array .int
  | 11 => .array .int
  | 12 => .array .int
  | 13 => .array .int
  | 14 => .int
  | _ => .int
abbrev wsX20 : List Cond := u_ws RX2 TX2 16
theorem nmX2 : ∀ a, a < 16 → ∀ b, b < 16 → a ≠ b → (TX2 a).2.1 ≠ (TX2 b).2.1 := by decide +kernel
theorem tyX2_ok : ∀ k, k < 16 → parseFieldDescriptor (TX2 k).2.2.1 = some (tyX2 k) := by decide +kernel
abbrev cX2_init : ByteArray := prog_4_method_1_code
def yX2_init : MethodName := ⟨RX2, "<init>", "(LSuiteBench$Machine;LSuiteBench$Traits;LSuiteBench$Search;)V"⟩
abbrev cX2_list : ByteArray := prog_4_method_2_code
def yX2_list : MethodName := ⟨RX2, "list", "()V"⟩
abbrev cX2_listArc : ByteArray := prog_4_method_3_code
def yX2_listArc : MethodName := ⟨RX2, "listArc", "(I)V"⟩
abbrev cX2_add : ByteArray := prog_4_method_4_code
def yX2_add : MethodName := ⟨RX2, "add", "(I)V"⟩
abbrev cX2_has : ByteArray := prog_4_method_5_code
def yX2_has : MethodName := ⟨RX2, "has", "(I)Z"⟩
abbrev cX2_code : ByteArray := prog_4_method_6_code
def yX2_code : MethodName := ⟨RX2, "code", "(I)I"⟩
abbrev cX2_part : ByteArray := prog_4_method_7_code
def yX2_part : MethodName := ⟨RX2, "part", "(II)I"⟩
abbrev cX2_dress : ByteArray := prog_4_method_8_code
def yX2_dress : MethodName := ⟨RX2, "dress", "(LSuiteBench$Machine;I)V"⟩
abbrev cX2_undress : ByteArray := prog_4_method_9_code
def yX2_undress : MethodName := ⟨RX2, "undress", "(LSuiteBench$Machine;I)V"⟩
abbrev cX2_unlikeOnes : ByteArray := prog_4_method_10_code
def yX2_unlikeOnes : MethodName := ⟨RX2, "unlikeOnes", "(II)I"⟩
abbrev cX2_equalOnes : ByteArray := prog_4_method_11_code
def yX2_equalOnes : MethodName := ⟨RX2, "equalOnes", "()I"⟩
abbrev cX2_noticedBy : ByteArray := prog_4_method_12_code
def yX2_noticedBy : MethodName := ⟨RX2, "noticedBy", "(ILSuiteBench$Tests;)I"⟩
abbrev cX2_firstMissedBy : ByteArray := prog_4_method_13_code
def yX2_firstMissedBy : MethodName := ⟨RX2, "firstMissedBy", "(ILSuiteBench$Tests;)I"⟩
abbrev cX2_learnNoticed : ByteArray := prog_4_method_14_code
def yX2_learnNoticed : MethodName := ⟨RX2, "learnNoticed", "(ILSuiteBench$Tests;)V"⟩
abbrev cX2_coveredBy : ByteArray := prog_4_method_15_code
def yX2_coveredBy : MethodName := ⟨RX2, "coveredBy", "(ILSuiteBench$Tests;)I"⟩
abbrev cX2_cover : ByteArray := prog_4_method_16_code
def yX2_cover : MethodName := ⟨RX2, "cover", "(LSuiteBench$Tests;)I"⟩
abbrev cX2_learnFailing : ByteArray := prog_4_method_17_code
def yX2_learnFailing : MethodName := ⟨RX2, "learnFailing", "(LSuiteBench$Tests;I)V"⟩
abbrev cX2_bestTest : ByteArray := prog_4_method_18_code
def yX2_bestTest : MethodName := ⟨RX2, "bestTest", "(I)I"⟩
abbrev cX2_smallOnes : ByteArray := prog_4_method_19_code
def yX2_smallOnes : MethodName := ⟨RX2, "smallOnes", "(I)I"⟩
abbrev cX2_smallPassing : ByteArray := prog_4_method_20_code
def yX2_smallPassing : MethodName := ⟨RX2, "smallPassing", "(IILSuiteBench$Tests;)I"⟩
abbrev cX2_smallEqual : ByteArray := prog_4_method_21_code
def yX2_smallEqual : MethodName := ⟨RX2, "smallEqual", "(IILSuiteBench$Tests;)I"⟩
abbrev cX2_learnSmall : ByteArray := prog_4_method_22_code
def yX2_learnSmall : MethodName := ⟨RX2, "learnSmall", "(IILSuiteBench$Tests;)V"⟩
abbrev cX2_makeSmall : ByteArray := prog_4_method_23_code
def yX2_makeSmall : MethodName := ⟨RX2, "makeSmall", "(II)V"⟩
def RX3 : String := "SuiteBench$Plan"
def TX3 : u_T := fun k => match k with
  | 0 => ("SuiteBench$Plan", "placeNames", "[I", true)
  | 1 => ("SuiteBench$Plan", "inputNames", "[I", true)
  | 2 => ("SuiteBench$Plan", "arcs", "[I", true)
  | 3 => ("SuiteBench$Plan", "twists", "[I", true)
  | 4 => ("SuiteBench$Plan", "states", "I", false)
  | 5 => ("SuiteBench$Plan", "more", "I", false)
  | 6 => ("SuiteBench$Plan", "inputs", "I", false)
  | 7 => ("SuiteBench$Plan", "extra", "I", false)
  | 8 => ("SuiteBench$Plan", "seed", "I", false)
  | 9 => ("SuiteBench$Plan", "lines", "I", false)
  | 10 => ("SuiteBench$Plan", "extraTold", "Z", false)
  | _ => ("SuiteBench$Plan", "seedTold", "Z", false)
def tyX3 : Nat → FieldType := fun k => match k with
  | 0 => .array .int
  | 1 => .array .int
  | 2 => .array .int
  | 3 => .array .int
  | 4 => .int
  | 5 => .int
  | 6 => .int
  | 7 => .int
  | 8 => .int
  | 9 => .int
  | 10 => .boolean
  | _ => .boolean
abbrev wsX30 : List Cond := u_ws RX3 TX3 12
theorem nmX3 : ∀ a, a < 12 → ∀ b, b < 12 → a ≠ b → (TX3 a).2.1 ≠ (TX3 b).2.1 := by decide +kernel
theorem tyX3_ok : ∀ k, k < 12 → parseFieldDescriptor (TX3 k).2.2.1 = some (tyX3 k) := by decide +kernel
abbrev cX3_init : ByteArray := prog_5_method_1_code
def yX3_init : MethodName := ⟨RX3, "<init>", "()V"⟩
abbrev cX3_clear : ByteArray := prog_5_method_2_code
def yX3_clear : MethodName := ⟨RX3, "clear", "()V"⟩
abbrev cX3_placeNamed : ByteArray := prog_5_method_3_code
def yX3_placeNamed : MethodName := ⟨RX3, "placeNamed", "(I)I"⟩
abbrev cX3_inputNamed : ByteArray := prog_5_method_4_code
def yX3_inputNamed : MethodName := ⟨RX3, "inputNamed", "(I)I"⟩
abbrev cX3_isTold : ByteArray := prog_5_method_5_code
def yX3_isTold : MethodName := ⟨RX3, "isTold", "(I)Z"⟩
def RX4 : String := "SuiteBench$Reader"
def TX4 : u_T := fun k => match k with
  | 0 => ("SuiteBench$Reader", "tape", "[B", true)
  | 1 => ("SuiteBench$Reader", "draft", "LSuiteBench$Plan;", false)
  | 2 => ("SuiteBench$Reader", "taped", "I", false)
  | 3 => ("SuiteBench$Reader", "fault", "I", false)
  | 4 => ("SuiteBench$Reader", "faultPlace", "I", false)
  | 5 => ("SuiteBench$Reader", "end", "I", false)
  | 6 => ("SuiteBench$Reader", "at", "I", false)
  | 7 => ("SuiteBench$Reader", "kind", "I", false)
  | 8 => ("SuiteBench$Reader", "value", "I", false)
  | _ => ("SuiteBench$Reader", "place", "I", false)
def tyX4 : Nat → FieldType := fun k => match k with
  | 0 => .array .byte
  | 1 => .object "SuiteBench$Plan"
  | 2 => .int
  | 3 => .int
  | 4 => .int
  | 5 => .int
  | 6 => .int
  | 7 => .int
  | 8 => .int
  | _ => .int
abbrev wsX40 : List Cond := u_ws RX4 TX4 10
theorem nmX4 : ∀ a, a < 10 → ∀ b, b < 10 → a ≠ b → (TX4 a).2.1 ≠ (TX4 b).2.1 := by decide +kernel
theorem tyX4_ok : ∀ k, k < 10 → parseFieldDescriptor (TX4 k).2.2.1 = some (tyX4 k) := by decide +kernel
abbrev cX4_init : ByteArray := prog_6_method_1_code
def yX4_init : MethodName := ⟨RX4, "<init>", "()V"⟩
abbrev cX4_take : ByteArray := prog_6_method_2_code
def yX4_take : MethodName := ⟨RX4, "take", "(I)V"⟩
abbrev cX4_reads : ByteArray := prog_6_method_3_code
def yX4_reads : MethodName := ⟨RX4, "reads", "(I)Z"⟩
abbrev cX4_wrong : ByteArray := prog_6_method_4_code
def yX4_wrong : MethodName := ⟨RX4, "wrong", "(I)Z"⟩
abbrev cX4_advance : ByteArray := prog_6_method_5_code
def yX4_advance : MethodName := ⟨RX4, "advance", "()V"⟩
abbrev cX4_readLine : ByteArray := prog_6_method_6_code
def yX4_readLine : MethodName := ⟨RX4, "readLine", "()Z"⟩
abbrev cX4_readClose : ByteArray := prog_6_method_7_code
def yX4_readClose : MethodName := ⟨RX4, "readClose", "()Z"⟩
abbrev cX4_readState : ByteArray := prog_6_method_8_code
def yX4_readState : MethodName := ⟨RX4, "readState", "()Z"⟩
abbrev cX4_readInput : ByteArray := prog_6_method_9_code
def yX4_readInput : MethodName := ⟨RX4, "readInput", "()Z"⟩
abbrev cX4_readMore : ByteArray := prog_6_method_10_code
def yX4_readMore : MethodName := ⟨RX4, "readMore", "()Z"⟩
abbrev cX4_readName : ByteArray := prog_6_method_11_code
def yX4_readName : MethodName := ⟨RX4, "readName", "()Z"⟩
abbrev cX4_isOfLanguage : ByteArray := prog_6_method_12_code
def yX4_isOfLanguage : MethodName := ⟨RX4, "isOfLanguage", "(I)Z"⟩
abbrev cX4_readNewName : ByteArray := prog_6_method_13_code
def yX4_readNewName : MethodName := ⟨RX4, "readNewName", "()Z"⟩
abbrev cX4_readPlace : ByteArray := prog_6_method_14_code
def yX4_readPlace : MethodName := ⟨RX4, "readPlace", "(I)I"⟩
abbrev cX4_readKnownInput : ByteArray := prog_6_method_15_code
def yX4_readKnownInput : MethodName := ⟨RX4, "readKnownInput", "()I"⟩
abbrev cX4_readArc : ByteArray := prog_6_method_16_code
def yX4_readArc : MethodName := ⟨RX4, "readArc", "([II)Z"⟩
abbrev cX4_readNumber : ByteArray := prog_6_method_17_code
def yX4_readNumber : MethodName := ⟨RX4, "readNumber", "(I)Z"⟩
abbrev cX4_readExtra : ByteArray := prog_6_method_18_code
def yX4_readExtra : MethodName := ⟨RX4, "readExtra", "()Z"⟩
abbrev cX4_readSeed : ByteArray := prog_6_method_19_code
def yX4_readSeed : MethodName := ⟨RX4, "readSeed", "()Z"⟩
def RX5 : String := "SuiteBench$Search"
def TX5 : u_T := fun k => match k with
  | 0 => ("SuiteBench$Search", "meant", "LSuiteBench$Machine;", true)
  | 1 => ("SuiteBench$Search", "traits", "LSuiteBench$Traits;", true)
  | 2 => ("SuiteBench$Search", "spots", "[I", true)
  | 3 => ("SuiteBench$Search", "paths", "[I", true)
  | 4 => ("SuiteBench$Search", "seen", "[I", true)
  | 5 => ("SuiteBench$Search", "signs", "[I", true)
  | 6 => ("SuiteBench$Search", "words", "[I", true)
  | 7 => ("SuiteBench$Search", "depths", "[I", true)
  | 8 => ("SuiteBench$Search", "firsts", "[I", true)
  | 9 => ("SuiteBench$Search", "treesKnown", "Z", false)
  | _ => ("SuiteBench$Search", "tail", "I", false)
def tyX5 : Nat → FieldType := fun k => match k with
  | 0 => .object "SuiteBench$Machine"
  | 1 => .object "SuiteBench$Traits"
  | 2 => .array .int
  | 3 => .array .int
  | 4 => .array .int
  | 5 => .array .int
  | 6 => .array .int
  | 7 => .array .int
  | 8 => .array .int
  | 9 => .boolean
  | _ => .int
abbrev wsX50 : List Cond := u_ws RX5 TX5 11
theorem nmX5 : ∀ a, a < 11 → ∀ b, b < 11 → a ≠ b → (TX5 a).2.1 ≠ (TX5 b).2.1 := by decide +kernel
theorem tyX5_ok : ∀ k, k < 11 → parseFieldDescriptor (TX5 k).2.2.1 = some (tyX5 k) := by decide +kernel
abbrev cX5_init : ByteArray := prog_7_method_1_code
def yX5_init : MethodName := ⟨RX5, "<init>", "(LSuiteBench$Machine;LSuiteBench$Traits;)V"⟩
abbrev cX5_renew : ByteArray := prog_7_method_2_code
def yX5_renew : MethodName := ⟨RX5, "renew", "()V"⟩
abbrev cX5_push : ByteArray := prog_7_method_3_code
def yX5_push : MethodName := ⟨RX5, "push", "(II)V"⟩
abbrev cX5_leave : ByteArray := prog_7_method_4_code
def yX5_leave : MethodName := ⟨RX5, "leave", "()V"⟩
abbrev cX5_unlike : ByteArray := prog_7_method_5_code
def yX5_unlike : MethodName := ⟨RX5, "unlike", "(LSuiteBench$Machine;LSuiteBench$Machine;)I"⟩
abbrev cX5_signOf : ByteArray := prog_7_method_6_code
def yX5_signOf : MethodName := ⟨RX5, "signOf", "(I)I"⟩
abbrev cX5_findSign : ByteArray := prog_7_method_7_code
def yX5_findSign : MethodName := ⟨RX5, "findSign", "(I)I"⟩
abbrev cX5_followSign : ByteArray := prog_7_method_8_code
def yX5_followSign : MethodName := ⟨RX5, "followSign", "(II)I"⟩
abbrev cX5_wordForAll : ByteArray := prog_7_method_9_code
def yX5_wordForAll : MethodName := ⟨RX5, "wordForAll", "(I)I"⟩
abbrev cX5_findForAll : ByteArray := prog_7_method_10_code
def yX5_findForAll : MethodName := ⟨RX5, "findForAll", "(I)I"⟩
abbrev cX5_followAll : ByteArray := prog_7_method_11_code
def yX5_followAll : MethodName := ⟨RX5, "followAll", "(II)I"⟩
abbrev cX5_followGroups : ByteArray := prog_7_method_12_code
def yX5_followGroups : MethodName := ⟨RX5, "followGroups", "(IIZ)I"⟩
abbrev cX5_likeOnes : ByteArray := prog_7_method_13_code
def yX5_likeOnes : MethodName := ⟨RX5, "likeOnes", "(III)I"⟩
abbrev cX5_withGroup : ByteArray := prog_7_method_14_code
def yX5_withGroup : MethodName := ⟨RX5, "withGroup", "(II)I"⟩
abbrev cX5_treeDepth : ByteArray := prog_7_method_15_code
def yX5_treeDepth : MethodName := ⟨RX5, "treeDepth", "(I)I"⟩
abbrev cX5_treeInput : ByteArray := prog_7_method_16_code
def yX5_treeInput : MethodName := ⟨RX5, "treeInput", "(I)I"⟩
abbrev cX5_learnTrees : ByteArray := prog_7_method_17_code
def yX5_learnTrees : MethodName := ⟨RX5, "learnTrees", "()V"⟩
abbrev cX5_learnTree : ByteArray := prog_7_method_18_code
def yX5_learnTree : MethodName := ⟨RX5, "learnTree", "(II)V"⟩
abbrev cX5_depthBehind : ByteArray := prog_7_method_19_code
def yX5_depthBehind : MethodName := ⟨RX5, "depthBehind", "(II)I"⟩
def RX6 : String := "SuiteBench$Suites"
def TX6 : u_T := fun k => match k with
  | 0 => ("SuiteBench$Suites", "meant", "LSuiteBench$Machine;", true)
  | 1 => ("SuiteBench$Suites", "traits", "LSuiteBench$Traits;", true)
  | 2 => ("SuiteBench$Suites", "walk", "LSuiteBench$Walk;", true)
  | 3 => ("SuiteBench$Suites", "all", "[LSuiteBench$Tests;", true)
  | 4 => ("SuiteBench$Suites", "down", "[I", true)
  | 5 => ("SuiteBench$Suites", "states", "[I", true)
  | 6 => ("SuiteBench$Suites", "order", "[I", true)
  | 7 => ("SuiteBench$Suites", "numbers", "[I", true)
  | 8 => ("SuiteBench$Suites", "heads", "[I", true)
  | 9 => ("SuiteBench$Suites", "headCount", "I", false)
  | 10 => ("SuiteBench$Suites", "grown", "I", false)
  | _ => ("SuiteBench$Suites", "extra", "I", false)
def tyX6 : Nat → FieldType := fun k => match k with
  | 0 => .object "SuiteBench$Machine"
  | 1 => .object "SuiteBench$Traits"
  | 2 => .object "SuiteBench$Walk"
  | 3 => .array (.object "SuiteBench$Tests")
  | 4 => .array .int
  | 5 => .array .int
  | 6 => .array .int
  | 7 => .array .int
  | 8 => .array .int
  | 9 => .int
  | 10 => .int
  | _ => .int
abbrev wsX60 : List Cond := u_ws RX6 TX6 12
theorem nmX6 : ∀ a, a < 12 → ∀ b, b < 12 → a ≠ b → (TX6 a).2.1 ≠ (TX6 b).2.1 := by decide +kernel
theorem tyX6_ok : ∀ k, k < 12 → parseFieldDescriptor (TX6 k).2.2.1 = some (tyX6 k) := by decide +kernel
abbrev cX6_init : ByteArray := prog_8_method_1_code
def yX6_init : MethodName := ⟨RX6, "<init>", "(LSuiteBench$Machine;LSuiteBench$Traits;LSuiteBench$Search;)V"⟩
abbrev cX6_renew : ByteArray := prog_8_method_2_code
def yX6_renew : MethodName := ⟨RX6, "renew", "(I)V"⟩
abbrev cX6_give : ByteArray := prog_8_method_3_code
def yX6_give : MethodName := ⟨RX6, "give", "(I)LSuiteBench$Tests;"⟩
abbrev cX6_planned : ByteArray := prog_8_method_4_code
def yX6_planned : MethodName := ⟨RX6, "planned", "(II)LSuiteBench$Tests;"⟩
abbrev cX6_grow : ByteArray := prog_8_method_5_code
def yX6_grow : MethodName := ⟨RX6, "grow", "(II)V"⟩
abbrev cX6_growHeads : ByteArray := prog_8_method_6_code
def yX6_growHeads : MethodName := ⟨RX6, "growHeads", "(I)V"⟩
abbrev cX6_addHead : ByteArray := prog_8_method_7_code
def yX6_addHead : MethodName := ⟨RX6, "addHead", "(I)V"⟩
abbrev cX6_growAll : ByteArray := prog_8_method_8_code
def yX6_growAll : MethodName := ⟨RX6, "growAll", "(I[III)V"⟩
abbrev cX6_growWord : ByteArray := prog_8_method_9_code
def yX6_growWord : MethodName := ⟨RX6, "growWord", "(II)I"⟩
abbrev cX6_growChild : ByteArray := prog_8_method_10_code
def yX6_growChild : MethodName := ⟨RX6, "growChild", "(II)I"⟩
abbrev cX6_pour : ByteArray := prog_8_method_11_code
def yX6_pour : MethodName := ⟨RX6, "pour", "(LSuiteBench$Tests;)V"⟩
def RX7 : String := "SuiteBench$Suspects"
def TX7 : u_T := fun k => match k with
  | 0 => ("SuiteBench$Suspects", "meant", "LSuiteBench$Machine;", true)
  | 1 => ("SuiteBench$Suspects", "mutants", "LSuiteBench$Mutants;", true)
  | 2 => ("SuiteBench$Suspects", "log", "LSuiteBench$Log;", true)
  | 3 => ("SuiteBench$Suspects", "trial", "LSuiteBench$Machine;", true)
  | 4 => ("SuiteBench$Suspects", "numbers", "[I", true)
  | 5 => ("SuiteBench$Suspects", "codes", "[I", true)
  | 6 => ("SuiteBench$Suspects", "begun", "[I", true)
  | 7 => ("SuiteBench$Suspects", "at", "[I", true)
  | 8 => ("SuiteBench$Suspects", "groups", "[I", true)
  | 9 => ("SuiteBench$Suspects", "groupOf", "[I", true)
  | 10 => ("SuiteBench$Suspects", "stamps", "[I", true)
  | 11 => ("SuiteBench$Suspects", "sizes", "[I", true)
  | 12 => ("SuiteBench$Suspects", "stamp", "I", false)
  | 13 => ("SuiteBench$Suspects", "crowd", "I", false)
  | 14 => ("SuiteBench$Suspects", "count", "I", false)
  | 15 => ("SuiteBench$Suspects", "nextFound", "I", false)
  | 16 => ("SuiteBench$Suspects", "known", "Z", false)
  | _ => ("SuiteBench$Suspects", "nextKnown", "Z", false)
def tyX7 : Nat → FieldType := fun k => match k with
  | 0 => .object "SuiteBench$Machine"
  | 1 => .object "SuiteBench$Mutants"
  | 2 => .object "SuiteBench$Log"
  | 3 => .object "SuiteBench$Machine"
  | 4 => .array .int
  | 5 => .array .int
  | 6 => .array .int
  | 7 => .array .int
  | 8 => .array .int
  | 9 => .array .int
  | 10 => .array .int
  | 11 => .array .int
  | 12 => .int
  | 13 => .int
  | 14 => .int
  | 15 => .int
  | 16 => .boolean
  | _ => .boolean
abbrev wsX70 : List Cond := u_ws RX7 TX7 18
theorem nmX7 : ∀ a, a < 18 → ∀ b, b < 18 → a ≠ b → (TX7 a).2.1 ≠ (TX7 b).2.1 := by decide +kernel
theorem tyX7_ok : ∀ k, k < 18 → parseFieldDescriptor (TX7 k).2.2.1 = some (tyX7 k) := by decide +kernel
abbrev cX7_init : ByteArray := prog_9_method_1_code
def yX7_init : MethodName := ⟨RX7, "<init>", "(LSuiteBench$Machine;LSuiteBench$Mutants;LSuiteBench$Log;)V"⟩
abbrev cX7_renew : ByteArray := prog_9_method_2_code
def yX7_renew : MethodName := ⟨RX7, "renew", "()V"⟩
abbrev cX7_learn : ByteArray := prog_9_method_3_code
def yX7_learn : MethodName := ⟨RX7, "learn", "()V"⟩
abbrev cX7_addIfFitting : ByteArray := prog_9_method_4_code
def yX7_addIfFitting : MethodName := ⟨RX7, "addIfFitting", "(I)V"⟩
abbrev cX7_machineAmong : ByteArray := prog_9_method_5_code
def yX7_machineAmong : MethodName := ⟨RX7, "machineAmong", "()I"⟩
abbrev cX7_all : ByteArray := prog_9_method_6_code
def yX7_all : MethodName := ⟨RX7, "all", "()I"⟩
abbrev cX7_number : ByteArray := prog_9_method_7_code
def yX7_number : MethodName := ⟨RX7, "number", "(I)I"⟩
abbrev cX7_nextWord : ByteArray := prog_9_method_8_code
def yX7_nextWord : MethodName := ⟨RX7, "nextWord", "(LSuiteBench$Tests;)I"⟩
abbrev cX7_findNext : ByteArray := prog_9_method_9_code
def yX7_findNext : MethodName := ⟨RX7, "findNext", "(LSuiteBench$Tests;)I"⟩
abbrev cX7_gatherCrowd : ByteArray := prog_9_method_10_code
def yX7_gatherCrowd : MethodName := ⟨RX7, "gatherCrowd", "()V"⟩
abbrev cX7_greatestGroup : ByteArray := prog_9_method_11_code
def yX7_greatestGroup : MethodName := ⟨RX7, "greatestGroup", "(II)I"⟩
abbrev cX7_split : ByteArray := prog_9_method_12_code
def yX7_split : MethodName := ⟨RX7, "split", "(II)V"⟩
def RX8 : String := "SuiteBench$Tests"
def TX8 : u_T := fun k => match k with
  | 0 => ("SuiteBench$Tests", "up", "[I", true)
  | 1 => ("SuiteBench$Tests", "by", "[I", true)
  | 2 => ("SuiteBench$Tests", "want", "[I", true)
  | 3 => ("SuiteBench$Tests", "ends", "[I", true)
  | 4 => ("SuiteBench$Tests", "words", "[I", true)
  | 5 => ("SuiteBench$Tests", "sizes", "[I", true)
  | 6 => ("SuiteBench$Tests", "at", "[I", true)
  | 7 => ("SuiteBench$Tests", "nodes", "I", false)
  | 8 => ("SuiteBench$Tests", "count", "I", false)
  | _ => ("SuiteBench$Tests", "known", "Z", false)
def tyX8 : Nat → FieldType := fun k => match k with
  | 0 => .array .int
  | 1 => .array .int
  | 2 => .array .int
  | 3 => .array .int
  | 4 => .array .int
  | 5 => .array .int
  | 6 => .array .int
  | 7 => .int
  | 8 => .int
  | _ => .boolean
abbrev wsX80 : List Cond := u_ws RX8 TX8 10
theorem nmX8 : ∀ a, a < 10 → ∀ b, b < 10 → a ≠ b → (TX8 a).2.1 ≠ (TX8 b).2.1 := by decide +kernel
theorem tyX8_ok : ∀ k, k < 10 → parseFieldDescriptor (TX8 k).2.2.1 = some (tyX8 k) := by decide +kernel
abbrev cX8_init : ByteArray := prog_10_method_1_code
def yX8_init : MethodName := ⟨RX8, "<init>", "(II[I)V"⟩
abbrev cX8_clear : ByteArray := prog_10_method_2_code
def yX8_clear : MethodName := ⟨RX8, "clear", "()V"⟩
abbrev cX8_addNode : ByteArray := prog_10_method_3_code
def yX8_addNode : MethodName := ⟨RX8, "addNode", "(III)V"⟩
abbrev cX8_addTest : ByteArray := prog_10_method_4_code
def yX8_addTest : MethodName := ⟨RX8, "addTest", "(III)V"⟩
abbrev cX8_inputsInSum : ByteArray := prog_10_method_5_code
def yX8_inputsInSum : MethodName := ⟨RX8, "inputsInSum", "()I"⟩
abbrev cX8_mostInputs : ByteArray := prog_10_method_6_code
def yX8_mostInputs : MethodName := ⟨RX8, "mostInputs", "()I"⟩
abbrev cX8_run : ByteArray := prog_10_method_7_code
def yX8_run : MethodName := ⟨RX8, "run", "(LSuiteBench$Machine;)V"⟩
abbrev cX8_step : ByteArray := prog_10_method_8_code
def yX8_step : MethodName := ⟨RX8, "step", "(LSuiteBench$Machine;I)I"⟩
abbrev cX8_isFailedBy : ByteArray := prog_10_method_9_code
def yX8_isFailedBy : MethodName := ⟨RX8, "isFailedBy", "(LSuiteBench$Machine;)Z"⟩
abbrev cX8_isFailed : ByteArray := prog_10_method_10_code
def yX8_isFailed : MethodName := ⟨RX8, "isFailed", "(I)Z"⟩
abbrev cX8_failures : ByteArray := prog_10_method_11_code
def yX8_failures : MethodName := ⟨RX8, "failures", "()I"⟩
abbrev cX8_firstFailure : ByteArray := prog_10_method_12_code
def yX8_firstFailure : MethodName := ⟨RX8, "firstFailure", "()I"⟩
abbrev cX8_stepsBehindWrong : ByteArray := prog_10_method_13_code
def yX8_stepsBehindWrong : MethodName := ⟨RX8, "stepsBehindWrong", "(I)I"⟩
abbrev cX8_wrongPlace : ByteArray := prog_10_method_14_code
def yX8_wrongPlace : MethodName := ⟨RX8, "wrongPlace", "(I)I"⟩
abbrev cX8_wrongOutput : ByteArray := prog_10_method_15_code
def yX8_wrongOutput : MethodName := ⟨RX8, "wrongOutput", "(ILSuiteBench$Machine;)I"⟩
def RX9 : String := "SuiteBench$Traits"
def TX9 : u_T := fun k => match k with
  | 0 => ("SuiteBench$Traits", "meant", "LSuiteBench$Machine;", true)
  | 1 => ("SuiteBench$Traits", "access", "[I", true)
  | 2 => ("SuiteBench$Traits", "separators", "[I", true)
  | 3 => ("SuiteBench$Traits", "kinds", "[I", true)
  | 4 => ("SuiteBench$Traits", "splitters", "[I", true)
  | 5 => ("SuiteBench$Traits", "marks", "[I", true)
  | 6 => ("SuiteBench$Traits", "markCounts", "[I", true)
  | 7 => ("SuiteBench$Traits", "queue", "[I", true)
  | 8 => ("SuiteBench$Traits", "reached", "I", false)
  | 9 => ("SuiteBench$Traits", "kindCount", "I", false)
  | 10 => ("SuiteBench$Traits", "splitterCount", "I", false)
  | _ => ("SuiteBench$Traits", "top", "I", false)
def tyX9 : Nat → FieldType := fun k => match k with
  | 0 => .object "SuiteBench$Machine"
  | 1 => .array .int
  | 2 => .array .int
  | 3 => .array .int
  | 4 => .array .int
  | 5 => .array .int
  | 6 => .array .int
  | 7 => .array .int
  | 8 => .int
  | 9 => .int
  | 10 => .int
  | _ => .int
abbrev wsX90 : List Cond := u_ws RX9 TX9 12
theorem nmX9 : ∀ a, a < 12 → ∀ b, b < 12 → a ≠ b → (TX9 a).2.1 ≠ (TX9 b).2.1 := by decide +kernel
theorem tyX9_ok : ∀ k, k < 12 → parseFieldDescriptor (TX9 k).2.2.1 = some (tyX9 k) := by decide +kernel
abbrev cX9_init : ByteArray := prog_11_method_1_code
def yX9_init : MethodName := ⟨RX9, "<init>", "(LSuiteBench$Machine;)V"⟩
abbrev cX9_learn : ByteArray := prog_11_method_2_code
def yX9_learn : MethodName := ⟨RX9, "learn", "()V"⟩
abbrev cX9_isReached : ByteArray := prog_11_method_3_code
def yX9_isReached : MethodName := ⟨RX9, "isReached", "(I)Z"⟩
abbrev cX9_areAlike : ByteArray := prog_11_method_4_code
def yX9_areAlike : MethodName := ⟨RX9, "areAlike", "(II)Z"⟩
abbrev cX9_learnTop : ByteArray := prog_11_method_5_code
def yX9_learnTop : MethodName := ⟨RX9, "learnTop", "()V"⟩
abbrev cX9_learnAccess : ByteArray := prog_11_method_6_code
def yX9_learnAccess : MethodName := ⟨RX9, "learnAccess", "()V"⟩
abbrev cX9_learnSeparators : ByteArray := prog_11_method_7_code
def yX9_learnSeparators : MethodName := ⟨RX9, "learnSeparators", "()V"⟩
abbrev cX9_separatorOfLength : ByteArray := prog_11_method_8_code
def yX9_separatorOfLength : MethodName := ⟨RX9, "separatorOfLength", "(III)I"⟩
abbrev cX9_learnKinds : ByteArray := prog_11_method_9_code
def yX9_learnKinds : MethodName := ⟨RX9, "learnKinds", "()V"⟩
abbrev cX9_learnSplitters : ByteArray := prog_11_method_10_code
def yX9_learnSplitters : MethodName := ⟨RX9, "learnSplitters", "()V"⟩
abbrev cX9_areSplit : ByteArray := prog_11_method_11_code
def yX9_areSplit : MethodName := ⟨RX9, "areSplit", "(II)Z"⟩
abbrev cX9_learnMarks : ByteArray := prog_11_method_12_code
def yX9_learnMarks : MethodName := ⟨RX9, "learnMarks", "(I)V"⟩
abbrev cX9_addMark : ByteArray := prog_11_method_13_code
def yX9_addMark : MethodName := ⟨RX9, "addMark", "(II)V"⟩
def RX10 : String := "SuiteBench$Walk"
def TX10 : u_T := fun k => match k with
  | 0 => ("SuiteBench$Walk", "meant", "LSuiteBench$Machine;", true)
  | 1 => ("SuiteBench$Walk", "search", "LSuiteBench$Search;", true)
  | 2 => ("SuiteBench$Walk", "queue", "[I", true)
  | 3 => ("SuiteBench$Walk", "paths", "[I", true)
  | 4 => ("SuiteBench$Walk", "taken", "I", false)
  | _ => ("SuiteBench$Walk", "stand", "I", false)
def tyX10 : Nat → FieldType := fun k => match k with
  | 0 => .object "SuiteBench$Machine"
  | 1 => .object "SuiteBench$Search"
  | 2 => .array .int
  | 3 => .array .int
  | 4 => .int
  | _ => .int
abbrev wsX100 : List Cond := u_ws RX10 TX10 6
theorem nmX10 : ∀ a, a < 6 → ∀ b, b < 6 → a ≠ b → (TX10 a).2.1 ≠ (TX10 b).2.1 := by decide +kernel
theorem tyX10_ok : ∀ k, k < 6 → parseFieldDescriptor (TX10 k).2.2.1 = some (tyX10 k) := by decide +kernel
abbrev cX10_init : ByteArray := prog_12_method_1_code
def yX10_init : MethodName := ⟨RX10, "<init>", "(LSuiteBench$Machine;LSuiteBench$Search;)V"⟩
abbrev cX10_fill : ByteArray := prog_12_method_2_code
def yX10_fill : MethodName := ⟨RX10, "fill", "(LSuiteBench$Tests;Z)V"⟩
abbrev cX10_take : ByteArray := prog_12_method_3_code
def yX10_take : MethodName := ⟨RX10, "take", "(LSuiteBench$Tests;I)V"⟩
abbrev cX10_wordToNew : ByteArray := prog_12_method_4_code
def yX10_wordToNew : MethodName := ⟨RX10, "wordToNew", "()I"⟩
def RX11 : String := "SuiteBench"
def TX11 : u_T := fun k => match k with
  | 0 => ("SuiteBench", "reader", "LSuiteBench$Reader;", true)
  | 1 => ("SuiteBench", "meant", "LSuiteBench$Machine;", true)
  | 2 => ("SuiteBench", "made", "LSuiteBench$Machine;", true)
  | 3 => ("SuiteBench", "traits", "LSuiteBench$Traits;", true)
  | 4 => ("SuiteBench", "search", "LSuiteBench$Search;", true)
  | 5 => ("SuiteBench", "suites", "LSuiteBench$Suites;", true)
  | 6 => ("SuiteBench", "mutants", "LSuiteBench$Mutants;", true)
  | 7 => ("SuiteBench", "log", "LSuiteBench$Log;", true)
  | 8 => ("SuiteBench", "suspects", "LSuiteBench$Suspects;", true)
  | 9 => ("SuiteBench", "past", "[I", true)
  | 10 => ("SuiteBench", "image", "[I", true)
  | 11 => ("SuiteBench", "imageLog", "LSuiteBench$Log;", true)
  | 12 => ("SuiteBench", "told", "LSuiteBench$Plan;", false)
  | 13 => ("SuiteBench", "pastFirst", "I", false)
  | 14 => ("SuiteBench", "pastCount", "I", false)
  | _ => ("SuiteBench", "kept", "Z", false)
def tyX11 : Nat → FieldType := fun k => match k with
  | 0 => .object "SuiteBench$Reader"
  | 1 => .object "SuiteBench$Machine"
  | 2 => .object "SuiteBench$Machine"
  | 3 => .object "SuiteBench$Traits"
  | 4 => .object "SuiteBench$Search"
  | 5 => .object "SuiteBench$Suites"
  | 6 => .object "SuiteBench$Mutants"
  | 7 => .object "SuiteBench$Log"
  | 8 => .object "SuiteBench$Suspects"
  | 9 => .array .int
  | 10 => .array .int
  | 11 => .object "SuiteBench$Log"
  | 12 => .object "SuiteBench$Plan"
  | 13 => .int
  | 14 => .int
  | _ => .boolean
abbrev wsX110 : List Cond := u_ws RX11 TX11 16
theorem nmX11 : ∀ a, a < 16 → ∀ b, b < 16 → a ≠ b → (TX11 a).2.1 ≠ (TX11 b).2.1 := by decide +kernel
theorem tyX11_ok : ∀ k, k < 16 → parseFieldDescriptor (TX11 k).2.2.1 = some (tyX11 k) := by decide +kernel
abbrev cX11_init : ByteArray := prog_1_method_1_code
def yX11_init : MethodName := ⟨RX11, "<init>", "()V"⟩
abbrev cX11_feed : ByteArray := prog_1_method_2_code
def yX11_feed : MethodName := ⟨RX11, "feed", "(IIIII)I"⟩
abbrev cX11_text : ByteArray := prog_1_method_3_code
def yX11_text : MethodName := ⟨RX11, "text", "(I)I"⟩
abbrev cX11_fault : ByteArray := prog_1_method_4_code
def yX11_fault : MethodName := ⟨RX11, "fault", "(I)I"⟩
abbrev cX11_named : ByteArray := prog_1_method_5_code
def yX11_named : MethodName := ⟨RX11, "named", "(I)I"⟩
abbrev cX11_arc : ByteArray := prog_1_method_6_code
def yX11_arc : MethodName := ⟨RX11, "arc", "(III)I"⟩
abbrev cX11_built : ByteArray := prog_1_method_7_code
def yX11_built : MethodName := ⟨RX11, "built", "(III)I"⟩
abbrev cX11_answer : ByteArray := prog_1_method_8_code
def yX11_answer : MethodName := ⟨RX11, "answer", "(II)J"⟩
abbrev cX11_leads : ByteArray := prog_1_method_9_code
def yX11_leads : MethodName := ⟨RX11, "leads", "(II)I"⟩
abbrev cX11_answerBuilt : ByteArray := prog_1_method_10_code
def yX11_answerBuilt : MethodName := ⟨RX11, "answerBuilt", "(I)J"⟩
abbrev cX11_access : ByteArray := prog_1_method_11_code
def yX11_access : MethodName := ⟨RX11, "access", "(I)I"⟩
abbrev cX11_kind : ByteArray := prog_1_method_12_code
def yX11_kind : MethodName := ⟨RX11, "kind", "(I)I"⟩
abbrev cX11_separator : ByteArray := prog_1_method_13_code
def yX11_separator : MethodName := ⟨RX11, "separator", "(II)I"⟩
abbrev cX11_splitter : ByteArray := prog_1_method_14_code
def yX11_splitter : MethodName := ⟨RX11, "splitter", "(I)I"⟩
abbrev cX11_mark : ByteArray := prog_1_method_15_code
def yX11_mark : MethodName := ⟨RX11, "mark", "(II)I"⟩
abbrev cX11_sign : ByteArray := prog_1_method_16_code
def yX11_sign : MethodName := ⟨RX11, "sign", "(I)I"⟩
abbrev cX11_suite : ByteArray := prog_1_method_17_code
def yX11_suite : MethodName := ⟨RX11, "suite", "(II)I"⟩
abbrev cX11_test : ByteArray := prog_1_method_18_code
def yX11_test : MethodName := ⟨RX11, "test", "(II)I"⟩
abbrev cX11_way : ByteArray := prog_1_method_19_code
def yX11_way : MethodName := ⟨RX11, "way", "(II)I"⟩
abbrev cX11_verdict : ByteArray := prog_1_method_20_code
def yX11_verdict : MethodName := ⟨RX11, "verdict", "(II)I"⟩
abbrev cX11_isEqual : ByteArray := prog_1_method_21_code
def yX11_isEqual : MethodName := ⟨RX11, "isEqual", "()Z"⟩
abbrev cX11_witness : ByteArray := prog_1_method_22_code
def yX11_witness : MethodName := ⟨RX11, "witness", "()I"⟩
abbrev cX11_enough : ByteArray := prog_1_method_23_code
def yX11_enough : MethodName := ⟨RX11, "enough", "(I)I"⟩
abbrev cX11_mutants : ByteArray := prog_1_method_24_code
def yX11_mutants : MethodName := ⟨RX11, "mutants", "(II)I"⟩
abbrev cX11_mutant : ByteArray := prog_1_method_25_code
def yX11_mutant : MethodName := ⟨RX11, "mutant", "(II)I"⟩
abbrev cX11_parts : ByteArray := prog_1_method_26_code
def yX11_parts : MethodName := ⟨RX11, "parts", "(II)I"⟩
abbrev cX11_small : ByteArray := prog_1_method_27_code
def yX11_small : MethodName := ⟨RX11, "small", "(III)I"⟩
abbrev cX11_tree : ByteArray := prog_1_method_28_code
def yX11_tree : MethodName := ⟨RX11, "tree", "(II)I"⟩
abbrev cX11_word : ByteArray := prog_1_method_29_code
def yX11_word : MethodName := ⟨RX11, "word", "(I)I"⟩
abbrev cX11_covered : ByteArray := prog_1_method_30_code
def yX11_covered : MethodName := ⟨RX11, "covered", "(I)I"⟩
abbrev cX11_ask : ByteArray := prog_1_method_31_code
def yX11_ask : MethodName := ⟨RX11, "ask", "(I)J"⟩
abbrev cX11_forget : ByteArray := prog_1_method_32_code
def yX11_forget : MethodName := ⟨RX11, "forget", "()I"⟩
abbrev cX11_suspects : ByteArray := prog_1_method_33_code
def yX11_suspects : MethodName := ⟨RX11, "suspects", "(I)I"⟩
abbrev cX11_suspect : ByteArray := prog_1_method_34_code
def yX11_suspect : MethodName := ⟨RX11, "suspect", "(I)I"⟩
abbrev cX11_next : ByteArray := prog_1_method_35_code
def yX11_next : MethodName := ⟨RX11, "next", "()I"⟩
abbrev cX11_chance : ByteArray := prog_1_method_36_code
def yX11_chance : MethodName := ⟨RX11, "chance", "(II)I"⟩
abbrev cX11_twist : ByteArray := prog_1_method_37_code
def yX11_twist : MethodName := ⟨RX11, "twist", "(IIII)Z"⟩
abbrev cX11_mend : ByteArray := prog_1_method_38_code
def yX11_mend : MethodName := ⟨RX11, "mend", "(II)Z"⟩
abbrev cX11_mutate : ByteArray := prog_1_method_39_code
def yX11_mutate : MethodName := ⟨RX11, "mutate", "(I)Z"⟩
abbrev cX11_undo : ByteArray := prog_1_method_40_code
def yX11_undo : MethodName := ⟨RX11, "undo", "()I"⟩
abbrev cX11_keep : ByteArray := prog_1_method_41_code
def yX11_keep : MethodName := ⟨RX11, "keep", "()I"⟩
abbrev cX11_back : ByteArray := prog_1_method_42_code
def yX11_back : MethodName := ⟨RX11, "back", "()I"⟩
abbrev cX11_count : ByteArray := prog_1_method_43_code
def yX11_count : MethodName := ⟨RX11, "count", "(I)I"⟩
abbrev cX11_isState : ByteArray := prog_1_method_44_code
def yX11_isState : MethodName := ⟨RX11, "isState", "(I)Z"⟩
abbrev cX11_isSuite : ByteArray := prog_1_method_45_code
def yX11_isSuite : MethodName := ⟨RX11, "isSuite", "(I)Z"⟩
abbrev cX11_isPlanned : ByteArray := prog_1_method_46_code
def yX11_isPlanned : MethodName := ⟨RX11, "isPlanned", "(I)Z"⟩
abbrev cX11_isWord : ByteArray := prog_1_method_47_code
def yX11_isWord : MethodName := ⟨RX11, "isWord", "(II)Z"⟩
abbrev cX11_lengthOf : ByteArray := prog_1_method_48_code
def yX11_lengthOf : MethodName := ⟨RX11, "lengthOf", "(I)I"⟩
abbrev cX11_inputAt : ByteArray := prog_1_method_49_code
def yX11_inputAt : MethodName := ⟨RX11, "inputAt", "(II)I"⟩
abbrev cX11_settle : ByteArray := prog_1_method_50_code
def yX11_settle : MethodName := ⟨RX11, "settle", "()V"⟩
abbrev cX11_pastSlot : ByteArray := prog_1_method_51_code
def yX11_pastSlot : MethodName := ⟨RX11, "pastSlot", "()I"⟩
abbrev cX11_remember : ByteArray := prog_1_method_52_code
def yX11_remember : MethodName := ⟨RX11, "remember", "()V"⟩
def RX12 : String := "SuiteBenchModel"
def TX12 : u_T := fun k => match k with
  | 0 => ("SuiteBenchModel", "thrown", "I", false)
  | 1 => ("SuiteBenchModel", "tape", "[I", true)
  | 2 => ("SuiteBenchModel", "taped", "I", false)
  | 3 => ("SuiteBenchModel", "number", "[I", true)
  | 4 => ("SuiteBenchModel", "placeName", "[I", true)
  | 5 => ("SuiteBenchModel", "inputName", "[I", true)
  | 6 => ("SuiteBenchModel", "arcTo", "[I", true)
  | 7 => ("SuiteBenchModel", "arcSays", "[I", true)
  | 8 => ("SuiteBenchModel", "twistTo", "[I", true)
  | 9 => ("SuiteBenchModel", "twistSays", "[I", true)
  | 10 => ("SuiteBenchModel", "lines", "I", false)
  | 11 => ("SuiteBenchModel", "size", "I", false)
  | 12 => ("SuiteBenchModel", "at", "I", false)
  | 13 => ("SuiteBenchModel", "place", "I", false)
  | 14 => ("SuiteBenchModel", "sort", "I", false)
  | 15 => ("SuiteBenchModel", "value", "I", false)
  | 16 => ("SuiteBenchModel", "fault", "I", false)
  | 17 => ("SuiteBenchModel", "faultPlace", "I", false)
  | 18 => ("SuiteBenchModel", "lastFault", "I", false)
  | 19 => ("SuiteBenchModel", "lastPlace", "I", false)
  | 20 => ("SuiteBenchModel", "next", "[I", true)
  | 21 => ("SuiteBenchModel", "says", "[I", true)
  | 22 => ("SuiteBenchModel", "access", "[I", true)
  | 23 => ("SuiteBenchModel", "reached", "I", false)
  | 24 => ("SuiteBenchModel", "pairOf", "[I", true)
  | 25 => ("SuiteBenchModel", "pairWord", "[I", true)
  | 26 => ("SuiteBenchModel", "isMet", "[Z", true)
  | 27 => ("SuiteBenchModel", "parted", "[I", true)
  | 28 => ("SuiteBenchModel", "splitter", "[I", true)
  | 29 => ("SuiteBenchModel", "splitters", "I", false)
  | 30 => ("SuiteBenchModel", "signs", "[I", true)
  | 31 => ("SuiteBenchModel", "hasSigns", "Z", false)
  | 32 => ("SuiteBenchModel", "way", "[I", true)
  | 33 => ("SuiteBenchModel", "wayLong", "[I", true)
  | 34 => ("SuiteBenchModel", "hasWay", "[Z", true)
  | 35 => ("SuiteBenchModel", "isGone", "[Z", true)
  | 36 => ("SuiteBenchModel", "wordTo", "[I", true)
  | 37 => ("SuiteBenchModel", "stand", "I", false)
  | 38 => ("SuiteBenchModel", "tests", "[I", true)
  | 39 => ("SuiteBenchModel", "testMany", "[I", true)
  | 40 => ("SuiteBenchModel", "isBegun", "[Z", true)
  | 41 => ("SuiteBenchModel", "wrongAt", "I", false)
  | 42 => ("SuiteBenchModel", "wrongSays", "I", false)
  | 43 => ("SuiteBenchModel", "mutantState", "I", false)
  | 44 => ("SuiteBenchModel", "mutantInput", "I", false)
  | 45 => ("SuiteBenchModel", "mutantTo", "I", false)
  | 46 => ("SuiteBenchModel", "mutantSays", "I", false)
  | 47 => ("SuiteBenchModel", "mutantSums", "[I", true)
  | 48 => ("SuiteBenchModel", "hasMutants", "[Z", true)
  | 49 => ("SuiteBenchModel", "smallSums", "[I", true)
  | 50 => ("SuiteBenchModel", "hasSmall", "[Z", true)
  | 51 => ("SuiteBenchModel", "known", "[I", true)
  | 52 => ("SuiteBenchModel", "told", "[I", true)
  | 53 => ("SuiteBenchModel", "heard", "[I", true)
  | 54 => ("SuiteBenchModel", "found", "[I", true)
  | 55 => ("SuiteBenchModel", "hasFound", "[Z", true)
  | 56 => ("SuiteBenchModel", "fails", "[J", true)
  | 57 => ("SuiteBenchModel", "stay", "[J", true)
  | 58 => ("SuiteBenchModel", "coveredBy", "[I", true)
  | 59 => ("SuiteBenchModel", "logWord", "[I", true)
  | 60 => ("SuiteBenchModel", "logAnswer", "[J", true)
  | 61 => ("SuiteBenchModel", "logged", "I", false)
  | 62 => ("SuiteBenchModel", "suspected", "[I", true)
  | 63 => ("SuiteBenchModel", "suspects", "I", false)
  | 64 => ("SuiteBenchModel", "answerOf", "[J", true)
  | 65 => ("SuiteBenchModel", "drawn", "I", false)
  | 66 => ("SuiteBenchModel", "kept", "[I", true)
  | 67 => ("SuiteBenchModel", "undoable", "I", false)
  | 68 => ("SuiteBenchModel", "imageLogged", "I", false)
  | _ => ("SuiteBenchModel", "hasImage", "Z", false)
def tyX12 : Nat → FieldType := fun k => match k with
  | 0 => .int
  | 1 => .array .int
  | 2 => .int
  | 3 => .array .int
  | 4 => .array .int
  | 5 => .array .int
  | 6 => .array .int
  | 7 => .array .int
  | 8 => .array .int
  | 9 => .array .int
  | 10 => .int
  | 11 => .int
  | 12 => .int
  | 13 => .int
  | 14 => .int
  | 15 => .int
  | 16 => .int
  | 17 => .int
  | 18 => .int
  | 19 => .int
  | 20 => .array .int
  | 21 => .array .int
  | 22 => .array .int
  | 23 => .int
  | 24 => .array .int
  | 25 => .array .int
  | 26 => .array .boolean
  | 27 => .array .int
  | 28 => .array .int
  | 29 => .int
  | 30 => .array .int
  | 31 => .boolean
  | 32 => .array .int
  | 33 => .array .int
  | 34 => .array .boolean
  | 35 => .array .boolean
  | 36 => .array .int
  | 37 => .int
  | 38 => .array .int
  | 39 => .array .int
  | 40 => .array .boolean
  | 41 => .int
  | 42 => .int
  | 43 => .int
  | 44 => .int
  | 45 => .int
  | 46 => .int
  | 47 => .array .int
  | 48 => .array .boolean
  | 49 => .array .int
  | 50 => .array .boolean
  | 51 => .array .int
  | 52 => .array .int
  | 53 => .array .int
  | 54 => .array .int
  | 55 => .array .boolean
  | 56 => .array .long
  | 57 => .array .long
  | 58 => .array .int
  | 59 => .array .int
  | 60 => .array .long
  | 61 => .int
  | 62 => .array .int
  | 63 => .int
  | 64 => .array .long
  | 65 => .int
  | 66 => .array .int
  | 67 => .int
  | 68 => .int
  | _ => .boolean
abbrev wsX120 : List Cond := u_ws RX12 TX12 70
theorem nmX12 : ∀ a, a < 70 → ∀ b, b < 70 → a ≠ b → (TX12 a).2.1 ≠ (TX12 b).2.1 := by decide +kernel
theorem tyX12_ok : ∀ k, k < 70 → parseFieldDescriptor (TX12 k).2.2.1 = some (tyX12 k) := by decide +kernel
abbrev cX12_init : ByteArray := prog_14_method_1_code
def yX12_init : MethodName := ⟨RX12, "<init>", "()V"⟩
abbrev cX12_thrown : ByteArray := prog_14_method_2_code
def yX12_thrown : MethodName := ⟨RX12, "thrown", "()I"⟩
abbrev cX12_feed : ByteArray := prog_14_method_3_code
def yX12_feed : MethodName := ⟨RX12, "feed", "(IIIII)I"⟩
abbrev cX12_here : ByteArray := prog_14_method_4_code
def yX12_here : MethodName := ⟨RX12, "here", "()I"⟩
abbrev cX12_isSmall : ByteArray := prog_14_method_5_code
def yX12_isSmall : MethodName := ⟨RX12, "isSmall", "(I)Z"⟩
abbrev cX12_isDigit : ByteArray := prog_14_method_6_code
def yX12_isDigit : MethodName := ⟨RX12, "isDigit", "(I)Z"⟩
abbrev cX12_token : ByteArray := prog_14_method_7_code
def yX12_token : MethodName := ⟨RX12, "token", "()V"⟩
abbrev cX12_wordHere : ByteArray := prog_14_method_8_code
def yX12_wordHere : MethodName := ⟨RX12, "wordHere", "()I"⟩
abbrev cX12_nameHere : ByteArray := prog_14_method_9_code
def yX12_nameHere : MethodName := ⟨RX12, "nameHere", "()V"⟩
abbrev cX12_wrong : ByteArray := prog_14_method_10_code
def yX12_wrong : MethodName := ⟨RX12, "wrong", "(I)V"⟩
abbrev cX12_isWord : ByteArray := prog_14_method_11_code
def yX12_isWord : MethodName := ⟨RX12, "isWord", "(I)Z"⟩
abbrev cX12_goOn : ByteArray := prog_14_method_12_code
def yX12_goOn : MethodName := ⟨RX12, "goOn", "()V"⟩
abbrev cX12_numeral : ByteArray := prog_14_method_13_code
def yX12_numeral : MethodName := ⟨RX12, "numeral", "(I)I"⟩
abbrev cX12_reading : ByteArray := prog_14_method_14_code
def yX12_reading : MethodName := ⟨RX12, "reading", "(I)I"⟩
abbrev cX12_readPlaces : ByteArray := prog_14_method_15_code
def yX12_readPlaces : MethodName := ⟨RX12, "readPlaces", "()I"⟩
abbrev cX12_found : ByteArray := prog_14_method_16_code
def yX12_found : MethodName := ⟨RX12, "found", "([IIII)I"⟩
abbrev cX12_fresh : ByteArray := prog_14_method_17_code
def yX12_fresh : MethodName := ⟨RX12, "fresh", "()I"⟩
abbrev cX12_atHand : ByteArray := prog_14_method_18_code
def yX12_atHand : MethodName := ⟨RX12, "atHand", "(ZI)I"⟩
abbrev cX12_readState : ByteArray := prog_14_method_19_code
def yX12_readState : MethodName := ⟨RX12, "readState", "()V"⟩
abbrev cX12_readInput : ByteArray := prog_14_method_20_code
def yX12_readInput : MethodName := ⟨RX12, "readInput", "()V"⟩
abbrev cX12_readMore : ByteArray := prog_14_method_21_code
def yX12_readMore : MethodName := ⟨RX12, "readMore", "()V"⟩
abbrev cX12_readArc : ByteArray := prog_14_method_22_code
def yX12_readArc : MethodName := ⟨RX12, "readArc", "(Z)V"⟩
abbrev cX12_readOnce : ByteArray := prog_14_method_23_code
def yX12_readOnce : MethodName := ⟨RX12, "readOnce", "(II)V"⟩
abbrev cX12_readLine : ByteArray := prog_14_method_24_code
def yX12_readLine : MethodName := ⟨RX12, "readLine", "()V"⟩
abbrev cX12_readText : ByteArray := prog_14_method_25_code
def yX12_readText : MethodName := ⟨RX12, "readText", "(I)V"⟩
abbrev cX12_takeText : ByteArray := prog_14_method_26_code
def yX12_takeText : MethodName := ⟨RX12, "takeText", "()V"⟩
abbrev cX12_text : ByteArray := prog_14_method_27_code
def yX12_text : MethodName := ⟨RX12, "text", "(I)I"⟩
abbrev cX12_fault : ByteArray := prog_14_method_28_code
def yX12_fault : MethodName := ⟨RX12, "fault", "(I)I"⟩
abbrev cX12_states : ByteArray := prog_14_method_29_code
def yX12_states : MethodName := ⟨RX12, "states", "()I"⟩
abbrev cX12_inputs : ByteArray := prog_14_method_30_code
def yX12_inputs : MethodName := ⟨RX12, "inputs", "()I"⟩
abbrev cX12_places : ByteArray := prog_14_method_31_code
def yX12_places : MethodName := ⟨RX12, "places", "()I"⟩
abbrev cX12_extra : ByteArray := prog_14_method_32_code
def yX12_extra : MethodName := ⟨RX12, "extra", "()I"⟩
abbrev cX12_named : ByteArray := prog_14_method_33_code
def yX12_named : MethodName := ⟨RX12, "named", "(I)I"⟩
abbrev cX12_lays : ByteArray := prog_14_method_34_code
def yX12_lays : MethodName := ⟨RX12, "lays", "()V"⟩
abbrev cX12_long1 : ByteArray := prog_14_method_35_code
def yX12_long1 : MethodName := ⟨RX12, "long1", "(I)I"⟩
abbrev cX12_inputAt : ByteArray := prog_14_method_36_code
def yX12_inputAt : MethodName := ⟨RX12, "inputAt", "(III)I"⟩
abbrev cX12_isWordNumber : ByteArray := prog_14_method_37_code
def yX12_isWordNumber : MethodName := ⟨RX12, "isWordNumber", "(I)Z"⟩
abbrev cX12_leadsTo : ByteArray := prog_14_method_38_code
def yX12_leadsTo : MethodName := ⟨RX12, "leadsTo", "(III)I"⟩
abbrev cX12_answers : ByteArray := prog_14_method_39_code
def yX12_answers : MethodName := ⟨RX12, "answers", "(III)J"⟩
abbrev cX12_isState : ByteArray := prog_14_method_40_code
def yX12_isState : MethodName := ⟨RX12, "isState", "(I)Z"⟩
abbrev cX12_isPlace : ByteArray := prog_14_method_41_code
def yX12_isPlace : MethodName := ⟨RX12, "isPlace", "(I)Z"⟩
abbrev cX12_isInput : ByteArray := prog_14_method_42_code
def yX12_isInput : MethodName := ⟨RX12, "isInput", "(I)Z"⟩
abbrev cX12_arc : ByteArray := prog_14_method_43_code
def yX12_arc : MethodName := ⟨RX12, "arc", "(III)I"⟩
abbrev cX12_built : ByteArray := prog_14_method_44_code
def yX12_built : MethodName := ⟨RX12, "built", "(III)I"⟩
abbrev cX12_answer : ByteArray := prog_14_method_45_code
def yX12_answer : MethodName := ⟨RX12, "answer", "(II)J"⟩
abbrev cX12_leads : ByteArray := prog_14_method_46_code
def yX12_leads : MethodName := ⟨RX12, "leads", "(II)I"⟩
abbrev cX12_answerBuilt : ByteArray := prog_14_method_47_code
def yX12_answerBuilt : MethodName := ⟨RX12, "answerBuilt", "(I)J"⟩
abbrev cX12_isReached : ByteArray := prog_14_method_48_code
def yX12_isReached : MethodName := ⟨RX12, "isReached", "(I)Z"⟩
abbrev cX12_laysAccess : ByteArray := prog_14_method_49_code
def yX12_laysAccess : MethodName := ⟨RX12, "laysAccess", "()V"⟩
abbrev cX12_unlike : ByteArray := prog_14_method_50_code
def yX12_unlike : MethodName := ⟨RX12, "unlike", "(IIII)I"⟩
abbrev cX12_laysSeparators : ByteArray := prog_14_method_51_code
def yX12_laysSeparators : MethodName := ⟨RX12, "laysSeparators", "()V"⟩
abbrev cX12_kindOf : ByteArray := prog_14_method_52_code
def yX12_kindOf : MethodName := ⟨RX12, "kindOf", "(I)I"⟩
abbrev cX12_access : ByteArray := prog_14_method_53_code
def yX12_access : MethodName := ⟨RX12, "access", "(I)I"⟩
abbrev cX12_kind : ByteArray := prog_14_method_54_code
def yX12_kind : MethodName := ⟨RX12, "kind", "(I)I"⟩
abbrev cX12_separator : ByteArray := prog_14_method_55_code
def yX12_separator : MethodName := ⟨RX12, "separator", "(II)I"⟩
abbrev cX12_kinds : ByteArray := prog_14_method_56_code
def yX12_kinds : MethodName := ⟨RX12, "kinds", "()I"⟩
abbrev cX12_isSplit : ByteArray := prog_14_method_57_code
def yX12_isSplit : MethodName := ⟨RX12, "isSplit", "(II)Z"⟩
abbrev cX12_laysSplitters : ByteArray := prog_14_method_58_code
def yX12_laysSplitters : MethodName := ⟨RX12, "laysSplitters", "()V"⟩
abbrev cX12_markAbove : ByteArray := prog_14_method_59_code
def yX12_markAbove : MethodName := ⟨RX12, "markAbove", "(II)I"⟩
abbrev cX12_splitter : ByteArray := prog_14_method_60_code
def yX12_splitter : MethodName := ⟨RX12, "splitter", "(I)I"⟩
abbrev cX12_mark : ByteArray := prog_14_method_61_code
def yX12_mark : MethodName := ⟨RX12, "mark", "(II)I"⟩
abbrev cX12_after : ByteArray := prog_14_method_62_code
def yX12_after : MethodName := ⟨RX12, "after", "(I)I"⟩
abbrev cX12_isSign : ByteArray := prog_14_method_63_code
def yX12_isSign : MethodName := ⟨RX12, "isSign", "(II)Z"⟩
abbrev cX12_laysSigns : ByteArray := prog_14_method_64_code
def yX12_laysSigns : MethodName := ⟨RX12, "laysSigns", "()V"⟩
abbrev cX12_sign : ByteArray := prog_14_method_65_code
def yX12_sign : MethodName := ⟨RX12, "sign", "(I)I"⟩
abbrev cX12_goes : ByteArray := prog_14_method_66_code
def yX12_goes : MethodName := ⟨RX12, "goes", "(II)V"⟩
abbrev cX12_wordToGo : ByteArray := prog_14_method_67_code
def yX12_wordToGo : MethodName := ⟨RX12, "wordToGo", "()I"⟩
abbrev cX12_laysWay : ByteArray := prog_14_method_68_code
def yX12_laysWay : MethodName := ⟨RX12, "laysWay", "(I)V"⟩
abbrev cX12_way : ByteArray := prog_14_method_69_code
def yX12_way : MethodName := ⟨RX12, "way", "(II)I"⟩
abbrev cX12_testAt : ByteArray := prog_14_method_70_code
def yX12_testAt : MethodName := ⟨RX12, "testAt", "(II)I"⟩
abbrev cX12_placeFor : ByteArray := prog_14_method_71_code
def yX12_placeFor : MethodName := ⟨RX12, "placeFor", "(II)I"⟩
abbrev cX12_adds : ByteArray := prog_14_method_72_code
def yX12_adds : MethodName := ⟨RX12, "adds", "(II)V"⟩
abbrev cX12_behind : ByteArray := prog_14_method_73_code
def yX12_behind : MethodName := ⟨RX12, "behind", "(II)I"⟩
abbrev cX12_addsHead : ByteArray := prog_14_method_74_code
def yX12_addsHead : MethodName := ⟨RX12, "addsHead", "(II)V"⟩
abbrev cX12_drops : ByteArray := prog_14_method_75_code
def yX12_drops : MethodName := ⟨RX12, "drops", "(I)V"⟩
abbrev cX12_laysSuite : ByteArray := prog_14_method_76_code
def yX12_laysSuite : MethodName := ⟨RX12, "laysSuite", "(I)V"⟩
abbrev cX12_suiteOf : ByteArray := prog_14_method_77_code
def yX12_suiteOf : MethodName := ⟨RX12, "suiteOf", "(I)I"⟩
abbrev cX12_isOne : ByteArray := prog_14_method_78_code
def yX12_isOne : MethodName := ⟨RX12, "isOne", "(I)Z"⟩
abbrev cX12_testsOf : ByteArray := prog_14_method_79_code
def yX12_testsOf : MethodName := ⟨RX12, "testsOf", "(I)I"⟩
abbrev cX12_longOf : ByteArray := prog_14_method_80_code
def yX12_longOf : MethodName := ⟨RX12, "longOf", "(II)I"⟩
abbrev cX12_suite : ByteArray := prog_14_method_81_code
def yX12_suite : MethodName := ⟨RX12, "suite", "(II)I"⟩
abbrev cX12_test : ByteArray := prog_14_method_82_code
def yX12_test : MethodName := ⟨RX12, "test", "(II)I"⟩
abbrev cX12_isPassed : ByteArray := prog_14_method_83_code
def yX12_isPassed : MethodName := ⟨RX12, "isPassed", "(II)Z"⟩
abbrev cX12_isWayPassed : ByteArray := prog_14_method_84_code
def yX12_isWayPassed : MethodName := ⟨RX12, "isWayPassed", "(II)Z"⟩
abbrev cX12_isTestPassed : ByteArray := prog_14_method_85_code
def yX12_isTestPassed : MethodName := ⟨RX12, "isTestPassed", "(III)Z"⟩
abbrev cX12_doesFail : ByteArray := prog_14_method_86_code
def yX12_doesFail : MethodName := ⟨RX12, "doesFail", "(II)Z"⟩
abbrev cX12_laysWrong : ByteArray := prog_14_method_87_code
def yX12_laysWrong : MethodName := ⟨RX12, "laysWrong", "(I)V"⟩
abbrev cX12_verdict : ByteArray := prog_14_method_88_code
def yX12_verdict : MethodName := ⟨RX12, "verdict", "(II)I"⟩
abbrev cX12_isEqual : ByteArray := prog_14_method_89_code
def yX12_isEqual : MethodName := ⟨RX12, "isEqual", "()Z"⟩
abbrev cX12_witness : ByteArray := prog_14_method_90_code
def yX12_witness : MethodName := ⟨RX12, "witness", "()I"⟩
abbrev cX12_enough : ByteArray := prog_14_method_91_code
def yX12_enough : MethodName := ⟨RX12, "enough", "(I)I"⟩
abbrev cX12_top : ByteArray := prog_14_method_92_code
def yX12_top : MethodName := ⟨RX12, "top", "()I"⟩
abbrev cX12_mutantMany : ByteArray := prog_14_method_93_code
def yX12_mutantMany : MethodName := ⟨RX12, "mutantMany", "()I"⟩
abbrev cX12_tellsMutant : ByteArray := prog_14_method_94_code
def yX12_tellsMutant : MethodName := ⟨RX12, "tellsMutant", "(I)V"⟩
abbrev cX12_laysMutant : ByteArray := prog_14_method_95_code
def yX12_laysMutant : MethodName := ⟨RX12, "laysMutant", "(II)V"⟩
abbrev cX12_laysMutants : ByteArray := prog_14_method_96_code
def yX12_laysMutants : MethodName := ⟨RX12, "laysMutants", "(I)V"⟩
abbrev cX12_mutants : ByteArray := prog_14_method_97_code
def yX12_mutants : MethodName := ⟨RX12, "mutants", "(II)I"⟩
abbrev cX12_isMutant : ByteArray := prog_14_method_98_code
def yX12_isMutant : MethodName := ⟨RX12, "isMutant", "(I)Z"⟩
abbrev cX12_mutant : ByteArray := prog_14_method_99_code
def yX12_mutant : MethodName := ⟨RX12, "mutant", "(II)I"⟩
abbrev cX12_parts : ByteArray := prog_14_method_100_code
def yX12_parts : MethodName := ⟨RX12, "parts", "(II)I"⟩
abbrev cX12_smallMany : ByteArray := prog_14_method_101_code
def yX12_smallMany : MethodName := ⟨RX12, "smallMany", "(I)I"⟩
abbrev cX12_laysSmallOne : ByteArray := prog_14_method_102_code
def yX12_laysSmallOne : MethodName := ⟨RX12, "laysSmallOne", "(II)V"⟩
abbrev cX12_laysSmall : ByteArray := prog_14_method_103_code
def yX12_laysSmall : MethodName := ⟨RX12, "laysSmall", "(II)V"⟩
abbrev cX12_small : ByteArray := prog_14_method_104_code
def yX12_small : MethodName := ⟨RX12, "small", "(III)I"⟩
abbrev cX12_leftAt : ByteArray := prog_14_method_105_code
def yX12_leftAt : MethodName := ⟨RX12, "leftAt", "(I)I"⟩
abbrev cX12_answersSo : ByteArray := prog_14_method_106_code
def yX12_answersSo : MethodName := ⟨RX12, "answersSo", "(I)I"⟩
abbrev cX12_isTree : ByteArray := prog_14_method_107_code
def yX12_isTree : MethodName := ⟨RX12, "isTree", "(I)Z"⟩
abbrev cX12_tree : ByteArray := prog_14_method_108_code
def yX12_tree : MethodName := ⟨RX12, "tree", "(II)I"⟩
abbrev cX12_isOf : ByteArray := prog_14_method_109_code
def yX12_isOf : MethodName := ⟨RX12, "isOf", "(II)Z"⟩
abbrev cX12_word : ByteArray := prog_14_method_110_code
def yX12_word : MethodName := ⟨RX12, "word", "(I)I"⟩
abbrev cX12_bits : ByteArray := prog_14_method_111_code
def yX12_bits : MethodName := ⟨RX12, "bits", "(J)I"⟩
abbrev cX12_newBy : ByteArray := prog_14_method_112_code
def yX12_newBy : MethodName := ⟨RX12, "newBy", "(I)I"⟩
abbrev cX12_laysFails : ByteArray := prog_14_method_113_code
def yX12_laysFails : MethodName := ⟨RX12, "laysFails", "(I)V"⟩
abbrev cX12_covered : ByteArray := prog_14_method_114_code
def yX12_covered : MethodName := ⟨RX12, "covered", "(I)I"⟩
abbrev cX12_ask : ByteArray := prog_14_method_115_code
def yX12_ask : MethodName := ⟨RX12, "ask", "(I)J"⟩
abbrev cX12_forget : ByteArray := prog_14_method_116_code
def yX12_forget : MethodName := ⟨RX12, "forget", "()I"⟩
abbrev cX12_isSuspected : ByteArray := prog_14_method_117_code
def yX12_isSuspected : MethodName := ⟨RX12, "isSuspected", "(I)Z"⟩
abbrev cX12_laysSuspects : ByteArray := prog_14_method_118_code
def yX12_laysSuspects : MethodName := ⟨RX12, "laysSuspects", "()V"⟩
abbrev cX12_suspects : ByteArray := prog_14_method_119_code
def yX12_suspects : MethodName := ⟨RX12, "suspects", "(I)I"⟩
abbrev cX12_suspect : ByteArray := prog_14_method_120_code
def yX12_suspect : MethodName := ⟨RX12, "suspect", "(I)I"⟩
abbrev cX12_greatestGroup : ByteArray := prog_14_method_121_code
def yX12_greatestGroup : MethodName := ⟨RX12, "greatestGroup", "(I)I"⟩
abbrev cX12_laysAnswers : ByteArray := prog_14_method_122_code
def yX12_laysAnswers : MethodName := ⟨RX12, "laysAnswers", "(II)V"⟩
abbrev cX12_next : ByteArray := prog_14_method_123_code
def yX12_next : MethodName := ⟨RX12, "next", "()I"⟩
abbrev cX12_draw : ByteArray := prog_14_method_124_code
def yX12_draw : MethodName := ⟨RX12, "draw", "(I)I"⟩
abbrev cX12_chance : ByteArray := prog_14_method_125_code
def yX12_chance : MethodName := ⟨RX12, "chance", "(II)I"⟩
abbrev cX12_copies : ByteArray := prog_14_method_126_code
def yX12_copies : MethodName := ⟨RX12, "copies", "(IZ)V"⟩
abbrev cX12_remembers : ByteArray := prog_14_method_127_code
def yX12_remembers : MethodName := ⟨RX12, "remembers", "()V"⟩
abbrev cX12_twist : ByteArray := prog_14_method_128_code
def yX12_twist : MethodName := ⟨RX12, "twist", "(IIII)Z"⟩
abbrev cX12_mend : ByteArray := prog_14_method_129_code
def yX12_mend : MethodName := ⟨RX12, "mend", "(II)Z"⟩
abbrev cX12_mutate : ByteArray := prog_14_method_130_code
def yX12_mutate : MethodName := ⟨RX12, "mutate", "(I)Z"⟩
abbrev cX12_undo : ByteArray := prog_14_method_131_code
def yX12_undo : MethodName := ⟨RX12, "undo", "()I"⟩
abbrev cX12_keep : ByteArray := prog_14_method_132_code
def yX12_keep : MethodName := ⟨RX12, "keep", "()I"⟩
abbrev cX12_back : ByteArray := prog_14_method_133_code
def yX12_back : MethodName := ⟨RX12, "back", "()I"⟩
abbrev cX12_forgets : ByteArray := prog_14_method_134_code
def yX12_forgets : MethodName := ⟨RX12, "forgets", "()V"⟩
abbrev cX12_twisted : ByteArray := prog_14_method_135_code
def yX12_twisted : MethodName := ⟨RX12, "twisted", "()I"⟩
abbrev cX12_builtReached : ByteArray := prog_14_method_136_code
def yX12_builtReached : MethodName := ⟨RX12, "builtReached", "()I"⟩
abbrev cX12_count : ByteArray := prog_14_method_137_code
def yX12_count : MethodName := ⟨RX12, "count", "(I)I"⟩
def RJx145de : String := "java/io/Serializable"
def RJx9f9b0 : String := "java/lang/CharSequence"
def RJxb160c : String := "java/lang/Comparable"
def RJ6 : String := "java/lang/Integer"
abbrev cJ6_bitCount_0f7a4 : ByteArray := prog_20_method_49_code
def yJ6_bitCount_0f7a4 : MethodName := ⟨RJ6, "bitCount", "(I)I"⟩
def RJ9 : String := "java/lang/Math"
abbrev cJ9_max_7cf53 : ByteArray := prog_21_method_65_code
def yJ9_max_7cf53 : MethodName := ⟨RJ9, "max", "(II)I"⟩
abbrev cJ9_min_7cf53 : ByteArray := prog_21_method_69_code
def yJ9_min_7cf53 : MethodName := ⟨RJ9, "min", "(II)I"⟩
def RJ0 : String := "java/lang/String"
abbrev cJ0_length_8abf5 : ByteArray := prog_23_method_54_code
def yJ0_length_8abf5 : MethodName := ⟨RJ0, "length", "()I"⟩
abbrev cJ0_charAt_5068e : ByteArray := prog_23_method_56_code
def yJ0_charAt_5068e : MethodName := ⟨RJ0, "charAt", "(I)C"⟩
abbrev cJ0_coder_7d493 : ByteArray := prog_23_method_152_code
def yJ0_coder_7d493 : MethodName := ⟨RJ0, "coder", "()B"⟩
abbrev cJ0_isLatin1_aae02 : ByteArray := prog_23_method_154_code
def yJ0_isLatin1_aae02 : MethodName := ⟨RJ0, "isLatin1", "()Z"⟩
abbrev cJ0_checkIndex_df160 : ByteArray := prog_23_method_155_code
def yJ0_checkIndex_df160 : MethodName := ⟨RJ0, "checkIndex", "(II)V"⟩
def RJ1 : String := "java/lang/StringLatin1"
abbrev cJ1_charAt_3b067 : ByteArray := prog_24_method_2_code
def yJ1_charAt_3b067 : MethodName := ⟨RJ1, "charAt", "([BI)C"⟩
def RJ2 : String := "java/lang/StringUTF16"
abbrev cJ2_getChar_3b067 : ByteArray := prog_25_method_5_code
def yJ2_getChar_3b067 : MethodName := ⟨RJ2, "getChar", "([BI)C"⟩
abbrev cJ2_length_9d52b : ByteArray := prog_25_method_6_code
def yJ2_length_9d52b : MethodName := ⟨RJ2, "length", "([B)I"⟩
abbrev cJ2_charAt_3b067 : ByteArray := prog_25_method_83_code
def yJ2_charAt_3b067 : MethodName := ⟨RJ2, "charAt", "([BI)C"⟩
abbrev cJ2_checkIndex_2214a : ByteArray := prog_25_method_91_code
def yJ2_checkIndex_2214a : MethodName := ⟨RJ2, "checkIndex", "(I[B)V"⟩
def RJ10 : String := "java/lang/System"
def RJxfd54e : String := "java/lang/constant/Constable"
def RJx3cf43 : String := "java/lang/constant/ConstantDesc"
def RJ7 : String := "java/util/Arrays"
abbrev cJ7_fill_53178 : ByteArray := prog_30_method_103_code
def yJ7_fill_53178 : MethodName := ⟨RJ7, "fill", "([II)V"⟩
def RJ3 : String := "jdk/internal/util/Preconditions"
abbrev cJ3_checkIndex_8e157 : ByteArray := prog_32_method_11_code
def yJ3_checkIndex_8e157 : MethodName := ⟨RJ3, "checkIndex", "(IILjava/util/function/BiFunction;)I"⟩
def yL_arc : MethodName := ⟨RL, "arc", "(LSuiteBench;III[J)I"⟩
def yL_law : MethodName := ⟨RL, "law", "([I)Z"⟩
abbrev vwCl : List vw_C := [(RX0, TX0, 3), (RX1, TX1, 4), (RX2, TX2, 16), (RX3, TX3, 12), (RX4, TX4, 10), (RX5, TX5, 11), (RX6, TX6, 12), (RX7, TX7, 18), (RX8, TX8, 10), (RX9, TX9, 12), (RX10, TX10, 6), (RX11, TX11, 16), (RX12, TX12, 70)]
end
section
theorem iw_0 : ∀ w ∈ wsX00, w ∈ lw_tbl := by decide +kernel
theorem iw_1 : ∀ w ∈ wsX10, w ∈ lw_tbl := by decide +kernel
theorem iw_2 : ∀ w ∈ wsX20, w ∈ lw_tbl := by decide +kernel
theorem iw_3 : ∀ w ∈ wsX30, w ∈ lw_tbl := by decide +kernel
theorem iw_4 : ∀ w ∈ wsX40, w ∈ lw_tbl := by decide +kernel
theorem iw_5 : ∀ w ∈ wsX50, w ∈ lw_tbl := by decide +kernel
theorem iw_6 : ∀ w ∈ wsX60, w ∈ lw_tbl := by decide +kernel
theorem iw_7 : ∀ w ∈ wsX70, w ∈ lw_tbl := by decide +kernel
theorem iw_8 : ∀ w ∈ wsX80, w ∈ lw_tbl := by decide +kernel
theorem iw_9 : ∀ w ∈ wsX90, w ∈ lw_tbl := by decide +kernel
theorem iw_10 : ∀ w ∈ wsX100, w ∈ lw_tbl := by decide +kernel
theorem iw_11 : ∀ w ∈ wsX110, w ∈ lw_tbl := by decide +kernel
theorem iw_12 : ∀ w ∈ wsX120, w ∈ lw_tbl := by decide +kernel
end
section
/-! A small machine of its own over whole numbers: values with a tag, cells in order of making. Tags: 0 int, 1 long, 2 reference (the cell's number, -1: null), 4 an int array from outside, 5 a text. -/
abbrev AV := Nat × Int
abbrev HP := Int → Int → Int
abbrev KP := Nat → List (Option AV) → List AV → Nat → HP → HP → Prop
abbrev RP := AV → Nat → HP → HP → Prop
abbrev SP := List AV → Nat → HP → HP → RP → Prop
/-- pc, the instruction, its length, four numbers of its own, a number, targets -/
abbrev CI := Nat × Instr × Nat × Nat × Nat × Nat × Nat × Int × List (Int × Nat)
def ai_nth {α : Type} : List α → Nat → Option α
  | [], _ => none
  | a :: _, 0 => some a
  | _ :: l, k + 1 => ai_nth l k
def ai_set {α : Type} : List α → Nat → α → List α
  | [], _, _ => []
  | _ :: l, 0, v => v :: l
  | a :: l, k + 1, v => a :: ai_set l k v
/-- the shapes: kind (a class's place, or 50 int, 51 long, 52 boolean, 53 byte, 54 Tests), length -/
def ai_shl : List (Nat × Nat) := [(11, 16), (4, 10), (53, 700), (3, 12), (50, 8), (50, 3), (50, 24), (50, 24), (3, 12), (50, 8), (50, 3), (50, 24), (50, 24), (1, 4), (50, 24), (50, 24), (1, 4), (50, 24), (50, 24), (9, 12), (50, 6), (50, 36), (50, 6), (50, 6), (50, 36), (50, 6), (50, 6), (5, 11), (50, 3280), (50, 3280), (50, 8192), (50, 6), (50, 3), (50, 64), (50, 64), (6, 12), (54, 8), (50, 13650), (50, 4550), (50, 4550), (50, 4550), (50, 240), (10, 6), (50, 6), (50, 6), (50, 4550), (8, 10), (50, 494), (50, 494), (50, 494), (50, 95), (50, 95), (50, 95), (8, 10), (50, 494), (50, 494), (50, 494), (50, 95), (50, 95), (50, 95), (8, 10), (50, 1508), (50, 1508), (50, 1508), (50, 290), (50, 290), (50, 290), (8, 10), (50, 1508), (50, 1508), (50, 1508), (50, 290), (50, 290), (50, 290), (8, 10), (50, 4550), (50, 4550), (50, 4550), (50, 875), (50, 875), (50, 875), (8, 10), (50, 4550), (50, 4550), (50, 4550), (50, 875), (50, 875), (50, 875), (8, 10), (50, 253), (50, 253), (50, 253), (50, 1), (50, 1), (50, 1), (8, 10), (50, 253), (50, 253), (50, 253), (50, 1), (50, 1), (50, 1), (2, 16), (1, 4), (50, 24), (50, 24), (1, 4), (50, 24), (50, 24), (50, 252), (52, 252), (50, 4), (50, 4), (50, 2), (50, 4), (50, 4), (50, 7000), (50, 8), (0, 3), (50, 20), (51, 20), (7, 18), (1, 4), (50, 24), (50, 24), (50, 253), (50, 40), (50, 16), (50, 640), (50, 640), (50, 400), (50, 400), (50, 40), (50, 480), (50, 24), (0, 3), (50, 20), (51, 20), (12, 70), (50, 700), (50, 10), (50, 16), (50, 6), (50, 36), (50, 36), (50, 48), (50, 48), (50, 96), (50, 96), (50, 6), (50, 64), (50, 64), (52, 64), (50, 36), (50, 16), (50, 6), (50, 800), (50, 2), (52, 2), (52, 18), (50, 6), (50, 7800), (50, 6), (52, 1300), (50, 16), (52, 4), (50, 12), (52, 4), (50, 54), (50, 9), (50, 9), (50, 3), (52, 3), (51, 5200), (51, 4), (50, 2), (50, 40), (51, 40), (50, 253), (51, 40), (50, 1008), (51, 1)]
def ai_k (x : Int) : Nat := ((ai_nth ai_shl x.toNat).getD (99, 0)).1
def ai_l (x : Int) : Int := (((ai_nth ai_shl x.toNat).getD (99, 0)).2 : Int)
def ai_ok (n : Nat) (x : Int) (k : Nat) : Prop := 0 ≤ x ∧ x < (n : Int) ∧ ai_k x = k
def ai_up (h : HP) (x i v : Int) : HP := fun c j => if c = x ∧ j = i then v else h c j
def ai_cl (h : HP) (x v : Int) : HP := fun c j => if c = x then v else h c j
def ai_cp (h : HP) (s sp d dp len : Int) : HP := fun c j => if c = d ∧ dp ≤ j ∧ j < dp + len then h s (sp + (j - dp)) else h c j
def w32 (x : Int) : Int := (Int32.ofInt x).toInt
def w64 (x : Int) : Int := (Int64.ofInt x).toInt
def i_div (x y : Int) : Int := (Int32.ofInt x / Int32.ofInt y).toInt
def i_rem (x y : Int) : Int := (Int32.ofInt x - Int32.ofInt x / Int32.ofInt y * Int32.ofInt y).toInt
def i_and (x y : Int) : Int := (Int32.ofInt x &&& Int32.ofInt y).toInt
def i_or (x y : Int) : Int := (Int32.ofInt x ||| Int32.ofInt y).toInt
def i_xor (x y : Int) : Int := (Int32.ofInt x ^^^ Int32.ofInt y).toInt
def i_shl (x y : Int) : Int := (Int32.ofInt x <<< (Int32.ofInt y &&& 31)).toInt
def i_shr (x y : Int) : Int := (Int32.ofInt x >>> (Int32.ofInt y &&& 31)).toInt
def i_ushr (x y : Int) : Int := ((Int32.ofInt x).toUInt32 >>> ((Int32.ofInt y).toUInt32 &&& Int32.toUInt32 31)).toInt32.toInt
def i_b8 (x : Int) : Int := (Int32.ofInt x).toInt8.toInt32.toInt
def l_and (x y : Int) : Int := (Int64.ofInt x &&& Int64.ofInt y).toInt
def l_or (x y : Int) : Int := (Int64.ofInt x ||| Int64.ofInt y).toInt
def l_xor (x y : Int) : Int := (Int64.ofInt x ^^^ Int64.ofInt y).toInt
def l_shl (x y : Int) : Int := (Int64.ofInt x <<< ((Int32.ofInt y).toInt64 &&& 63)).toInt
def l_cmp (x y : Int) : Int := if x < y then -1 else if x = y then 0 else 1
/-- a long's second half goes when its first place is written anew -/
def ai_clr (L : List (Option AV)) (i : Nat) : List (Option AV) := match ai_nth L i with
  | some (some (1, _)) => ai_set L i none
  | _ => L
def ai_clp (L : List (Option AV)) : Nat → List (Option AV)
  | 0 => L
  | k + 1 => ai_clr L k
def ai_ist (L : List (Option AV)) (i : Nat) (v : AV) : List (Option AV) := ai_set (ai_clp L i) i (some v)
def ai_lst (L : List (Option AV)) (i : Nat) (v : AV) : List (Option AV) := ai_set (ai_set (ai_clp L i) i (some v)) (i + 1) none
def ai_lint (L : List (Option AV)) (i : Nat) (k : Int → Prop) : Prop := match ai_nth L i with
  | some (some (0, x)) => k x
  | _ => False
def ai_llong (L : List (Option AV)) (i : Nat) (k : Int → Prop) : Prop := match ai_nth L i with
  | some (some (1, x)) => k x
  | _ => False
def ai_lref (L : List (Option AV)) (i : Nat) (k : AV → Prop) : Prop := match ai_nth L i with
  | some (some (2, x)) => k (2, x)
  | some (some (4, x)) => k (4, x)
  | _ => False
def ai_i1 (S : List AV) (k : Int → List AV → Prop) : Prop := match S with
  | (0, x) :: R => k x R
  | _ => False
def ai_i2 (S : List AV) (k : Int → Int → List AV → Prop) : Prop := match S with
  | (0, y) :: (0, x) :: R => k x y R
  | _ => False
def ai_l1 (S : List AV) (k : Int → List AV → Prop) : Prop := match S with
  | (1, x) :: R => k x R
  | _ => False
def ai_l2 (S : List AV) (k : Int → Int → List AV → Prop) : Prop := match S with
  | (1, y) :: (1, x) :: R => k x y R
  | _ => False
def ai_r1 (S : List AV) (k : Int → List AV → Prop) : Prop := match S with
  | (2, x) :: R => k x R
  | _ => False
def ai_if (c : Jvm.ClassFile.Cond) (x y : Int) (T F : Prop) : Prop := match c with
  | .eq => (x = y → T) ∧ (x ≠ y → F)
  | .ne => (x ≠ y → T) ∧ (x = y → F)
  | .lt => (x < y → T) ∧ (y ≤ x → F)
  | .ge => (y ≤ x → T) ∧ (x < y → F)
  | .gt => (y < x → T) ∧ (x ≤ y → F)
  | .le => (x ≤ y → T) ∧ (y < x → F)
def ai_sw (x : Int) : List (Int × Nat) → (Nat → Prop) → Prop → Prop
  | [], _, D => D
  | (v, t) :: l, K, D => (x = v → K t) ∧ (x ≠ v → ai_sw x l K D)
def ai_pop : Nat → List AV → List AV → (List AV → List AV → Prop) → Prop
  | 0, A, R, k => k A R
  | n + 1, A, v :: R, k => ai_pop n (v :: A) R k
  | _ + 1, _, [], _ => False
/-- from outside: the script (length, values), and the heads' row -/
abbrev XE := Option (Int × (Int → Int))
def ai_hd (i : Int) : Int := if i = 0 then 19 else if i = 1 then 58 else 175
def ai_ild (X : XE) (n : Nat) (h : HP) (S : List AV) (k : Int → List AV → Prop) : Prop := match S with
  | (0, i) :: (2, x) :: R => ai_ok n x 50 ∧ 0 ≤ i ∧ i < ai_l x ∧ k (h x i) R
  | (0, i) :: (4, 0) :: R => (match X with
    | some (len, f) => 0 ≤ i ∧ i < len ∧ k (f i) R
    | none => False)
  | (0, i) :: (4, 1) :: R => 0 ≤ i ∧ i < 3 ∧ k (ai_hd i) R
  | _ => False
def ai_aln (X : XE) (n : Nat) (kd : Nat) (S : List AV) (k : Int → List AV → Prop) : Prop := match S with
  | (2, x) :: R => ai_ok n x kd ∧ k (ai_l x) R
  | (4, 0) :: R => (match X with
    | some (len, _) => k len R
    | none => False)
  | _ => False
def ai_ald (kd n : Nat) (S : List AV) (k : Int → Int → List AV → Prop) : Prop := match S with
  | (0, i) :: (2, x) :: R => ai_ok n x kd ∧ 0 ≤ i ∧ i < ai_l x ∧ k x i R
  | _ => False
def ai_ast (kd n : Nat) (S : List AV) (k : Int → Int → Int → List AV → Prop) : Prop := match S with
  | (0, v) :: (0, i) :: (2, x) :: R => ai_ok n x kd ∧ 0 ≤ i ∧ i < ai_l x ∧ k x i v R
  | _ => False
def ai_lsa (n : Nat) (S : List AV) (k : Int → Int → Int → List AV → Prop) : Prop := match S with
  | (1, v) :: (0, i) :: (2, x) :: R => ai_ok n x 51 ∧ 0 ≤ i ∧ i < ai_l x ∧ k x i v R
  | _ => False
def ai_asa (n : Nat) (S : List AV) (k : Int → Int → Int → List AV → Prop) : Prop := match S with
  | (2, v) :: (0, i) :: (2, x) :: R => ai_ok n x 54 ∧ ai_ok n v 8 ∧ 0 ≤ i ∧ i < ai_l x ∧ k x i v R
  | _ => False
def ai_cpy (kd n : Nat) (S : List AV) (k : Int → Int → Int → Int → Int → List AV → Prop) : Prop := match S with
  | (0, len) :: (0, dp) :: (2, d) :: (0, sp) :: (2, s) :: R => ai_ok n s kd ∧ ai_ok n d kd ∧ 0 ≤ sp ∧ 0 ≤ dp ∧ 0 ≤ len ∧ sp + len ≤ ai_l s ∧ dp + len ≤ ai_l d ∧ k s sp d dp len R
  | _ => False
def ai_put (t n : Nat) (h hr : HP) (b : Int) (cls : Nat) (S : List AV) (k : List AV → HP → HP → Prop) : Prop := match t, S with
  | 0, (0, v) :: (2, x) :: R => ai_ok n x cls ∧ k R hr (ai_up h x b v)
  | 1, (1, v) :: (2, x) :: R => ai_ok n x cls ∧ k R hr (ai_up h x b v)
  | 2, (2, v) :: (2, x) :: R => ai_ok n x cls ∧ k R (ai_up hr x b v) h
  | 3, (0, v) :: (2, x) :: R => ai_ok n x cls ∧ (v = 0 ∨ v = 1) ∧ k R hr (ai_up h x b v)
  | _, _ => False
def ai_get (t : Nat) (h hr : HP) (x b : Int) : AV := match t with
  | 0 => (0, h x b)
  | 1 => (1, h x b)
  | 3 => (0, h x b)
  | _ => (2, hr x b)
def ai_cat1 (v : AV) : Prop := match v with
  | (0, _) => True
  | (2, _) => True
  | _ => False
def ai_d1 (S : List AV) (k : AV → List AV → Prop) : Prop := match S with
  | v :: R => ai_cat1 v ∧ k v R
  | _ => False
def ai_d2 (S : List AV) (k : AV → AV → List AV → Prop) : Prop := match S with
  | v :: u :: R => ai_cat1 v ∧ ai_cat1 u ∧ k v u R
  | _ => False
def ai_push (t : Nat) (r : AV) (R : List AV) : List AV := match t with
  | 9 => R
  | _ => (t, r.2) :: R
def ai_ret0 (S : List AV) (k : Int → Prop) : Prop := match S with
  | (0, x) :: [] => k x
  | _ => False
def ai_ret1 (S : List AV) (k : Int → Prop) : Prop := match S with
  | (1, x) :: [] => k x
  | _ => False
def ai_ret2 (S : List AV) (k : Int → Prop) : Prop := match S with
  | (2, x) :: [] => k x
  | _ => False
def ai_ret9 (S : List AV) (k : Prop) : Prop := match S with
  | [] => k
  | _ => False
def ai_tl : List (Int × Nat) → Nat
  | (_, k) :: _ => k
  | [] => 99
/-- the receiver's kind; room for what a call makes; four values at most stay below -/
def ai_rc (d n : Nat) (A : List AV) : Prop := match A with
  | (2, x) :: _ => ai_ok n x d
  | _ => False
def ai_bd (z : Int) (n lim : Nat) (k : Prop) : Prop := match z with
  | 0 => k
  | _ => (n : Int) + z ≤ (lim : Int) ∧ k
def ai_k8 (R : List AV) (k : Prop) : Prop := match R with
  | [] => k
  | [_] => k
  | [_, _] => k
  | [_, _, _] => k
  | [_, _, _, _] => k
  | _ => False
/-- one step -/
def ai_st (orc : Nat → SP) (lim : Nat) (X : XE) (ci : CI) (K : KP) (L : List (Option AV)) (S : List AV) (n : Nat) (hr h : HP) (Q : RP) : Prop := match ci with
  | (pc, ins, len, a, b, d, t, z, tl) => match ins with
    | .iload _ => ai_lint L a fun x => K (pc + len) L ((0, x) :: S) n hr h
    | .iload_n _ => ai_lint L a fun x => K (pc + len) L ((0, x) :: S) n hr h
    | .lload _ => ai_llong L a fun x => K (pc + len) L ((1, x) :: S) n hr h
    | .lload_n _ => ai_llong L a fun x => K (pc + len) L ((1, x) :: S) n hr h
    | .aload _ => ai_lref L a fun x => K (pc + len) L (x :: S) n hr h
    | .aload_n _ => ai_lref L a fun x => K (pc + len) L (x :: S) n hr h
    | .istore _ => ai_i1 S fun x R => K (pc + len) (ai_ist L a (0, x)) R n hr h
    | .istore_n _ => ai_i1 S fun x R => K (pc + len) (ai_ist L a (0, x)) R n hr h
    | .astore _ => ai_r1 S fun x R => K (pc + len) (ai_ist L a (2, x)) R n hr h
    | .astore_n _ => ai_r1 S fun x R => K (pc + len) (ai_ist L a (2, x)) R n hr h
    | .lstore _ => ai_l1 S fun x R => K (pc + len) (ai_lst L a (1, x)) R n hr h
    | .lstore_n _ => ai_l1 S fun x R => K (pc + len) (ai_lst L a (1, x)) R n hr h
    | .iinc _ _ => ai_lint L a fun x => K (pc + len) (ai_ist L a (0, w32 (x + z))) S n hr h
    | .iconst _ => K (pc + len) L ((0, z) :: S) n hr h
    | .bipush _ => K (pc + len) L ((0, z) :: S) n hr h
    | .sipush _ => K (pc + len) L ((0, z) :: S) n hr h
    | .ldc _ => (match t with
      | 0 => K (pc + len) L ((0, z) :: S) n hr h
      | _ => K (pc + len) L ((5, z) :: S) n hr h)
    | .ldc_w _ => K (pc + len) L ((0, z) :: S) n hr h
    | .ldc2_w _ => K (pc + len) L ((1, z) :: S) n hr h
    | .lconst _ => K (pc + len) L ((1, z) :: S) n hr h
    | .iadd => ai_i2 S fun x y R => K (pc + len) L ((0, w32 (x + y)) :: R) n hr h
    | .isub => ai_i2 S fun x y R => K (pc + len) L ((0, w32 (x - y)) :: R) n hr h
    | .imul => ai_i2 S fun x y R => K (pc + len) L ((0, w32 (x * y)) :: R) n hr h
    | .idiv => ai_i2 S fun x y R => y ≠ 0 ∧ K (pc + len) L ((0, i_div x y) :: R) n hr h
    | .irem => ai_i2 S fun x y R => y ≠ 0 ∧ K (pc + len) L ((0, i_rem x y) :: R) n hr h
    | .iand => ai_i2 S fun x y R => K (pc + len) L ((0, i_and x y) :: R) n hr h
    | .ior => ai_i2 S fun x y R => K (pc + len) L ((0, i_or x y) :: R) n hr h
    | .ixor => ai_i2 S fun x y R => K (pc + len) L ((0, i_xor x y) :: R) n hr h
    | .ishl => ai_i2 S fun x y R => K (pc + len) L ((0, i_shl x y) :: R) n hr h
    | .ishr => ai_i2 S fun x y R => K (pc + len) L ((0, i_shr x y) :: R) n hr h
    | .iushr => ai_i2 S fun x y R => K (pc + len) L ((0, i_ushr x y) :: R) n hr h
    | .i2l => ai_i1 S fun x R => K (pc + len) L ((1, x) :: R) n hr h
    | .i2b => ai_i1 S fun x R => K (pc + len) L ((0, i_b8 x) :: R) n hr h
    | .ladd => ai_l2 S fun x y R => K (pc + len) L ((1, w64 (x + y)) :: R) n hr h
    | .lsub => ai_l2 S fun x y R => K (pc + len) L ((1, w64 (x - y)) :: R) n hr h
    | .lmul => ai_l2 S fun x y R => K (pc + len) L ((1, w64 (x * y)) :: R) n hr h
    | .land => ai_l2 S fun x y R => K (pc + len) L ((1, l_and x y) :: R) n hr h
    | .lor => ai_l2 S fun x y R => K (pc + len) L ((1, l_or x y) :: R) n hr h
    | .lxor => ai_l2 S fun x y R => K (pc + len) L ((1, l_xor x y) :: R) n hr h
    | .lshl => ai_i1 S fun y R => ai_l1 R fun x R => K (pc + len) L ((1, l_shl x y) :: R) n hr h
    | .lcmp => ai_l2 S fun x y R => K (pc + len) L ((0, l_cmp x y) :: R) n hr h
    | .if_icmp c _ => ai_i2 S fun x y R => ai_if c x y (K a L R n hr h) (K (pc + len) L R n hr h)
    | .ifCond c _ => ai_i1 S fun x R => ai_if c x 0 (K a L R n hr h) (K (pc + len) L R n hr h)
    | .goto _ => K a L S n hr h
    | .tableswitch _ _ _ _ => ai_i1 S fun x R => ai_sw x tl (fun q => K q L R n hr h) (K a L R n hr h)
    | .lookupswitch _ _ => ai_i1 S fun x R => ai_sw x tl (fun q => K q L R n hr h) (K a L R n hr h)
    | .dup => ai_d1 S fun v R => K (pc + len) L (v :: v :: R) n hr h
    | .dup2 => ai_d2 S fun v u R => K (pc + len) L (v :: u :: v :: u :: R) n hr h
    | .pop => ai_d1 S fun _ R => K (pc + len) L R n hr h
    | .getfield _ => ai_r1 S fun x R => ai_ok n x a ∧ K (pc + len) L (ai_get t h hr x z :: R) n hr h
    | .putfield _ => ai_put t n h hr z a S fun R hr h => K (pc + len) L R n hr h
    | .iaload => ai_ild X n h S fun v R => K (pc + len) L ((0, v) :: R) n hr h
    | .laload => ai_ald 51 n S fun x i R => K (pc + len) L ((1, h x i) :: R) n hr h
    | .baload => ai_ald t n S fun x i R => K (pc + len) L ((0, h x i) :: R) n hr h
    | .aaload => ai_ald 54 n S fun x i R => K (pc + len) L ((2, hr x i) :: R) n hr h
    | .iastore => ai_ast 50 n S fun x i v R => K (pc + len) L R n hr (ai_up h x i v)
    | .lastore => ai_lsa n S fun x i v R => K (pc + len) L R n hr (ai_up h x i v)
    | .bastore => (match t with
      | 52 => ai_ast 52 n S fun x i v R => (v = 0 ∨ v = 1) ∧ K (pc + len) L R n hr (ai_up h x i v)
      | _ => ai_ast 53 n S fun x i v R => K (pc + len) L R n hr (ai_up h x i (i_b8 v)))
    | .aastore => ai_asa n S fun x i v R => K (pc + len) L R n (ai_up hr x i v) h
    | .arraylength => ai_aln X n t S fun v R => K (pc + len) L ((0, v) :: R) n hr h
    | .new _ => n < lim ∧ ai_k n = a ∧ K (pc + len) L ((2, (n : Int)) :: S) (n + 1) (ai_cl hr n (-1)) (ai_cl h n 0)
    | .newarray _ => ai_i1 S fun v R => n < lim ∧ ai_k n = t ∧ ai_l n = v ∧ K (pc + len) L ((2, (n : Int)) :: R) (n + 1) (ai_cl hr n (-1)) (ai_cl h n 0)
    | .anewarray _ => ai_i1 S fun v R => n < lim ∧ ai_k n = 54 ∧ ai_l n = v ∧ K (pc + len) L ((2, (n : Int)) :: R) (n + 1) (ai_cl hr n (-1)) (ai_cl h n 0)
    | .getstatic _ => K (pc + len) L ((4, 1) :: S) n hr h
    | .invokevirtual _ => ai_pop b [] S fun A R => ai_rc (ai_tl tl) n A ∧ ai_bd z n lim (ai_k8 R (orc a A n hr h fun r n hr h => K (pc + len) L (ai_push t r R) n hr h))
    | .invokespecial _ => (match t with
      | 30 => ai_r1 S fun x R => 0 ≤ x ∧ ai_k8 R (K (pc + len) L R n hr h)
      | _ => ai_pop b [] S fun A R => ai_rc (ai_tl tl) n A ∧ ai_bd z n lim (ai_k8 R (orc a A n hr h fun r n hr h => K (pc + len) L (ai_push t r R) n hr h)))
    | .invokestatic _ => (match t with
      | 20 => ai_cpy 50 n S fun s sp d dp m R => ai_k8 R (K (pc + len) L R n hr (ai_cp h s sp d dp m))
      | 21 => ai_cpy 51 n S fun s sp d dp m R => ai_k8 R (K (pc + len) L R n hr (ai_cp h s sp d dp m))
      | _ => ai_pop b [] S fun A R => ai_bd z n lim (ai_k8 R (orc a A n hr h fun r n hr h => K (pc + len) L (ai_push t r R) n hr h)))
    | .ireturn => (match t with
      | 3 => ai_ret0 S fun x => (x = 0 ∨ x = 1) ∧ Q (0, x) n hr h
      | _ => ai_ret0 S fun x => Q (0, x) n hr h)
    | .lreturn => ai_ret1 S fun x => Q (1, x) n hr h
    | .areturn => ai_ret2 S fun x => Q (2, x) n hr h
    | .return_ => ai_ret9 S (Q (9, 0) n hr h)
    | _ => False
def ai_find (pc : Nat) : List CI → Option CI
  | [] => none
  | ci :: l => bif Nat.beq ci.1 pc then some ci else ai_find pc l
abbrev ai_C := List (List CI)
def ai_at (code : ai_C) (pc : Nat) : Option CI := match ai_nth code (pc / 16) with
  | some l => ai_find pc l
  | none => none
def ai_step (orc : Nat → SP) (lim : Nat) (X : XE) (code : ai_C) (K : KP) (pc : Nat) (L : List (Option AV)) (S : List AV) (n : Nat) (hr h : HP) (Q : RP) : Prop := match ai_at code pc with
  | some ci => ai_st orc lim X ci K L S n hr h Q
  | none => False
/-- fewer locals are told -/
def ai_fg (L' L : List (Option AV)) : Prop := L'.length = L.length ∧ ∀ (i : Nat) (v : AV), ai_nth L' i = some (some v) → ai_nth L i = some (some v)
/-- it comes to an end with Q: the least such -/
def ai_wp (orc : Nat → SP) (lim : Nat) (X : XE) (code : ai_C) (Q : RP) : KP := fun pc L S n hr h =>
  ∀ P : KP, (∀ pc L S n hr h, ai_step orc lim X code P pc L S n hr h Q → P pc L S n hr h) → (∀ pc L' L S n hr h, ai_fg L' L → P pc L' S n hr h → P pc L S n hr h) → P pc L S n hr h
def ai_mask : List Bool → List (Option AV) → List (Option AV)
  | true :: m, v :: L => v :: ai_mask m L
  | false :: m, _ :: L => none :: ai_mask m L
  | _, L => L
def ai_cut : List (Nat × List Bool) → Nat → Option (List Bool)
  | [], _ => none
  | (p, m) :: l, pc => bif Nat.beq p pc then some m else ai_cut l pc
/-- many steps at once, up to places at which it is cut -/
def ai_run (orc : Nat → SP) (lim : Nat) (X : XE) (code : ai_C) (cut : List (Nat × List Bool)) (Q : RP) (Kw : KP) : Nat → KP
  | 0 => fun pc L S n hr h => Kw pc L S n hr h
  | f + 1 => fun pc L S n hr h => ai_step orc lim X code (fun pc L S n hr h => match ai_cut cut pc with
    | some m => Kw pc (ai_mask m L) S n hr h
    | none => ai_run orc lim X code cut Q Kw f pc L S n hr h) pc L S n hr h Q
def ai_ent : List AV → List (Option AV)
  | [] => []
  | (1, x) :: l => some (1, x) :: none :: ai_ent l
  | v :: l => some v :: ai_ent l
def ai_pad (m : Nat) (L : List (Option AV)) : List (Option AV) := L ++ List.replicate (m - L.length) none
/-- a method -/
def ai_M (orc : Nat → SP) (al : Nat) (maxL : Nat) (code : ai_C) : SP := fun args n hr h Q =>
  (ai_ent args).length ≤ maxL ∧ ai_wp orc (n + al) none code (fun r n' hr' h' => n' = n + al ∧ Q r n' hr' h') 0 (ai_pad maxL (ai_ent args)) [] n hr h
def ai_q (al n : Nat) (Q : RP) : RP := fun r n' hr' h' => n' = n + al ∧ Q r n' hr' h'
def ai_mono (M : SP) : Prop := ∀ (A : List AV) (n : Nat) (hr h : HP) (Q Q' : RP), (∀ r n hr h, Q r n hr h → Q' r n hr h) → M A n hr h Q → M A n hr h Q'
end
section
/-! growing in what is wanted behind a step -/
theorem mo_lint {L i} {k k' : Int → Prop} (h : ai_lint L i k) (g : ∀ x, k x → k' x) : ai_lint L i k' := by
  unfold ai_lint at h ⊢; split at h <;> simp_all
theorem mo_llong {L i} {k k' : Int → Prop} (h : ai_llong L i k) (g : ∀ x, k x → k' x) : ai_llong L i k' := by
  unfold ai_llong at h ⊢; split at h <;> simp_all
theorem mo_lref {L i} {k k' : AV → Prop} (h : ai_lref L i k) (g : ∀ x, k x → k' x) : ai_lref L i k' := by
  unfold ai_lref at h ⊢; split at h <;> simp_all
theorem mo_i1 {S} {k k' : Int → List AV → Prop} (h : ai_i1 S k) (g : ∀ x R, k x R → k' x R) : ai_i1 S k' := by
  unfold ai_i1 at h ⊢; split at h <;> first | exact g _ _ h | exact h.elim
theorem mo_i2 {S} {k k' : Int → Int → List AV → Prop} (h : ai_i2 S k) (g : ∀ x y R, k x y R → k' x y R) : ai_i2 S k' := by
  unfold ai_i2 at h ⊢; split at h <;> first | exact g _ _ _ h | exact h.elim
theorem mo_l1 {S} {k k' : Int → List AV → Prop} (h : ai_l1 S k) (g : ∀ x R, k x R → k' x R) : ai_l1 S k' := by
  unfold ai_l1 at h ⊢; split at h <;> first | exact g _ _ h | exact h.elim
theorem mo_l2 {S} {k k' : Int → Int → List AV → Prop} (h : ai_l2 S k) (g : ∀ x y R, k x y R → k' x y R) : ai_l2 S k' := by
  unfold ai_l2 at h ⊢; split at h <;> first | exact g _ _ _ h | exact h.elim
theorem mo_r1 {S} {k k' : Int → List AV → Prop} (h : ai_r1 S k) (g : ∀ x R, k x R → k' x R) : ai_r1 S k' := by
  unfold ai_r1 at h ⊢; split at h <;> first | exact g _ _ h | exact h.elim
theorem mo_if {c x y} {T F T' F' : Prop} (h : ai_if c x y T F) (g : T → T') (g2 : F → F') : ai_if c x y T' F' := by
  cases c <;> exact ⟨fun q => g (h.1 q), fun q => g2 (h.2 q)⟩
theorem mo_sw {x} {K K' : Nat → Prop} {D D' : Prop} (g : ∀ q, K q → K' q) (g2 : D → D') : ∀ (l : List (Int × Nat)), ai_sw x l K D → ai_sw x l K' D'
  | [], h => g2 h
  | (_, t) :: l, h => ⟨fun q => g t (h.1 q), fun q => mo_sw g g2 l (h.2 q)⟩
theorem mo_pop {k k' : List AV → List AV → Prop} (g : ∀ A R, k A R → k' A R) : ∀ (n : Nat) (A R : List AV), ai_pop n A R k → ai_pop n A R k'
  | 0, A, R, h => g A R h
  | _ + 1, _, [], h => h
  | n + 1, A, v :: R, h => mo_pop g n (v :: A) R h
theorem mo_ild {X n h S} {k k' : Int → List AV → Prop} (q : ai_ild X n h S k) (g : ∀ x R, k x R → k' x R) : ai_ild X n h S k' := by
  unfold ai_ild at q ⊢
  split at q
  · exact ⟨q.1, q.2.1, q.2.2.1, g _ _ q.2.2.2⟩
  · split at q
    · exact ⟨q.1, q.2.1, g _ _ q.2.2⟩
    · exact q.elim
  · exact ⟨q.1, q.2.1, g _ _ q.2.2⟩
  · exact q.elim
theorem mo_aln {X n kd S} {k k' : Int → List AV → Prop} (q : ai_aln X n kd S k) (g : ∀ x R, k x R → k' x R) : ai_aln X n kd S k' := by
  unfold ai_aln at q ⊢
  split at q
  · exact ⟨q.1, g _ _ q.2⟩
  · split at q
    · exact g _ _ q
    · exact q.elim
  · exact q.elim
theorem mo_ald {kd n S} {k k' : Int → Int → List AV → Prop} (q : ai_ald kd n S k) (g : ∀ x i R, k x i R → k' x i R) : ai_ald kd n S k' := by
  unfold ai_ald at q ⊢; split at q <;> first | exact ⟨q.1, q.2.1, q.2.2.1, g _ _ _ q.2.2.2⟩ | exact q.elim
theorem mo_ast {kd n S} {k k' : Int → Int → Int → List AV → Prop} (q : ai_ast kd n S k) (g : ∀ x i v R, k x i v R → k' x i v R) : ai_ast kd n S k' := by
  unfold ai_ast at q ⊢; split at q <;> first | exact ⟨q.1, q.2.1, q.2.2.1, g _ _ _ _ q.2.2.2⟩ | exact q.elim
theorem mo_lsa {n S} {k k' : Int → Int → Int → List AV → Prop} (q : ai_lsa n S k) (g : ∀ x i v R, k x i v R → k' x i v R) : ai_lsa n S k' := by
  unfold ai_lsa at q ⊢; split at q <;> first | exact ⟨q.1, q.2.1, q.2.2.1, g _ _ _ _ q.2.2.2⟩ | exact q.elim
theorem mo_asa {n S} {k k' : Int → Int → Int → List AV → Prop} (q : ai_asa n S k) (g : ∀ x i v R, k x i v R → k' x i v R) : ai_asa n S k' := by
  unfold ai_asa at q ⊢; split at q <;> first | exact ⟨q.1, q.2.1, q.2.2.1, q.2.2.2.1, g _ _ _ _ q.2.2.2.2⟩ | exact q.elim
theorem mo_cpy {kd n S} {k k' : Int → Int → Int → Int → Int → List AV → Prop} (q : ai_cpy kd n S k) (g : ∀ a b c d e R, k a b c d e R → k' a b c d e R) : ai_cpy kd n S k' := by
  unfold ai_cpy at q ⊢; split at q <;> first | exact ⟨q.1, q.2.1, q.2.2.1, q.2.2.2.1, q.2.2.2.2.1, q.2.2.2.2.2.1, q.2.2.2.2.2.2.1, g _ _ _ _ _ _ q.2.2.2.2.2.2.2⟩ | exact q.elim
theorem mo_put {t n h hr b cls S} {k k' : List AV → HP → HP → Prop} (q : ai_put t n h hr b cls S k) (g : ∀ R hr h, k R hr h → k' R hr h) : ai_put t n h hr b cls S k' := by
  unfold ai_put at q ⊢; split at q <;> first | exact ⟨q.1, q.2.1, g _ _ _ q.2.2⟩ | exact ⟨q.1, g _ _ _ q.2⟩ | exact q.elim
theorem mo_d1 {S} {k k' : AV → List AV → Prop} (q : ai_d1 S k) (g : ∀ x R, k x R → k' x R) : ai_d1 S k' := by
  unfold ai_d1 at q ⊢; split at q <;> first | exact ⟨q.1, g _ _ q.2⟩ | exact q.elim
theorem mo_d2 {S} {k k' : AV → AV → List AV → Prop} (q : ai_d2 S k) (g : ∀ x y R, k x y R → k' x y R) : ai_d2 S k' := by
  unfold ai_d2 at q ⊢; split at q <;> first | exact ⟨q.1, q.2.1, g _ _ _ q.2.2⟩ | exact q.elim
theorem mo_ret0 {S} {k k' : Int → Prop} (q : ai_ret0 S k) (g : ∀ x, k x → k' x) : ai_ret0 S k' := by
  unfold ai_ret0 at q ⊢; split at q <;> first | exact g _ q | exact q.elim
theorem mo_ret1 {S} {k k' : Int → Prop} (q : ai_ret1 S k) (g : ∀ x, k x → k' x) : ai_ret1 S k' := by
  unfold ai_ret1 at q ⊢; split at q <;> first | exact g _ q | exact q.elim
theorem mo_ret2 {S} {k k' : Int → Prop} (q : ai_ret2 S k) (g : ∀ x, k x → k' x) : ai_ret2 S k' := by
  unfold ai_ret2 at q ⊢; split at q <;> first | exact g _ q | exact q.elim
theorem mo_ret9 {S} {k k' : Prop} (q : ai_ret9 S k) (g : k → k') : ai_ret9 S k' := by
  unfold ai_ret9 at q ⊢; split at q <;> first | exact g q | exact q.elim
theorem mo_bd {z n lim} {k k' : Prop} (q : ai_bd z n lim k) (g : k → k') : ai_bd z n lim k' := by
  unfold ai_bd at q ⊢; split at q <;> first | exact g q | exact ⟨q.1, g q.2⟩
theorem mo_k8 {R} {k k' : Prop} (q : ai_k8 R k) (g : k → k') : ai_k8 R k' := by
  unfold ai_k8 at q ⊢; split at q <;> first | exact g q | exact q.elim
set_option maxHeartbeats 4000000 in
theorem mo_st {orc : Nat → SP} {lim : Nat} {X : XE} {ci : CI} {K K' : KP} {Q Q' : RP} (ho : ∀ a, ai_mono (orc a)) (hK : ∀ pc L S n hr h, K pc L S n hr h → K' pc L S n hr h) (hQ : ∀ r n hr h, Q r n hr h → Q' r n hr h) {L S n hr h} (q : ai_st orc lim X ci K L S n hr h Q) : ai_st orc lim X ci K' L S n hr h Q' := by
  obtain ⟨pc, ins, len, a, b, d, t, z, tl⟩ := ci
  cases ins <;> simp only [ai_st] at q ⊢
  all_goals first
    | exact q
    | exact hK _ _ _ _ _ _ q
    | exact mo_lint q fun _ => hK _ _ _ _ _ _
    | exact mo_llong q fun _ => hK _ _ _ _ _ _
    | exact mo_lref q fun _ => hK _ _ _ _ _ _
    | exact mo_i1 q fun _ _ => hK _ _ _ _ _ _
    | exact mo_i2 q fun _ _ _ => hK _ _ _ _ _ _
    | exact mo_l1 q fun _ _ => hK _ _ _ _ _ _
    | exact mo_l2 q fun _ _ _ => hK _ _ _ _ _ _
    | exact mo_r1 q fun _ _ => hK _ _ _ _ _ _
    | exact mo_i2 q fun _ _ _ h => ⟨h.1, hK _ _ _ _ _ _ h.2⟩
    | exact mo_i2 q fun _ _ _ h => mo_if h (hK _ _ _ _ _ _) (hK _ _ _ _ _ _)
    | exact mo_i1 q fun _ _ h => mo_if h (hK _ _ _ _ _ _) (hK _ _ _ _ _ _)
    | exact mo_i1 q fun _ _ h => mo_sw (fun _ => hK _ _ _ _ _ _) (hK _ _ _ _ _ _) _ h
    | exact mo_i1 q fun _ _ h => mo_l1 h fun _ _ => hK _ _ _ _ _ _
    | exact mo_d1 q fun _ _ => hK _ _ _ _ _ _
    | exact mo_d2 q fun _ _ _ => hK _ _ _ _ _ _
    | exact mo_r1 q fun _ _ h => ⟨h.1, hK _ _ _ _ _ _ h.2⟩
    | exact mo_put q fun _ _ _ => hK _ _ _ _ _ _
    | exact mo_ild q fun _ _ => hK _ _ _ _ _ _
    | exact mo_aln q fun _ _ => hK _ _ _ _ _ _
    | exact mo_ald q fun _ _ _ => hK _ _ _ _ _ _
    | exact mo_ast q fun _ _ _ _ => hK _ _ _ _ _ _
    | exact mo_lsa q fun _ _ _ _ => hK _ _ _ _ _ _
    | exact mo_asa q fun _ _ _ _ => hK _ _ _ _ _ _
    | exact ⟨q.1, q.2.1, hK _ _ _ _ _ _ q.2.2⟩
    | exact mo_i1 q fun _ _ h => ⟨h.1, h.2.1, h.2.2.1, hK _ _ _ _ _ _ h.2.2.2⟩
    | exact mo_pop (fun _ _ h => And.intro h.1 (mo_bd h.2 fun h => mo_k8 h fun h => ho _ _ _ _ _ _ _ (fun _ _ _ _ => hK _ _ _ _ _ _) h)) _ _ _ q
    | exact mo_ret0 q fun _ => hQ _ _ _ _
    | exact mo_ret1 q fun _ => hQ _ _ _ _
    | exact mo_ret2 q fun _ => hQ _ _ _ _
    | exact mo_ret9 q (hQ _ _ _ _)
    | (split at q <;> first
        | exact hK _ _ _ _ _ _ q
        | exact mo_ast q fun _ _ _ _ => hK _ _ _ _ _ _
        | exact mo_ast q fun _ _ _ _ h => ⟨h.1, hK _ _ _ _ _ _ h.2⟩
        | exact mo_r1 q fun _ _ h => ⟨h.1, mo_k8 h.2 fun h => hK _ _ _ _ _ _ h⟩
        | exact mo_pop (fun _ _ h => And.intro h.1 (mo_bd h.2 fun h => mo_k8 h fun h => ho _ _ _ _ _ _ _ (fun _ _ _ _ => hK _ _ _ _ _ _) h)) _ _ _ q
        | exact mo_pop (fun _ _ h => mo_bd h fun h => mo_k8 h fun h => ho _ _ _ _ _ _ _ (fun _ _ _ _ => hK _ _ _ _ _ _) h) _ _ _ q
        | exact mo_cpy q fun _ _ _ _ _ _ h => mo_k8 h fun h => hK _ _ _ _ _ _ h
        | exact mo_ret0 q fun _ h => ⟨h.1, hQ _ _ _ _ h.2⟩
        | exact mo_ret0 q fun _ => hQ _ _ _ _)
theorem mo_step {orc : Nat → SP} {lim : Nat} {X : XE} {code : ai_C} {K K' : KP} {Q Q' : RP} (ho : ∀ a, ai_mono (orc a)) (hK : ∀ pc L S n hr h, K pc L S n hr h → K' pc L S n hr h) (hQ : ∀ r n hr h, Q r n hr h → Q' r n hr h) {pc L S n hr h} (q : ai_step orc lim X code K pc L S n hr h Q) : ai_step orc lim X code K' pc L S n hr h Q' := by
  unfold ai_step at q ⊢
  split at q
  · exact mo_st ho hK hQ q
  · exact q.elim
theorem wp_step {orc : Nat → SP} {lim : Nat} {X : XE} {code : ai_C} {Q : RP} (ho : ∀ a, ai_mono (orc a)) {pc L S n hr h} (q : ai_step orc lim X code (ai_wp orc lim X code Q) pc L S n hr h Q) : ai_wp orc lim X code Q pc L S n hr h := by
  intro P h1 h2
  exact h1 _ _ _ _ _ _ (mo_step ho (fun _ _ _ _ _ _ g => g P h1 h2) (fun _ _ _ _ g => g) q)
theorem wp_fg {orc : Nat → SP} {lim : Nat} {X : XE} {code : ai_C} {Q : RP} {pc L L' S n hr h} (g : ai_fg L' L) (q : ai_wp orc lim X code Q pc L' S n hr h) : ai_wp orc lim X code Q pc L S n hr h := by
  intro P h1 h2
  exact h2 _ _ _ _ _ _ _ g (q P h1 h2)
theorem wp_mono {orc : Nat → SP} {lim : Nat} {X : XE} {code : ai_C} {Q Q' : RP} (ho : ∀ a, ai_mono (orc a)) (hQ : ∀ r n hr h, Q r n hr h → Q' r n hr h) {pc L S n hr h} (q : ai_wp orc lim X code Q pc L S n hr h) : ai_wp orc lim X code Q' pc L S n hr h :=
  q (ai_wp orc lim X code Q') (fun _ _ _ _ _ _ g => wp_step ho (mo_step ho (fun _ _ _ _ _ _ z => z) hQ g)) (fun _ _ _ _ _ _ _ f g => wp_fg f g)
theorem fg_mask : ∀ (m : List Bool) (L : List (Option AV)), ai_fg (ai_mask m L) L
  | [], L => ⟨rfl, fun _ _ h => h⟩
  | true :: m, [] => ⟨rfl, fun _ _ h => h⟩
  | false :: m, [] => ⟨rfl, fun _ _ h => h⟩
  | true :: m, v :: L => ⟨by simp [ai_mask, (fg_mask m L).1], fun i w h => by
      cases i with
      | zero => exact h
      | succ i => exact (fg_mask m L).2 i w h⟩
  | false :: m, v :: L => ⟨by simp [ai_mask, (fg_mask m L).1], fun i w h => by
      cases i with
      | zero => simp [ai_mask, ai_nth] at h
      | succ i => exact (fg_mask m L).2 i w h⟩
theorem wp_run {orc : Nat → SP} {lim : Nat} {X : XE} {code : ai_C} {cut : List (Nat × List Bool)} {Q : RP} (ho : ∀ a, ai_mono (orc a)) : ∀ (f pc : Nat) (L : List (Option AV)) (S : List AV) (n : Nat) (hr h : HP), ai_run orc lim X code cut Q (ai_wp orc lim X code Q) f pc L S n hr h → ai_wp orc lim X code Q pc L S n hr h
  | 0, _, _, _, _, _, _, q => q
  | f + 1, pc, L, S, n, hr, h, q => by
    refine wp_step ho (mo_step ho ?_ (fun _ _ _ _ g => g) q)
    intro pc L S n hr h g
    split at g
    · exact wp_fg (fg_mask _ _) g
    · exact wp_run ho f _ _ _ _ _ _ g
theorem M_mono {orc : Nat → SP} {al maxL : Nat} {code : ai_C} (ho : ∀ a, ai_mono (orc a)) : ai_mono (ai_M orc al maxL code) := fun _ _ _ _ _ _ hQ q => ⟨q.1, wp_mono ho (fun r n hr h g => ⟨g.1, hQ r n hr h g.2⟩) q.2⟩
end
section
/-! the small machine's values and cells, and the real ones -/
/-- the tables' words that go to any callee -/
def ai_gd (w : Jvm.Cond) : Bool := goodWord w || (match w with
  | .methodLinkNest _ _ _ _ => true
  | .fieldLinkNest _ _ _ _ _ _ => true
  | .arrayOver (.object _) => true
  | _ => false)
def ai_gw : List Jvm.Cond := lw_tbl.filter ai_gd
theorem gd_warm {w : Jvm.Cond} (h : ai_gd w = true) {args a' : Array Value} {s U : State} (hW : s.WarmedH U.vm) (hb : w.before args s = true) : w.before a' U = true := by
  unfold ai_gd at h
  rcases Bool.or_eq_true _ _ ▸ h with h | h
  · exact word_at hW (good_of_word h) hb
  · split at h
    · exact (va_Nw.warmM hW (va_Nw.of rfl hb)).use rfl
    · exact (va_Nw.warmF hW (va_Nw.of rfl hb)).use rfl
    · exact ((va_AO.of hb).moved hW.alike).use
    · cases h
theorem gw_mem {w : Jvm.Cond} (h : w ∈ lw_tbl) (g : ai_gd w = true) : w ∈ ai_gw := List.mem_filter.mpr ⟨h, g⟩
theorem gw_sub {w : Jvm.Cond} (h : w ∈ ai_gw) : w ∈ lw_tbl := (List.mem_filter.mp h).1
theorem gw_warm {w : Jvm.Cond} (h : w ∈ ai_gw) {args a' : Array Value} {s U : State} (hW : s.WarmedH U.vm) (hb : w.before args s = true) : w.before a' U = true := gd_warm (List.mem_filter.mp h).2 hW hb
theorem gw_ws {l : List Jvm.Cond} (h : ∀ w ∈ l, w ∈ lw_tbl) (g : l.all ai_gd = true) : ∀ w ∈ l, w ∈ ai_gw := fun w hw => gw_mem (h w hw) (List.all_eq_true.mp g w hw)
def ai_tyc (a k : Nat) : FieldType := match a with
  | 0 => tyX0 k
  | 1 => tyX1 k
  | 2 => tyX2 k
  | 3 => tyX3 k
  | 4 => tyX4 k
  | 5 => tyX5 k
  | 6 => tyX6 k
  | 7 => tyX7 k
  | 8 => tyX8 k
  | 9 => tyX9 k
  | 10 => tyX10 k
  | 11 => tyX11 k
  | _ => tyX12 k
def ai_tt : FieldType → Nat
  | .int => 0
  | .long => 1
  | .boolean => 3
  | _ => 2
def ai_ft (a k : Nat) : Nat := ai_tt (ai_tyc a k)
def ai_nf (a : Nat) : Nat := match ai_nth vwCl a with
  | some (_, _, N) => N
  | none => 0
theorem nth_eq {α : Type} : ∀ (l : List α) (k : Nat), ai_nth l k = l[k]?
  | [], k => by simp [ai_nth]
  | a :: l, 0 => by simp [ai_nth]
  | a :: l, k + 1 => by simp [ai_nth, nth_eq l k]
theorem set_eq {α : Type} : ∀ (l : List α) (k : Nat) (v : α), ai_set l k v = l.set k v
  | [], k, v => by simp [ai_set]
  | a :: l, 0, v => by simp [ai_set]
  | a :: l, k + 1, v => by simp [ai_set, set_eq l k v]
/-- what holds of a class by its place -/
def ai_clf (a : Nat) (q : vw_C) : Prop := (∀ k, k < q.2.2 → parseFieldDescriptor (q.2.1 k).2.2.1 = some (ai_tyc a k)) ∧ (∀ i, i < q.2.2 → ∀ j, j < q.2.2 → i ≠ j → (q.2.1 i).2.1 ≠ (q.2.1 j).2.1) ∧ (∀ w ∈ u_ws q.1 q.2.1 q.2.2, w ∈ ai_gw) ∧ (∀ k, k < q.2.2 → (q.2.1 k).1 = q.1)
theorem cl_ok : ∀ (a : Nat) (q : vw_C), vwCl[a]? = some q → ai_clf a q := by
  intro a q h
  match a, h with
  | 0, h => cases h; exact ⟨tyX0_ok, nmX0, gw_ws iw_0 (by decide +kernel), by decide +kernel⟩
  | 1, h => cases h; exact ⟨tyX1_ok, nmX1, gw_ws iw_1 (by decide +kernel), by decide +kernel⟩
  | 2, h => cases h; exact ⟨tyX2_ok, nmX2, gw_ws iw_2 (by decide +kernel), by decide +kernel⟩
  | 3, h => cases h; exact ⟨tyX3_ok, nmX3, gw_ws iw_3 (by decide +kernel), by decide +kernel⟩
  | 4, h => cases h; exact ⟨tyX4_ok, nmX4, gw_ws iw_4 (by decide +kernel), by decide +kernel⟩
  | 5, h => cases h; exact ⟨tyX5_ok, nmX5, gw_ws iw_5 (by decide +kernel), by decide +kernel⟩
  | 6, h => cases h; exact ⟨tyX6_ok, nmX6, gw_ws iw_6 (by decide +kernel), by decide +kernel⟩
  | 7, h => cases h; exact ⟨tyX7_ok, nmX7, gw_ws iw_7 (by decide +kernel), by decide +kernel⟩
  | 8, h => cases h; exact ⟨tyX8_ok, nmX8, gw_ws iw_8 (by decide +kernel), by decide +kernel⟩
  | 9, h => cases h; exact ⟨tyX9_ok, nmX9, gw_ws iw_9 (by decide +kernel), by decide +kernel⟩
  | 10, h => cases h; exact ⟨tyX10_ok, nmX10, gw_ws iw_10 (by decide +kernel), by decide +kernel⟩
  | 11, h => cases h; exact ⟨tyX11_ok, nmX11, gw_ws iw_11 (by decide +kernel), by decide +kernel⟩
  | 12, h => cases h; exact ⟨tyX12_ok, nmX12, gw_ws iw_12 (by decide +kernel), by decide +kernel⟩
  | k + 13, h => simp [vwCl] at h
end
section
/-! values and cells: the relation -/
def ai_ro (ad : Nat → Nat) (x : Int) : Option Nat := if x < 0 then none else some (ad x.toNat)
def ai_cv (ad xa : Nat → Nat) : AV → Value
  | (0, x) => .int (Int32.ofInt x)
  | (1, x) => .long (Int64.ofInt x)
  | (2, x) => va_rf (ai_ro ad x)
  | (4, x) => .ref (xa x.toNat)
  | _ => .ref (xa 2)
def i32 (x : Int) : Prop := -2147483648 ≤ x ∧ x ≤ 2147483647
def i64 (x : Int) : Prop := -9223372036854775808 ≤ x ∧ x ≤ 9223372036854775807
def ai_vr (n : Nat) : AV → Prop
  | (0, x) => i32 x
  | (1, x) => i64 x
  | (2, x) => -1 ≤ x ∧ x < (n : Int)
  | _ => True
def ai_fv (ad : Nat → Nat) (t : Nat) (hr h : HP) (c i : Int) : Value := match t with
  | 0 => .int (Int32.ofInt (h c i))
  | 1 => .long (Int64.ofInt (h c i))
  | 3 => .int (Int32.ofInt (h c i))
  | _ => va_rf (ai_ro ad (hr c i))
theorem fv_get (ad xa : Nat → Nat) (t : Nat) (hr h : HP) (c i : Int) : ai_fv ad t hr h c i = ai_cv ad xa (ai_get t h hr c i) := by
  unfold ai_fv ai_get
  split <;> first | rfl | (split <;> first | rfl | contradiction)
def ai_fs (ad : Nat → Nat) (a : Nat) (hr h : HP) (c : Int) : List Value := (List.range (ai_nf a)).map fun i => ai_fv ad (ai_ft a i) hr h c (i : Int)
def ai_ar (ad : Nat → Nat) (t : Nat) (hr h : HP) (c : Int) : (Nat → Int32) ⊕ (Nat → Int64) ⊕ (Nat → UInt32) ⊕ (Nat → UInt64) ⊕ (Nat → Option Nat) := match t with
  | 1 => .inr (.inl fun j => Int64.ofInt (h c (j : Int)))
  | 4 => .inr (.inr (.inr (.inr fun j => ai_ro ad (hr c (j : Int)))))
  | _ => .inl fun j => Int32.ofInt (h c (j : Int))
def ai_ce (cid : Nat → ClassId) (ad : Nat → Nat) (hr h : HP) (c : Int) : va_E :=
  if ai_k c < 50 then .inr (ai_k c, ai_fs ad (ai_k c) hr h c) else .inl (cid (ai_k c - 50), (ai_l c).toNat, ai_ar ad (ai_k c - 50) hr h c)
def ai_ws (cid : Nat → ClassId) (ad : Nat → Nat) (n : Nat) (hr h : HP) : va_W := (List.range n).map fun c => (ad c, ai_ce cid ad hr h (c : Int))
def ai_tys (cid : Nat → ClassId) : List (ClassId × FieldType) := [(cid 0, .int), (cid 1, .long), (cid 2, .boolean), (cid 3, .byte), (cid 4, .object "SuiteBench$Tests")]
def ai_W (D : va_G) (cid : Nat → ClassId) (B0 : Nat) (ad : Nat → Nat) (n : Nat) (hr h : HP) (H : Heap) : Prop := va_P D vwCl (ai_ws cid ad n hr h) H ∧ va_D (fun q : Nat => B0 ≤ q) (ai_ws cid ad n hr h)
def ai_tg (c i : Int) : Nat := if ai_k c < 50 then ai_ft (ai_k c) i.toNat else match ai_k c - 50 with
  | 0 => 0
  | 1 => 1
  | 2 => 3
  | 3 => 4
  | _ => 2
def ai_vt (n t : Nat) (v r : Int) : Prop := match t with
  | 0 => i32 v
  | 1 => i64 v
  | 3 => v = 0 ∨ v = 1
  | 4 => -128 ≤ v ∧ v ≤ 127
  | _ => -1 ≤ r ∧ r < (n : Int)
def ai_IH (n : Nat) (hr h : HP) : Prop := ∀ c i : Int, 0 ≤ c → c < (n : Int) → ai_vt n (ai_tg c i) (h c i) (hr c i)
def ai_LR (ad xa : Nat → Nat) (ls : Array Slot) (nL : Nat) (L : List (Option AV)) : Prop := L.length = nL ∧ ls.size = nL ∧ lv_wf ls ∧ ∀ (i : Nat) (v : AV), ai_nth L i = some (some v) → ls[i]? = some (.val (ai_cv ad xa v))
def ai_LI (n : Nat) (L : List (Option AV)) : Prop := ∀ (i : Nat) (v : AV), ai_nth L i = some (some v) → ai_vr n v
def ai_SI (n : Nat) (S : List AV) : Prop := ∀ v ∈ S, ai_vr n v
def ai_cs : Nat → Nat
  | 0 => 0
  | n + 1 => ai_cs n + (ai_l (n : Int)).toNat
theorem sh_ok : ∀ c : Int, ai_k c < 50 → ai_l c = (ai_nf (ai_k c) : Int) := by
  intro c h
  have key : ai_shl.all (fun q => decide (50 ≤ q.1) || decide (q.2 = ai_nf q.1)) = true := by decide +kernel
  unfold ai_k at h ⊢
  unfold ai_l
  cases hq : ai_nth ai_shl c.toNat with
  | none => rw [hq] at h; simp at h
  | some q =>
    rw [hq] at h
    rw [nth_eq] at hq
    have := List.all_eq_true.mp key q (List.mem_of_getElem? hq)
    simp only [Bool.or_eq_true, decide_eq_true_eq] at this
    simp only [Option.getD_some] at h ⊢
    rcases this with z | z
    · omega
    · rw [z]
theorem nf_at {a : Nat} (h : a < 13) : ∃ C T, vwCl[a]? = some (C, T, ai_nf a) := by
  unfold ai_nf
  rw [nth_eq]
  cases hq : vwCl[a]? with
  | none => rw [List.getElem?_eq_none_iff] at hq; simp [vwCl] at hq; omega
  | some q => obtain ⟨C, T, N⟩ := q; exact ⟨C, T, rfl⟩
theorem nf_0 {a : Nat} (h : 13 ≤ a) : ai_nf a = 0 := by
  unfold ai_nf
  rw [nth_eq, List.getElem?_eq_none_iff.mpr (by simp [vwCl]; omega)]
theorem ws_get {cid : Nat → ClassId} {ad : Nat → Nat} {n : Nat} {hr h : HP} {c : Nat} (hc : c < n) : (ai_ws cid ad n hr h)[c]? = some (ad c, ai_ce cid ad hr h (c : Int)) := by
  simp [ai_ws, hc]
theorem ws_len {cid : Nat → ClassId} {ad : Nat → Nat} {n : Nat} {hr h : HP} : (ai_ws cid ad n hr h).length = n := by simp [ai_ws]
/-- one cell is written -/
theorem ws_set {cid : Nat → ClassId} {ad : Nat → Nat} {n : Nat} {hr h hr' h' : HP} {c : Nat} {e : va_E} (he : c < n → ai_ce cid ad hr' h' (c : Int) = e) (ho : ∀ q : Nat, q < n → q ≠ c → ai_ce cid ad hr' h' (q : Int) = ai_ce cid ad hr h (q : Int)) : (ai_ws cid ad n hr h).set c (ad c, e) = ai_ws cid ad n hr' h' := by
  apply List.ext_getElem?
  intro k
  by_cases hk : k < n
  · rw [ws_get hk]
    by_cases hc : k = c
    · subst hc
      rw [List.getElem?_set_self (by rw [ws_len]; exact hk), he hk]
    · rw [List.getElem?_set_ne (Ne.symm hc), ws_get hk, ho k hk hc]
  · rw [List.getElem?_eq_none_iff.mpr (by rw [List.length_set, ws_len]; omega), List.getElem?_eq_none_iff.mpr (by rw [ws_len]; omega)]
theorem ce_obj {cid : Nat → ClassId} {ad : Nat → Nat} {hr h : HP} {c : Int} {a : Nat} (hk : ai_k c = a) (ha : a < 50) : ai_ce cid ad hr h c = .inr (a, ai_fs ad a hr h c) := by
  subst hk; simp [ai_ce, ha]
theorem ce_arr {cid : Nat → ClassId} {ad : Nat → Nat} {hr h : HP} {c : Int} {t : Nat} (hk : ai_k c = 50 + t) : ai_ce cid ad hr h c = .inl (cid t, (ai_l c).toNat, ai_ar ad t hr h c) := by
  simp [ai_ce, hk]
/-- the fields and rows of a cell speak of this cell alone -/
theorem ce_same {cid : Nat → ClassId} {ad : Nat → Nat} {hr h hr' h' : HP} {c : Int} (g : ∀ j, hr' c j = hr c j) (g2 : ∀ j, h' c j = h c j) : ai_ce cid ad hr' h' c = ai_ce cid ad hr h c := by
  have e1 : hr' c = hr c := funext g
  have e2 : h' c = h c := funext g2
  simp only [ai_ce, ai_fs, ai_fv, ai_ar, e1, e2]
theorem fs_get {ad : Nat → Nat} {a : Nat} {hr h : HP} {c : Int} {b : Nat} (hb : b < ai_nf a) : (ai_fs ad a hr h c)[b]? = some (ai_fv ad (ai_ft a b) hr h c (b : Int)) := by
  simp [ai_fs, hb]
theorem fs_len {ad : Nat → Nat} {a : Nat} {hr h : HP} {c : Int} : (ai_fs ad a hr h c).length = ai_nf a := by simp [ai_fs]
theorem fs_set {ad : Nat → Nat} {a : Nat} {hr h hr' h' : HP} {c : Int} {b : Nat} {v : Value} (hb : ai_fv ad (ai_ft a b) hr' h' c (b : Int) = v) (ho : ∀ i : Nat, i ≠ b → hr' c (i : Int) = hr c (i : Int) ∧ h' c (i : Int) = h c (i : Int)) : (ai_fs ad a hr h c).set b v = ai_fs ad a hr' h' c := by
  apply List.ext_getElem?
  intro k
  by_cases hk : k < ai_nf a
  · rw [fs_get hk]
    by_cases hc : k = b
    · subst hc
      rw [List.getElem?_set_self (by rw [fs_len]; exact hk), hb]
    · rw [List.getElem?_set_ne (Ne.symm hc), fs_get hk]
      unfold ai_fv
      rw [(ho k hc).1, (ho k hc).2]
  · rw [List.getElem?_eq_none_iff.mpr (by rw [List.length_set, fs_len]; omega), List.getElem?_eq_none_iff.mpr (by rw [fs_len]; omega)]
theorem ok_nat {n : Nat} {x : Int} {k : Nat} (h : ai_ok n x k) : ∃ c : Nat, x = (c : Int) ∧ c < n ∧ ai_k (c : Int) = k := by
  obtain ⟨h1, h2, h3⟩ := h
  refine ⟨x.toNat, (Int.toNat_of_nonneg h1).symm, by omega, ?_⟩
  rw [Int.toNat_of_nonneg h1]; exact h3
theorem ro_nat (ad : Nat → Nat) (c : Nat) : ai_ro ad (c : Int) = some (ad c) := by
  unfold ai_ro
  rw [if_neg (by omega)]
  simp
theorem cv_ref (ad xa : Nat → Nat) (c : Nat) : ai_cv ad xa (2, (c : Int)) = .ref (ad c) := by
  show va_rf (ai_ro ad (c : Int)) = _
  rw [ro_nat]; rfl
theorem cv_ext {ad ad' xa : Nat → Nat} {n : Nat} (he : ∀ c, c < n → ad' c = ad c) {v : AV} (hv : ai_vr n v) : ai_cv ad' xa v = ai_cv ad xa v := by
  unfold ai_cv
  unfold ai_vr at hv
  split
  · rfl
  · rfl
  · rename_i x
    simp only at hv
    unfold ai_ro
    by_cases hx : x < 0
    · simp [hx]
    · rw [if_neg hx, if_neg hx, he x.toNat (by omega)]
  · rfl
  · rfl
theorem vr_le {n n' : Nat} (h : n ≤ n') {v : AV} (hv : ai_vr n v) : ai_vr n' v := by
  unfold ai_vr at hv ⊢
  split <;> simp_all
  omega
theorem i32_of (x : Int32) : i32 x.toInt := ⟨x.le_toInt, by have := x.toInt_lt; omega⟩
theorem i64_of (x : Int64) : i64 x.toInt := ⟨x.le_toInt, by have := x.toInt_lt; omega⟩
theorem of_i32 {x : Int} (h : i32 x) : (Int32.ofInt x).toInt = x := Int32.toInt_ofInt_of_le (by have := h.1; omega) (by have := h.2; omega)
theorem of_i64 {x : Int} (h : i64 x) : (Int64.ofInt x).toInt = x := Int64.toInt_ofInt_of_le (by have := h.1; omega) (by have := h.2; omega)
theorem w32_of (x : Int) : Int32.ofInt (w32 x) = Int32.ofInt x := Int32.ofInt_toInt _
theorem w64_of (x : Int) : Int64.ofInt (w64 x) = Int64.ofInt x := Int64.ofInt_toInt _
theorem e_lt {x y : Int} (hx : i32 x) (hy : i32 y) : Int32.ofInt x < Int32.ofInt y ↔ x < y := by
  rw [Int32.lt_iff_toInt_lt, of_i32 hx, of_i32 hy]
theorem e_le {x y : Int} (hx : i32 x) (hy : i32 y) : Int32.ofInt x ≤ Int32.ofInt y ↔ x ≤ y := by
  rw [Int32.le_iff_toInt_le, of_i32 hx, of_i32 hy]
theorem e_eq {x y : Int} (hx : i32 x) (hy : i32 y) : Int32.ofInt x = Int32.ofInt y ↔ x = y := by
  rw [← Int32.toInt_inj, of_i32 hx, of_i32 hy]
theorem e_in {i : Int} {N : Int} (h0 : 0 ≤ i) (hN : i < N) (hi : i32 i) : vp_in (Int32.ofInt i) N.toNat := by
  rw [vp_in_iff, of_i32 hi]; omega
theorem e_cl {i : Int} (hi : i32 i) : (Int32.ofInt i).toNatClampNeg = i.toNat := by
  show (Int32.ofInt i).toInt.toNat = _
  rw [of_i32 hi]
end
section
/-! what is looked at, once, of a method's instructions; what is known at a method's start -/
/-- a callee: name, code, its locals, its answer, its answer's tag, frames, words of locals, cells that it makes, arguments (this one not), 0 virtual 1 static 2 maker, its class's place -/
abbrev ai_I := MethodName × ByteArray × Nat × Option FieldType × Nat × Nat × Nat × Nat × Nat × Nat × Nat
def ai_rtag : Option FieldType → Nat
  | none => 9
  | some .int => 0
  | some .long => 1
  | some .boolean => 3
  | some (.object _) => 2
  | some (.array _) => 2
  | _ => 8
def ai_wf (own : String) (Kc : List Jvm.Cond) (d idx a b : Nat) : Bool := match ai_nth vwCl a, ai_nth Kc d with
  | some (C, T, N), some w => decide (b < N) && (decide (w = .fieldLink own idx C (T b).2.1 (T b).2.2.1) || decide (w = .fieldLinkNest own idx C (T b).2.1 (T b).2.2.1 "SuiteBench"))
  | _, _ => false
def ai_wp2 (own : String) (Kc : List Jvm.Cond) (d idx a b : Nat) (isInit : Bool) : Bool := match ai_nth vwCl a, ai_nth Kc d with
  | some (C, T, N), some w => decide (b < N) && (((!(T b).2.2.2) && (decide (w = .fieldLink own idx C (T b).2.1 (T b).2.2.1) || decide (w = .fieldLinkNest own idx C (T b).2.1 (T b).2.2.1 "SuiteBench"))) || ((T b).2.2.2 && isInit && decide (C = own) && decide (w = .fieldLink own idx C (T b).2.1 (T b).2.2.1)))
  | _, _ => false
def ai_wm (own : String) (Kc : List Jvm.Cond) (d idx : Nat) (y : MethodName) : Bool := match ai_nth Kc d with
  | some w => decide (w = .methodLink own idx y) || decide (w = .methodLinkNest own idx y "SuiteBench")
  | none => false
def ai_ct (own : String) (Kc : List Jvm.Cond) (cal : List ai_I) (fr lo kind : Nat) (idx a b d t : Nat) (z : Int) (tl : List (Int × Nat)) : Bool := match ai_nth cal a with
  | some (y, _, mL, ret, tag, f2, l2, al, na, k2, cls) => decide (ai_tl tl = cls) && ai_wm own Kc d idx y && decide (f2 + 1 ≤ fr) && decide (8 + (mL + 11) + l2 ≤ lo) && decide (z = (al : Int)) && decide (k2 = kind) && decide (b = (if kind = 1 then na else na + 1)) && decide (t = (if tag = 3 then 0 else tag)) && decide (tag = ai_rtag ret) && decide (tag ≠ 8)
  | none => false
def ai_chk (own : String) (cc : ByteArray) (nL : Nat) (Kc : List Jvm.Cond) (cal : List ai_I) (fr lo : Nat) (isInit : Bool) (rt : Option FieldType) (ci : CI) : Bool := match ci with
  | (pc, ins, len, a, b, d, t, z, tl) => decide (decode cc pc = .ok (ins, len)) && (match ins with
    | .iload i | .lload i | .aload i => decide (a = i) && decide (len = 2)
    | .istore i | .astore i => decide (a = i) && decide (len = 2) && decide (a < nL)
    | .lstore i => decide (a = i) && decide (len = 2) && decide (a + 1 < nL)
    | .iload_n k | .lload_n k | .aload_n k => decide (a = k.val) && decide (len = 1)
    | .istore_n k | .astore_n k => decide (a = k.val) && decide (len = 1) && decide (a < nL)
    | .lstore_n k => decide (a = k.val) && decide (len = 1) && decide (a + 1 < nL)
    | .iinc i c => decide (a = i) && decide (z = c) && decide (len = 3)
    | .iconst c => decide (z = c) && decide (len = 1) && decide (-1 ≤ z) && decide (z ≤ 5)
    | .bipush c => decide ((Int8.ofInt c).toInt32 = Int32.ofInt z) && decide (len = 2) && decide (-128 ≤ z) && decide (z ≤ 127)
    | .sipush c => decide ((Int16.ofInt c).toInt32 = Int32.ofInt z) && decide (len = 3) && decide (-32768 ≤ z) && decide (z ≤ 32767)
    | .ldc idx => decide (t = 0) && decide (ai_nth Kc d = some (.constant own idx (Int32.ofInt z))) && decide (len = 2) && decide (-2147483648 ≤ z) && decide (z ≤ 2147483647)
    | .ldc_w idx => decide (ai_nth Kc d = some (.constant own idx (Int32.ofInt z))) && decide (len = 3) && decide (-2147483648 ≤ z) && decide (z ≤ 2147483647)
    | .ldc2_w idx => decide (ai_nth Kc d = some (.constantLong own idx (Int64.ofInt z))) && decide (len = 3) && decide (-9223372036854775808 ≤ z) && decide (z ≤ 9223372036854775807)
    | .lconst k => decide (Int64.ofNat k.val = Int64.ofInt z) && decide (len = 1) && decide (0 ≤ z) && decide (z ≤ 1)
    | .iadd | .isub | .imul | .idiv | .irem | .iand | .ior | .ixor | .ishl | .ishr | .iushr | .i2l | .i2b | .ladd | .lsub | .lmul | .land | .lor | .lxor | .lshl | .lcmp | .dup | .dup2 | .pop | .iaload | .laload | .aaload | .iastore | .lastore | .aastore => decide (len = 1)
    | .baload => decide (len = 1) && (decide (t = 52) || decide (t = 53))
    | .bastore => decide (len = 1) && (decide (t = 52) || decide (t = 53))
    | .arraylength => decide (len = 1) && decide (50 ≤ t) && decide (t ≤ 54)
    | .if_icmp _ off => decide ((pc : Int) + off = (a : Int)) && decide (len = 3)
    | .ifCond _ off => decide ((pc : Int) + off = (a : Int)) && decide (len = 3)
    | .goto off => decide ((pc : Int) + off = (a : Int)) && decide (len = 3)
    | .tableswitch dflt lw hi offs => decide ((pc : Int) + dflt = (a : Int)) && decide (hi = lw + offs.size - 1) && decide (tl = offs.toList.zipIdx.map fun q => (lw + (q.2 : Int), ((pc : Int) + q.1).toNat)) && offs.toList.all fun q => decide (0 ≤ (pc : Int) + q)
    | .lookupswitch dflt ps => decide ((pc : Int) + dflt = (a : Int)) && (ps.toList.zip (ps.toList.drop 1)).all (fun (a, next) => a.1 < next.1) && decide (tl = ps.toList.map fun q => (q.1, ((pc : Int) + q.2).toNat)) && ps.toList.all fun q => decide (0 ≤ (pc : Int) + q.2)
    | .getfield idx => decide (len = 3) && ai_wf own Kc d idx a b && decide (z = (b : Int)) && decide (t = ai_ft a b) && decide (a < 13)
    | .putfield idx => decide (len = 3) && ai_wp2 own Kc d idx a b isInit && decide (z = (b : Int)) && decide (t = ai_ft a b) && decide (a < 13)
    | .new idx => decide (len = 3) && (match ai_nth vwCl a with
      | some (C, _, N) => decide (ai_nth Kc d = some (.classLink own idx C)) && decide (ai_nth Kc b = some (.instantiable C N)) && decide (ai_nth Kc t = some (.initialized C)) && decide (a < 13)
      | none => false)
    | .newarray ty => decide (len = 2) && (match t with
      | 50 => decide (newarray.typeOf ty = .int) && decide (ai_nth Kc d = some (.arrayClass .int))
      | 51 => decide (newarray.typeOf ty = .long) && decide (ai_nth Kc d = some (.arrayClass .long))
      | 52 => decide (newarray.typeOf ty = .boolean) && decide (ai_nth Kc d = some (.arrayClass .boolean))
      | 53 => decide (newarray.typeOf ty = .byte) && decide (ai_nth Kc d = some (.arrayClass .byte))
      | _ => false)
    | .anewarray idx => decide (len = 3) && decide (ai_nth Kc d = some (.classLink own idx "SuiteBench$Tests")) && decide (ai_nth Kc b = some (.arrayOver (.object "SuiteBench$Tests")))
    | .getstatic idx => decide (len = 3) && decide (ai_nth Kc d = some (.fieldLink own idx "SuiteBench$Suites" "MOST_HEADS" "[I"))
    | .invokevirtual idx => decide (len = 3) && ai_ct own Kc cal fr lo 0 idx a b d t z tl
    | .invokespecial idx => decide (len = 3) && (match t with
      | 30 => decide (ai_nth Kc d = some (.methodLink own idx Lib.objectInit)) && decide (1 ≤ fr) && decide (8 + 12 ≤ lo)
      | _ => ai_ct own Kc cal fr lo 2 idx a b d t z tl)
    | .invokestatic idx => decide (len = 3) && (match t with
      | 20 => decide (ai_nth Kc d = some (.methodLink own idx arraycopyName)) && decide (1 ≤ fr) && decide (8 + (nativeFrameWords "java/lang/System" "arraycopy" 5 + 11) ≤ lo)
      | 21 => decide (ai_nth Kc d = some (.methodLink own idx arraycopyName)) && decide (1 ≤ fr) && decide (8 + (nativeFrameWords "java/lang/System" "arraycopy" 5 + 11) ≤ lo)
      | _ => ai_ct own Kc cal fr lo 1 idx a b d t z tl)
    | .ireturn => decide (len = 1) && ((decide (t = 3) && decide (rt = some .boolean)) || (decide (t = 0) && decide (rt = some .int)))
    | .lreturn => decide (len = 1) && decide (rt = some .long)
    | .areturn => decide (len = 1) && (match rt with
      | some (.object _) => true
      | some (.array _) => true
      | _ => false)
    | .return_ => decide (len = 1) && decide (rt = none)
    | _ => false)
def ai_all (own : String) (cc : ByteArray) (nL : Nat) (Kc : List Jvm.Cond) (cal : List ai_I) (fr lo : Nat) (isInit : Bool) (rt : Option FieldType) (code : ai_C) : Bool := code.all fun l => l.all fun ci => ai_chk own cc nL Kc cal fr lo isInit rt ci
theorem find_mem {pc : Nat} {ci : CI} : ∀ (l : List CI), ai_find pc l = some ci → ci ∈ l ∧ ci.1 = pc
  | [], h => by simp [ai_find] at h
  | a :: l, h => by
    unfold ai_find at h
    cases hq : Nat.beq a.1 pc with
    | true =>
      rw [hq] at h
      cases h
      exact ⟨List.mem_cons_self, Nat.eq_of_beq_eq_true hq⟩
    | false =>
      rw [hq] at h
      obtain ⟨h1, h2⟩ := find_mem l h
      exact ⟨List.mem_cons_of_mem _ h1, h2⟩
theorem at_chk {own : String} {cc : ByteArray} {nL : Nat} {Kc : List Jvm.Cond} {cal : List ai_I} {fr lo : Nat} {isInit : Bool} {rt : Option FieldType} {code : ai_C} (h : ai_all own cc nL Kc cal fr lo isInit rt code = true) {pc : Nat} {ci : CI} (hq : ai_at code pc = some ci) : ai_chk own cc nL Kc cal fr lo isInit rt ci = true ∧ ci.1 = pc := by
  unfold ai_at at hq
  split at hq
  · rename_i l hl
    rw [nth_eq] at hl
    obtain ⟨h1, h2⟩ := find_mem l hq
    exact ⟨List.all_eq_true.mp (List.all_eq_true.mp h l (List.mem_of_getElem? hl)) ci h1, h2⟩
  · cases hq
/-- from outside: the heads' row, and what else -/
def ai_EX (E2 : (Nat → Nat) → State → Heap → Prop) (B0 : Nat) (xa : Nat → Nat) (U : State) (H : Heap) : Prop := va_Z "SuiteBench$Suites" "MOST_HEADS" "[I" (.ref (xa 1)) (fun q : Nat => B0 ≤ q) U H ∧ va_T .int (xa 1) 3 (fun j => .int (Int32.ofInt (ai_hd (j : Int)))) (fun q : Nat => B0 ≤ q) U H ∧ E2 xa U H
def ai_E2ok (B0 : Nat) (E2 : (Nat → Nat) → State → Heap → Prop) : Prop := (∀ xa (s U : State) (H : Heap), s.WarmedH U.vm → E2 xa s H → E2 xa U H) ∧ (∀ xa (U : State) (H H1 : Heap), (∀ q : Nat, q < H.size → ¬ B0 ≤ q → H1[q]? = H[q]?) → E2 xa U H → E2 xa U H1) ∧ (∀ xa (U : State) (H : Heap) (g : JFrame) (mk : MethodId) (a : Array Value), E2 xa U H → E2 xa (U.calling g mk a) H)
def ai_Pw (E2 : (Nat → Nat) → State → Heap → Prop) (D : va_G) (cid : Nat → ClassId) (B0 : Nat) (xa ad : Nat → Nat) (n : Nat) (hr h : HP) (U : State) : Prop := B0 ≤ U.heap.size ∧ ai_W D cid B0 ad n hr h U.heap ∧ va_K D vwCl (ai_tys cid) U ∧ ai_EX E2 B0 xa U U.heap
abbrev ai_U := Nat × HP × HP × (Nat → Nat)
/-- the world behind a method that began with n cells at ad -/
def ai_Bw (D : va_G) (cid : Nat → ClassId) (B0 : Nat) (ad : Nat → Nat) (n al : Nat) (u : ai_U) (t : State) : Prop := u.1 = n + al ∧ (∀ c, c < n → u.2.2.2 c = ad c) ∧ ai_IH u.1 u.2.1 u.2.2.1 ∧ ai_W D cid B0 u.2.2.2 u.1 u.2.1 u.2.2.1 t.heap
def ai_Qc (tag : Nat) (D : va_G) (cid : Nat → ClassId) (B0 : Nat) (ad : Nat → Nat) (n al : Nat) (Q : RP) : Array Value → State → Outcome → State → Prop := match tag with
  | 0 => va_Qi (fun r (u : ai_U) => Q (0, r.toInt) u.1 u.2.1 u.2.2.1) (ai_Bw D cid B0 ad n al) (fun q : Nat => B0 ≤ q)
  | 3 => va_Qi (fun r (u : ai_U) => Q (0, r.toInt) u.1 u.2.1 u.2.2.1) (ai_Bw D cid B0 ad n al) (fun q : Nat => B0 ≤ q)
  | 1 => va_Ql (fun r (u : ai_U) => Q (1, r.toInt) u.1 u.2.1 u.2.2.1) (ai_Bw D cid B0 ad n al) (fun q : Nat => B0 ≤ q)
  | 9 => va_Qv (fun (u : ai_U) => Q (9, 0) u.1 u.2.1 u.2.2.1) (ai_Bw D cid B0 ad n al) (fun q : Nat => B0 ≤ q)
  | _ => va_Qq (fun r (u : ai_U) => ∃ x : Int, -1 ≤ x ∧ x < (u.1 : Int) ∧ r = ai_ro u.2.2.2 x ∧ Q (2, x) u.1 u.2.1 u.2.2.1) (ai_Bw D cid B0 ad n al) (fun q : Nat => B0 ≤ q)
/-- a method's contract: wherever the small machine's words hold, the real one does the same -/
def ai_S (E2 : (Nat → Nat) → State → Heap → Prop) (i : ai_I) (M : SP) : Prop := match i with
  | (y, cc, maxL, ret, tag, fr, lo, al, _, _, _) => ∀ (l : Launch) (D : va_G) (cid : Nat → ClassId) (B0 : Nat) (xa ad : Nat → Nat) (args : List AV) (n : Nat) (hr h : HP) (Q : RP), l.flags = flags0 → ai_E2ok B0 E2 → M args n hr h Q → ai_SI n args → ai_IH n hr h →
    Met l y (.code y cc maxL ret :: ai_gw) { frames := fr, cells := al, slots := ai_cs (n + al) - ai_cs n, locals := lo } (va_Pc (args.map (ai_cv ad xa)) (ai_Pw E2 D cid B0 xa ad n hr h)) (ai_Qc tag D cid B0 ad n al Q) al (ai_cs (n + al) - ai_cs n) (fun q : Nat => B0 ≤ q)
/-- the words that a call of it wants -/
def ai_CW (i : ai_I) : Prop := match i with
  | (y, cc, maxL, ret, _, _, _, _, na, kind, cls) => Jvm.Cond.code y cc maxL ret ∈ ai_gw ∧ Jvm.Cond.initialized y.cls ∈ ai_gw ∧ (y.cls ≠ "java/lang/invoke/MethodHandle" ∧ y.cls ≠ "java/lang/invoke/VarHandle" ∧ (parseMethodDescriptor y.desc).map (fun d => d.parameters.length) = some na) ∧ (match kind with
    | 0 => Jvm.Cond.instanceMethod y ∈ ai_gw ∧ Jvm.Cond.selects y.cls y y ∈ ai_gw ∧ ∃ T N, vwCl[cls]? = some (y.cls, T, N)
    | 1 => Jvm.Cond.static y ∈ ai_gw
    | _ => Jvm.Cond.instanceMethod y ∈ ai_gw ∧ y.name = "<init>" ∧ ret = none)
end
section
/-! every step of the small machine is a step of the real one -/
section SND
variable {p : Program} {l : Launch} {e : Env} {R : Room} {s : State} {m : MethodId} {args : Array Value} {below : List Frame} {meth : Method} {c : Code}
def ai_PS (p : Program) (l : Launch) (e : Env) (R : Room) (s : State) (m : MethodId) (args : Array Value) (below : List Frame) (meth : Method) (c : Code) (D : va_G) (cid : Nat → ClassId) (B0 : Nat) (xa : Nat → Nat) (nL n0 lim : Nat) (ad0 : Nat → Nat) (gx gy : Nat) (Qf : State → Prop) : KP := fun pc L S n hr h =>
  ∀ (ad : Nat → Nat) (H : Heap) (locs : List Loc) (ls : Array Slot), n0 ≤ n → n ≤ lim → (∀ q, q < n0 → ad q = ad0 q) → ai_W D cid B0 ad n hr h H → ai_IH n hr h → ai_LR ad xa ls nL L → ai_LI n L → ai_SI n S → va_S (fun q : Nat => B0 ≤ q) s.heap H locs →
    W p l e R s m args below meth c H locs (n - n0 + gx) (ai_cs n - ai_cs n0 + gy) Qf (F0 m pc ls (S.map (ai_cv ad xa)))
/-- how it ends -/
def ai_QR (p : Program) (l : Launch) (e : Env) (R : Room) (s : State) (m : MethodId) (args : Array Value) (below : List Frame) (meth : Method) (c : Code) (D : va_G) (cid : Nat → ClassId) (B0 : Nat) (xa : Nat → Nat) (n0 lim : Nat) (ad0 : Nat → Nat) (gx gy : Nat) (Qf : State → Prop) (cc : ByteArray) (ins : Instr) (r : AV) (st : List AV) (n : Nat) (hr h : HP) : Prop :=
  ∀ (ad : Nat → Nat) (H : Heap) (locs : List Loc) (ls : Array Slot) (pc : Nat), n0 ≤ n → n ≤ lim → (∀ q, q < n0 → ad q = ad0 q) → ai_W D cid B0 ad n hr h H → ai_IH n hr h → ai_vr n r → va_S (fun q : Nat => B0 ≤ q) s.heap H locs → decode cc pc = .ok (ins, 1) →
    W p l e R s m args below meth c H locs (n - n0 + gx) (ai_cs n - ai_cs n0 + gy) Qf (F0 m pc ls (st.map (ai_cv ad xa)))
theorem inv_i1 {S k} (h : ai_i1 S k) : ∃ x R, S = (0, x) :: R ∧ k x R := by
  unfold ai_i1 at h; split at h <;> first | exact ⟨_, _, rfl, h⟩ | exact h.elim
theorem inv_i2 {S k} (h : ai_i2 S k) : ∃ x y R, S = (0, y) :: (0, x) :: R ∧ k x y R := by
  unfold ai_i2 at h; split at h <;> first | exact ⟨_, _, _, rfl, h⟩ | exact h.elim
theorem inv_l1 {S k} (h : ai_l1 S k) : ∃ x R, S = (1, x) :: R ∧ k x R := by
  unfold ai_l1 at h; split at h <;> first | exact ⟨_, _, rfl, h⟩ | exact h.elim
theorem inv_l2 {S k} (h : ai_l2 S k) : ∃ x y R, S = (1, y) :: (1, x) :: R ∧ k x y R := by
  unfold ai_l2 at h; split at h <;> first | exact ⟨_, _, _, rfl, h⟩ | exact h.elim
theorem inv_r1 {S k} (h : ai_r1 S k) : ∃ x R, S = (2, x) :: R ∧ k x R := by
  unfold ai_r1 at h; split at h <;> first | exact ⟨_, _, rfl, h⟩ | exact h.elim
theorem inv_lint {L i k} (h : ai_lint L i k) : ∃ x, ai_nth L i = some (some (0, x)) ∧ k x := by
  unfold ai_lint at h; split at h <;> first | exact ⟨_, by assumption, h⟩ | exact h.elim
theorem inv_llong {L i k} (h : ai_llong L i k) : ∃ x, ai_nth L i = some (some (1, x)) ∧ k x := by
  unfold ai_llong at h; split at h <;> first | exact ⟨_, by assumption, h⟩ | exact h.elim
theorem inv_lref {L i k} (h : ai_lref L i k) : (∃ x, ai_nth L i = some (some (2, x)) ∧ k (2, x)) ∨ ∃ x, ai_nth L i = some (some (4, x)) ∧ k (4, x) := by
  unfold ai_lref at h; split at h
  · exact Or.inl ⟨_, by assumption, h⟩
  · exact Or.inr ⟨_, by assumption, h⟩
  · exact h.elim
theorem SI_cons {n v S} : ai_SI n (v :: S) ↔ ai_vr n v ∧ ai_SI n S := by
  unfold ai_SI; simp
theorem nth_set {α : Type} (L : List α) (i j : Nat) (v : α) : ai_nth (ai_set L i v) j = if j = i ∧ i < L.length then some v else ai_nth L j := by
  rw [nth_eq, nth_eq, set_eq]
  by_cases h : j = i
  · subst h
    by_cases h2 : j < L.length
    · simp [h2]
    · simp [h2]
  · rw [List.getElem?_set_ne (Ne.symm h)]
    simp [h]
theorem len_set {α : Type} (L : List α) (i : Nat) (v : α) : (ai_set L i v).length = L.length := by rw [set_eq, List.length_set]
theorem clr_nth (L : List (Option AV)) (i j : Nat) (v : AV) (h : ai_nth (ai_clr L i) j = some (some v)) : ai_nth L j = some (some v) ∧ ¬ (j = i ∧ v.1 = 1) := by
  unfold ai_clr at h
  split at h
  · rename_i x hx
    rw [nth_set] at h
    split at h
    · cases h
    · rename_i hn
      refine ⟨h, fun q => hn ⟨q.1, ?_⟩⟩
      rw [nth_eq] at hx
      exact (List.getElem?_eq_some_iff.mp hx).1
  · rename_i hx
    refine ⟨h, fun q => ?_⟩
    obtain ⟨q1, q2⟩ := q
    subst q1
    obtain ⟨t, x⟩ := v
    simp only at q2
    subst q2
    exact hx x h
theorem clr_len (L : List (Option AV)) (i : Nat) : (ai_clr L i).length = L.length := by
  unfold ai_clr; split <;> first | rw [len_set] | rfl
theorem clp_nth (L : List (Option AV)) (i j : Nat) (v : AV) (h : ai_nth (ai_clp L i) j = some (some v)) : ai_nth L j = some (some v) ∧ ¬ (j + 1 = i ∧ v.1 = 1) := by
  cases i with
  | zero => exact ⟨h, by omega⟩
  | succ i =>
    obtain ⟨h1, h2⟩ := clr_nth L i j v h
    exact ⟨h1, fun q => h2 ⟨by omega, q.2⟩⟩
theorem clp_len (L : List (Option AV)) (i : Nat) : (ai_clp L i).length = L.length := by
  cases i with
  | zero => rfl
  | succ i => exact clr_len L i
theorem cat_cv {ad xa : Nat → Nat} {v : AV} : (ai_cv ad xa v).category = 2 ↔ v.1 = 1 := by
  obtain ⟨t, x⟩ := v
  match t with
  | 0 => simp [ai_cv, Value.category]
  | 1 => simp [ai_cv, Value.category]
  | 2 =>
    have h : (va_rf (ai_ro ad x)).category = 1 := by cases ai_ro ad x <;> rfl
    show (va_rf (ai_ro ad x)).category = 2 ↔ 2 = 1
    rw [h]; simp
  | 3 => simp [ai_cv, Value.category]
  | 4 => simp [ai_cv, Value.category]
  | t + 5 => simp [ai_cv, Value.category]
/-- the told locals as a list -/
def ai_ll (ad xa : Nat → Nat) : Nat → List (Option AV) → List (Nat × Value)
  | _, [] => []
  | i, none :: L => ai_ll ad xa (i + 1) L
  | i, some v :: L => (i, ai_cv ad xa v) :: ai_ll ad xa (i + 1) L
theorem ll_mem {ad xa : Nat → Nat} : ∀ (L : List (Option AV)) (i : Nat) (q : Nat × Value), q ∈ ai_ll ad xa i L ↔ ∃ j v, ai_nth L j = some (some v) ∧ q = (i + j, ai_cv ad xa v)
  | [], i, q => by simp [ai_ll, ai_nth]
  | none :: L, i, q => by
    rw [ai_ll, ll_mem L (i + 1) q]
    constructor
    · rintro ⟨j, v, h1, h2⟩
      exact ⟨j + 1, v, h1, by rw [h2]; congr 1; omega⟩
    · rintro ⟨j, v, h1, h2⟩
      cases j with
      | zero => simp [ai_nth] at h1
      | succ j => exact ⟨j, v, h1, by rw [h2]; congr 1; omega⟩
  | some w :: L, i, q => by
    rw [ai_ll, List.mem_cons, ll_mem L (i + 1) q]
    constructor
    · rintro (h | ⟨j, v, h1, h2⟩)
      · exact ⟨0, w, rfl, h⟩
      · exact ⟨j + 1, v, h1, by rw [h2]; congr 1; omega⟩
    · rintro ⟨j, v, h1, h2⟩
      cases j with
      | zero => simp [ai_nth] at h1; subst h1; exact Or.inl h2
      | succ j => exact Or.inr ⟨j, v, h1, by rw [h2]; congr 1; omega⟩
theorem LR_has {ad xa : Nat → Nat} {ls : Array Slot} {nL : Nat} {L : List (Option AV)} (h : ai_LR ad xa ls nL L) : lv_has ls nL (ai_ll ad xa 0 L) := by
  obtain ⟨h1, h2, h3, h4⟩ := h
  refine ⟨h2, h3, fun q hq => ?_⟩
  obtain ⟨j, v, a1, a2⟩ := (ll_mem L 0 q).mp hq
  subst a2
  simpa using h4 j v a1
theorem LR_ist {ad xa : Nat → Nat} {ls ls' : Array Slot} {nL i : Nat} {L : List (Option AV)} {v : AV} (h : ai_LR ad xa ls nL L) (hv : ¬ v.1 = 1) (h2 : lv_has ls' nL ((i, ai_cv ad xa v) :: (ai_ll ad xa 0 L).filter (fun q => !(q.1 == i) && !(q.1 + 1 == i && q.2.category == 2)))) : ai_LR ad xa ls' nL (ai_ist L i v) := by
  obtain ⟨a1, a2, a3⟩ := h2
  refine ⟨by rw [ai_ist, len_set, clp_len, h.1], a1, a2, fun j w hj => ?_⟩
  unfold ai_ist at hj
  rw [nth_set] at hj
  split at hj
  · rename_i hji
    cases hj
    rw [hji.1]
    exact a3 _ List.mem_cons_self
  · rename_i hji
    have hlen : j < L.length := by
      rw [nth_eq] at hj
      have := (List.getElem?_eq_some_iff.mp hj).1
      rwa [clp_len] at this
    have hne : j ≠ i := fun q => hji ⟨q, by rw [clp_len, ← q]; exact hlen⟩
    obtain ⟨b1, b2⟩ := clp_nth L i j w hj
    refine a3 (j, ai_cv ad xa w) (List.mem_cons_of_mem _ (List.mem_filter.mpr ⟨(ll_mem L 0 _).mpr ⟨j, w, b1, by simp⟩, ?_⟩))
    simp only [Bool.and_eq_true, Bool.not_eq_true', beq_eq_false_iff_ne, ne_eq, Bool.and_eq_false_iff]
    refine ⟨hne, ?_⟩
    by_cases hq : j + 1 = i
    · exact Or.inr fun z => b2 ⟨hq, cat_cv.mp z⟩
    · exact Or.inl hq
theorem LR_lst {ad xa : Nat → Nat} {ls ls' : Array Slot} {nL i : Nat} {L : List (Option AV)} {v : AV} (h : ai_LR ad xa ls nL L) (hi : i + 1 < nL) (h2 : lv_has ls' nL ((i, ai_cv ad xa v) :: (ai_ll ad xa 0 L).filter (fun q => !(q.1 == i) && (!(q.1 == i + 1) && !(q.1 + 1 == i && q.2.category == 2))))) : ai_LR ad xa ls' nL (ai_lst L i v) := by
  obtain ⟨a1, a2, a3⟩ := h2
  refine ⟨by rw [ai_lst, len_set, len_set, clp_len, h.1], a1, a2, fun j w hj => ?_⟩
  unfold ai_lst at hj
  rw [nth_set] at hj
  split at hj
  · cases hj
  · rename_i hji1
    rw [len_set, clp_len, h.1] at hji1
    have hn1 : j ≠ i + 1 := fun q => hji1 ⟨q, hi⟩
    rw [nth_set] at hj
    split at hj
    · rename_i hji
      cases hj
      rw [hji.1]
      exact a3 _ List.mem_cons_self
    · rename_i hji
      rw [clp_len, h.1] at hji
      have hne : j ≠ i := fun q => hji ⟨q, by omega⟩
      obtain ⟨b1, b2⟩ := clp_nth L i j w hj
      refine a3 (j, ai_cv ad xa w) (List.mem_cons_of_mem _ (List.mem_filter.mpr ⟨(ll_mem L 0 _).mpr ⟨j, w, b1, by simp⟩, ?_⟩))
      simp only [Bool.and_eq_true, Bool.not_eq_true', beq_eq_false_iff_ne, ne_eq, Bool.and_eq_false_iff]
      refine ⟨hne, hn1, ?_⟩
      by_cases hq : j + 1 = i
      · exact Or.inr fun z => b2 ⟨hq, cat_cv.mp z⟩
      · exact Or.inl hq
theorem LI_ist {n i : Nat} {L : List (Option AV)} {v : AV} (h : ai_LI n L) (hv : ai_vr n v) : ai_LI n (ai_ist L i v) := by
  intro j w hj
  unfold ai_ist at hj
  rw [nth_set] at hj
  split at hj
  · cases hj; exact hv
  · exact h j w (clp_nth L i j w hj).1
theorem LI_lst {n i : Nat} {L : List (Option AV)} {v : AV} (h : ai_LI n L) (hv : ai_vr n v) : ai_LI n (ai_lst L i v) := by
  intro j w hj
  unfold ai_lst at hj
  rw [nth_set] at hj
  split at hj
  · cases hj
  · rw [nth_set] at hj
    split at hj
    · cases hj; exact hv
    · exact h j w (clp_nth L i j w hj).1
theorem LR_ext {ad ad' xa : Nat → Nat} {ls : Array Slot} {nL n : Nat} {L : List (Option AV)} (h : ai_LR ad xa ls nL L) (hi : ai_LI n L) (he : ∀ c, c < n → ad' c = ad c) : ai_LR ad' xa ls nL L :=
  ⟨h.1, h.2.1, h.2.2.1, fun i v hv => by rw [cv_ext he (hi i v hv)]; exact h.2.2.2 i v hv⟩
theorem LI_le {n n' : Nat} {L : List (Option AV)} (h : ai_LI n L) (hn : n ≤ n') : ai_LI n' L := fun i v hv => vr_le hn (h i v hv)
theorem SI_le {n n' : Nat} {S : List AV} (h : ai_SI n S) (hn : n ≤ n') : ai_SI n' S := fun v hv => vr_le hn (h v hv)
theorem map_ext {ad ad' xa : Nat → Nat} {n : Nat} {S : List AV} (h : ai_SI n S) (he : ∀ c, c < n → ad' c = ad c) : S.map (ai_cv ad' xa) = S.map (ai_cv ad xa) := List.map_congr_left fun v hv => cv_ext he (h v hv)
theorem LR_fg {ad xa : Nat → Nat} {ls : Array Slot} {nL : Nat} {L L' : List (Option AV)} (h : ai_LR ad xa ls nL L) (g : ai_fg L' L) : ai_LR ad xa ls nL L' :=
  ⟨g.1.trans h.1, h.2.1, h.2.2.1, fun i v hv => h.2.2.2 i v (g.2 i v hv)⟩
theorem LI_fg {n : Nat} {L L' : List (Option AV)} (h : ai_LI n L) (g : ai_fg L' L) : ai_LI n L' := fun i v hv => h i v (g.2 i v hv)
end SND
end
section
/-! every step of the small machine is a step of the real one: the steps on the stack and the locals -/
section SND2
variable {p : Program} {l : Launch} {e : Env} {R : Room} {s : State} {m : MethodId} {args : Array Value} {below : List Frame} {meth : Method} {c : Code} {D : va_G} {cid : Nat → ClassId} {B0 : Nat} {xa : Nat → Nat} {nL n0 lim : Nat} {ad0 : Nat → Nat} {gx gy : Nat} {Qf : State → Prop} {cc : ByteArray}
/-- a step that leaves locals and cells -/
theorem sn_pure {pc pc' n : Nat} {L : List (Option AV)} {S S' : List AV} {hr h : HP} (k : ai_PS p l e R s m args below meth c D cid B0 xa nL n0 lim ad0 gx gy Qf pc' L S' n hr h) (hS : ai_LI n L → ai_SI n S → ai_SI n S')
    (g : ∀ (ad : Nat → Nat) (H : Heap) (locs : List Loc) (ls : Array Slot), ai_LR ad xa ls nL L → ai_SI n S → W p l e R s m args below meth c H locs (n - n0 + gx) (ai_cs n - ai_cs n0 + gy) Qf (F0 m pc' ls (S'.map (ai_cv ad xa))) → W p l e R s m args below meth c H locs (n - n0 + gx) (ai_cs n - ai_cs n0 + gy) Qf (F0 m pc ls (S.map (ai_cv ad xa)))) :
    ai_PS p l e R s m args below meth c D cid B0 xa nL n0 lim ad0 gx gy Qf pc L S n hr h :=
  fun ad H locs ls h1 h2 h3 h4 h5 h6 h7 h8 h9 => g ad H locs ls h6 h8 (k ad H locs ls h1 h2 h3 h4 h5 h6 h7 (hS h7 h8) h9)
theorem sn_istore {pc pc' n i : Nat} {L : List (Option AV)} {S S' : List AV} {hr h : HP} {v : AV} (k : ai_PS p l e R s m args below meth c D cid B0 xa nL n0 lim ad0 gx gy Qf pc' (ai_ist L i v) S' n hr h) (hv1 : ¬ v.1 = 1) (hS : ai_LI n L → ai_SI n S → ai_SI n S' ∧ ai_vr n v)
    (g : ∀ (ad : Nat → Nat) (H : Heap) (locs : List Loc) (ls : Array Slot), ai_LR ad xa ls nL L → ai_LI n L → ai_SI n S → (∀ ls' : Array Slot, lv_has ls' nL ((i, ai_cv ad xa v) :: (ai_ll ad xa 0 L).filter (fun q => !(q.1 == i) && !(q.1 + 1 == i && q.2.category == 2))) → W p l e R s m args below meth c H locs (n - n0 + gx) (ai_cs n - ai_cs n0 + gy) Qf (F0 m pc' ls' (S'.map (ai_cv ad xa)))) → W p l e R s m args below meth c H locs (n - n0 + gx) (ai_cs n - ai_cs n0 + gy) Qf (F0 m pc ls (S.map (ai_cv ad xa)))) :
    ai_PS p l e R s m args below meth c D cid B0 xa nL n0 lim ad0 gx gy Qf pc L S n hr h :=
  fun ad H locs ls h1 h2 h3 h4 h5 h6 h7 h8 h9 => g ad H locs ls h6 h7 h8 fun ls' hl => k ad H locs ls' h1 h2 h3 h4 h5 (LR_ist h6 hv1 hl) (LI_ist h7 (hS h7 h8).2) (hS h7 h8).1 h9
theorem sn_lstore {pc pc' n i : Nat} {L : List (Option AV)} {S S' : List AV} {hr h : HP} {v : AV} (k : ai_PS p l e R s m args below meth c D cid B0 xa nL n0 lim ad0 gx gy Qf pc' (ai_lst L i v) S' n hr h) (hi : i + 1 < nL) (hS : ai_SI n S → ai_SI n S' ∧ ai_vr n v)
    (g : ∀ (ad : Nat → Nat) (H : Heap) (locs : List Loc) (ls : Array Slot), ai_LR ad xa ls nL L → (∀ ls' : Array Slot, lv_has ls' nL ((i, ai_cv ad xa v) :: (ai_ll ad xa 0 L).filter (fun q => !(q.1 == i) && (!(q.1 == i + 1) && !(q.1 + 1 == i && q.2.category == 2)))) → W p l e R s m args below meth c H locs (n - n0 + gx) (ai_cs n - ai_cs n0 + gy) Qf (F0 m pc' ls' (S'.map (ai_cv ad xa)))) → W p l e R s m args below meth c H locs (n - n0 + gx) (ai_cs n - ai_cs n0 + gy) Qf (F0 m pc ls (S.map (ai_cv ad xa)))) :
    ai_PS p l e R s m args below meth c D cid B0 xa nL n0 lim ad0 gx gy Qf pc L S n hr h :=
  fun ad H locs ls h1 h2 h3 h4 h5 h6 h7 h8 h9 => g ad H locs ls h6 fun ls' hl => k ad H locs ls' h1 h2 h3 h4 h5 (LR_lst h6 hi hl) (LI_lst h7 (hS h8).2) (hS h8).1 h9
theorem LR_len {ad xa : Nat → Nat} {ls : Array Slot} {nL i : Nat} {L : List (Option AV)} {v : Option AV} (h : ai_LR ad xa ls nL L) (hi : ai_nth L i = some v) : i < nL := by
  rw [nth_eq] at hi
  rw [← h.1]
  exact (List.getElem?_eq_some_iff.mp hi).1
theorem u_and (x y : Int) : Int32.ofInt (i_and x y) = Int32.ofInt x &&& Int32.ofInt y := Int32.ofInt_toInt _
theorem e_add (x y : Int) : Int32.ofInt x + Int32.ofInt y = Int32.ofInt (w32 (x + y)) := by rw [w32_of, Int32.ofInt_add]
theorem e_sub (x y : Int) : Int32.ofInt x - Int32.ofInt y = Int32.ofInt (w32 (x - y)) := by rw [w32_of, Int32.ofInt_sub]
theorem e_mul (x y : Int) : Int32.ofInt x * Int32.ofInt y = Int32.ofInt (w32 (x * y)) := by rw [w32_of, Int32.ofInt_mul]
theorem f_add (x y : Int) : Int64.ofInt x + Int64.ofInt y = Int64.ofInt (w64 (x + y)) := by rw [w64_of, Int64.ofInt_add]
theorem f_sub (x y : Int) : Int64.ofInt x - Int64.ofInt y = Int64.ofInt (w64 (x - y)) := by rw [w64_of, Int64.ofInt_sub]
theorem f_mul (x y : Int) : Int64.ofInt x * Int64.ofInt y = Int64.ofInt (w64 (x * y)) := by rw [w64_of, Int64.ofInt_mul]
theorem e_zero {x : Int} (hx : i32 x) : Int32.ofInt x = 0 ↔ x = 0 := by
  have := e_eq hx (show i32 0 from ⟨by decide, by decide⟩)
  exact this
theorem f_cmp {x y : Int} (hx : i64 x) (hy : i64 y) : lg_cmp (Int64.ofInt x) (Int64.ofInt y) = Int32.ofInt (l_cmp x y) := by
  unfold lg_cmp l_cmp
  simp only [gt_iff_lt, Int64.lt_iff_toInt_lt, ← Int64.toInt_inj, of_i64 hx, of_i64 hy]
  by_cases h1 : y < x
  · rw [if_pos h1, if_neg (by omega), if_neg (by omega)]; rfl
  · rw [if_neg h1]
    by_cases h2 : x = y
    · rw [if_pos h2, if_neg (by omega), if_pos h2]; rfl
    · rw [if_neg h2, if_pos (by omega)]; rfl
theorem f_i2l {x : Int} (hx : i32 x) : (Int32.ofInt x).toInt64 = Int64.ofInt x := by
  apply Int64.toInt_inj.mp
  rw [Int32.toInt_toInt64, of_i32 hx, of_i64 ⟨by have := hx.1; omega, by have := hx.2; omega⟩]
/-- what stands at a start and stays -/
def ai_F (p : Program) (s : State) (m : MethodId) (args : Array Value) (meth : Method) (c : Code) (cc : ByteArray) (nL : Nat) (own : String) (isInit : Bool) (D : va_G) (cid : Nat → ClassId) (B0 : Nat) (xa : Nat → Nat) (E2 : (Nat → Nat) → State → Heap → Prop) (Kc : List Jvm.Cond) : Prop :=
  p.tables.exec = Jvm.exec ∧ c.code = cc ∧ c.maxLocals = nL ∧ s.vm.findClass own = some m.cls ∧ (∀ w ∈ ai_gw, w.before args s = true) ∧ (isInit = true → meth.name = "<init>") ∧ va_K D vwCl (ai_tys cid) s ∧ B0 ≤ s.heap.size ∧ ai_EX E2 B0 xa s s.heap ∧ ai_E2ok B0 E2 ∧ (∀ w ∈ Kc, w ∈ ai_gw)
def ai_XS (X : XE) (B0 : Nat) (xa : Nat → Nat) (s : State) : Prop := match X with
  | some (len, f) => ∃ (L : Nat) (xs : Nat → Int32), len = (L : Int) ∧ L < 2 ^ 31 ∧ va_X (xa 0) L xs s s.heap ∧ xa 0 < s.heap.size ∧ ¬ B0 ≤ xa 0 ∧ ∀ j : Nat, j < L → f (j : Int) = (xs j).toInt
  | none => True
end SND2
end
section
/-! the steps, an instruction each: values alone -/
section SND3
variable {p : Program} {l : Launch} {e : Env} {R : Room} {s : State} {m : MethodId} {args : Array Value} {below : List Frame} {meth : Method} {c : Code} {D : va_G} {cid : Nat → ClassId} {B0 : Nat} {xa : Nat → Nat} {nL n0 lim : Nat} {ad0 : Nat → Nat} {gx gy : Nat} {Qf : State → Prop} {cc : ByteArray} {own : String} {isInit : Bool} {E2 : (Nat → Nat) → State → Heap → Prop} {Kc : List Jvm.Cond} {cal : List ai_I} {fr lo : Nat} {rt : Option FieldType} {orc : Nat → SP} {X : XE} {Q : RP} {pc len a b d t n : Nat} {z : Int} {tl : List (Int × Nat)} {L : List (Option AV)} {S : List AV} {hr h : HP}
theorem inv_d1 {S : List AV} {k : AV → List AV → Prop} (h : ai_d1 S k) : ∃ v R, S = v :: R ∧ ai_cat1 v ∧ k v R := by
  unfold ai_d1 at h; split at h <;> first | exact ⟨_, _, rfl, h⟩ | exact h.elim
theorem inv_d2 {S : List AV} {k : AV → AV → List AV → Prop} (h : ai_d2 S k) : ∃ v u R, S = v :: u :: R ∧ ai_cat1 v ∧ ai_cat1 u ∧ k v u R := by
  unfold ai_d2 at h; split at h <;> first | exact ⟨_, _, _, rfl, h⟩ | exact h.elim
theorem cat1_cv {ad xa : Nat → Nat} {v : AV} (h : ai_cat1 v) : (ai_cv ad xa v).category = 1 := by
  unfold ai_cat1 at h
  split at h
  · rfl
  · rename_i x
    show (va_rf (ai_ro ad x)).category = 1
    cases ai_ro ad x <;> rfl
  · exact h.elim
theorem s_iload {i : Nat} (F : ai_F p s m args meth c cc nL own isInit D cid B0 xa E2 Kc) (g : ai_chk own cc nL Kc cal fr lo isInit rt (pc, .iload i, len, a, b, d, t, z, tl) = true) (q : ai_st orc lim X (pc, .iload i, len, a, b, d, t, z, tl) (ai_PS p l e R s m args below meth c D cid B0 xa nL n0 lim ad0 gx gy Qf) L S n hr h Q) : ai_PS p l e R s m args below meth c D cid B0 xa nL n0 lim ad0 gx gy Qf pc L S n hr h := by
  simp only [ai_chk, Bool.and_eq_true, decide_eq_true_eq, Bool.or_eq_true] at g
  simp only [ai_st] at q
  obtain ⟨hd, rfl, rfl⟩ := g
  obtain ⟨x, hx, k⟩ := inv_lint q
  exact sn_pure k (fun hL hS => SI_cons.mpr ⟨hL _ _ hx, hS⟩) fun ad H locs ls hL _ w => lv_iload F.1 F.2.1 hd (hL.2.2.2 _ _ hx) w

theorem s_iload_n {i : Fin 4} (F : ai_F p s m args meth c cc nL own isInit D cid B0 xa E2 Kc) (g : ai_chk own cc nL Kc cal fr lo isInit rt (pc, .iload_n i, len, a, b, d, t, z, tl) = true) (q : ai_st orc lim X (pc, .iload_n i, len, a, b, d, t, z, tl) (ai_PS p l e R s m args below meth c D cid B0 xa nL n0 lim ad0 gx gy Qf) L S n hr h Q) : ai_PS p l e R s m args below meth c D cid B0 xa nL n0 lim ad0 gx gy Qf pc L S n hr h := by
  simp only [ai_chk, Bool.and_eq_true, decide_eq_true_eq, Bool.or_eq_true] at g
  simp only [ai_st] at q
  obtain ⟨hd, rfl, rfl⟩ := g
  obtain ⟨x, hx, k⟩ := inv_lint q
  exact sn_pure k (fun hL hS => SI_cons.mpr ⟨hL _ _ hx, hS⟩) fun ad H locs ls hL _ w => lv_iload_n F.1 F.2.1 hd rfl (hL.2.2.2 _ _ hx) w

theorem s_lload {i : Nat} (F : ai_F p s m args meth c cc nL own isInit D cid B0 xa E2 Kc) (g : ai_chk own cc nL Kc cal fr lo isInit rt (pc, .lload i, len, a, b, d, t, z, tl) = true) (q : ai_st orc lim X (pc, .lload i, len, a, b, d, t, z, tl) (ai_PS p l e R s m args below meth c D cid B0 xa nL n0 lim ad0 gx gy Qf) L S n hr h Q) : ai_PS p l e R s m args below meth c D cid B0 xa nL n0 lim ad0 gx gy Qf pc L S n hr h := by
  simp only [ai_chk, Bool.and_eq_true, decide_eq_true_eq, Bool.or_eq_true] at g
  simp only [ai_st] at q
  obtain ⟨hd, rfl, rfl⟩ := g
  obtain ⟨x, hx, k⟩ := inv_llong q
  exact sn_pure k (fun hL hS => SI_cons.mpr ⟨hL _ _ hx, hS⟩) fun ad H locs ls hL _ w => lv_lload F.1 F.2.1 hd (hL.2.2.2 _ _ hx) w

theorem s_lload_n {i : Fin 4} (F : ai_F p s m args meth c cc nL own isInit D cid B0 xa E2 Kc) (g : ai_chk own cc nL Kc cal fr lo isInit rt (pc, .lload_n i, len, a, b, d, t, z, tl) = true) (q : ai_st orc lim X (pc, .lload_n i, len, a, b, d, t, z, tl) (ai_PS p l e R s m args below meth c D cid B0 xa nL n0 lim ad0 gx gy Qf) L S n hr h Q) : ai_PS p l e R s m args below meth c D cid B0 xa nL n0 lim ad0 gx gy Qf pc L S n hr h := by
  simp only [ai_chk, Bool.and_eq_true, decide_eq_true_eq, Bool.or_eq_true] at g
  simp only [ai_st] at q
  obtain ⟨hd, rfl, rfl⟩ := g
  obtain ⟨x, hx, k⟩ := inv_llong q
  exact sn_pure k (fun hL hS => SI_cons.mpr ⟨hL _ _ hx, hS⟩) fun ad H locs ls hL _ w => lv_lload_n F.1 F.2.1 hd rfl (hL.2.2.2 _ _ hx) w

theorem s_aload {i : Nat} (F : ai_F p s m args meth c cc nL own isInit D cid B0 xa E2 Kc) (g : ai_chk own cc nL Kc cal fr lo isInit rt (pc, .aload i, len, a, b, d, t, z, tl) = true) (q : ai_st orc lim X (pc, .aload i, len, a, b, d, t, z, tl) (ai_PS p l e R s m args below meth c D cid B0 xa nL n0 lim ad0 gx gy Qf) L S n hr h Q) : ai_PS p l e R s m args below meth c D cid B0 xa nL n0 lim ad0 gx gy Qf pc L S n hr h := by
  simp only [ai_chk, Bool.and_eq_true, decide_eq_true_eq, Bool.or_eq_true] at g
  simp only [ai_st] at q
  obtain ⟨hd, rfl, rfl⟩ := g
  rcases inv_lref q with ⟨x, hx, k⟩ | ⟨x, hx, k⟩
  · refine sn_pure k (fun hL hS => SI_cons.mpr ⟨hL _ _ hx, hS⟩) fun ad H locs ls hL _ w => ?_
    have hv := hL.2.2.2 _ _ hx
    have hw : W p l e R s m args below meth c H locs (n - n0 + gx) (ai_cs n - ai_cs n0 + gy) Qf (F0 m _ ls (ai_cv ad xa (2, x) :: S.map (ai_cv ad xa))) := w
    rw [show ai_cv ad xa (2, x) = va_rf (ai_ro ad x) from rfl] at hv hw
    cases hq : ai_ro ad x with
    | none =>
      rw [hq] at hv hw
      exact lv_aloadN F.1 F.2.1 hd hv hw
    | some y =>
      rw [hq] at hv hw
      exact lv_aload F.1 F.2.1 hd hv hw
  · exact sn_pure k (fun hL hS => SI_cons.mpr ⟨hL _ _ hx, hS⟩) fun ad H locs ls hL _ w => lv_aload F.1 F.2.1 hd (hL.2.2.2 _ _ hx) w

theorem s_aload_n {i : Fin 4} (F : ai_F p s m args meth c cc nL own isInit D cid B0 xa E2 Kc) (g : ai_chk own cc nL Kc cal fr lo isInit rt (pc, .aload_n i, len, a, b, d, t, z, tl) = true) (q : ai_st orc lim X (pc, .aload_n i, len, a, b, d, t, z, tl) (ai_PS p l e R s m args below meth c D cid B0 xa nL n0 lim ad0 gx gy Qf) L S n hr h Q) : ai_PS p l e R s m args below meth c D cid B0 xa nL n0 lim ad0 gx gy Qf pc L S n hr h := by
  simp only [ai_chk, Bool.and_eq_true, decide_eq_true_eq, Bool.or_eq_true] at g
  simp only [ai_st] at q
  obtain ⟨hd, rfl, rfl⟩ := g
  rcases inv_lref q with ⟨x, hx, k⟩ | ⟨x, hx, k⟩
  · refine sn_pure k (fun hL hS => SI_cons.mpr ⟨hL _ _ hx, hS⟩) fun ad H locs ls hL _ w => ?_
    have hv := hL.2.2.2 _ _ hx
    have hw : W p l e R s m args below meth c H locs (n - n0 + gx) (ai_cs n - ai_cs n0 + gy) Qf (F0 m _ ls (ai_cv ad xa (2, x) :: S.map (ai_cv ad xa))) := w
    rw [show ai_cv ad xa (2, x) = va_rf (ai_ro ad x) from rfl] at hv hw
    cases hq : ai_ro ad x with
    | none =>
      rw [hq] at hv hw
      exact lv_aload_nN F.1 F.2.1 hd rfl hv hw
    | some y =>
      rw [hq] at hv hw
      exact lv_aload_n F.1 F.2.1 hd rfl hv hw
  · exact sn_pure k (fun hL hS => SI_cons.mpr ⟨hL _ _ hx, hS⟩) fun ad H locs ls hL _ w => lv_aload_n F.1 F.2.1 hd rfl (hL.2.2.2 _ _ hx) w

theorem s_istore {i : Nat} (F : ai_F p s m args meth c cc nL own isInit D cid B0 xa E2 Kc) (g : ai_chk own cc nL Kc cal fr lo isInit rt (pc, .istore i, len, a, b, d, t, z, tl) = true) (q : ai_st orc lim X (pc, .istore i, len, a, b, d, t, z, tl) (ai_PS p l e R s m args below meth c D cid B0 xa nL n0 lim ad0 gx gy Qf) L S n hr h Q) : ai_PS p l e R s m args below meth c D cid B0 xa nL n0 lim ad0 gx gy Qf pc L S n hr h := by
  simp only [ai_chk, Bool.and_eq_true, decide_eq_true_eq, Bool.or_eq_true] at g
  simp only [ai_st] at q
  obtain ⟨hd, ⟨rfl, rfl⟩, hi⟩ := g
  obtain ⟨x, R', rfl, k⟩ := inv_i1 q
  exact sn_istore k (by simp) (fun _ hS => ⟨(SI_cons.mp hS).2, (SI_cons.mp hS).1⟩) fun ad H locs ls hL hLI hS w => lv_istore F.1 F.2.1 hd (LR_has hL) hi rfl w

theorem s_istore_n {i : Fin 4} (F : ai_F p s m args meth c cc nL own isInit D cid B0 xa E2 Kc) (g : ai_chk own cc nL Kc cal fr lo isInit rt (pc, .istore_n i, len, a, b, d, t, z, tl) = true) (q : ai_st orc lim X (pc, .istore_n i, len, a, b, d, t, z, tl) (ai_PS p l e R s m args below meth c D cid B0 xa nL n0 lim ad0 gx gy Qf) L S n hr h Q) : ai_PS p l e R s m args below meth c D cid B0 xa nL n0 lim ad0 gx gy Qf pc L S n hr h := by
  simp only [ai_chk, Bool.and_eq_true, decide_eq_true_eq, Bool.or_eq_true] at g
  simp only [ai_st] at q
  obtain ⟨hd, ⟨rfl, rfl⟩, hi⟩ := g
  obtain ⟨x, R', rfl, k⟩ := inv_i1 q
  exact sn_istore k (by simp) (fun _ hS => ⟨(SI_cons.mp hS).2, (SI_cons.mp hS).1⟩) fun ad H locs ls hL hLI hS w => lv_istore_n F.1 F.2.1 hd rfl (LR_has hL) hi rfl w

theorem s_lstore {i : Nat} (F : ai_F p s m args meth c cc nL own isInit D cid B0 xa E2 Kc) (g : ai_chk own cc nL Kc cal fr lo isInit rt (pc, .lstore i, len, a, b, d, t, z, tl) = true) (q : ai_st orc lim X (pc, .lstore i, len, a, b, d, t, z, tl) (ai_PS p l e R s m args below meth c D cid B0 xa nL n0 lim ad0 gx gy Qf) L S n hr h Q) : ai_PS p l e R s m args below meth c D cid B0 xa nL n0 lim ad0 gx gy Qf pc L S n hr h := by
  simp only [ai_chk, Bool.and_eq_true, decide_eq_true_eq, Bool.or_eq_true] at g
  simp only [ai_st] at q
  obtain ⟨hd, ⟨rfl, rfl⟩, hi⟩ := g
  obtain ⟨x, R', rfl, k⟩ := inv_l1 q
  exact sn_lstore k hi (fun hS => ⟨(SI_cons.mp hS).2, (SI_cons.mp hS).1⟩) fun ad H locs ls hL w => lv_lstore F.1 F.2.1 hd (LR_has hL) hi rfl w

theorem s_lstore_n {i : Fin 4} (F : ai_F p s m args meth c cc nL own isInit D cid B0 xa E2 Kc) (g : ai_chk own cc nL Kc cal fr lo isInit rt (pc, .lstore_n i, len, a, b, d, t, z, tl) = true) (q : ai_st orc lim X (pc, .lstore_n i, len, a, b, d, t, z, tl) (ai_PS p l e R s m args below meth c D cid B0 xa nL n0 lim ad0 gx gy Qf) L S n hr h Q) : ai_PS p l e R s m args below meth c D cid B0 xa nL n0 lim ad0 gx gy Qf pc L S n hr h := by
  simp only [ai_chk, Bool.and_eq_true, decide_eq_true_eq, Bool.or_eq_true] at g
  simp only [ai_st] at q
  obtain ⟨hd, ⟨rfl, rfl⟩, hi⟩ := g
  obtain ⟨x, R', rfl, k⟩ := inv_l1 q
  exact sn_lstore k hi (fun hS => ⟨(SI_cons.mp hS).2, (SI_cons.mp hS).1⟩) fun ad H locs ls hL w => lv_lstore_n F.1 F.2.1 hd rfl (LR_has hL) hi rfl w

theorem s_astore {i : Nat} (F : ai_F p s m args meth c cc nL own isInit D cid B0 xa E2 Kc) (g : ai_chk own cc nL Kc cal fr lo isInit rt (pc, .astore i, len, a, b, d, t, z, tl) = true) (q : ai_st orc lim X (pc, .astore i, len, a, b, d, t, z, tl) (ai_PS p l e R s m args below meth c D cid B0 xa nL n0 lim ad0 gx gy Qf) L S n hr h Q) : ai_PS p l e R s m args below meth c D cid B0 xa nL n0 lim ad0 gx gy Qf pc L S n hr h := by
  simp only [ai_chk, Bool.and_eq_true, decide_eq_true_eq, Bool.or_eq_true] at g
  simp only [ai_st] at q
  obtain ⟨hd, ⟨rfl, rfl⟩, hi⟩ := g
  obtain ⟨x, R', rfl, k⟩ := inv_r1 q
  refine sn_istore k (by simp) (fun _ hS => ⟨(SI_cons.mp hS).2, (SI_cons.mp hS).1⟩) fun ad H locs ls hL hLI hS w => ?_
  have hw := w
  simp only [List.map_cons]
  rw [show ai_cv ad xa (2, x) = va_rf (ai_ro ad x) from rfl] at hw ⊢
  cases hq : ai_ro ad x with
  | none =>
    rw [hq] at hw
    exact lv_astoreN F.1 F.2.1 hd (LR_has hL) hi rfl hw
  | some y =>
    rw [hq] at hw
    exact lv_astore F.1 F.2.1 hd (LR_has hL) hi rfl hw

theorem s_astore_n {i : Fin 4} (F : ai_F p s m args meth c cc nL own isInit D cid B0 xa E2 Kc) (g : ai_chk own cc nL Kc cal fr lo isInit rt (pc, .astore_n i, len, a, b, d, t, z, tl) = true) (q : ai_st orc lim X (pc, .astore_n i, len, a, b, d, t, z, tl) (ai_PS p l e R s m args below meth c D cid B0 xa nL n0 lim ad0 gx gy Qf) L S n hr h Q) : ai_PS p l e R s m args below meth c D cid B0 xa nL n0 lim ad0 gx gy Qf pc L S n hr h := by
  simp only [ai_chk, Bool.and_eq_true, decide_eq_true_eq, Bool.or_eq_true] at g
  simp only [ai_st] at q
  obtain ⟨hd, ⟨rfl, rfl⟩, hi⟩ := g
  obtain ⟨x, R', rfl, k⟩ := inv_r1 q
  refine sn_istore k (by simp) (fun _ hS => ⟨(SI_cons.mp hS).2, (SI_cons.mp hS).1⟩) fun ad H locs ls hL hLI hS w => ?_
  have hw := w
  simp only [List.map_cons]
  rw [show ai_cv ad xa (2, x) = va_rf (ai_ro ad x) from rfl] at hw ⊢
  cases hq : ai_ro ad x with
  | none =>
    rw [hq] at hw
    exact lv_astore_nN F.1 F.2.1 hd rfl (LR_has hL) hi rfl hw
  | some y =>
    rw [hq] at hw
    exact lv_astore_n F.1 F.2.1 hd rfl (LR_has hL) hi rfl hw

theorem s_iinc {i : Nat} {v : Int} (F : ai_F p s m args meth c cc nL own isInit D cid B0 xa E2 Kc) (g : ai_chk own cc nL Kc cal fr lo isInit rt (pc, .iinc i v, len, a, b, d, t, z, tl) = true) (q : ai_st orc lim X (pc, .iinc i v, len, a, b, d, t, z, tl) (ai_PS p l e R s m args below meth c D cid B0 xa nL n0 lim ad0 gx gy Qf) L S n hr h Q) : ai_PS p l e R s m args below meth c D cid B0 xa nL n0 lim ad0 gx gy Qf pc L S n hr h := by
  simp only [ai_chk, Bool.and_eq_true, decide_eq_true_eq, Bool.or_eq_true] at g
  simp only [ai_st] at q
  obtain ⟨hd, ⟨rfl, rfl⟩, rfl⟩ := g
  obtain ⟨x, hx, k⟩ := inv_lint q
  refine sn_istore k (by simp) (fun _ hS => ⟨hS, i32_of _⟩) fun ad H locs ls hL hLI hS w => ?_
  obtain ⟨k0, hk0⟩ := List.getElem?_of_mem ((ll_mem (ad := ad) (xa := xa) L 0 (0 + a, ai_cv ad xa (0, x))).mpr ⟨a, (0, x), hx, rfl⟩)
  rw [Nat.zero_add] at hk0
  exact lv_iinc F.1 F.2.1 hd (LR_has hL) hk0 (by rw [w32_of, Int32.ofInt_add]) (LR_len hL hx) rfl w

theorem s_iconst {v : Int} (F : ai_F p s m args meth c cc nL own isInit D cid B0 xa E2 Kc) (g : ai_chk own cc nL Kc cal fr lo isInit rt (pc, .iconst v, len, a, b, d, t, z, tl) = true) (q : ai_st orc lim X (pc, .iconst v, len, a, b, d, t, z, tl) (ai_PS p l e R s m args below meth c D cid B0 xa nL n0 lim ad0 gx gy Qf) L S n hr h Q) : ai_PS p l e R s m args below meth c D cid B0 xa nL n0 lim ad0 gx gy Qf pc L S n hr h := by
  simp only [ai_chk, Bool.and_eq_true, decide_eq_true_eq, Bool.or_eq_true] at g
  simp only [ai_st] at q
  obtain ⟨hd, ⟨⟨rfl, rfl⟩, h1⟩, h2⟩ := g
  exact sn_pure q (fun hL hS => SI_cons.mpr ⟨⟨by omega, by omega⟩, hS⟩) fun ad H locs ls hL _ w => lv_iconst F.1 F.2.1 hd rfl w

theorem s_bipush {v : Int} (F : ai_F p s m args meth c cc nL own isInit D cid B0 xa E2 Kc) (g : ai_chk own cc nL Kc cal fr lo isInit rt (pc, .bipush v, len, a, b, d, t, z, tl) = true) (q : ai_st orc lim X (pc, .bipush v, len, a, b, d, t, z, tl) (ai_PS p l e R s m args below meth c D cid B0 xa nL n0 lim ad0 gx gy Qf) L S n hr h Q) : ai_PS p l e R s m args below meth c D cid B0 xa nL n0 lim ad0 gx gy Qf pc L S n hr h := by
  simp only [ai_chk, Bool.and_eq_true, decide_eq_true_eq, Bool.or_eq_true] at g
  simp only [ai_st] at q
  obtain ⟨hd, ⟨⟨hv, rfl⟩, h1⟩, h2⟩ := g
  exact sn_pure q (fun hL hS => SI_cons.mpr ⟨⟨by omega, by omega⟩, hS⟩) fun ad H locs ls hL _ w => lv_bipush F.1 F.2.1 hd hv w

theorem s_sipush {v : Int} (F : ai_F p s m args meth c cc nL own isInit D cid B0 xa E2 Kc) (g : ai_chk own cc nL Kc cal fr lo isInit rt (pc, .sipush v, len, a, b, d, t, z, tl) = true) (q : ai_st orc lim X (pc, .sipush v, len, a, b, d, t, z, tl) (ai_PS p l e R s m args below meth c D cid B0 xa nL n0 lim ad0 gx gy Qf) L S n hr h Q) : ai_PS p l e R s m args below meth c D cid B0 xa nL n0 lim ad0 gx gy Qf pc L S n hr h := by
  simp only [ai_chk, Bool.and_eq_true, decide_eq_true_eq, Bool.or_eq_true] at g
  simp only [ai_st] at q
  obtain ⟨hd, ⟨⟨hv, rfl⟩, h1⟩, h2⟩ := g
  exact sn_pure q (fun hL hS => SI_cons.mpr ⟨⟨by omega, by omega⟩, hS⟩) fun ad H locs ls hL _ w => lv_sipush F.1 F.2.1 hd hv w

theorem s_ldc {i : Nat} (F : ai_F p s m args meth c cc nL own isInit D cid B0 xa E2 Kc) (g : ai_chk own cc nL Kc cal fr lo isInit rt (pc, .ldc i, len, a, b, d, t, z, tl) = true) (q : ai_st orc lim X (pc, .ldc i, len, a, b, d, t, z, tl) (ai_PS p l e R s m args below meth c D cid B0 xa nL n0 lim ad0 gx gy Qf) L S n hr h Q) : ai_PS p l e R s m args below meth c D cid B0 xa nL n0 lim ad0 gx gy Qf pc L S n hr h := by
  simp only [ai_chk, Bool.and_eq_true, decide_eq_true_eq, Bool.or_eq_true] at g
  simp only [ai_st] at q
  obtain ⟨hd, ⟨⟨⟨rfl, hk⟩, rfl⟩, h1⟩, h2⟩ := g
  exact sn_pure q (fun hL hS => SI_cons.mpr ⟨⟨h1, h2⟩, hS⟩) fun ad H locs ls hL _ w => lv_ldc F.1 F.2.1 F.2.2.2.1 (F.2.2.2.2.1 _ (F.2.2.2.2.2.2.2.2.2.2 _ (by rw [nth_eq] at hk; exact List.mem_of_getElem? hk))) hd w

theorem s_ldc_w {i : Nat} (F : ai_F p s m args meth c cc nL own isInit D cid B0 xa E2 Kc) (g : ai_chk own cc nL Kc cal fr lo isInit rt (pc, .ldc_w i, len, a, b, d, t, z, tl) = true) (q : ai_st orc lim X (pc, .ldc_w i, len, a, b, d, t, z, tl) (ai_PS p l e R s m args below meth c D cid B0 xa nL n0 lim ad0 gx gy Qf) L S n hr h Q) : ai_PS p l e R s m args below meth c D cid B0 xa nL n0 lim ad0 gx gy Qf pc L S n hr h := by
  simp only [ai_chk, Bool.and_eq_true, decide_eq_true_eq, Bool.or_eq_true] at g
  simp only [ai_st] at q
  obtain ⟨hd, ⟨⟨hk, rfl⟩, h1⟩, h2⟩ := g
  exact sn_pure q (fun hL hS => SI_cons.mpr ⟨⟨h1, h2⟩, hS⟩) fun ad H locs ls hL _ w => lv_ldcw F.1 F.2.1 F.2.2.2.1 (F.2.2.2.2.1 _ (F.2.2.2.2.2.2.2.2.2.2 _ (by rw [nth_eq] at hk; exact List.mem_of_getElem? hk))) hd w

theorem s_ldc2 {i : Nat} (F : ai_F p s m args meth c cc nL own isInit D cid B0 xa E2 Kc) (g : ai_chk own cc nL Kc cal fr lo isInit rt (pc, .ldc2_w i, len, a, b, d, t, z, tl) = true) (q : ai_st orc lim X (pc, .ldc2_w i, len, a, b, d, t, z, tl) (ai_PS p l e R s m args below meth c D cid B0 xa nL n0 lim ad0 gx gy Qf) L S n hr h Q) : ai_PS p l e R s m args below meth c D cid B0 xa nL n0 lim ad0 gx gy Qf pc L S n hr h := by
  simp only [ai_chk, Bool.and_eq_true, decide_eq_true_eq, Bool.or_eq_true] at g
  simp only [ai_st] at q
  obtain ⟨hd, ⟨⟨hk, rfl⟩, h1⟩, h2⟩ := g
  exact sn_pure q (fun hL hS => SI_cons.mpr ⟨⟨h1, h2⟩, hS⟩) fun ad H locs ls hL _ w => lv_ldc2 F.1 F.2.1 F.2.2.2.1 (F.2.2.2.2.1 _ (F.2.2.2.2.2.2.2.2.2.2 _ (by rw [nth_eq] at hk; exact List.mem_of_getElem? hk))) hd w

theorem s_lconst {i : Fin 2} (F : ai_F p s m args meth c cc nL own isInit D cid B0 xa E2 Kc) (g : ai_chk own cc nL Kc cal fr lo isInit rt (pc, .lconst i, len, a, b, d, t, z, tl) = true) (q : ai_st orc lim X (pc, .lconst i, len, a, b, d, t, z, tl) (ai_PS p l e R s m args below meth c D cid B0 xa nL n0 lim ad0 gx gy Qf) L S n hr h Q) : ai_PS p l e R s m args below meth c D cid B0 xa nL n0 lim ad0 gx gy Qf pc L S n hr h := by
  simp only [ai_chk, Bool.and_eq_true, decide_eq_true_eq, Bool.or_eq_true] at g
  simp only [ai_st] at q
  obtain ⟨hd, ⟨⟨hk, rfl⟩, h1⟩, h2⟩ := g
  exact sn_pure q (fun hL hS => SI_cons.mpr ⟨⟨by omega, by omega⟩, hS⟩) fun ad H locs ls hL _ w => lv_lconst F.1 F.2.1 hd hk w

theorem s_iadd (F : ai_F p s m args meth c cc nL own isInit D cid B0 xa E2 Kc) (g : ai_chk own cc nL Kc cal fr lo isInit rt (pc, .iadd, len, a, b, d, t, z, tl) = true) (q : ai_st orc lim X (pc, .iadd, len, a, b, d, t, z, tl) (ai_PS p l e R s m args below meth c D cid B0 xa nL n0 lim ad0 gx gy Qf) L S n hr h Q) : ai_PS p l e R s m args below meth c D cid B0 xa nL n0 lim ad0 gx gy Qf pc L S n hr h := by
  simp only [ai_chk, Bool.and_eq_true, decide_eq_true_eq, Bool.or_eq_true] at g
  simp only [ai_st] at q
  obtain ⟨hd, rfl⟩ := g
  obtain ⟨x, y, R', rfl, k⟩ := inv_i2 q
  refine sn_pure k (fun _ hS => SI_cons.mpr ⟨i32_of _, (SI_cons.mp (SI_cons.mp hS).2).2⟩) fun ad H locs ls _ _ w => lv_iadd F.1 F.2.1 hd ?_
  rw [e_add]; exact w

theorem s_isub (F : ai_F p s m args meth c cc nL own isInit D cid B0 xa E2 Kc) (g : ai_chk own cc nL Kc cal fr lo isInit rt (pc, .isub, len, a, b, d, t, z, tl) = true) (q : ai_st orc lim X (pc, .isub, len, a, b, d, t, z, tl) (ai_PS p l e R s m args below meth c D cid B0 xa nL n0 lim ad0 gx gy Qf) L S n hr h Q) : ai_PS p l e R s m args below meth c D cid B0 xa nL n0 lim ad0 gx gy Qf pc L S n hr h := by
  simp only [ai_chk, Bool.and_eq_true, decide_eq_true_eq, Bool.or_eq_true] at g
  simp only [ai_st] at q
  obtain ⟨hd, rfl⟩ := g
  obtain ⟨x, y, R', rfl, k⟩ := inv_i2 q
  refine sn_pure k (fun _ hS => SI_cons.mpr ⟨i32_of _, (SI_cons.mp (SI_cons.mp hS).2).2⟩) fun ad H locs ls _ _ w => lv_isub F.1 F.2.1 hd ?_
  rw [e_sub]; exact w

theorem s_imul (F : ai_F p s m args meth c cc nL own isInit D cid B0 xa E2 Kc) (g : ai_chk own cc nL Kc cal fr lo isInit rt (pc, .imul, len, a, b, d, t, z, tl) = true) (q : ai_st orc lim X (pc, .imul, len, a, b, d, t, z, tl) (ai_PS p l e R s m args below meth c D cid B0 xa nL n0 lim ad0 gx gy Qf) L S n hr h Q) : ai_PS p l e R s m args below meth c D cid B0 xa nL n0 lim ad0 gx gy Qf pc L S n hr h := by
  simp only [ai_chk, Bool.and_eq_true, decide_eq_true_eq, Bool.or_eq_true] at g
  simp only [ai_st] at q
  obtain ⟨hd, rfl⟩ := g
  obtain ⟨x, y, R', rfl, k⟩ := inv_i2 q
  refine sn_pure k (fun _ hS => SI_cons.mpr ⟨i32_of _, (SI_cons.mp (SI_cons.mp hS).2).2⟩) fun ad H locs ls _ _ w => lv_imul F.1 F.2.1 hd ?_
  rw [e_mul]; exact w

theorem s_ladd (F : ai_F p s m args meth c cc nL own isInit D cid B0 xa E2 Kc) (g : ai_chk own cc nL Kc cal fr lo isInit rt (pc, .ladd, len, a, b, d, t, z, tl) = true) (q : ai_st orc lim X (pc, .ladd, len, a, b, d, t, z, tl) (ai_PS p l e R s m args below meth c D cid B0 xa nL n0 lim ad0 gx gy Qf) L S n hr h Q) : ai_PS p l e R s m args below meth c D cid B0 xa nL n0 lim ad0 gx gy Qf pc L S n hr h := by
  simp only [ai_chk, Bool.and_eq_true, decide_eq_true_eq, Bool.or_eq_true] at g
  simp only [ai_st] at q
  obtain ⟨hd, rfl⟩ := g
  obtain ⟨x, y, R', rfl, k⟩ := inv_l2 q
  refine sn_pure k (fun _ hS => SI_cons.mpr ⟨i64_of _, (SI_cons.mp (SI_cons.mp hS).2).2⟩) fun ad H locs ls _ _ w => lv_ladd F.1 F.2.1 hd ?_
  rw [f_add]; exact w

theorem s_lsub (F : ai_F p s m args meth c cc nL own isInit D cid B0 xa E2 Kc) (g : ai_chk own cc nL Kc cal fr lo isInit rt (pc, .lsub, len, a, b, d, t, z, tl) = true) (q : ai_st orc lim X (pc, .lsub, len, a, b, d, t, z, tl) (ai_PS p l e R s m args below meth c D cid B0 xa nL n0 lim ad0 gx gy Qf) L S n hr h Q) : ai_PS p l e R s m args below meth c D cid B0 xa nL n0 lim ad0 gx gy Qf pc L S n hr h := by
  simp only [ai_chk, Bool.and_eq_true, decide_eq_true_eq, Bool.or_eq_true] at g
  simp only [ai_st] at q
  obtain ⟨hd, rfl⟩ := g
  obtain ⟨x, y, R', rfl, k⟩ := inv_l2 q
  refine sn_pure k (fun _ hS => SI_cons.mpr ⟨i64_of _, (SI_cons.mp (SI_cons.mp hS).2).2⟩) fun ad H locs ls _ _ w => lv_lsub F.1 F.2.1 hd ?_
  rw [f_sub]; exact w

theorem s_lmul (F : ai_F p s m args meth c cc nL own isInit D cid B0 xa E2 Kc) (g : ai_chk own cc nL Kc cal fr lo isInit rt (pc, .lmul, len, a, b, d, t, z, tl) = true) (q : ai_st orc lim X (pc, .lmul, len, a, b, d, t, z, tl) (ai_PS p l e R s m args below meth c D cid B0 xa nL n0 lim ad0 gx gy Qf) L S n hr h Q) : ai_PS p l e R s m args below meth c D cid B0 xa nL n0 lim ad0 gx gy Qf pc L S n hr h := by
  simp only [ai_chk, Bool.and_eq_true, decide_eq_true_eq, Bool.or_eq_true] at g
  simp only [ai_st] at q
  obtain ⟨hd, rfl⟩ := g
  obtain ⟨x, y, R', rfl, k⟩ := inv_l2 q
  refine sn_pure k (fun _ hS => SI_cons.mpr ⟨i64_of _, (SI_cons.mp (SI_cons.mp hS).2).2⟩) fun ad H locs ls _ _ w => lv_lmul F.1 F.2.1 hd ?_
  rw [f_mul]; exact w

theorem s_iand (F : ai_F p s m args meth c cc nL own isInit D cid B0 xa E2 Kc) (g : ai_chk own cc nL Kc cal fr lo isInit rt (pc, .iand, len, a, b, d, t, z, tl) = true) (q : ai_st orc lim X (pc, .iand, len, a, b, d, t, z, tl) (ai_PS p l e R s m args below meth c D cid B0 xa nL n0 lim ad0 gx gy Qf) L S n hr h Q) : ai_PS p l e R s m args below meth c D cid B0 xa nL n0 lim ad0 gx gy Qf pc L S n hr h := by
  simp only [ai_chk, Bool.and_eq_true, decide_eq_true_eq, Bool.or_eq_true] at g
  simp only [ai_st] at q
  obtain ⟨hd, rfl⟩ := g
  obtain ⟨x, y, R', rfl, k⟩ := inv_i2 q
  refine sn_pure k (fun _ hS => SI_cons.mpr ⟨i32_of _, (SI_cons.mp (SI_cons.mp hS).2).2⟩) fun ad H locs ls _ _ w => lv_iand F.1 F.2.1 hd ?_
  rw [← Int32.ofInt_toInt (Int32.ofInt x &&& Int32.ofInt y)]; exact w

theorem s_ior (F : ai_F p s m args meth c cc nL own isInit D cid B0 xa E2 Kc) (g : ai_chk own cc nL Kc cal fr lo isInit rt (pc, .ior, len, a, b, d, t, z, tl) = true) (q : ai_st orc lim X (pc, .ior, len, a, b, d, t, z, tl) (ai_PS p l e R s m args below meth c D cid B0 xa nL n0 lim ad0 gx gy Qf) L S n hr h Q) : ai_PS p l e R s m args below meth c D cid B0 xa nL n0 lim ad0 gx gy Qf pc L S n hr h := by
  simp only [ai_chk, Bool.and_eq_true, decide_eq_true_eq, Bool.or_eq_true] at g
  simp only [ai_st] at q
  obtain ⟨hd, rfl⟩ := g
  obtain ⟨x, y, R', rfl, k⟩ := inv_i2 q
  refine sn_pure k (fun _ hS => SI_cons.mpr ⟨i32_of _, (SI_cons.mp (SI_cons.mp hS).2).2⟩) fun ad H locs ls _ _ w => lv_ior F.1 F.2.1 hd ?_
  rw [← Int32.ofInt_toInt (Int32.ofInt x ||| Int32.ofInt y)]; exact w

theorem s_ixor (F : ai_F p s m args meth c cc nL own isInit D cid B0 xa E2 Kc) (g : ai_chk own cc nL Kc cal fr lo isInit rt (pc, .ixor, len, a, b, d, t, z, tl) = true) (q : ai_st orc lim X (pc, .ixor, len, a, b, d, t, z, tl) (ai_PS p l e R s m args below meth c D cid B0 xa nL n0 lim ad0 gx gy Qf) L S n hr h Q) : ai_PS p l e R s m args below meth c D cid B0 xa nL n0 lim ad0 gx gy Qf pc L S n hr h := by
  simp only [ai_chk, Bool.and_eq_true, decide_eq_true_eq, Bool.or_eq_true] at g
  simp only [ai_st] at q
  obtain ⟨hd, rfl⟩ := g
  obtain ⟨x, y, R', rfl, k⟩ := inv_i2 q
  refine sn_pure k (fun _ hS => SI_cons.mpr ⟨i32_of _, (SI_cons.mp (SI_cons.mp hS).2).2⟩) fun ad H locs ls _ _ w => lv_ixor F.1 F.2.1 hd ?_
  rw [← Int32.ofInt_toInt (Int32.ofInt x ^^^ Int32.ofInt y)]; exact w

theorem s_ishl (F : ai_F p s m args meth c cc nL own isInit D cid B0 xa E2 Kc) (g : ai_chk own cc nL Kc cal fr lo isInit rt (pc, .ishl, len, a, b, d, t, z, tl) = true) (q : ai_st orc lim X (pc, .ishl, len, a, b, d, t, z, tl) (ai_PS p l e R s m args below meth c D cid B0 xa nL n0 lim ad0 gx gy Qf) L S n hr h Q) : ai_PS p l e R s m args below meth c D cid B0 xa nL n0 lim ad0 gx gy Qf pc L S n hr h := by
  simp only [ai_chk, Bool.and_eq_true, decide_eq_true_eq, Bool.or_eq_true] at g
  simp only [ai_st] at q
  obtain ⟨hd, rfl⟩ := g
  obtain ⟨x, y, R', rfl, k⟩ := inv_i2 q
  refine sn_pure k (fun _ hS => SI_cons.mpr ⟨i32_of _, (SI_cons.mp (SI_cons.mp hS).2).2⟩) fun ad H locs ls _ _ w => lv_ishl F.1 F.2.1 hd ?_
  rw [← Int32.ofInt_toInt (Int32.ofInt x <<< (Int32.ofInt y &&& 31))]; exact w

theorem s_ishr (F : ai_F p s m args meth c cc nL own isInit D cid B0 xa E2 Kc) (g : ai_chk own cc nL Kc cal fr lo isInit rt (pc, .ishr, len, a, b, d, t, z, tl) = true) (q : ai_st orc lim X (pc, .ishr, len, a, b, d, t, z, tl) (ai_PS p l e R s m args below meth c D cid B0 xa nL n0 lim ad0 gx gy Qf) L S n hr h Q) : ai_PS p l e R s m args below meth c D cid B0 xa nL n0 lim ad0 gx gy Qf pc L S n hr h := by
  simp only [ai_chk, Bool.and_eq_true, decide_eq_true_eq, Bool.or_eq_true] at g
  simp only [ai_st] at q
  obtain ⟨hd, rfl⟩ := g
  obtain ⟨x, y, R', rfl, k⟩ := inv_i2 q
  refine sn_pure k (fun _ hS => SI_cons.mpr ⟨i32_of _, (SI_cons.mp (SI_cons.mp hS).2).2⟩) fun ad H locs ls _ _ w => lv_ishr F.1 F.2.1 hd ?_
  rw [← Int32.ofInt_toInt (Int32.ofInt x >>> (Int32.ofInt y &&& 31))]; exact w

theorem s_land (F : ai_F p s m args meth c cc nL own isInit D cid B0 xa E2 Kc) (g : ai_chk own cc nL Kc cal fr lo isInit rt (pc, .land, len, a, b, d, t, z, tl) = true) (q : ai_st orc lim X (pc, .land, len, a, b, d, t, z, tl) (ai_PS p l e R s m args below meth c D cid B0 xa nL n0 lim ad0 gx gy Qf) L S n hr h Q) : ai_PS p l e R s m args below meth c D cid B0 xa nL n0 lim ad0 gx gy Qf pc L S n hr h := by
  simp only [ai_chk, Bool.and_eq_true, decide_eq_true_eq, Bool.or_eq_true] at g
  simp only [ai_st] at q
  obtain ⟨hd, rfl⟩ := g
  obtain ⟨x, y, R', rfl, k⟩ := inv_l2 q
  refine sn_pure k (fun _ hS => SI_cons.mpr ⟨i64_of _, (SI_cons.mp (SI_cons.mp hS).2).2⟩) fun ad H locs ls _ _ w => lv_land F.1 F.2.1 hd ?_
  rw [← Int64.ofInt_toInt (Int64.ofInt x &&& Int64.ofInt y)]; exact w

theorem s_lor (F : ai_F p s m args meth c cc nL own isInit D cid B0 xa E2 Kc) (g : ai_chk own cc nL Kc cal fr lo isInit rt (pc, .lor, len, a, b, d, t, z, tl) = true) (q : ai_st orc lim X (pc, .lor, len, a, b, d, t, z, tl) (ai_PS p l e R s m args below meth c D cid B0 xa nL n0 lim ad0 gx gy Qf) L S n hr h Q) : ai_PS p l e R s m args below meth c D cid B0 xa nL n0 lim ad0 gx gy Qf pc L S n hr h := by
  simp only [ai_chk, Bool.and_eq_true, decide_eq_true_eq, Bool.or_eq_true] at g
  simp only [ai_st] at q
  obtain ⟨hd, rfl⟩ := g
  obtain ⟨x, y, R', rfl, k⟩ := inv_l2 q
  refine sn_pure k (fun _ hS => SI_cons.mpr ⟨i64_of _, (SI_cons.mp (SI_cons.mp hS).2).2⟩) fun ad H locs ls _ _ w => lv_lor F.1 F.2.1 hd ?_
  rw [← Int64.ofInt_toInt (Int64.ofInt x ||| Int64.ofInt y)]; exact w

theorem s_lxor (F : ai_F p s m args meth c cc nL own isInit D cid B0 xa E2 Kc) (g : ai_chk own cc nL Kc cal fr lo isInit rt (pc, .lxor, len, a, b, d, t, z, tl) = true) (q : ai_st orc lim X (pc, .lxor, len, a, b, d, t, z, tl) (ai_PS p l e R s m args below meth c D cid B0 xa nL n0 lim ad0 gx gy Qf) L S n hr h Q) : ai_PS p l e R s m args below meth c D cid B0 xa nL n0 lim ad0 gx gy Qf pc L S n hr h := by
  simp only [ai_chk, Bool.and_eq_true, decide_eq_true_eq, Bool.or_eq_true] at g
  simp only [ai_st] at q
  obtain ⟨hd, rfl⟩ := g
  obtain ⟨x, y, R', rfl, k⟩ := inv_l2 q
  refine sn_pure k (fun _ hS => SI_cons.mpr ⟨i64_of _, (SI_cons.mp (SI_cons.mp hS).2).2⟩) fun ad H locs ls _ _ w => lv_lxor F.1 F.2.1 hd ?_
  rw [← Int64.ofInt_toInt (Int64.ofInt x ^^^ Int64.ofInt y)]; exact w

theorem s_iushr (F : ai_F p s m args meth c cc nL own isInit D cid B0 xa E2 Kc) (g : ai_chk own cc nL Kc cal fr lo isInit rt (pc, .iushr, len, a, b, d, t, z, tl) = true) (q : ai_st orc lim X (pc, .iushr, len, a, b, d, t, z, tl) (ai_PS p l e R s m args below meth c D cid B0 xa nL n0 lim ad0 gx gy Qf) L S n hr h Q) : ai_PS p l e R s m args below meth c D cid B0 xa nL n0 lim ad0 gx gy Qf pc L S n hr h := by
  simp only [ai_chk, Bool.and_eq_true, decide_eq_true_eq, Bool.or_eq_true] at g
  simp only [ai_st] at q
  obtain ⟨hd, rfl⟩ := g
  obtain ⟨x, y, R', rfl, k⟩ := inv_i2 q
  exact sn_pure k (fun _ hS => SI_cons.mpr ⟨i32_of _, (SI_cons.mp (SI_cons.mp hS).2).2⟩) fun ad H locs ls _ _ w => lv_iushr F.1 F.2.1 hd (Int32.ofInt_toInt _).symm w

theorem s_lshl (F : ai_F p s m args meth c cc nL own isInit D cid B0 xa E2 Kc) (g : ai_chk own cc nL Kc cal fr lo isInit rt (pc, .lshl, len, a, b, d, t, z, tl) = true) (q : ai_st orc lim X (pc, .lshl, len, a, b, d, t, z, tl) (ai_PS p l e R s m args below meth c D cid B0 xa nL n0 lim ad0 gx gy Qf) L S n hr h Q) : ai_PS p l e R s m args below meth c D cid B0 xa nL n0 lim ad0 gx gy Qf pc L S n hr h := by
  simp only [ai_chk, Bool.and_eq_true, decide_eq_true_eq, Bool.or_eq_true] at g
  simp only [ai_st] at q
  obtain ⟨hd, rfl⟩ := g
  obtain ⟨y, R1, rfl, k⟩ := inv_i1 q
  obtain ⟨x, R', rfl, k⟩ := inv_l1 k
  exact sn_pure k (fun _ hS => SI_cons.mpr ⟨i64_of _, (SI_cons.mp (SI_cons.mp hS).2).2⟩) fun ad H locs ls _ _ w => lv_lshl F.1 F.2.1 hd (Int64.ofInt_toInt _).symm w

theorem s_i2b (F : ai_F p s m args meth c cc nL own isInit D cid B0 xa E2 Kc) (g : ai_chk own cc nL Kc cal fr lo isInit rt (pc, .i2b, len, a, b, d, t, z, tl) = true) (q : ai_st orc lim X (pc, .i2b, len, a, b, d, t, z, tl) (ai_PS p l e R s m args below meth c D cid B0 xa nL n0 lim ad0 gx gy Qf) L S n hr h Q) : ai_PS p l e R s m args below meth c D cid B0 xa nL n0 lim ad0 gx gy Qf pc L S n hr h := by
  simp only [ai_chk, Bool.and_eq_true, decide_eq_true_eq, Bool.or_eq_true] at g
  simp only [ai_st] at q
  obtain ⟨hd, rfl⟩ := g
  obtain ⟨x, R', rfl, k⟩ := inv_i1 q
  exact sn_pure k (fun _ hS => SI_cons.mpr ⟨i32_of _, (SI_cons.mp hS).2⟩) fun ad H locs ls _ _ w => lv_i2b F.1 F.2.1 hd (Int32.ofInt_toInt _).symm w

theorem s_i2l (F : ai_F p s m args meth c cc nL own isInit D cid B0 xa E2 Kc) (g : ai_chk own cc nL Kc cal fr lo isInit rt (pc, .i2l, len, a, b, d, t, z, tl) = true) (q : ai_st orc lim X (pc, .i2l, len, a, b, d, t, z, tl) (ai_PS p l e R s m args below meth c D cid B0 xa nL n0 lim ad0 gx gy Qf) L S n hr h Q) : ai_PS p l e R s m args below meth c D cid B0 xa nL n0 lim ad0 gx gy Qf pc L S n hr h := by
  simp only [ai_chk, Bool.and_eq_true, decide_eq_true_eq, Bool.or_eq_true] at g
  simp only [ai_st] at q
  obtain ⟨hd, rfl⟩ := g
  obtain ⟨x, R', rfl, k⟩ := inv_i1 q
  exact sn_pure k (fun _ hS => SI_cons.mpr ⟨(show i64 x from ⟨by have := (show i32 x from (SI_cons.mp hS).1).1; omega, by have := (show i32 x from (SI_cons.mp hS).1).2; omega⟩), (SI_cons.mp hS).2⟩) fun ad H locs ls _ hS w => lv_i2l F.1 F.2.1 hd (f_i2l (SI_cons.mp hS).1) w

theorem s_lcmp (F : ai_F p s m args meth c cc nL own isInit D cid B0 xa E2 Kc) (g : ai_chk own cc nL Kc cal fr lo isInit rt (pc, .lcmp, len, a, b, d, t, z, tl) = true) (q : ai_st orc lim X (pc, .lcmp, len, a, b, d, t, z, tl) (ai_PS p l e R s m args below meth c D cid B0 xa nL n0 lim ad0 gx gy Qf) L S n hr h Q) : ai_PS p l e R s m args below meth c D cid B0 xa nL n0 lim ad0 gx gy Qf pc L S n hr h := by
  simp only [ai_chk, Bool.and_eq_true, decide_eq_true_eq, Bool.or_eq_true] at g
  simp only [ai_st] at q
  obtain ⟨hd, rfl⟩ := g
  obtain ⟨x, y, R', rfl, k⟩ := inv_l2 q
  refine sn_pure k (fun _ hS => SI_cons.mpr ⟨?_, (SI_cons.mp (SI_cons.mp hS).2).2⟩) fun ad H locs ls _ hS w => W.lcmp F.1 F.2.1 hd ?_
  · show i32 (l_cmp x y)
    unfold l_cmp
    split
    · exact ⟨by omega, by omega⟩
    · split <;> exact ⟨by omega, by omega⟩
  · rw [f_cmp (SI_cons.mp (SI_cons.mp hS).2).1 (SI_cons.mp hS).1]; exact w

theorem s_idiv (F : ai_F p s m args meth c cc nL own isInit D cid B0 xa E2 Kc) (g : ai_chk own cc nL Kc cal fr lo isInit rt (pc, .idiv, len, a, b, d, t, z, tl) = true) (q : ai_st orc lim X (pc, .idiv, len, a, b, d, t, z, tl) (ai_PS p l e R s m args below meth c D cid B0 xa nL n0 lim ad0 gx gy Qf) L S n hr h Q) : ai_PS p l e R s m args below meth c D cid B0 xa nL n0 lim ad0 gx gy Qf pc L S n hr h := by
  simp only [ai_chk, Bool.and_eq_true, decide_eq_true_eq, Bool.or_eq_true] at g
  simp only [ai_st] at q
  obtain ⟨hd, rfl⟩ := g
  obtain ⟨x, y, R', rfl, hy, k⟩ := inv_i2 q
  refine sn_pure k (fun _ hS => SI_cons.mpr ⟨i32_of _, (SI_cons.mp (SI_cons.mp hS).2).2⟩) fun ad H locs ls _ hS w => lv_idiv F.1 F.2.1 hd (fun z => hy ((e_zero (SI_cons.mp hS).1).mp z)) ?_
  rw [← Int32.ofInt_toInt (Int32.ofInt x / Int32.ofInt y)]; exact w

theorem s_irem (F : ai_F p s m args meth c cc nL own isInit D cid B0 xa E2 Kc) (g : ai_chk own cc nL Kc cal fr lo isInit rt (pc, .irem, len, a, b, d, t, z, tl) = true) (q : ai_st orc lim X (pc, .irem, len, a, b, d, t, z, tl) (ai_PS p l e R s m args below meth c D cid B0 xa nL n0 lim ad0 gx gy Qf) L S n hr h Q) : ai_PS p l e R s m args below meth c D cid B0 xa nL n0 lim ad0 gx gy Qf pc L S n hr h := by
  simp only [ai_chk, Bool.and_eq_true, decide_eq_true_eq, Bool.or_eq_true] at g
  simp only [ai_st] at q
  obtain ⟨hd, rfl⟩ := g
  obtain ⟨x, y, R', rfl, hy, k⟩ := inv_i2 q
  refine sn_pure k (fun _ hS => SI_cons.mpr ⟨i32_of _, (SI_cons.mp (SI_cons.mp hS).2).2⟩) fun ad H locs ls _ hS w => lv_irem F.1 F.2.1 hd (fun z => hy ((e_zero (SI_cons.mp hS).1).mp z)) ?_
  rw [← Int32.ofInt_toInt (Int32.ofInt x - Int32.ofInt x / Int32.ofInt y * Int32.ofInt y)]; exact w

theorem s_if_icmp {cnd : Jvm.ClassFile.Cond} {off : Int} (F : ai_F p s m args meth c cc nL own isInit D cid B0 xa E2 Kc) (g : ai_chk own cc nL Kc cal fr lo isInit rt (pc, .if_icmp cnd off, len, a, b, d, t, z, tl) = true) (q : ai_st orc lim X (pc, .if_icmp cnd off, len, a, b, d, t, z, tl) (ai_PS p l e R s m args below meth c D cid B0 xa nL n0 lim ad0 gx gy Qf) L S n hr h Q) : ai_PS p l e R s m args below meth c D cid B0 xa nL n0 lim ad0 gx gy Qf pc L S n hr h := by
  simp only [ai_chk, Bool.and_eq_true, decide_eq_true_eq, Bool.or_eq_true] at g
  simp only [ai_st] at q
  obtain ⟨hd, ht, rfl⟩ := g
  obtain ⟨x, y, R', rfl, k⟩ := inv_i2 q
  intro ad H locs ls h1 h2 h3 h4 h5 h6 h7 h8 h9
  have hy : i32 y := (SI_cons.mp h8).1
  have hx : i32 x := (SI_cons.mp (SI_cons.mp h8).2).1
  have hR := (SI_cons.mp (SI_cons.mp h8).2).2
  cases cnd with
  | eq => exact lv_icmp_eq F.1 F.2.1 hd ht (fun w => k.1 ((e_eq hx hy).mp w) ad H locs ls h1 h2 h3 h4 h5 h6 h7 hR h9) (fun w => k.2 (fun v => w ((e_eq hx hy).mpr v)) ad H locs ls h1 h2 h3 h4 h5 h6 h7 hR h9)
  | ne => exact lv_icmp_ne F.1 F.2.1 hd ht (fun w => k.1 (fun v => w ((e_eq hx hy).mpr v)) ad H locs ls h1 h2 h3 h4 h5 h6 h7 hR h9) (fun w => k.2 ((e_eq hx hy).mp w) ad H locs ls h1 h2 h3 h4 h5 h6 h7 hR h9)
  | lt => exact lv_icmp_lt F.1 F.2.1 hd ht (fun w => k.1 ((e_lt hx hy).mp w) ad H locs ls h1 h2 h3 h4 h5 h6 h7 hR h9) (fun w => k.2 (Int.not_lt.mp fun v => w ((e_lt hx hy).mpr v)) ad H locs ls h1 h2 h3 h4 h5 h6 h7 hR h9)
  | ge => exact lv_icmp_ge F.1 F.2.1 hd ht (fun w => k.1 ((e_le hy hx).mp w) ad H locs ls h1 h2 h3 h4 h5 h6 h7 hR h9) (fun w => k.2 (Int.not_le.mp fun v => w ((e_le hy hx).mpr v)) ad H locs ls h1 h2 h3 h4 h5 h6 h7 hR h9)
  | gt => exact lv_icmp_gt F.1 F.2.1 hd ht (fun w => k.1 ((e_lt hy hx).mp w) ad H locs ls h1 h2 h3 h4 h5 h6 h7 hR h9) (fun w => k.2 (Int.not_lt.mp fun v => w ((e_lt hy hx).mpr v)) ad H locs ls h1 h2 h3 h4 h5 h6 h7 hR h9)
  | le => exact lv_icmp_le F.1 F.2.1 hd ht (fun w => k.1 ((e_le hx hy).mp w) ad H locs ls h1 h2 h3 h4 h5 h6 h7 hR h9) (fun w => k.2 (Int.not_le.mp fun v => w ((e_le hx hy).mpr v)) ad H locs ls h1 h2 h3 h4 h5 h6 h7 hR h9)

theorem s_ifCond {cnd : Jvm.ClassFile.Cond} {off : Int} (F : ai_F p s m args meth c cc nL own isInit D cid B0 xa E2 Kc) (g : ai_chk own cc nL Kc cal fr lo isInit rt (pc, .ifCond cnd off, len, a, b, d, t, z, tl) = true) (q : ai_st orc lim X (pc, .ifCond cnd off, len, a, b, d, t, z, tl) (ai_PS p l e R s m args below meth c D cid B0 xa nL n0 lim ad0 gx gy Qf) L S n hr h Q) : ai_PS p l e R s m args below meth c D cid B0 xa nL n0 lim ad0 gx gy Qf pc L S n hr h := by
  simp only [ai_chk, Bool.and_eq_true, decide_eq_true_eq, Bool.or_eq_true] at g
  simp only [ai_st] at q
  obtain ⟨hd, ht, rfl⟩ := g
  obtain ⟨x, R', rfl, k⟩ := inv_i1 q
  intro ad H locs ls h1 h2 h3 h4 h5 h6 h7 h8 h9
  have hx : i32 x := (SI_cons.mp h8).1
  have hy : i32 0 := ⟨by decide, by decide⟩
  have hR := (SI_cons.mp h8).2
  cases cnd with
  | eq => exact lv_if_eq F.1 F.2.1 hd ht (fun w => k.1 ((e_eq hx hy).mp w) ad H locs ls h1 h2 h3 h4 h5 h6 h7 hR h9) (fun w => k.2 (fun v => w ((e_eq hx hy).mpr v)) ad H locs ls h1 h2 h3 h4 h5 h6 h7 hR h9)
  | ne => exact lv_if_ne F.1 F.2.1 hd ht (fun w => k.1 (fun v => w ((e_eq hx hy).mpr v)) ad H locs ls h1 h2 h3 h4 h5 h6 h7 hR h9) (fun w => k.2 ((e_eq hx hy).mp w) ad H locs ls h1 h2 h3 h4 h5 h6 h7 hR h9)
  | lt => exact lv_if_lt F.1 F.2.1 hd ht (fun w => k.1 ((e_lt hx hy).mp w) ad H locs ls h1 h2 h3 h4 h5 h6 h7 hR h9) (fun w => k.2 (Int.not_lt.mp fun v => w ((e_lt hx hy).mpr v)) ad H locs ls h1 h2 h3 h4 h5 h6 h7 hR h9)
  | ge => exact lv_if_ge F.1 F.2.1 hd ht (fun w => k.1 ((e_le hy hx).mp w) ad H locs ls h1 h2 h3 h4 h5 h6 h7 hR h9) (fun w => k.2 (Int.not_le.mp fun v => w ((e_le hy hx).mpr v)) ad H locs ls h1 h2 h3 h4 h5 h6 h7 hR h9)
  | gt => exact lv_if_gt F.1 F.2.1 hd ht (fun w => k.1 ((e_lt hy hx).mp w) ad H locs ls h1 h2 h3 h4 h5 h6 h7 hR h9) (fun w => k.2 (Int.not_lt.mp fun v => w ((e_lt hy hx).mpr v)) ad H locs ls h1 h2 h3 h4 h5 h6 h7 hR h9)
  | le => exact lv_if_le F.1 F.2.1 hd ht (fun w => k.1 ((e_le hx hy).mp w) ad H locs ls h1 h2 h3 h4 h5 h6 h7 hR h9) (fun w => k.2 (Int.not_le.mp fun v => w ((e_le hx hy).mpr v)) ad H locs ls h1 h2 h3 h4 h5 h6 h7 hR h9)

theorem s_goto {off : Int} (F : ai_F p s m args meth c cc nL own isInit D cid B0 xa E2 Kc) (g : ai_chk own cc nL Kc cal fr lo isInit rt (pc, .goto off, len, a, b, d, t, z, tl) = true) (q : ai_st orc lim X (pc, .goto off, len, a, b, d, t, z, tl) (ai_PS p l e R s m args below meth c D cid B0 xa nL n0 lim ad0 gx gy Qf) L S n hr h Q) : ai_PS p l e R s m args below meth c D cid B0 xa nL n0 lim ad0 gx gy Qf pc L S n hr h := by
  simp only [ai_chk, Bool.and_eq_true, decide_eq_true_eq, Bool.or_eq_true] at g
  simp only [ai_st] at q
  obtain ⟨hd, ht, rfl⟩ := g
  exact sn_pure q (fun _ hS => hS) fun ad H locs ls _ _ w => lv_goto F.1 F.2.1 hd ht w

theorem s_dup (F : ai_F p s m args meth c cc nL own isInit D cid B0 xa E2 Kc) (g : ai_chk own cc nL Kc cal fr lo isInit rt (pc, .dup, len, a, b, d, t, z, tl) = true) (q : ai_st orc lim X (pc, .dup, len, a, b, d, t, z, tl) (ai_PS p l e R s m args below meth c D cid B0 xa nL n0 lim ad0 gx gy Qf) L S n hr h Q) : ai_PS p l e R s m args below meth c D cid B0 xa nL n0 lim ad0 gx gy Qf pc L S n hr h := by
  simp only [ai_chk, Bool.and_eq_true, decide_eq_true_eq, Bool.or_eq_true] at g
  simp only [ai_st] at q
  obtain ⟨hd, rfl⟩ := g
  obtain ⟨v, R', rfl, hc, k⟩ := inv_d1 q
  exact sn_pure k (fun _ hS => SI_cons.mpr ⟨(SI_cons.mp hS).1, hS⟩) fun ad H locs ls _ _ w => lv_dup F.1 F.2.1 hd (cat1_cv hc) w

theorem s_pop (F : ai_F p s m args meth c cc nL own isInit D cid B0 xa E2 Kc) (g : ai_chk own cc nL Kc cal fr lo isInit rt (pc, .pop, len, a, b, d, t, z, tl) = true) (q : ai_st orc lim X (pc, .pop, len, a, b, d, t, z, tl) (ai_PS p l e R s m args below meth c D cid B0 xa nL n0 lim ad0 gx gy Qf) L S n hr h Q) : ai_PS p l e R s m args below meth c D cid B0 xa nL n0 lim ad0 gx gy Qf pc L S n hr h := by
  simp only [ai_chk, Bool.and_eq_true, decide_eq_true_eq, Bool.or_eq_true] at g
  simp only [ai_st] at q
  obtain ⟨hd, rfl⟩ := g
  obtain ⟨v, R', rfl, hc, k⟩ := inv_d1 q
  exact sn_pure k (fun _ hS => (SI_cons.mp hS).2) fun ad H locs ls _ _ w => lv_pop F.1 F.2.1 hd (cat1_cv hc) w

theorem s_dup2 (F : ai_F p s m args meth c cc nL own isInit D cid B0 xa E2 Kc) (g : ai_chk own cc nL Kc cal fr lo isInit rt (pc, .dup2, len, a, b, d, t, z, tl) = true) (q : ai_st orc lim X (pc, .dup2, len, a, b, d, t, z, tl) (ai_PS p l e R s m args below meth c D cid B0 xa nL n0 lim ad0 gx gy Qf) L S n hr h Q) : ai_PS p l e R s m args below meth c D cid B0 xa nL n0 lim ad0 gx gy Qf pc L S n hr h := by
  simp only [ai_chk, Bool.and_eq_true, decide_eq_true_eq, Bool.or_eq_true] at g
  simp only [ai_st] at q
  obtain ⟨hd, rfl⟩ := g
  obtain ⟨v, u, R', rfl, hc, hc2, k⟩ := inv_d2 q
  exact sn_pure k (fun _ hS => SI_cons.mpr ⟨(SI_cons.mp hS).1, SI_cons.mpr ⟨(SI_cons.mp (SI_cons.mp hS).2).1, hS⟩⟩) fun ad H locs ls _ _ w => lv_dup2_11 F.1 F.2.1 hd (cat1_cv hc) (cat1_cv hc2) w
end SND3
end
section
/-! the steps, an instruction each: cells -/
theorem W_set {D : va_G} {cid : Nat → ClassId} {B0 : Nat} {ad : Nat → Nat} {n : Nat} {hr h hr' h' : HP} {H1 : Heap} {q : Nat} {e0 : va_E} (hP : va_P D vwCl ((ai_ws cid ad n hr h).set q (ad q, e0)) H1) (hD : va_D (fun q : Nat => B0 ≤ q) ((ai_ws cid ad n hr h).set q (ad q, e0))) (he : q < n → ai_ce cid ad hr' h' (q : Int) = e0) (ho : ∀ k : Nat, k < n → k ≠ q → ai_ce cid ad hr' h' (k : Int) = ai_ce cid ad hr h (k : Int)) : ai_W D cid B0 ad n hr' h' H1 := by
  rw [ws_set he ho] at hP hD
  exact ⟨hP, hD⟩
theorem up_ne {h : HP} {x i v : Int} {c : Int} (hc : c ≠ x) (j : Int) : ai_up h x i v c j = h c j := by
  unfold ai_up; rw [if_neg (fun q => hc q.1)]
theorem up_ne2 {h : HP} {x i v : Int} {c j : Int} (hc : j ≠ i) : ai_up h x i v c j = h c j := by
  unfold ai_up; rw [if_neg (fun q => hc q.2)]
theorem up_eq {h : HP} {x i v : Int} : ai_up h x i v x i = v := by
  unfold ai_up; rw [if_pos ⟨rfl, rfl⟩]
theorem IH_up {n : Nat} {hr h : HP} {x i v : Int} (hI : ai_IH n hr h) (hv : ai_vt n (ai_tg x i) v (hr x i)) : ai_IH n hr (ai_up h x i v) := by
  intro c j h1 h2
  by_cases hq : c = x ∧ j = i
  · obtain ⟨rfl, rfl⟩ := hq
    rw [up_eq]; exact hv
  · unfold ai_up
    rw [if_neg hq]
    exact hI c j h1 h2
theorem IH_upr {n : Nat} {hr h : HP} {x i v : Int} (hI : ai_IH n hr h) (hv : ai_vt n (ai_tg x i) (h x i) v) : ai_IH n (ai_up hr x i v) h := by
  intro c j h1 h2
  by_cases hq : c = x ∧ j = i
  · obtain ⟨rfl, rfl⟩ := hq
    rw [up_eq]; exact hv
  · unfold ai_up
    rw [if_neg hq]
    exact hI c j h1 h2
theorem ar_up {ad : Nat → Nat} {t : Nat} {hr h : HP} {x i v : Int} (ht : t = 0 ∨ t = 2 ∨ t = 3) (hi : 0 ≤ i) : ai_ar ad t hr (ai_up h x i v) x = .inl (upd (fun j => Int32.ofInt (h x (j : Int))) i.toNat (Int32.ofInt v)) := by
  have key : (fun j : Nat => Int32.ofInt (ai_up h x i v x (j : Int))) = upd (fun j => Int32.ofInt (h x (j : Int))) i.toNat (Int32.ofInt v) := by
    funext j
    unfold ai_up upd
    by_cases hj : j = i.toNat
    · rw [if_pos ⟨rfl, by omega⟩, if_pos hj]
    · rw [if_neg (fun q => hj (by omega)), if_neg hj]
  rcases ht with rfl | rfl | rfl <;> (show Sum.inl _ = Sum.inl _; rw [key])
theorem ar_int {ad : Nat → Nat} {t : Nat} {hr h : HP} {x : Int} (ht : t = 0 ∨ t = 2 ∨ t = 3) : ai_ar ad t hr h x = .inl (fun j => Int32.ofInt (h x (j : Int))) := by
  rcases ht with rfl | rfl | rfl <;> rfl
theorem ar_upl {ad : Nat → Nat} {hr h : HP} {x i v : Int} (hi : 0 ≤ i) : ai_ar ad 1 hr (ai_up h x i v) x = .inr (.inl (vp_updL (fun j => Int64.ofInt (h x (j : Int))) i.toNat (Int64.ofInt v))) := by
  have key : (fun j : Nat => Int64.ofInt (ai_up h x i v x (j : Int))) = vp_updL (fun j => Int64.ofInt (h x (j : Int))) i.toNat (Int64.ofInt v) := by
    funext j
    unfold ai_up vp_updL
    by_cases hj : j = i.toNat
    · rw [if_pos ⟨rfl, by omega⟩, if_pos hj]
    · rw [if_neg (fun q => hj (by omega)), if_neg hj]
  show Sum.inr (Sum.inl _) = Sum.inr (Sum.inl _)
  rw [key]
theorem ar_upq {ad : Nat → Nat} {hr h : HP} {x i : Int} {v : Nat} (hi : 0 ≤ i) : ai_ar ad 4 (ai_up hr x i (v : Int)) h x = .inr (.inr (.inr (.inr (va_up (fun j => ai_ro ad (hr x (j : Int))) i.toNat (some (ad v)))))) := by
  have key : (fun j : Nat => ai_ro ad (ai_up hr x i (v : Int) x (j : Int))) = va_up (fun j => ai_ro ad (hr x (j : Int))) i.toNat (some (ad v)) := by
    funext j
    unfold ai_up va_up
    by_cases hj : j = i.toNat
    · rw [if_pos ⟨rfl, by omega⟩, if_pos hj, ro_nat]
    · rw [if_neg (fun q => hj (by omega)), if_neg hj]
  show Sum.inr (Sum.inr (Sum.inr (Sum.inr _))) = _
  rw [key]
def ai_att (t : Nat) : Nat := match t with
  | 0 => 0
  | 1 => 1
  | 2 => 3
  | 3 => 4
  | _ => 2
theorem tg_arr {x i : Int} {t : Nat} (hk : ai_k x = 50 + t) : ai_tg x i = ai_att t := by
  unfold ai_tg
  rw [if_neg (by omega), show ai_k x - 50 = t by omega]
  rfl
theorem get_vr {n t : Nat} {h hr : HP} {x b : Int} (ht : t ≠ 4) (hv : ai_vt n t (h x b) (hr x b)) : ai_vr n (ai_get t h hr x b) := by
  match t, ht, hv with
  | 0, _, hv => exact hv
  | 1, _, hv => exact hv
  | 2, _, hv => exact hv
  | 3, _, hv => rcases hv with z | z <;> (show i32 (h x b); rw [z]; exact ⟨by decide, by decide⟩)
  | 4, ht, _ => exact (ht rfl).elim
  | t + 5, _, hv => exact hv
theorem nar_b {v : Int} (hv : v = 0 ∨ v = 1) : vp_nar .boolean (Int32.ofInt v) = Int32.ofInt v := by
  rcases hv with rfl | rfl <;> rfl
theorem nar_8 {v : Int} : vp_nar .byte (Int32.ofInt v) = Int32.ofInt (i_b8 v) := by
  rw [vp_nar_byte]; exact (Int32.ofInt_toInt _).symm
theorem b8_in (v : Int) : -128 ≤ i_b8 v ∧ i_b8 v ≤ 127 := by
  unfold i_b8
  rw [Int8.toInt_toInt32]
  exact ⟨Int8.le_toInt _, by have := Int8.toInt_lt (Int32.ofInt v).toInt8; omega⟩
theorem e_vr {n : Nat} {hr h : HP} (hI : ai_IH n hr h) {x i : Int} {t : Nat} (ht : ai_tg x i = t) (h0 : 0 ≤ x) (hn : x < (n : Int)) (_ : 0 ≤ i) (_ : i < ai_l x) : ai_vt n t (h x i) (hr x i) := ht ▸ hI x i h0 hn
theorem ft_ne4 (a b : Nat) : ai_ft a b ≠ 4 := by
  unfold ai_ft ai_tt
  split <;> decide
section SND4
variable {p : Program} {l : Launch} {e : Env} {R : Room} {s : State} {m : MethodId} {args : Array Value} {below : List Frame} {meth : Method} {c : Code} {D : va_G} {cid : Nat → ClassId} {B0 : Nat} {xa : Nat → Nat} {nL n0 lim : Nat} {ad0 : Nat → Nat} {gx gy : Nat} {Qf : State → Prop} {cc : ByteArray} {own : String} {isInit : Bool} {E2 : (Nat → Nat) → State → Heap → Prop} {Kc : List Jvm.Cond} {cal : List ai_I} {fr lo : Nat} {rt : Option FieldType} {orc : Nat → SP} {X : XE} {Q : RP} {pc len a b d t n : Nat} {z : Int} {tl : List (Int × Nat)} {L : List (Option AV)} {S : List AV} {hr h : HP}
theorem inv_ald {kd n S k} (q : ai_ald kd n S k) : ∃ x i R, S = (0, i) :: (2, x) :: R ∧ ai_ok n x kd ∧ 0 ≤ i ∧ i < ai_l x ∧ k x i R := by
  unfold ai_ald at q; split at q <;> first | exact ⟨_, _, _, rfl, q⟩ | exact q.elim
theorem inv_ast {kd n S k} (q : ai_ast kd n S k) : ∃ x i v R, S = (0, v) :: (0, i) :: (2, x) :: R ∧ ai_ok n x kd ∧ 0 ≤ i ∧ i < ai_l x ∧ k x i v R := by
  unfold ai_ast at q; split at q <;> first | exact ⟨_, _, _, _, rfl, q⟩ | exact q.elim
theorem inv_lsa {n S k} (q : ai_lsa n S k) : ∃ x i v R, S = (1, v) :: (0, i) :: (2, x) :: R ∧ ai_ok n x 51 ∧ 0 ≤ i ∧ i < ai_l x ∧ k x i v R := by
  unfold ai_lsa at q; split at q <;> first | exact ⟨_, _, _, _, rfl, q⟩ | exact q.elim
theorem inv_asa {n S k} (q : ai_asa n S k) : ∃ x i v R, S = (2, v) :: (0, i) :: (2, x) :: R ∧ ai_ok n x 54 ∧ ai_ok n v 8 ∧ 0 ≤ i ∧ i < ai_l x ∧ k x i v R := by
  unfold ai_asa at q; split at q <;> first | exact ⟨_, _, _, _, rfl, q⟩ | exact q.elim
theorem sw_in {x : Int} {K : Nat → Prop} {Dd : Prop} : ∀ (tl : List (Int × Nat)) (i : Nat) (v : Int) (t : Nat), ai_sw x tl K Dd → tl[i]? = some (v, t) → (∀ j v' t', j < i → tl[j]? = some (v', t') → v' ≠ x) → x = v → K t
  | [], i, v, t, _, hi, _, _ => by simp at hi
  | (v0, t0) :: tl, 0, v, t, q, hi, _, hx => by
    simp at hi
    obtain ⟨rfl, rfl⟩ := hi
    exact q.1 hx
  | (v0, t0) :: tl, i + 1, v, t, q, hi, hj, hx => by
    refine sw_in tl i v t (q.2 fun z => hj 0 v0 t0 (by omega) rfl z.symm) (by simpa using hi) (fun j v' t' h1 h2 => hj (j + 1) v' t' (by omega) (by simpa using h2)) hx
theorem sw_out {x : Int} {K : Nat → Prop} {Dd : Prop} : ∀ (tl : List (Int × Nat)), ai_sw x tl K Dd → (∀ q ∈ tl, q.1 ≠ x) → Dd
  | [], q, _ => q
  | (v0, t0) :: tl, q, hj => sw_out tl (q.2 fun z => hj (v0, t0) List.mem_cons_self z.symm) fun w hw => hj w (List.mem_cons_of_mem _ hw)

theorem s_tsw {dflt lw hi : Int} {offs : Array Int} (F : ai_F p s m args meth c cc nL own isInit D cid B0 xa E2 Kc) (g : ai_chk own cc nL Kc cal fr lo isInit rt (pc, .tableswitch dflt lw hi offs, len, a, b, d, t, z, tl) = true) (q : ai_st orc lim X (pc, .tableswitch dflt lw hi offs, len, a, b, d, t, z, tl) (ai_PS p l e R s m args below meth c D cid B0 xa nL n0 lim ad0 gx gy Qf) L S n hr h Q) : ai_PS p l e R s m args below meth c D cid B0 xa nL n0 lim ad0 gx gy Qf pc L S n hr h := by
  simp only [ai_chk, Bool.and_eq_true, decide_eq_true_eq, Bool.or_eq_true] at g
  simp only [ai_st] at q
  obtain ⟨hd, ⟨⟨ht, hhi⟩, htl⟩, hall⟩ := g
  obtain ⟨x, R', rfl, k⟩ := inv_i1 q
  intro ad H locs ls h1 h2 h3 h4 h5 h6 h7 h8 h9
  have hx : i32 x := (SI_cons.mp h8).1
  have hR := (SI_cons.mp h8).2
  have hxi : (Int32.ofInt x).toInt = x := of_i32 hx
  by_cases hin : x < lw ∨ hi < x
  · refine lv_tableOut F.1 F.2.1 hd (by rw [hxi]; exact hin) ht ?_
    refine sw_out tl k (fun w hw => ?_) ad H locs ls h1 h2 h3 h4 h5 h6 h7 hR h9
    rw [htl] at hw
    obtain ⟨u, hu, rfl⟩ := List.mem_map.mp hw
    have hu2 := List.snd_lt_of_mem_zipIdx hu
    simp only [Array.length_toList, Nat.zero_add] at hu2
    show lw + (u.2 : Int) ≠ x
    omega
  · have hlt : (x - lw).toNat < offs.size := by omega
    have hget : offs[(x - lw).toNat]? = some offs[(x - lw).toNat] := Array.getElem?_eq_getElem hlt
    have hnn : 0 ≤ (pc : Int) + offs[(x - lw).toNat] := by
      have := List.all_eq_true.mp hall offs[(x - lw).toNat] (by simp [Array.mem_toList_iff])
      simpa using this
    refine lv_tableIn F.1 F.2.1 hd (by rw [hxi]; omega) (by rw [hxi]; omega) (by rw [hxi]; exact hget) (Int.toNat_of_nonneg hnn).symm ?_
    refine sw_in tl (x - lw).toNat x _ k ?_ (fun j v' t' hj hv' => ?_) rfl ad H locs ls h1 h2 h3 h4 h5 h6 h7 hR h9
    · rw [htl, List.getElem?_map, List.getElem?_zipIdx, Array.getElem?_toList, hget]
      simp only [Option.map_some]
      congr 2
      omega
    · rw [htl, List.getElem?_map, List.getElem?_zipIdx] at hv'
      cases hq : offs.toList[j]? with
      | none => rw [hq] at hv'; simp at hv'
      | some o =>
        rw [hq] at hv'
        simp only [Option.map_some, Option.some.injEq, Prod.mk.injEq] at hv'
        omega

theorem s_lsw {dflt : Int} {ps : Array (Int × Int)} (F : ai_F p s m args meth c cc nL own isInit D cid B0 xa E2 Kc) (g : ai_chk own cc nL Kc cal fr lo isInit rt (pc, .lookupswitch dflt ps, len, a, b, d, t, z, tl) = true) (q : ai_st orc lim X (pc, .lookupswitch dflt ps, len, a, b, d, t, z, tl) (ai_PS p l e R s m args below meth c D cid B0 xa nL n0 lim ad0 gx gy Qf) L S n hr h Q) : ai_PS p l e R s m args below meth c D cid B0 xa nL n0 lim ad0 gx gy Qf pc L S n hr h := by
  simp only [ai_chk, Bool.and_eq_true, decide_eq_true_eq, Bool.or_eq_true] at g
  simp only [ai_st] at q
  obtain ⟨hd, ⟨⟨ht, hsort⟩, htl⟩, hall⟩ := g
  obtain ⟨x, R', rfl, k⟩ := inv_i1 q
  intro ad H locs ls h1 h2 h3 h4 h5 h6 h7 h8 h9
  have hx : i32 x := (SI_cons.mp h8).1
  have hR := (SI_cons.mp h8).2
  have hxi : (Int32.ofInt x).toInt = x := of_i32 hx
  have key : ∀ (qs : List (Int × Int)), qs.all (fun q => decide (0 ≤ (pc : Int) + q.2)) = true → ai_sw x (qs.map fun q => (q.1, ((pc : Int) + q.2).toNat)) (fun q => ai_PS p l e R s m args below meth c D cid B0 xa nL n0 lim ad0 gx gy Qf q L R' n hr h) (ai_PS p l e R s m args below meth c D cid B0 xa nL n0 lim ad0 gx gy Qf a L R' n hr h) → ∃ tgt : Nat, (pc : Int) + Op.lookupswitch.offset qs dflt x = (tgt : Int) ∧ ai_PS p l e R s m args below meth c D cid B0 xa nL n0 lim ad0 gx gy Qf tgt L R' n hr h := by
    intro qs
    induction qs with
    | nil => exact fun _ w => ⟨a, ht, w⟩
    | cons u qs ih =>
      intro hq w
      simp only [List.all_cons, Bool.and_eq_true, decide_eq_true_eq] at hq
      by_cases hu : x = u.1
      · refine ⟨((pc : Int) + u.2).toNat, ?_, w.1 hu⟩
        rw [Int.toNat_of_nonneg hq.1]
        simp [Op.lookupswitch.offset, hu]
      · obtain ⟨tgt, e1, e2⟩ := ih hq.2 (w.2 hu)
        refine ⟨tgt, ?_, e2⟩
        rw [← e1]
        have hu2 : ¬ u.1 = x := fun z => hu z.symm
        simp [Op.lookupswitch.offset, List.find?_cons, hu2]
  rw [htl] at k
  obtain ⟨tgt, e1, e2⟩ := key ps.toList hall k
  exact lv_lookup F.1 F.2.1 hd hsort rfl (by rw [hxi]; exact e1) (e2 ad H locs ls h1 h2 h3 h4 h5 h6 h7 hR h9)

theorem s_getfield {idx : Nat} (F : ai_F p s m args meth c cc nL own isInit D cid B0 xa E2 Kc) (g : ai_chk own cc nL Kc cal fr lo isInit rt (pc, .getfield idx, len, a, b, d, t, z, tl) = true) (q : ai_st orc lim X (pc, .getfield idx, len, a, b, d, t, z, tl) (ai_PS p l e R s m args below meth c D cid B0 xa nL n0 lim ad0 gx gy Qf) L S n hr h Q) : ai_PS p l e R s m args below meth c D cid B0 xa nL n0 lim ad0 gx gy Qf pc L S n hr h := by
  simp only [ai_chk, Bool.and_eq_true, decide_eq_true_eq, Bool.or_eq_true] at g
  simp only [ai_st] at q
  obtain ⟨hd, ⟨⟨⟨rfl, hw⟩, rfl⟩, rfl⟩, ha⟩ := g
  obtain ⟨x, R', rfl, hok, k⟩ := inv_r1 q
  obtain ⟨q0, rfl, hq0, hk0⟩ := ok_nat hok
  intro ad H locs ls h1 h2 h3 h4 h5 h6 h7 h8 h9
  unfold ai_wf at hw
  split at hw
  · rename_i C T N w hC hW
    rw [nth_eq] at hC hW
    obtain ⟨f1, f2, f3, f4⟩ := cl_ok a (C, T, N) hC
    simp only at f1 f2 f3 f4
    simp only [Bool.and_eq_true, decide_eq_true_eq, Bool.or_eq_true] at hw
    obtain ⟨hbN, hw⟩ := hw
    have hN : ai_nf a = N := by unfold ai_nf; rw [nth_eq, hC]
    have hce := ce_obj (cid := cid) (ad := ad) (hr := hr) (h := h) hk0 (by omega)
    have hget : (ai_ws cid ad n hr h)[q0]? = some (ad q0, .inr (a, ai_fs ad a hr h (q0 : Int))) := by rw [ws_get hq0, hce]
    have hv : (ai_fs ad a hr h (q0 : Int))[b]? = some (ai_fv ad (ai_ft a b) hr h (q0 : Int) (b : Int)) := fs_get (by omega)
    have hword := F.2.2.2.2.1 _ (F.2.2.2.2.2.2.2.2.2.2 _ (List.mem_of_getElem? hW))
    have hvt : ai_vt n (ai_ft a b) (h (q0 : Int) (b : Int)) (hr (q0 : Int) (b : Int)) := e_vr h5 (by unfold ai_tg; rw [hk0, if_pos (by omega)]; simp) (by omega) (by omega) (by omega) (by rw [sh_ok _ (by omega), hk0, hN]; omega)
    have hSI : ai_SI n (ai_get (ai_ft a b) h hr (q0 : Int) (b : Int) :: R') := SI_cons.mpr ⟨get_vr (ft_ne4 a b) hvt, (SI_cons.mp h8).2⟩
    have hgo := k ad H locs ls h1 h2 h3 h4 h5 h6 h7 hSI h9
    rw [List.map_cons, ← fv_get] at hgo
    rw [List.map_cons, cv_ref]
    rcases hw with hw | hw
    · subst hw
      exact va_get F.1 F.2.1 (fun w hw => F.2.2.2.2.1 w hw) f3 F.2.2.2.1 F.2.2.2.2.2.2.1 h4.1 q0 hget hC b hbN hword (fun x hx => by rw [f4 b hbN] at hx; exact hx) hv hd hgo
    · subst hw
      exact va_getN F.1 F.2.1 (fun w hw => F.2.2.2.2.1 w hw) f3 F.2.2.2.1 F.2.2.2.2.2.2.1 h4.1 q0 hget hC b hbN hword (fun x hx => by rw [f4 b hbN] at hx; exact hx) hv hd hgo
  · cases hw
end SND4
end
section
/-! the steps, an instruction each: cells written, rows -/
theorem vt_of {t n : Nat} {v r : Int} (ht : t = 2 ∨ 5 ≤ t) (h : -1 ≤ r ∧ r < (n : Int)) : ai_vt n t v r := by
  match t, ht with
  | 2, _ => exact h
  | t + 5, _ => exact h
  | 0, ht => omega
  | 1, ht => omega
  | 3, ht => omega
  | 4, ht => omega
theorem ft_lt (a b : Nat) : ai_ft a b ≤ 3 := by
  unfold ai_ft ai_tt
  split <;> decide
theorem ty_ft {a b : Nat} {v : AV} {ad xa : Nat → Nat} (h : (ai_ft a b = 0 ∧ v.1 = 0) ∨ (ai_ft a b = 1 ∧ v.1 = 1) ∨ (ai_ft a b = 3 ∧ v.1 = 0 ∧ (v.2 = 0 ∨ v.2 = 1)) ∨ (ai_ft a b = 2 ∧ v.1 = 2 ∧ ∃ C, ai_tyc a b = .object C ∨ ∃ C, ai_tyc a b = .array C)) : narrow (ai_tyc a b) (ai_cv ad xa v) = ai_cv ad xa v ∧ fits (ai_tyc a b) (ai_cv ad xa v) = true := by
  obtain ⟨tg, x⟩ := v
  unfold ai_ft at h
  generalize ai_tyc a b = ty at h
  rcases h with ⟨h1, h2⟩ | ⟨h1, h2⟩ | ⟨h1, h2, h3⟩ | ⟨h1, h2, C, h3⟩
  · simp only at h2; subst h2
    cases ty <;> simp [ai_tt] at h1
    exact ⟨rfl, rfl⟩
  · simp only at h2; subst h2
    cases ty <;> simp [ai_tt] at h1
    exact ⟨rfl, rfl⟩
  · simp only at h2 h3; subst h2
    cases ty <;> simp [ai_tt] at h1
    rcases h3 with rfl | rfl <;> exact ⟨rfl, rfl⟩
  · simp only at h2; subst h2
    show narrow ty (va_rf (ai_ro ad x)) = va_rf (ai_ro ad x) ∧ fits ty (va_rf (ai_ro ad x)) = true
    rcases h3 with rfl | ⟨C2, rfl⟩ <;> cases ai_ro ad x <;> exact ⟨rfl, rfl⟩
theorem ty_ref : ∀ a, a < 13 → ∀ b, b < ai_nf a → ai_ft a b = 2 → ∃ C, ai_tyc a b = .object C ∨ ∃ C, ai_tyc a b = .array C := by
  intro a ha b hb h
  have key : (List.range 13).all (fun a => (List.range (ai_nf a)).all fun b => (match ai_tyc a b with
    | .object _ => true
    | .array _ => true
    | t => decide (ai_tt t ≠ 2))) = true := by decide +kernel
  have h1 := List.all_eq_true.mp (List.all_eq_true.mp key a (List.mem_range.mpr ha)) b (List.mem_range.mpr hb)
  unfold ai_ft at h
  split at h1
  · rename_i C hC; exact ⟨C, Or.inl hC⟩
  · rename_i C hC; exact ⟨"", Or.inr ⟨C, hC⟩⟩
  · simp only [decide_eq_true_eq] at h1; exact (h1 h).elim
section SND5
variable {p : Program} {l : Launch} {e : Env} {R : Room} {s : State} {m : MethodId} {args : Array Value} {below : List Frame} {meth : Method} {c : Code} {D : va_G} {cid : Nat → ClassId} {B0 : Nat} {xa : Nat → Nat} {nL n0 lim : Nat} {ad0 : Nat → Nat} {gx gy : Nat} {Qf : State → Prop} {cc : ByteArray} {own : String} {isInit : Bool} {E2 : (Nat → Nat) → State → Heap → Prop} {Kc : List Jvm.Cond} {cal : List ai_I} {fr lo : Nat} {rt : Option FieldType} {orc : Nat → SP} {X : XE} {Q : RP} {pc len a b d t n : Nat} {z : Int} {tl : List (Int × Nat)} {L : List (Option AV)} {S : List AV} {hr h : HP}
theorem inv_put {t n h hr b cls S k} (q : ai_put t n h hr b cls S k) : ∃ v x R, S = v :: (2, x) :: R ∧ ai_ok n x cls ∧ ((t = 0 ∧ v.1 = 0 ∧ k R hr (ai_up h x b v.2)) ∨ (t = 1 ∧ v.1 = 1 ∧ k R hr (ai_up h x b v.2)) ∨ (t = 3 ∧ v.1 = 0 ∧ (v.2 = 0 ∨ v.2 = 1) ∧ k R hr (ai_up h x b v.2)) ∨ (t = 2 ∧ v.1 = 2 ∧ k R (ai_up hr x b v.2) h)) := by
  unfold ai_put at q
  split at q
  · exact ⟨_, _, _, rfl, q.1, Or.inl ⟨rfl, rfl, q.2⟩⟩
  · exact ⟨_, _, _, rfl, q.1, Or.inr (Or.inl ⟨rfl, rfl, q.2⟩)⟩
  · exact ⟨_, _, _, rfl, q.1, Or.inr (Or.inr (Or.inr ⟨rfl, rfl, q.2⟩))⟩
  · exact ⟨_, _, _, rfl, q.1, Or.inr (Or.inr (Or.inl ⟨rfl, rfl, q.2⟩))⟩
  · exact q.elim

theorem s_putfield {idx : Nat} (F : ai_F p s m args meth c cc nL own isInit D cid B0 xa E2 Kc) (g : ai_chk own cc nL Kc cal fr lo isInit rt (pc, .putfield idx, len, a, b, d, t, z, tl) = true) (q : ai_st orc lim X (pc, .putfield idx, len, a, b, d, t, z, tl) (ai_PS p l e R s m args below meth c D cid B0 xa nL n0 lim ad0 gx gy Qf) L S n hr h Q) : ai_PS p l e R s m args below meth c D cid B0 xa nL n0 lim ad0 gx gy Qf pc L S n hr h := by
  simp only [ai_chk, Bool.and_eq_true, decide_eq_true_eq, Bool.or_eq_true] at g
  simp only [ai_st] at q
  obtain ⟨hd, ⟨⟨⟨rfl, hw⟩, rfl⟩, rfl⟩, ha⟩ := g
  obtain ⟨v, x, R', rfl, hok, k⟩ := inv_put q
  obtain ⟨q0, rfl, hq0, hk0⟩ := ok_nat hok
  intro ad H locs ls h1 h2 h3 h4 h5 h6 h7 h8 h9
  unfold ai_wp2 at hw
  split at hw
  · rename_i C T N w hC hW
    rw [nth_eq] at hC hW
    obtain ⟨f1, f2, f3, f4⟩ := cl_ok a (C, T, N) hC
    simp only at f1 f2 f3 f4
    simp only [Bool.and_eq_true, decide_eq_true_eq, Bool.or_eq_true, Bool.not_eq_true'] at hw
    obtain ⟨hbN, hw⟩ := hw
    have hN : ai_nf a = N := by unfold ai_nf; rw [nth_eq, hC]
    have hce := ce_obj (cid := cid) (ad := ad) (hr := hr) (h := h) hk0 (by omega)
    have hget : (ai_ws cid ad n hr h)[q0]? = some (ad q0, .inr (a, ai_fs ad a hr h (q0 : Int))) := by rw [ws_get hq0, hce]
    have hword := F.2.2.2.2.1 _ (F.2.2.2.2.2.2.2.2.2.2 _ (List.mem_of_getElem? hW))
    have hv := (SI_cons.mp h8).1
    have hSI := (SI_cons.mp (SI_cons.mp h8).2).2
    have htg : ai_tg (q0 : Int) (b : Int) = ai_ft a b := by unfold ai_tg; rw [hk0, if_pos (by omega)]; simp
    have htf : narrow (ai_tyc a b) (ai_cv ad xa v) = ai_cv ad xa v ∧ fits (ai_tyc a b) (ai_cv ad xa v) = true := by
      refine ty_ft ?_
      rcases k with k | k | k | k
      · exact Or.inl ⟨k.1, k.2.1⟩
      · exact Or.inr (Or.inl ⟨k.1, k.2.1⟩)
      · exact Or.inr (Or.inr (Or.inl ⟨k.1, k.2.1, k.2.2.1⟩))
      · exact Or.inr (Or.inr (Or.inr ⟨k.1, k.2.1, ty_ref a ha b (by omega) k.1⟩))
    -- what the world is then
    have go : ∀ (H1 : Heap) (locs1 : List Loc), va_P D vwCl ((ai_ws cid ad n hr h).set q0 (ad q0, .inr (a, (ai_fs ad a hr h (q0 : Int)).set b (ai_cv ad xa v)))) H1 → va_D (fun q : Nat => B0 ≤ q) ((ai_ws cid ad n hr h).set q0 (ad q0, .inr (a, (ai_fs ad a hr h (q0 : Int)).set b (ai_cv ad xa v)))) → va_S (fun q : Nat => B0 ≤ q) s.heap H1 locs1 → W p l e R s m args below meth c H1 locs1 (n - n0 + gx) (ai_cs n - ai_cs n0 + gy) Qf (F0 m (pc + 3) ls (R'.map (ai_cv ad xa))) := by
      intro H1 locs1 hP1 hD1 hS1
      obtain ⟨tg, vv⟩ := v
      rcases k with ⟨k1, k2, k⟩ | ⟨k1, k2, k⟩ | ⟨k1, k2, k3, k⟩ | ⟨k1, k2, k⟩
      · simp only at k2 k; subst k2
        refine k ad H1 locs1 ls h1 h2 h3 (W_set hP1 hD1 (fun _ => ?_) fun k _ hkq => ce_same (fun _ => rfl) fun j => up_ne (by omega) j) (IH_up h5 (by rw [htg, k1]; exact hv)) h6 h7 hSI hS1
        rw [ce_obj hk0 (by omega), fs_set (v := ai_cv ad xa (0, vv)) (b := b)]
        · rw [fv_get ad xa, k1]; show ai_cv ad xa (0, ai_up h _ _ _ _ _) = _; rw [up_eq]
        · exact fun i hi => ⟨rfl, up_ne2 (by omega)⟩
      · simp only at k2 k; subst k2
        refine k ad H1 locs1 ls h1 h2 h3 (W_set hP1 hD1 (fun _ => ?_) fun k _ hkq => ce_same (fun _ => rfl) fun j => up_ne (by omega) j) (IH_up h5 (by rw [htg, k1]; exact hv)) h6 h7 hSI hS1
        rw [ce_obj hk0 (by omega), fs_set (v := ai_cv ad xa (1, vv)) (b := b)]
        · rw [fv_get ad xa, k1]; show ai_cv ad xa (1, ai_up h _ _ _ _ _) = _; rw [up_eq]
        · exact fun i hi => ⟨rfl, up_ne2 (by omega)⟩
      · simp only at k2 k3 k; subst k2
        refine k ad H1 locs1 ls h1 h2 h3 (W_set hP1 hD1 (fun _ => ?_) fun k _ hkq => ce_same (fun _ => rfl) fun j => up_ne (by omega) j) (IH_up h5 (by rw [htg, k1]; exact k3)) h6 h7 hSI hS1
        rw [ce_obj hk0 (by omega), fs_set (v := ai_cv ad xa (0, vv)) (b := b)]
        · rw [fv_get ad xa, k1]; show ai_cv ad xa (0, ai_up h _ _ _ _ _) = _; rw [up_eq]
        · exact fun i hi => ⟨rfl, up_ne2 (by omega)⟩
      · simp only at k2 k; subst k2
        refine k ad H1 locs1 ls h1 h2 h3 (W_set hP1 hD1 (fun _ => ?_) fun k _ hkq => ce_same (fun j => up_ne (by omega) j) fun _ => rfl) (IH_upr h5 (by rw [htg, k1]; exact hv)) h6 h7 hSI hS1
        rw [ce_obj hk0 (by omega), fs_set (v := ai_cv ad xa (2, vv)) (b := b)]
        · rw [fv_get ad xa, k1]; show ai_cv ad xa (2, ai_up hr _ _ _ _ _) = _; rw [up_eq]
        · exact fun i hi => ⟨up_ne2 (by omega), rfl⟩
    simp only [List.map_cons]
    rw [cv_ref]
    have hlen : b < (ai_fs ad a hr h (q0 : Int)).length := by rw [fs_len]; omega
    rcases hw with ⟨hfin, hw⟩ | ⟨⟨⟨hfin, hini⟩, hown⟩, hw⟩
    · rcases hw with hw | hw
      · subst hw
        exact va_put F.1 F.2.1 (fun w hw => F.2.2.2.2.1 w hw) f3 (ai_tyc a) f1 f2 F.2.2.2.1 F.2.2.2.2.2.2.1 h4.1 h4.2 h9 q0 hget hC b hbN hword (fun x hx => by rw [f4 b hbN] at hx; exact hx) hfin (f1 b hbN) htf.1 htf.2 hlen hd go
      · subst hw
        exact va_putN F.1 F.2.1 (fun w hw => F.2.2.2.2.1 w hw) f3 (ai_tyc a) f1 f2 F.2.2.2.1 F.2.2.2.2.2.2.1 h4.1 h4.2 h9 q0 hget hC b hbN hword (fun x hx => by rw [f4 b hbN] at hx; exact hx) hfin (f1 b hbN) htf.1 htf.2 hlen hd go
    · subst hw
      exact va_putF F.1 F.2.1 (fun w hw => F.2.2.2.2.1 w hw) f3 (ai_tyc a) f1 f2 F.2.2.2.1 F.2.2.2.2.2.2.1 h4.1 h4.2 h9 q0 hget hC b hbN hword (fun x hx => by rw [f4 b hbN] at hx; exact hx) hfin (F.2.2.2.2.2.1 hini) ((f4 b hbN).trans hown) (f1 b hbN) htf.1 htf.2 hlen hd go
  · cases hw

theorem s_laload (F : ai_F p s m args meth c cc nL own isInit D cid B0 xa E2 Kc) (g : ai_chk own cc nL Kc cal fr lo isInit rt (pc, .laload, len, a, b, d, t, z, tl) = true) (q : ai_st orc lim X (pc, .laload, len, a, b, d, t, z, tl) (ai_PS p l e R s m args below meth c D cid B0 xa nL n0 lim ad0 gx gy Qf) L S n hr h Q) : ai_PS p l e R s m args below meth c D cid B0 xa nL n0 lim ad0 gx gy Qf pc L S n hr h := by
  simp only [ai_chk, Bool.and_eq_true, decide_eq_true_eq, Bool.or_eq_true] at g
  simp only [ai_st] at q
  obtain ⟨hd, rfl⟩ := g
  obtain ⟨x, i, R', rfl, hok, hi0, hil, k⟩ := inv_ald q
  obtain ⟨q0, rfl, hq0, hk0⟩ := ok_nat hok
  intro ad H locs ls h1 h2 h3 h4 h5 h6 h7 h8 h9
  have hi : i32 i := (SI_cons.mp h8).1
  have hce := ce_arr (cid := cid) (ad := ad) (hr := hr) (h := h) (t := 1) hk0
  have hget : (ai_ws cid ad n hr h)[q0]? = some (ad q0, .inl (cid 1, (ai_l (q0 : Int)).toNat, ai_ar ad 1 hr h (q0 : Int))) := by rw [ws_get hq0, hce]
  have hvt := e_vr h5 (tg_arr (i := i) (t := 1) hk0) (by omega) (by omega) hi0 hil
  have hgo := k ad H locs ls h1 h2 h3 h4 h5 h6 h7 (SI_cons.mpr ⟨hvt, (SI_cons.mp (SI_cons.mp h8).2).2⟩) h9
  simp only [List.map_cons]
  rw [cv_ref]
  refine va_lald F.1 F.2.1 F.2.2.2.2.2.2.1 h4.1 q0 1 hget rfl (e_in hi0 hil hi) hd ?_
  rw [e_cl hi, Int.toNat_of_nonneg hi0]
  exact hgo

theorem s_baload (F : ai_F p s m args meth c cc nL own isInit D cid B0 xa E2 Kc) (g : ai_chk own cc nL Kc cal fr lo isInit rt (pc, .baload, len, a, b, d, t, z, tl) = true) (q : ai_st orc lim X (pc, .baload, len, a, b, d, t, z, tl) (ai_PS p l e R s m args below meth c D cid B0 xa nL n0 lim ad0 gx gy Qf) L S n hr h Q) : ai_PS p l e R s m args below meth c D cid B0 xa nL n0 lim ad0 gx gy Qf pc L S n hr h := by
  simp only [ai_chk, Bool.and_eq_true, decide_eq_true_eq, Bool.or_eq_true] at g
  simp only [ai_st] at q
  obtain ⟨hd, rfl, rfl | rfl⟩ := g
  · obtain ⟨x, i, R', rfl, hok, hi0, hil, k⟩ := inv_ald q
    obtain ⟨q0, rfl, hq0, hk0⟩ := ok_nat hok
    intro ad H locs ls h1 h2 h3 h4 h5 h6 h7 h8 h9
    have hi : i32 i := (SI_cons.mp h8).1
    have hce := ce_arr (cid := cid) (ad := ad) (hr := hr) (h := h) (t := 2) hk0
    have hget : (ai_ws cid ad n hr h)[q0]? = some (ad q0, .inl (cid 2, (ai_l (q0 : Int)).toNat, ai_ar ad 2 hr h (q0 : Int))) := by rw [ws_get hq0, hce]
    have hvt := e_vr h5 (tg_arr (i := i) (t := 2) hk0) (by omega) (by omega) hi0 hil
    have hgo := k ad H locs ls h1 h2 h3 h4 h5 h6 h7 (SI_cons.mpr ⟨(show i32 _ by rcases hvt with z | z <;> (rw [z]; exact ⟨by decide, by decide⟩)), (SI_cons.mp (SI_cons.mp h8).2).2⟩) h9
    simp only [List.map_cons]
    rw [cv_ref]
    refine va_zald F.1 F.2.1 F.2.2.2.2.2.2.1 h4.1 q0 2 hget rfl (e_in hi0 hil hi) hd ?_
    rw [e_cl hi, Int.toNat_of_nonneg hi0]
    exact hgo
  · obtain ⟨x, i, R', rfl, hok, hi0, hil, k⟩ := inv_ald q
    obtain ⟨q0, rfl, hq0, hk0⟩ := ok_nat hok
    intro ad H locs ls h1 h2 h3 h4 h5 h6 h7 h8 h9
    have hi : i32 i := (SI_cons.mp h8).1
    have hce := ce_arr (cid := cid) (ad := ad) (hr := hr) (h := h) (t := 3) hk0
    have hget : (ai_ws cid ad n hr h)[q0]? = some (ad q0, .inl (cid 3, (ai_l (q0 : Int)).toNat, ai_ar ad 3 hr h (q0 : Int))) := by rw [ws_get hq0, hce]
    have hvt := e_vr h5 (tg_arr (i := i) (t := 3) hk0) (by omega) (by omega) hi0 hil
    have hgo := k ad H locs ls h1 h2 h3 h4 h5 h6 h7 (SI_cons.mpr ⟨(show i32 _ from ⟨by have := hvt.1; omega, by have := hvt.2; omega⟩), (SI_cons.mp (SI_cons.mp h8).2).2⟩) h9
    simp only [List.map_cons]
    rw [cv_ref]
    refine va_bald F.1 F.2.1 F.2.2.2.2.2.2.1 h4.1 q0 3 hget rfl (e_in hi0 hil hi) hd ?_
    rw [e_cl hi, Int.toNat_of_nonneg hi0]
    exact hgo

theorem s_aaload (F : ai_F p s m args meth c cc nL own isInit D cid B0 xa E2 Kc) (g : ai_chk own cc nL Kc cal fr lo isInit rt (pc, .aaload, len, a, b, d, t, z, tl) = true) (q : ai_st orc lim X (pc, .aaload, len, a, b, d, t, z, tl) (ai_PS p l e R s m args below meth c D cid B0 xa nL n0 lim ad0 gx gy Qf) L S n hr h Q) : ai_PS p l e R s m args below meth c D cid B0 xa nL n0 lim ad0 gx gy Qf pc L S n hr h := by
  simp only [ai_chk, Bool.and_eq_true, decide_eq_true_eq, Bool.or_eq_true] at g
  simp only [ai_st] at q
  obtain ⟨hd, rfl⟩ := g
  obtain ⟨x, i, R', rfl, hok, hi0, hil, k⟩ := inv_ald q
  obtain ⟨q0, rfl, hq0, hk0⟩ := ok_nat hok
  intro ad H locs ls h1 h2 h3 h4 h5 h6 h7 h8 h9
  have hi : i32 i := (SI_cons.mp h8).1
  have hce := ce_arr (cid := cid) (ad := ad) (hr := hr) (h := h) (t := 4) hk0
  have hget : (ai_ws cid ad n hr h)[q0]? = some (ad q0, .inl (cid 4, (ai_l (q0 : Int)).toNat, ai_ar ad 4 hr h (q0 : Int))) := by rw [ws_get hq0, hce]
  have hvt := e_vr h5 (tg_arr (i := i) (t := 4) hk0) (by omega) (by omega) hi0 hil
  have hgo := k ad H locs ls h1 h2 h3 h4 h5 h6 h7 (SI_cons.mpr ⟨hvt, (SI_cons.mp (SI_cons.mp h8).2).2⟩) h9
  simp only [List.map_cons]
  rw [cv_ref]
  refine va_aldq F.1 F.2.1 F.2.2.2.2.2.2.1 h4.1 q0 4 hget rfl (e_in hi0 hil hi) hd ?_
  rw [e_cl hi, Int.toNat_of_nonneg hi0]
  exact hgo

theorem s_iastore (F : ai_F p s m args meth c cc nL own isInit D cid B0 xa E2 Kc) (g : ai_chk own cc nL Kc cal fr lo isInit rt (pc, .iastore, len, a, b, d, t, z, tl) = true) (q : ai_st orc lim X (pc, .iastore, len, a, b, d, t, z, tl) (ai_PS p l e R s m args below meth c D cid B0 xa nL n0 lim ad0 gx gy Qf) L S n hr h Q) : ai_PS p l e R s m args below meth c D cid B0 xa nL n0 lim ad0 gx gy Qf pc L S n hr h := by
  simp only [ai_chk, Bool.and_eq_true, decide_eq_true_eq, Bool.or_eq_true] at g
  simp only [ai_st] at q
  obtain ⟨hd, rfl⟩ := g
  obtain ⟨x, i, v, R', rfl, hok, hi0, hil, k⟩ := inv_ast q
  obtain ⟨q0, rfl, hq0, hk0⟩ := ok_nat hok
  intro ad H locs ls h1 h2 h3 h4 h5 h6 h7 h8 h9
  have hv := (SI_cons.mp h8).1
  have hi : i32 i := (SI_cons.mp (SI_cons.mp h8).2).1
  have hSI := (SI_cons.mp (SI_cons.mp (SI_cons.mp h8).2).2).2
  have hce := ce_arr (cid := cid) (ad := ad) (hr := hr) (h := h) (t := 0) hk0
  have hget : (ai_ws cid ad n hr h)[q0]? = some (ad q0, .inl (cid 0, (ai_l (q0 : Int)).toNat, ai_ar ad 0 hr h (q0 : Int))) := by rw [ws_get hq0, hce]
  simp only [List.map_cons]
  rw [cv_ref]
  refine va_iast F.1 F.2.1 F.2.2.2.2.2.2.1 h4.1 h4.2 h9 q0 0 hget rfl (e_in hi0 hil hi) hd fun H1 locs1 hP1 hD1 hS1 => ?_
  rw [e_cl hi] at hP1 hD1
  refine k ad H1 locs1 ls h1 h2 h3 (W_set hP1 hD1 (fun _ => ?_) fun k _ hkq => ce_same (fun _ => rfl) fun j => up_ne (by omega) j) (IH_up h5 (by rw [tg_arr (t := 0) hk0]; exact hv)) h6 h7 hSI hS1
  rw [ce_arr (t := 0) hk0, ar_up (Or.inl rfl) hi0]

theorem s_lastore (F : ai_F p s m args meth c cc nL own isInit D cid B0 xa E2 Kc) (g : ai_chk own cc nL Kc cal fr lo isInit rt (pc, .lastore, len, a, b, d, t, z, tl) = true) (q : ai_st orc lim X (pc, .lastore, len, a, b, d, t, z, tl) (ai_PS p l e R s m args below meth c D cid B0 xa nL n0 lim ad0 gx gy Qf) L S n hr h Q) : ai_PS p l e R s m args below meth c D cid B0 xa nL n0 lim ad0 gx gy Qf pc L S n hr h := by
  simp only [ai_chk, Bool.and_eq_true, decide_eq_true_eq, Bool.or_eq_true] at g
  simp only [ai_st] at q
  obtain ⟨hd, rfl⟩ := g
  obtain ⟨x, i, v, R', rfl, hok, hi0, hil, k⟩ := inv_lsa q
  obtain ⟨q0, rfl, hq0, hk0⟩ := ok_nat hok
  intro ad H locs ls h1 h2 h3 h4 h5 h6 h7 h8 h9
  have hv := (SI_cons.mp h8).1
  have hi : i32 i := (SI_cons.mp (SI_cons.mp h8).2).1
  have hSI := (SI_cons.mp (SI_cons.mp (SI_cons.mp h8).2).2).2
  have hce := ce_arr (cid := cid) (ad := ad) (hr := hr) (h := h) (t := 1) hk0
  have hget : (ai_ws cid ad n hr h)[q0]? = some (ad q0, .inl (cid 1, (ai_l (q0 : Int)).toNat, ai_ar ad 1 hr h (q0 : Int))) := by rw [ws_get hq0, hce]
  simp only [List.map_cons]
  rw [cv_ref]
  refine va_last F.1 F.2.1 F.2.2.2.2.2.2.1 h4.1 h4.2 h9 q0 1 hget rfl (e_in hi0 hil hi) hd fun H1 locs1 hP1 hD1 hS1 => ?_
  rw [e_cl hi] at hP1 hD1
  refine k ad H1 locs1 ls h1 h2 h3 (W_set hP1 hD1 (fun _ => ?_) fun k _ hkq => ce_same (fun _ => rfl) fun j => up_ne (by omega) j) (IH_up h5 (by rw [tg_arr (t := 1) hk0]; exact hv)) h6 h7 hSI hS1
  rw [ce_arr (t := 1) hk0, ar_upl hi0]

theorem s_bastore (F : ai_F p s m args meth c cc nL own isInit D cid B0 xa E2 Kc) (g : ai_chk own cc nL Kc cal fr lo isInit rt (pc, .bastore, len, a, b, d, t, z, tl) = true) (q : ai_st orc lim X (pc, .bastore, len, a, b, d, t, z, tl) (ai_PS p l e R s m args below meth c D cid B0 xa nL n0 lim ad0 gx gy Qf) L S n hr h Q) : ai_PS p l e R s m args below meth c D cid B0 xa nL n0 lim ad0 gx gy Qf pc L S n hr h := by
  simp only [ai_chk, Bool.and_eq_true, decide_eq_true_eq, Bool.or_eq_true] at g
  simp only [ai_st] at q
  obtain ⟨hd, rfl, rfl | rfl⟩ := g
  · obtain ⟨x, i, v, R', rfl, hok, hi0, hil, hb, k⟩ := inv_ast q
    obtain ⟨q0, rfl, hq0, hk0⟩ := ok_nat hok
    intro ad H locs ls h1 h2 h3 h4 h5 h6 h7 h8 h9
    have hv := (SI_cons.mp h8).1
    have hi : i32 i := (SI_cons.mp (SI_cons.mp h8).2).1
    have hSI := (SI_cons.mp (SI_cons.mp (SI_cons.mp h8).2).2).2
    have hce := ce_arr (cid := cid) (ad := ad) (hr := hr) (h := h) (t := 2) hk0
    have hget : (ai_ws cid ad n hr h)[q0]? = some (ad q0, .inl (cid 2, (ai_l (q0 : Int)).toNat, ai_ar ad 2 hr h (q0 : Int))) := by rw [ws_get hq0, hce]
    simp only [List.map_cons]
    rw [cv_ref]
    refine va_zast F.1 F.2.1 F.2.2.2.2.2.2.1 h4.1 h4.2 h9 q0 2 hget rfl (e_in hi0 hil hi) hd fun H1 locs1 hP1 hD1 hS1 => ?_
    rw [e_cl hi] at hP1 hD1
    refine k ad H1 locs1 ls h1 h2 h3 (W_set hP1 hD1 (fun _ => ?_) fun k _ hkq => ce_same (fun _ => rfl) fun j => up_ne (by omega) j) (IH_up h5 (by rw [tg_arr (t := 2) hk0]; exact hb)) h6 h7 hSI hS1
    rw [ce_arr (t := 2) hk0, ar_up (Or.inr (Or.inl rfl)) hi0, nar_b hb]
  · obtain ⟨x, i, v, R', rfl, hok, hi0, hil, k⟩ := inv_ast q
    obtain ⟨q0, rfl, hq0, hk0⟩ := ok_nat hok
    intro ad H locs ls h1 h2 h3 h4 h5 h6 h7 h8 h9
    have hv := (SI_cons.mp h8).1
    have hi : i32 i := (SI_cons.mp (SI_cons.mp h8).2).1
    have hSI := (SI_cons.mp (SI_cons.mp (SI_cons.mp h8).2).2).2
    have hce := ce_arr (cid := cid) (ad := ad) (hr := hr) (h := h) (t := 3) hk0
    have hget : (ai_ws cid ad n hr h)[q0]? = some (ad q0, .inl (cid 3, (ai_l (q0 : Int)).toNat, ai_ar ad 3 hr h (q0 : Int))) := by rw [ws_get hq0, hce]
    simp only [List.map_cons]
    rw [cv_ref]
    refine va_bast F.1 F.2.1 F.2.2.2.2.2.2.1 h4.1 h4.2 h9 q0 3 hget rfl (e_in hi0 hil hi) hd fun H1 locs1 hP1 hD1 hS1 => ?_
    rw [e_cl hi] at hP1 hD1
    refine k ad H1 locs1 ls h1 h2 h3 (W_set hP1 hD1 (fun _ => ?_) fun k _ hkq => ce_same (fun _ => rfl) fun j => up_ne (by omega) j) (IH_up h5 (by rw [tg_arr (t := 3) hk0]; exact b8_in v)) h6 h7 hSI hS1
    rw [ce_arr (t := 3) hk0, ar_up (Or.inr (Or.inr rfl)) hi0, nar_8]

theorem s_aastore (F : ai_F p s m args meth c cc nL own isInit D cid B0 xa E2 Kc) (g : ai_chk own cc nL Kc cal fr lo isInit rt (pc, .aastore, len, a, b, d, t, z, tl) = true) (q : ai_st orc lim X (pc, .aastore, len, a, b, d, t, z, tl) (ai_PS p l e R s m args below meth c D cid B0 xa nL n0 lim ad0 gx gy Qf) L S n hr h Q) : ai_PS p l e R s m args below meth c D cid B0 xa nL n0 lim ad0 gx gy Qf pc L S n hr h := by
  simp only [ai_chk, Bool.and_eq_true, decide_eq_true_eq, Bool.or_eq_true] at g
  simp only [ai_st] at q
  obtain ⟨hd, rfl⟩ := g
  obtain ⟨x, i, v, R', rfl, hok, hov, hi0, hil, k⟩ := inv_asa q
  obtain ⟨q0, rfl, hq0, hk0⟩ := ok_nat hok
  obtain ⟨q1, rfl, hq1, hk1⟩ := ok_nat hov
  intro ad H locs ls h1 h2 h3 h4 h5 h6 h7 h8 h9
  have hv := (SI_cons.mp h8).1
  have hi : i32 i := (SI_cons.mp (SI_cons.mp h8).2).1
  have hSI := (SI_cons.mp (SI_cons.mp (SI_cons.mp h8).2).2).2
  have hce := ce_arr (cid := cid) (ad := ad) (hr := hr) (h := h) (t := 4) hk0
  have hget : (ai_ws cid ad n hr h)[q0]? = some (ad q0, .inl (cid 4, (ai_l (q0 : Int)).toNat, ai_ar ad 4 hr h (q0 : Int))) := by rw [ws_get hq0, hce]
  have hget1 : (ai_ws cid ad n hr h)[q1]? = some (ad q1, .inr (8, ai_fs ad 8 hr h (q1 : Int))) := by rw [ws_get hq1, ce_obj hk1 (by omega)]
  simp only [List.map_cons]
  rw [cv_ref, cv_ref]
  refine va_astq F.1 F.2.1 F.2.2.2.2.2.2.1 h4.1 h4.2 h9 q0 4 q1 8 (r := (RX8, TX8, 10)) hget rfl hget1 rfl (e_in hi0 hil hi) hd fun H1 locs1 hP1 hD1 hS1 => ?_
  rw [e_cl hi] at hP1 hD1
  refine k ad H1 locs1 ls h1 h2 h3 (W_set hP1 hD1 (fun _ => ?_) fun k _ hkq => ce_same (fun j => up_ne (by omega) j) fun _ => rfl) (IH_upr h5 (by rw [tg_arr (t := 4) hk0]; exact hv)) h6 h7 hSI hS1
  rw [ce_arr (t := 4) hk0, ar_upq hi0]
end SND5
end
section
/-! the steps, an instruction each: cells made, rows from outside, copies -/
theorem cs_mono {a b : Nat} (h : a ≤ b) : ai_cs a ≤ ai_cs b := by
  induction b with
  | zero => have : a = 0 := by omega
            subst this; exact Nat.le_refl _
  | succ b ih =>
    by_cases q : a = b + 1
    · subst q; exact Nat.le_refl _
    · exact Nat.le_trans (ih (by omega)) (Nat.le_add_right _ _)
theorem l_le (c : Int) : 0 ≤ ai_l c ∧ ai_l c ≤ 13650 := by
  have key : ai_shl.all (fun q => decide (q.2 ≤ 13650)) = true := by decide +kernel
  unfold ai_l
  cases hq : ai_nth ai_shl c.toNat with
  | none => simp
  | some q =>
    rw [nth_eq] at hq
    have := List.all_eq_true.mp key q (List.mem_of_getElem? hq)
    simp only [decide_eq_true_eq] at this
    simp only [Option.getD_some]
    omega
theorem ro_ext {ad ad' : Nat → Nat} {n : Nat} (he : ∀ c, c < n → ad' c = ad c) {x : Int} (hx : x < (n : Int)) : ai_ro ad' x = ai_ro ad x := by
  unfold ai_ro
  by_cases h : x < 0
  · simp [h]
  · rw [if_neg h, if_neg h, he x.toNat (by omega)]
theorem ce_ext {cid : Nat → ClassId} {ad ad' : Nat → Nat} {n : Nat} {hr h : HP} (he : ∀ c, c < n → ad' c = ad c) (hI : ai_IH n hr h) {c : Nat} (hc : c < n) : ai_ce cid ad' hr h (c : Int) = ai_ce cid ad hr h (c : Int) := by
  unfold ai_ce
  by_cases hk : ai_k (c : Int) < 50
  · rw [if_pos hk, if_pos hk]
    congr 2
    unfold ai_fs
    refine List.map_congr_left fun i hi => ?_
    have hv := hI (c : Int) (i : Int) (by omega) (by omega)
    unfold ai_tg at hv
    rw [if_pos hk, Int.toNat_natCast] at hv
    have h4 := ft_ne4 (ai_k (c : Int)) i
    revert hv h4
    generalize ai_ft (ai_k (c : Int)) i = t
    intro hv h4
    match t, hv, h4 with
    | 0, _, _ => rfl
    | 1, _, _ => rfl
    | 3, _, _ => rfl
    | 4, _, h4 => exact (h4 rfl).elim
    | 2, hv, _ => show va_rf _ = va_rf _; rw [ro_ext he hv.2]
    | t + 5, hv, _ => show va_rf _ = va_rf _; rw [ro_ext he hv.2]
  · rw [if_neg hk, if_neg hk]
    congr 3
    unfold ai_ar
    split
    · rfl
    · rename_i h4
      congr 4
      funext j
      have hv := hI (c : Int) (j : Int) (by omega) (by omega)
      rw [tg_arr (t := 4) (by omega)] at hv
      exact ro_ext he hv.2
    · rfl
/-- one cell more -/
theorem W_push {D : va_G} {cid : Nat → ClassId} {B0 : Nat} {ad : Nat → Nat} {n q : Nat} {hr h : HP} {H1 : Heap} {e0 : va_E} (hI : ai_IH n hr h) (hP : va_P D vwCl (ai_ws cid ad n hr h ++ [(q, e0)]) H1) (hD : va_D (fun q : Nat => B0 ≤ q) (ai_ws cid ad n hr h ++ [(q, e0)])) (he : ai_ce cid (fun k => if k = n then q else ad k) (ai_cl hr n (-1)) (ai_cl h n 0) (n : Int) = e0) : ai_W D cid B0 (fun k => if k = n then q else ad k) (n + 1) (ai_cl hr n (-1)) (ai_cl h n 0) H1 := by
  have key : ai_ws cid (fun k => if k = n then q else ad k) (n + 1) (ai_cl hr n (-1)) (ai_cl h n 0) = ai_ws cid ad n hr h ++ [(q, e0)] := by
    unfold ai_ws
    rw [List.range_succ, List.map_append]
    congr 1
    · refine List.map_congr_left fun k hk => ?_
      have hk := List.mem_range.mp hk
      rw [show (fun k => if k = n then q else ad k) k = ad k from if_neg (by omega)]
      congr 1
      rw [ce_ext (n := n) (hr := ai_cl hr n (-1)) (h := ai_cl h n 0) (ad := ad) (fun z hz => if_neg (by omega)) (fun z i h1 h2 => by unfold ai_cl; rw [if_neg (by omega), if_neg (by omega)]; exact hI z i h1 h2) hk]
      exact ce_same (fun j => by unfold ai_cl; rw [if_neg (by omega)]) fun j => by unfold ai_cl; rw [if_neg (by omega)]
    · simp [he]
  unfold ai_W
  rw [key]
  exact ⟨hP, hD⟩
theorem IH_push {n : Nat} {hr h : HP} (hI : ai_IH n hr h) : ai_IH (n + 1) (ai_cl hr n (-1)) (ai_cl h n 0) := by
  intro c i h1 h2
  unfold ai_cl
  by_cases hc : c = (n : Int)
  · rw [if_pos hc, if_pos hc]
    unfold ai_vt
    split
    · exact ⟨by decide, by decide⟩
    · exact ⟨by decide, by decide⟩
    · exact Or.inl rfl
    · exact ⟨by decide, by decide⟩
    · exact ⟨by omega, by omega⟩
  · rw [if_neg hc, if_neg hc]
    have := hI c i h1 (by omega)
    revert this
    unfold ai_vt
    split
    · exact id
    · exact id
    · exact id
    · exact id
    · intro z; exact ⟨z.1, by omega⟩
theorem fs_new {a : Nat} (ha : a < 13) {ad : Nat → Nat} {hr h : HP} {n : Int} : ∀ j, j < ai_nf a → defaultValue (ai_tyc a j) = vp_V (ai_fs ad a (ai_cl hr n (-1)) (ai_cl h n 0) n) j := by
  intro j hj
  unfold vp_V
  rw [List.getD_eq_getElem?_getD, fs_get hj, Option.getD_some]
  have h2 := ty_ref a ha j hj
  unfold ai_fv ai_cl
  simp only [if_pos rfl]
  unfold ai_ft at h2 ⊢
  revert h2
  generalize ai_tyc a j = ty
  intro h2
  cases ty <;> simp [ai_tt] at h2 <;> rfl
theorem k8_cat {ad xa : Nat → Nat} {R : List AV} {k : Prop} (h : ai_k8 R k) : ((R.map (ai_cv ad xa)).map fun v => v.category).sum ≤ 8 ∧ k := by
  have cat : ∀ v : AV, (ai_cv ad xa v).category ≤ 2 := fun v => by rcases lv_cat (ai_cv ad xa v) with q | q <;> omega
  unfold ai_k8 at h
  split at h
  · exact ⟨by simp, h⟩
  · rename_i x1
    have := cat x1
    exact ⟨by simp; omega, h⟩
  · rename_i x1 x2
    have := cat x1; have := cat x2
    exact ⟨by simp; omega, h⟩
  · rename_i x1 x2 x3
    have := cat x1; have := cat x2; have := cat x3
    exact ⟨by simp; omega, h⟩
  · rename_i x1 x2 x3 x4
    have := cat x1; have := cat x2; have := cat x3; have := cat x4
    exact ⟨by simp; omega, h⟩
  · exact h.elim
theorem gw_cp : Jvm.Cond.native arraycopyName ∈ ai_gw ∧ Jvm.Cond.static arraycopyName ∈ ai_gw ∧ Jvm.Cond.initialized "java/lang/System" ∈ ai_gw := by decide +kernel
theorem gw_oi : Jvm.Cond.instanceMethod Lib.objectInit ∈ ai_gw ∧ Jvm.Cond.code Lib.objectInit ⟨#[0xb1]⟩ 1 none ∈ ai_gw := by decide +kernel
theorem hd_i32 (i : Int) : i32 (ai_hd i) := by
  unfold ai_hd
  repeat' split
  all_goals exact ⟨by decide, by decide⟩
theorem inv_ild {X n h S k} (q : ai_ild X n h S k) : (∃ x i R, S = (0, i) :: (2, x) :: R ∧ ai_ok n x 50 ∧ 0 ≤ i ∧ i < ai_l x ∧ k (h x i) R) ∨ (∃ i R len f, S = (0, i) :: (4, 0) :: R ∧ X = some (len, f) ∧ 0 ≤ i ∧ i < len ∧ k (f i) R) ∨ ∃ i R, S = (0, i) :: (4, 1) :: R ∧ 0 ≤ i ∧ i < 3 ∧ k (ai_hd i) R := by
  unfold ai_ild at q
  split at q
  · exact Or.inl ⟨_, _, _, rfl, q⟩
  · split at q
    · exact Or.inr (Or.inl ⟨_, _, _, _, rfl, rfl, q⟩)
    · exact q.elim
  · exact Or.inr (Or.inr ⟨_, _, rfl, q⟩)
  · exact q.elim
theorem inv_aln {X n kd S k} (q : ai_aln X n kd S k) : (∃ x R, S = (2, x) :: R ∧ ai_ok n x kd ∧ k (ai_l x) R) ∨ (∃ R len f, S = (4, 0) :: R ∧ X = some (len, f) ∧ k len R) := by
  unfold ai_aln at q
  split at q
  · exact Or.inl ⟨_, _, rfl, q⟩
  · split at q
    · exact Or.inr ⟨_, _, _, rfl, rfl, q⟩
    · exact q.elim
  · exact q.elim
theorem inv_cpy {kd n S k} (q : ai_cpy kd n S k) : ∃ s sp d dp len R, S = (0, len) :: (0, dp) :: (2, d) :: (0, sp) :: (2, s) :: R ∧ ai_ok n s kd ∧ ai_ok n d kd ∧ 0 ≤ sp ∧ 0 ≤ dp ∧ 0 ≤ len ∧ sp + len ≤ ai_l s ∧ dp + len ≤ ai_l d ∧ k s sp d dp len R := by
  unfold ai_cpy at q; split at q <;> first | exact ⟨_, _, _, _, _, _, rfl, q⟩ | exact q.elim
theorem of_nat (n : Nat) : Int32.ofInt (n : Int) = Int32.ofNat n := Int32.ofInt_eq_ofNat
section SND6
variable {p : Program} {l : Launch} {e : Env} {R : Room} {s : State} {m : MethodId} {args : Array Value} {below : List Frame} {meth : Method} {c : Code} {D : va_G} {cid : Nat → ClassId} {B0 : Nat} {xa : Nat → Nat} {nL n0 lim : Nat} {ad0 : Nat → Nat} {gx gy : Nat} {Qf : State → Prop} {cc : ByteArray} {own : String} {isInit : Bool} {E2 : (Nat → Nat) → State → Heap → Prop} {Kc : List Jvm.Cond} {cal : List ai_I} {fr lo : Nat} {rt : Option FieldType} {orc : Nat → SP} {X : XE} {Q : RP} {pc len a b d t n : Nat} {z : Int} {tl : List (Int × Nat)} {L : List (Option AV)} {S : List AV} {hr h : HP}
theorem kc_word {w : Jvm.Cond} (F : ai_F p s m args meth c cc nL own isInit D cid B0 xa E2 Kc) (h : ai_nth Kc d = some w) : w.before args s = true := by
  rw [nth_eq] at h
  exact F.2.2.2.2.1 _ (F.2.2.2.2.2.2.2.2.2.2 _ (List.mem_of_getElem? h))
theorem cA_eq {ty : FieldType} {cA : ClassId} {k : Nat} (F : ai_F p s m args meth c cc nL own isInit D cid B0 xa E2 Kc) (hk : k < 5) (ht : (ai_tys cid)[k]? = some (cid k, ty)) (h : va_K D vwCl (ai_tys cid ++ [(cA, ty)]) s) : cA = cid k := by
  have h1 := (F.2.2.2.2.2.2.1.2 k _ ht).2
  have h2 := (h.2 5 (cA, ty) (by simp [ai_tys])).2
  cases ty with
  | object C =>
    obtain ⟨k1, c1, -, -, -, e1⟩ := h1
    obtain ⟨k2, c2, -, -, -, e2⟩ := h2
    exact (Option.some.inj (e1.symm.trans e2)).symm
  | _ => exact (Option.some.inj (Eq.trans (Eq.symm h1) h2)).symm
/-- room for one cell more -/
def ai_RM (R : Room) (fr lo n0 lim gx gy : Nat) : Prop := fr ≤ R.frames ∧ lo ≤ R.locals ∧ lim - n0 + gx ≤ R.cells ∧ ai_cs lim - ai_cs n0 + gy ≤ R.slots
theorem rm_push {n : Nat} (hR : ai_RM R fr lo n0 lim gx gy) (h1 : n0 ≤ n) (h2 : n < lim) : n - n0 + gx + 1 ≤ R.cells ∧ ai_cs n - ai_cs n0 + gy + (ai_l (n : Int)).toNat ≤ R.slots ∧ n - n0 + gx + 1 = n + 1 - n0 + gx ∧ ai_cs n - ai_cs n0 + gy + (ai_l (n : Int)).toNat = ai_cs (n + 1) - ai_cs n0 + gy := by
  have e1 := cs_mono h1
  have e2 := cs_mono (show n + 1 ≤ lim by omega)
  have e3 : ai_cs (n + 1) = ai_cs n + (ai_l (n : Int)).toNat := rfl
  obtain ⟨r1, r2, r3, r4⟩ := hR
  refine ⟨?_, ?_, ?_, ?_⟩ <;> omega

theorem s_iaload (F : ai_F p s m args meth c cc nL own isInit D cid B0 xa E2 Kc) (hX : ai_XS X B0 xa s) (g : ai_chk own cc nL Kc cal fr lo isInit rt (pc, .iaload, len, a, b, d, t, z, tl) = true) (q : ai_st orc lim X (pc, .iaload, len, a, b, d, t, z, tl) (ai_PS p l e R s m args below meth c D cid B0 xa nL n0 lim ad0 gx gy Qf) L S n hr h Q) : ai_PS p l e R s m args below meth c D cid B0 xa nL n0 lim ad0 gx gy Qf pc L S n hr h := by
  simp only [ai_chk, Bool.and_eq_true, decide_eq_true_eq, Bool.or_eq_true] at g
  simp only [ai_st] at q
  obtain ⟨hd, rfl⟩ := g
  intro ad H locs ls h1 h2 h3 h4 h5 h6 h7 h8 h9
  rcases inv_ild q with ⟨x, i, R', rfl, hok, hi0, hil, k⟩ | ⟨i, R', ln, f, rfl, rfl, hi0, hil, k⟩ | ⟨i, R', rfl, hi0, hil, k⟩
  · obtain ⟨q0, rfl, hq0, hk0⟩ := ok_nat hok
    have hi : i32 i := (SI_cons.mp h8).1
    have hce := ce_arr (cid := cid) (ad := ad) (hr := hr) (h := h) (t := 0) hk0
    have hget : (ai_ws cid ad n hr h)[q0]? = some (ad q0, .inl (cid 0, (ai_l (q0 : Int)).toNat, ai_ar ad 0 hr h (q0 : Int))) := by rw [ws_get hq0, hce]
    have hvt := e_vr h5 (tg_arr (i := i) (t := 0) hk0) (by omega) (by omega) hi0 hil
    have hgo := k ad H locs ls h1 h2 h3 h4 h5 h6 h7 (SI_cons.mpr ⟨hvt, (SI_cons.mp (SI_cons.mp h8).2).2⟩) h9
    simp only [List.map_cons]
    rw [cv_ref]
    refine va_iald F.1 F.2.1 F.2.2.2.2.2.2.1 h4.1 q0 0 hget rfl (e_in hi0 hil hi) hd ?_
    rw [e_cl hi, Int.toNat_of_nonneg hi0]
    exact hgo
  · obtain ⟨L0, xs, hlen, hL31, hXX, hbl, hbA, hf⟩ := hX
    subst hlen
    have hi : i32 i := (SI_cons.mp h8).1
    have hfi : f i = (xs i.toNat).toInt := by have := hf i.toNat (by omega); rwa [Int.toNat_of_nonneg hi0] at this
    have hgo := k ad H locs ls h1 h2 h3 h4 h5 h6 h7 (SI_cons.mpr ⟨(show i32 (f i) by rw [hfi]; exact i32_of _), (SI_cons.mp (SI_cons.mp h8).2).2⟩) h9
    simp only [List.map_cons] at hgo ⊢
    rw [hfi, show ai_cv ad xa (0, (xs i.toNat).toInt) = .int (Int32.ofInt (xs i.toNat).toInt) from rfl, Int32.ofInt_toInt] at hgo
    have hin : vp_in (Int32.ofInt i) L0 := by have := e_in hi0 hil hi; rwa [Int.toNat_natCast] at this
    refine va_sld F.1 F.2.1 hXX hbl hbA h9 hin hd ?_
    rw [e_cl hi]
    exact hgo
  · have hi : i32 i := (SI_cons.mp h8).1
    have hgo := k ad H locs ls h1 h2 h3 h4 h5 h6 h7 (SI_cons.mpr ⟨(hd_i32 i), (SI_cons.mp (SI_cons.mp h8).2).2⟩) h9
    simp only [List.map_cons] at hgo ⊢
    refine va_ti F.1 F.2.1 F.2.2.2.2.2.2.2.2.1.2.1 h9 (e_in hi0 hil hi) ?_ hd hgo
    rw [e_cl hi]
    show Value.int (Int32.ofInt (ai_hd ((i.toNat : Nat) : Int))) = _
    rw [Int.toNat_of_nonneg hi0]; rfl

theorem s_arraylength (F : ai_F p s m args meth c cc nL own isInit D cid B0 xa E2 Kc) (hX : ai_XS X B0 xa s) (g : ai_chk own cc nL Kc cal fr lo isInit rt (pc, .arraylength, len, a, b, d, t, z, tl) = true) (q : ai_st orc lim X (pc, .arraylength, len, a, b, d, t, z, tl) (ai_PS p l e R s m args below meth c D cid B0 xa nL n0 lim ad0 gx gy Qf) L S n hr h Q) : ai_PS p l e R s m args below meth c D cid B0 xa nL n0 lim ad0 gx gy Qf pc L S n hr h := by
  simp only [ai_chk, Bool.and_eq_true, decide_eq_true_eq, Bool.or_eq_true] at g
  simp only [ai_st] at q
  obtain ⟨hd, ⟨rfl, ht0⟩, ht1⟩ := g
  intro ad H locs ls h1 h2 h3 h4 h5 h6 h7 h8 h9
  rcases inv_aln q with ⟨x, R', rfl, hok, k⟩ | ⟨R', ln, f, rfl, rfl, k⟩
  · obtain ⟨q0, rfl, hq0, hk0⟩ := ok_nat hok
    have hl := l_le (q0 : Int)
    have hgo := k ad H locs ls h1 h2 h3 h4 h5 h6 h7 (SI_cons.mpr ⟨(show i32 (ai_l (q0 : Int)) from ⟨by omega, by omega⟩), (SI_cons.mp h8).2⟩) h9
    have hce := ce_arr (cid := cid) (ad := ad) (hr := hr) (h := h) (c := (q0 : Int)) (t := t - 50) (by omega)
    have hget : (ai_ws cid ad n hr h)[q0]? = some (ad q0, .inl (cid (t - 50), (ai_l (q0 : Int)).toNat, ai_ar ad (t - 50) hr h (q0 : Int))) := by rw [ws_get hq0, hce]
    simp only [List.map_cons] at hgo ⊢
    rw [cv_ref]
    have hv : Int32.ofNat (ai_l (q0 : Int)).toNat = Int32.ofInt (ai_l (q0 : Int)) := by rw [← of_nat, Int.toNat_of_nonneg hl.1]
    obtain ⟨ty, hty⟩ : ∃ ty, (ai_tys cid)[t - 50]? = some (cid (t - 50), ty) := by
      have ht5 : t - 50 < 5 := by omega
      generalize t - 50 = u at ht5
      match u, ht5 with
      | 0, _ => exact ⟨_, rfl⟩
      | 1, _ => exact ⟨_, rfl⟩
      | 2, _ => exact ⟨_, rfl⟩
      | 3, _ => exact ⟨_, rfl⟩
      | 4, _ => exact ⟨_, rfl⟩
    exact va_alen F.1 F.2.1 F.2.2.2.2.2.2.1 h4.1 q0 (t - 50) hget hty hv hd hgo
  · obtain ⟨L0, xs, hlen, hL31, hXX, hbl, hbA, hf⟩ := hX
    subst hlen
    have hgo := k ad H locs ls h1 h2 h3 h4 h5 h6 h7 (SI_cons.mpr ⟨(show i32 (L0 : Int) from ⟨by omega, by omega⟩), (SI_cons.mp h8).2⟩) h9
    simp only [List.map_cons] at hgo ⊢
    refine va_slen F.1 F.2.1 hXX hbl hbA h9 hd ?_
    rw [← of_nat]
    exact hgo

theorem s_new {idx : Nat} (F : ai_F p s m args meth c cc nL own isInit D cid B0 xa E2 Kc) (hR : ai_RM R fr lo n0 lim gx gy) (g : ai_chk own cc nL Kc cal fr lo isInit rt (pc, .new idx, len, a, b, d, t, z, tl) = true) (q : ai_st orc lim X (pc, .new idx, len, a, b, d, t, z, tl) (ai_PS p l e R s m args below meth c D cid B0 xa nL n0 lim ad0 gx gy Qf) L S n hr h Q) : ai_PS p l e R s m args below meth c D cid B0 xa nL n0 lim ad0 gx gy Qf pc L S n hr h := by
  simp only [ai_chk, Bool.and_eq_true, decide_eq_true_eq, Bool.or_eq_true] at g
  simp only [ai_st] at q
  obtain ⟨hd, rfl, g⟩ := g
  obtain ⟨hlt, hk0, k⟩ := q
  intro ad H locs ls h1 h2 h3 h4 h5 h6 h7 h8 h9
  split at g
  · rename_i C T N hC
    rw [nth_eq] at hC
    simp only [Bool.and_eq_true, decide_eq_true_eq] at g
    obtain ⟨⟨⟨g1, g2⟩, g3⟩, ha⟩ := g
    obtain ⟨f1, f2, f3, f4⟩ := cl_ok a (C, T, N) hC
    simp only at f1 f2 f3 f4
    have hN : ai_nf a = N := by unfold ai_nf; rw [nth_eq, hC]
    have hl : (ai_l (n : Int)).toNat = N := by rw [sh_ok _ (by omega), hk0, hN]; simp
    obtain ⟨m1, m2, m3, m4⟩ := rm_push hR h1 hlt
    rw [hl] at m2 m4
    have hA : ∀ q : Nat, s.heap.size ≤ q → B0 ≤ q := fun q hq => Nat.le_trans F.2.2.2.2.2.2.2.1 hq
    refine va_new (ci := a) (fs := ai_fs ad a (ai_cl hr n (-1)) (ai_cl h n 0) (n : Int)) F.1 F.2.1 (fun w hw => F.2.2.2.2.1 w hw) f3 (ai_tyc a) f1 F.2.2.2.1 (kc_word F g1) (kc_word F g2) (kc_word F g3) F.2.2.2.2.2.2.1 h4.1 h4.2 h9 hA hC (by rw [← hN]; exact fs_new ha) m1 m2 hd fun qa H1 hP1 hD1 hS1 => ?_
    rw [m3, m4]
    have hagree : ∀ z, z < n → (fun k => if k = n then qa else ad k) z = ad z := fun z hz => if_neg (by omega)
    have hW := W_push h5 hP1 hD1 (by
      rw [ce_obj hk0 (by omega)]
      congr 2
      unfold ai_fs
      refine List.map_congr_left fun i _ => ?_
      unfold ai_fv ai_cl
      simp only [if_pos]
      split <;> rfl)
    have hgo := k _ H1 locs ls (by omega) (by omega) (fun z hz => (hagree z (by omega)).trans (h3 z hz)) hW (IH_push h5) (LR_ext h6 h7 hagree) (LI_le h7 (by omega)) (SI_cons.mpr ⟨(show -1 ≤ (n : Int) ∧ (n : Int) < ((n + 1 : Nat) : Int) from ⟨by omega, by omega⟩), SI_le h8 (by omega)⟩) hS1
    rw [List.map_cons, cv_ref, map_ext h8 hagree, if_pos rfl] at hgo
    exact hgo
  · cases g

theorem s_newarray {ty : ArrayType} (F : ai_F p s m args meth c cc nL own isInit D cid B0 xa E2 Kc) (hR : ai_RM R fr lo n0 lim gx gy) (g : ai_chk own cc nL Kc cal fr lo isInit rt (pc, .newarray ty, len, a, b, d, t, z, tl) = true) (q : ai_st orc lim X (pc, .newarray ty, len, a, b, d, t, z, tl) (ai_PS p l e R s m args below meth c D cid B0 xa nL n0 lim ad0 gx gy Qf) L S n hr h Q) : ai_PS p l e R s m args below meth c D cid B0 xa nL n0 lim ad0 gx gy Qf pc L S n hr h := by
  simp only [ai_chk, Bool.and_eq_true, decide_eq_true_eq, Bool.or_eq_true] at g
  simp only [ai_st] at q
  obtain ⟨hd, rfl, g⟩ := g
  obtain ⟨v, R', rfl, hlt, hk0, hl, k⟩ := inv_i1 q
  intro ad H locs ls h1 h2 h3 h4 h5 h6 h7 h8 h9
  have hlb := l_le (n : Int)
  have hv : i32 v := (SI_cons.mp h8).1
  have hSI := (SI_cons.mp h8).2
  obtain ⟨m1, m2, m3, m4⟩ := rm_push hR h1 hlt
  have hA : ∀ q : Nat, s.heap.size ≤ q → B0 ≤ q := fun q hq => Nat.le_trans F.2.2.2.2.2.2.2.1 hq
  have hneg : ¬ Int32.ofInt v < 0 := fun z => by
    have := (e_lt hv (show i32 0 from ⟨by decide, by decide⟩)).mp z
    omega
  have hNat : (Int32.ofInt v).toNatClampNeg = (ai_l (n : Int)).toNat := by rw [e_cl hv, hl]
  simp only [List.map_cons]
  split at g
  · simp only [Bool.and_eq_true, decide_eq_true_eq] at g
    obtain ⟨g1, g2⟩ := g
    have hcell : ∀ cA : ClassId, vp_cell cA ((ai_l (n : Int)).toNat, ai_ar ad 0 (ai_cl hr n (-1)) (ai_cl h n 0) (n : Int)) = arrV cA (ai_l (n : Int)).toNat (fun _ => defaultValue .int) := fun cA => by
      simp only [ai_ar, ai_cl, if_pos]
      rfl
    refine va_newa (atype := ty) (a0 := ((ai_l (n : Int)).toNat, ai_ar ad 0 (ai_cl hr n (-1)) (ai_cl h n 0) (n : Int))) F.1 F.2.1 (by rw [g1]; exact kc_word F g2) g1 F.2.2.2.2.2.2.1 h4.1 h4.2 h9 hA hcell hneg hNat (by simp only [componentBytes]; omega) m1 m2 hd fun qa cA H1 hK1 hP1 hD1 hS1 => ?_
    have hcA := cA_eq (k := 0) F (by decide) rfl hK1
    subst hcA
    rw [m3, m4]
    have hagree : ∀ z, z < n → (fun k => if k = n then qa else ad k) z = ad z := fun z hz => if_neg (by omega)
    have hW := W_push h5 hP1 hD1 (by
      rw [ce_arr (t := 0) hk0]
      rfl)
    have hgo := k _ H1 locs ls (by omega) (by omega) (fun z hz => (hagree z (by omega)).trans (h3 z hz)) hW (IH_push h5) (LR_ext h6 h7 hagree) (LI_le h7 (by omega)) (SI_cons.mpr ⟨(show -1 ≤ (n : Int) ∧ (n : Int) < ((n + 1 : Nat) : Int) from ⟨by omega, by omega⟩), SI_le hSI (by omega)⟩) hS1
    rw [List.map_cons, cv_ref, map_ext hSI hagree, if_pos rfl] at hgo
    exact hgo
  · simp only [Bool.and_eq_true, decide_eq_true_eq] at g
    obtain ⟨g1, g2⟩ := g
    have hcell : ∀ cA : ClassId, vp_cell cA ((ai_l (n : Int)).toNat, ai_ar ad 1 (ai_cl hr n (-1)) (ai_cl h n 0) (n : Int)) = arrV cA (ai_l (n : Int)).toNat (fun _ => defaultValue .long) := fun cA => by
      simp only [ai_ar, ai_cl, if_pos]
      rfl
    refine va_newa (atype := ty) (a0 := ((ai_l (n : Int)).toNat, ai_ar ad 1 (ai_cl hr n (-1)) (ai_cl h n 0) (n : Int))) F.1 F.2.1 (by rw [g1]; exact kc_word F g2) g1 F.2.2.2.2.2.2.1 h4.1 h4.2 h9 hA hcell hneg hNat (by simp only [componentBytes]; omega) m1 m2 hd fun qa cA H1 hK1 hP1 hD1 hS1 => ?_
    have hcA := cA_eq (k := 1) F (by decide) rfl hK1
    subst hcA
    rw [m3, m4]
    have hagree : ∀ z, z < n → (fun k => if k = n then qa else ad k) z = ad z := fun z hz => if_neg (by omega)
    have hW := W_push h5 hP1 hD1 (by
      rw [ce_arr (t := 1) hk0]
      rfl)
    have hgo := k _ H1 locs ls (by omega) (by omega) (fun z hz => (hagree z (by omega)).trans (h3 z hz)) hW (IH_push h5) (LR_ext h6 h7 hagree) (LI_le h7 (by omega)) (SI_cons.mpr ⟨(show -1 ≤ (n : Int) ∧ (n : Int) < ((n + 1 : Nat) : Int) from ⟨by omega, by omega⟩), SI_le hSI (by omega)⟩) hS1
    rw [List.map_cons, cv_ref, map_ext hSI hagree, if_pos rfl] at hgo
    exact hgo
  · simp only [Bool.and_eq_true, decide_eq_true_eq] at g
    obtain ⟨g1, g2⟩ := g
    have hcell : ∀ cA : ClassId, vp_cell cA ((ai_l (n : Int)).toNat, ai_ar ad 2 (ai_cl hr n (-1)) (ai_cl h n 0) (n : Int)) = arrV cA (ai_l (n : Int)).toNat (fun _ => defaultValue .boolean) := fun cA => by
      simp only [ai_ar, ai_cl, if_pos]
      rfl
    refine va_newa (atype := ty) (a0 := ((ai_l (n : Int)).toNat, ai_ar ad 2 (ai_cl hr n (-1)) (ai_cl h n 0) (n : Int))) F.1 F.2.1 (by rw [g1]; exact kc_word F g2) g1 F.2.2.2.2.2.2.1 h4.1 h4.2 h9 hA hcell hneg hNat (by simp only [componentBytes]; omega) m1 m2 hd fun qa cA H1 hK1 hP1 hD1 hS1 => ?_
    have hcA := cA_eq (k := 2) F (by decide) rfl hK1
    subst hcA
    rw [m3, m4]
    have hagree : ∀ z, z < n → (fun k => if k = n then qa else ad k) z = ad z := fun z hz => if_neg (by omega)
    have hW := W_push h5 hP1 hD1 (by
      rw [ce_arr (t := 2) hk0]
      rfl)
    have hgo := k _ H1 locs ls (by omega) (by omega) (fun z hz => (hagree z (by omega)).trans (h3 z hz)) hW (IH_push h5) (LR_ext h6 h7 hagree) (LI_le h7 (by omega)) (SI_cons.mpr ⟨(show -1 ≤ (n : Int) ∧ (n : Int) < ((n + 1 : Nat) : Int) from ⟨by omega, by omega⟩), SI_le hSI (by omega)⟩) hS1
    rw [List.map_cons, cv_ref, map_ext hSI hagree, if_pos rfl] at hgo
    exact hgo
  · simp only [Bool.and_eq_true, decide_eq_true_eq] at g
    obtain ⟨g1, g2⟩ := g
    have hcell : ∀ cA : ClassId, vp_cell cA ((ai_l (n : Int)).toNat, ai_ar ad 3 (ai_cl hr n (-1)) (ai_cl h n 0) (n : Int)) = arrV cA (ai_l (n : Int)).toNat (fun _ => defaultValue .byte) := fun cA => by
      simp only [ai_ar, ai_cl, if_pos]
      rfl
    refine va_newa (atype := ty) (a0 := ((ai_l (n : Int)).toNat, ai_ar ad 3 (ai_cl hr n (-1)) (ai_cl h n 0) (n : Int))) F.1 F.2.1 (by rw [g1]; exact kc_word F g2) g1 F.2.2.2.2.2.2.1 h4.1 h4.2 h9 hA hcell hneg hNat (by simp only [componentBytes]; omega) m1 m2 hd fun qa cA H1 hK1 hP1 hD1 hS1 => ?_
    have hcA := cA_eq (k := 3) F (by decide) rfl hK1
    subst hcA
    rw [m3, m4]
    have hagree : ∀ z, z < n → (fun k => if k = n then qa else ad k) z = ad z := fun z hz => if_neg (by omega)
    have hW := W_push h5 hP1 hD1 (by
      rw [ce_arr (t := 3) hk0]
      rfl)
    have hgo := k _ H1 locs ls (by omega) (by omega) (fun z hz => (hagree z (by omega)).trans (h3 z hz)) hW (IH_push h5) (LR_ext h6 h7 hagree) (LI_le h7 (by omega)) (SI_cons.mpr ⟨(show -1 ≤ (n : Int) ∧ (n : Int) < ((n + 1 : Nat) : Int) from ⟨by omega, by omega⟩), SI_le hSI (by omega)⟩) hS1
    rw [List.map_cons, cv_ref, map_ext hSI hagree, if_pos rfl] at hgo
    exact hgo
  · cases g

theorem s_anewarray {idx : Nat} (F : ai_F p s m args meth c cc nL own isInit D cid B0 xa E2 Kc) (hR : ai_RM R fr lo n0 lim gx gy) (g : ai_chk own cc nL Kc cal fr lo isInit rt (pc, .anewarray idx, len, a, b, d, t, z, tl) = true) (q : ai_st orc lim X (pc, .anewarray idx, len, a, b, d, t, z, tl) (ai_PS p l e R s m args below meth c D cid B0 xa nL n0 lim ad0 gx gy Qf) L S n hr h Q) : ai_PS p l e R s m args below meth c D cid B0 xa nL n0 lim ad0 gx gy Qf pc L S n hr h := by
  simp only [ai_chk, Bool.and_eq_true, decide_eq_true_eq, Bool.or_eq_true] at g
  simp only [ai_st] at q
  obtain ⟨hd, ⟨rfl, g1⟩, g2⟩ := g
  obtain ⟨v, R', rfl, hlt, hk0, hl, k⟩ := inv_i1 q
  intro ad H locs ls h1 h2 h3 h4 h5 h6 h7 h8 h9
  have hlb := l_le (n : Int)
  have hv : i32 v := (SI_cons.mp h8).1
  have hSI := (SI_cons.mp h8).2
  obtain ⟨m1, m2, m3, m4⟩ := rm_push hR h1 hlt
  have hA : ∀ q : Nat, s.heap.size ≤ q → B0 ≤ q := fun q hq => Nat.le_trans F.2.2.2.2.2.2.2.1 hq
  have hneg : ¬ Int32.ofInt v < 0 := fun z => by
    have := (e_lt hv (show i32 0 from ⟨by decide, by decide⟩)).mp z
    omega
  have hNat : (Int32.ofInt v).toNatClampNeg = (ai_l (n : Int)).toNat := by rw [e_cl hv, hl]
  simp only [List.map_cons]
  refine va_newq F.1 F.2.1 F.2.2.2.1 (kc_word F g1) (va_AO.of (kc_word F g2)) F.2.2.2.2.2.2.1 h4.1 h4.2 h9 hA hneg hNat (by omega) m1 m2 hd fun qa cA H1 hK1 hP1 hD1 hS1 => ?_
  have hcA := cA_eq (k := 4) F (by decide) rfl hK1
  subst hcA
  rw [m3, m4]
  have hagree : ∀ z, z < n → (fun k => if k = n then qa else ad k) z = ad z := fun z hz => if_neg (by omega)
  have hW := W_push h5 hP1 hD1 (by
    rw [ce_arr (t := 4) hk0]
    simp only [ai_ar, ai_cl, if_pos]
    rfl)
  have hgo := k _ H1 locs ls (by omega) (by omega) (fun z hz => (hagree z (by omega)).trans (h3 z hz)) hW (IH_push h5) (LR_ext h6 h7 hagree) (LI_le h7 (by omega)) (SI_cons.mpr ⟨(show -1 ≤ (n : Int) ∧ (n : Int) < ((n + 1 : Nat) : Int) from ⟨by omega, by omega⟩), SI_le hSI (by omega)⟩) hS1
  rw [List.map_cons, cv_ref, map_ext hSI hagree, if_pos rfl] at hgo
  exact hgo

theorem s_getstatic {idx : Nat} (F : ai_F p s m args meth c cc nL own isInit D cid B0 xa E2 Kc) (g : ai_chk own cc nL Kc cal fr lo isInit rt (pc, .getstatic idx, len, a, b, d, t, z, tl) = true) (q : ai_st orc lim X (pc, .getstatic idx, len, a, b, d, t, z, tl) (ai_PS p l e R s m args below meth c D cid B0 xa nL n0 lim ad0 gx gy Qf) L S n hr h Q) : ai_PS p l e R s m args below meth c D cid B0 xa nL n0 lim ad0 gx gy Qf pc L S n hr h := by
  simp only [ai_chk, Bool.and_eq_true, decide_eq_true_eq, Bool.or_eq_true] at g
  simp only [ai_st] at q
  obtain ⟨hd, rfl, g1⟩ := g
  intro ad H locs ls h1 h2 h3 h4 h5 h6 h7 h8 h9
  exact va_gets F.1 F.2.1 F.2.2.2.2.2.2.2.2.1.1 h9 F.2.2.2.1 (kc_word F g1) (fun x hx => hx) hd (q ad H locs ls h1 h2 h3 h4 h5 h6 h7 (SI_cons.mpr ⟨trivial, h8⟩) h9)
end SND6
end
section
/-! the steps, an instruction each: copies, calls -/
section SND7
variable {p : Program} {l : Launch} {e : Env} {R : Room} {s : State} {m : MethodId} {args : Array Value} {below : List Frame} {meth : Method} {c : Code} {D : va_G} {cid : Nat → ClassId} {B0 : Nat} {xa : Nat → Nat} {nL n0 lim : Nat} {ad0 : Nat → Nat} {gx gy : Nat} {Qf : State → Prop} {cc : ByteArray} {own : String} {isInit : Bool} {E2 : (Nat → Nat) → State → Heap → Prop} {Kc : List Jvm.Cond} {cal : List ai_I} {fr lo : Nat} {rt : Option FieldType} {orc : Nat → SP} {X : XE} {Q : RP} {pc len a b d t n : Nat} {z : Int} {tl : List (Int × Nat)} {L : List (Option AV)} {S : List AV} {hr h : HP}
theorem cp_ne {h : HP} {s0 sp d0 dp len : Int} {c : Int} (hc : c ≠ d0) (j : Int) : ai_cp h s0 sp d0 dp len c j = h c j := by
  unfold ai_cp; rw [if_neg (fun q => hc q.1)]
theorem IH_cp {n : Nat} {hr h : HP} {s0 sp d0 dp len : Int} {t : Nat} (hI : ai_IH n hr h) (hs : 0 ≤ s0 ∧ s0 < (n : Int)) (hks : ai_k s0 = 50 + t) (hkd : ai_k d0 = 50 + t) (ht : t = 0 ∨ t = 1) : ai_IH n hr (ai_cp h s0 sp d0 dp len) := by
  intro c j h1 h2
  by_cases hq : c = d0 ∧ dp ≤ j ∧ j < dp + len
  · unfold ai_cp
    rw [if_pos hq]
    have hv := hI s0 (sp + (j - dp)) hs.1 hs.2
    rw [tg_arr hks] at hv
    rw [hq.1, tg_arr hkd]
    rcases ht with rfl | rfl <;> exact hv
  · unfold ai_cp
    rw [if_neg hq]
    exact hI c j h1 h2
theorem pop_inv {k : List AV → List AV → Prop} : ∀ (b : Nat) (A S : List AV), ai_pop b A S k → ∃ As R, As.length = b ∧ S = As.reverse ++ R ∧ k (As ++ A) R
  | 0, A, S, q => ⟨[], S, rfl, rfl, q⟩
  | b + 1, A, [], q => q.elim
  | b + 1, A, v :: S, q => by
    obtain ⟨As, R, h1, h2, h3⟩ := pop_inv b (v :: A) S q
    exact ⟨As ++ [v], R, by simp [h1], by simp [h2], by simpa using h3⟩
theorem bd_inv {z : Int} {n lim : Nat} {k : Prop} (q : ai_bd z n lim k) (hn : n ≤ lim) : (n : Int) + z ≤ (lim : Int) ∧ k := by
  unfold ai_bd at q
  split at q
  · exact ⟨by omega, q⟩
  · exact q
theorem rc_inv {d0 : Nat} {A : List AV} (q : ai_rc d0 n A) : ∃ x As', A = (2, x) :: As' ∧ ai_ok n x d0 := by
  unfold ai_rc at q
  split at q
  · exact ⟨_, _, rfl, q⟩
  · exact q.elim
theorem SI_app {A B : List AV} : ai_SI n (A ++ B) ↔ ai_SI n A ∧ ai_SI n B := by
  unfold ai_SI
  simp only [List.mem_append]
  exact ⟨fun h => ⟨fun v hv => h v (Or.inl hv), fun v hv => h v (Or.inr hv)⟩, fun h v hv => hv.elim (h.1 v) (h.2 v)⟩
theorem SI_rev {A : List AV} : ai_SI n A.reverse ↔ ai_SI n A := by
  unfold ai_SI; simp
/-- the callee's start, from the caller's state -/
theorem pw_of (F : ai_F p s m args meth c cc nL own isInit D cid B0 xa E2 Kc) {ad : Nat → Nat} {H : Heap} {locs : List Loc} (h4 : ai_W D cid B0 ad n hr h H) (h9 : va_S (fun q : Nat => B0 ≤ q) s.heap H locs) {U : State} (hU : U.heap = H) (hW : s.WarmedH U.vm) : ai_Pw E2 D cid B0 xa ad n hr h U := by
  have kept : ∀ q : Nat, q < s.heap.size → ¬ B0 ≤ q → H[q]? = s.heap[q]? := h9.2.1
  refine ⟨?_, by rw [hU]; exact h4, va_K.moved hW.alike F.2.2.2.2.2.2.1, ?_⟩
  · rw [hU]; exact Nat.le_trans F.2.2.2.2.2.2.2.1 h9.1
  · rw [hU]
    obtain ⟨e1, e2, e3⟩ := F.2.2.2.2.2.2.2.2.1
    exact ⟨(e1.kept kept).moved hW.alike, (e2.kept kept).moved hW.alike, F.2.2.2.2.2.2.2.2.2.1.1 xa s U H hW (F.2.2.2.2.2.2.2.2.2.1.2.1 xa s s.heap H kept e3)⟩
theorem pc_blind (hE : ai_E2ok B0 E2) {ad : Nat → Nat} {av : List Value} : FrameBlind (va_Pc av (ai_Pw E2 D cid B0 xa ad n hr h)) := by
  intro a U g mk hq
  obtain ⟨q0, q1, q2, q3, q4, q5, q6⟩ := hq
  exact ⟨q0, q1, q2, va_K.moved (u := U) (U := U.calling g mk a) (Vm.Alike.refl U.vm) q3, va_Z.moved (u := U) (U := U.calling g mk a) (Vm.Alike.refl U.vm) q4, va_T.moved (u := U) (U := U.calling g mk a) (Vm.Alike.refl U.vm) q5, hE.2.2 xa U U.heap g mk a q6⟩
/-- behind a call -/
theorem sn_back {tag al : Nat} {A R' : List AV} {ad : Nat → Nat} {H : Heap} {locs : List Loc} {ls : Array Slot} {st0 : List Value} {pc' : Nat} (hpc : pc' = pc + 3)
    (hr0 : va_Run p l e R s m args below meth c H locs (n - n0 + gx) (ai_cs n - ai_cs n0 + gy) al (ai_cs (n + al) - ai_cs n) (F0 m pc ls st0) (R'.map (ai_cv ad xa)) (ai_Qc tag D cid B0 ad n al (fun r n' hr' h' => ai_PS p l e R s m args below meth c D cid B0 xa nL n0 lim ad0 gx gy Qf pc' L (ai_push t r R') n' hr' h') (A.map (ai_cv ad xa)).toArray) (fun q : Nat => B0 ≤ q))
    (ht : t = (if tag = 3 then 0 else tag)) (htag : tag = 0 ∨ tag = 1 ∨ tag = 2 ∨ tag = 3 ∨ tag = 9) (h1 : n0 ≤ n) (hlim : n + al ≤ lim) (h3 : ∀ q, q < n0 → ad q = ad0 q) (h6 : ai_LR ad xa ls nL L) (h7 : ai_LI n L) (h8 : ai_SI n R') (h9 : va_S (fun q : Nat => B0 ≤ q) s.heap H locs) :
    W p l e R s m args below meth c H locs (n - n0 + gx) (ai_cs n - ai_cs n0 + gy) Qf (F0 m pc ls st0) := by
  subst hpc
  have e1 : n - n0 + gx + al = n + al - n0 + gx := by omega
  have e2 : ai_cs n - ai_cs n0 + gy + (ai_cs (n + al) - ai_cs n) = ai_cs (n + al) - ai_cs n0 + gy := by
    have := cs_mono h1
    have := cs_mono (show n ≤ n + al by omega)
    omega
  -- what the callee's end gives
  have go : ∀ (u : ai_U) (tt : State) (H1 : Heap) (locs1 : List Loc) (r : AV), tt.heap = H1 → ai_Bw D cid B0 ad n al u tt → va_S (fun q : Nat => B0 ≤ q) s.heap H1 locs1 → ai_PS p l e R s m args below meth c D cid B0 xa nL n0 lim ad0 gx gy Qf (pc + 3) L (ai_push t r R') u.1 u.2.1 u.2.2.1 → (ai_SI u.1 R' → ai_SI u.1 (ai_push t r R')) →
      W p l e R s m args below meth c H1 locs1 (n + al - n0 + gx) (ai_cs (n + al) - ai_cs n0 + gy) Qf (F0 m (pc + 3) ls ((ai_push t r R').map (ai_cv u.2.2.2 xa))) := by
    intro u tt H1 locs1 r hH1 hB hS1 hk hSI
    obtain ⟨b1, b2, b3, b4⟩ := hB
    rw [← b1]
    subst hH1
    exact hk u.2.2.2 tt.heap locs1 ls (by omega) (by omega) (fun q hq => (b2 q (by omega)).trans (h3 q hq)) b4 b3 (LR_ext h6 h7 b2) (LI_le h7 (by omega)) (hSI (SI_le h8 (by omega))) hS1
  rcases htag with rfl | rfl | rfl | rfl | rfl
  · refine va_calli (a := (A.map (ai_cv ad xa)).toArray) hr0 h9 (fun q _ hq => hq) (fun q hq => hq) fun r u tt H1 locs1 hH1 hal hp hB hz hk hS1 => ?_
    have := go u tt H1 locs1 (0, r.toInt) hH1 hB hS1 hp (fun hS => by subst ht; exact SI_cons.mpr ⟨i32_of r, hS⟩)
    rw [e1, e2]
    subst ht
    simp only [if_neg (show ¬ (0 = 3) by decide)] at this
    rw [show (ai_push 0 (0, r.toInt) R') = (0, r.toInt) :: R' from rfl, List.map_cons, map_ext h8 hB.2.1, show ai_cv u.2.2.2 xa (0, r.toInt) = .int (Int32.ofInt r.toInt) from rfl, Int32.ofInt_toInt] at this
    exact this
  · refine va_calll (a := (A.map (ai_cv ad xa)).toArray) hr0 h9 (fun q _ hq => hq) (fun q hq => hq) fun r u tt H1 locs1 hH1 hal hp hB hz hk hS1 => ?_
    have := go u tt H1 locs1 (1, r.toInt) hH1 hB hS1 hp (fun hS => by subst ht; exact SI_cons.mpr ⟨i64_of r, hS⟩)
    rw [e1, e2]
    subst ht
    simp only [if_neg (show ¬ (1 = 3) by decide)] at this
    rw [show (ai_push 1 (1, r.toInt) R') = (1, r.toInt) :: R' from rfl, List.map_cons, map_ext h8 hB.2.1, show ai_cv u.2.2.2 xa (1, r.toInt) = .long (Int64.ofInt r.toInt) from rfl, Int64.ofInt_toInt] at this
    exact this
  · refine va_callq (a := (A.map (ai_cv ad xa)).toArray) hr0 h9 (fun q _ hq => hq) (fun q hq => hq) fun r u tt H1 locs1 hH1 hal hp hB hz hk hS1 => ?_
    obtain ⟨x, x1, x2, x3, hp⟩ := hp
    have := go u tt H1 locs1 (2, x) hH1 hB hS1 hp (fun hS => by subst ht; exact SI_cons.mpr ⟨⟨x1, x2⟩, hS⟩)
    rw [e1, e2]
    subst ht
    simp only [if_neg (show ¬ (2 = 3) by decide)] at this
    rw [show (ai_push 2 (2, x) R') = (2, x) :: R' from rfl, List.map_cons, map_ext h8 hB.2.1, show ai_cv u.2.2.2 xa (2, x) = va_rf (ai_ro u.2.2.2 x) from rfl, ← x3] at this
    exact this
  · refine va_calli (a := (A.map (ai_cv ad xa)).toArray) hr0 h9 (fun q _ hq => hq) (fun q hq => hq) fun r u tt H1 locs1 hH1 hal hp hB hz hk hS1 => ?_
    have := go u tt H1 locs1 (0, r.toInt) hH1 hB hS1 hp (fun hS => by subst ht; exact SI_cons.mpr ⟨i32_of r, hS⟩)
    rw [e1, e2]
    subst ht
    rw [show (if (3 : Nat) = 3 then 0 else 3) = 0 from rfl] at this
    rw [show (ai_push 0 (0, r.toInt) R') = (0, r.toInt) :: R' from rfl, List.map_cons, map_ext h8 hB.2.1, show ai_cv u.2.2.2 xa (0, r.toInt) = .int (Int32.ofInt r.toInt) from rfl, Int32.ofInt_toInt] at this
    exact this
  · refine va_callv (a := (A.map (ai_cv ad xa)).toArray) hr0 h9 (fun q _ hq => hq) (fun q hq => hq) fun u tt H1 locs1 hH1 hal hp hB hz hk hS1 => ?_
    have := go u tt H1 locs1 (9, 0) hH1 hB hS1 hp (fun hS => by subst ht; exact hS)
    rw [e1, e2]
    subst ht
    simp only [if_neg (show ¬ (9 = 3) by decide)] at this
    rw [show (ai_push 9 (9, 0) R') = R' from rfl, map_ext h8 hB.2.1] at this
    exact this

/-- what is known of a call that was looked at -/
theorem ct_inv {kind idx : Nat} (hcal : ∀ (a : Nat) (i : ai_I), ai_nth cal a = some i → ai_S E2 i (orc a) ∧ ai_CW i) (hg : ai_ct own Kc cal fr lo kind idx a b d t z tl = true) : ∃ (y : MethodName) (c2 : ByteArray) (mL : Nat) (ret : Option FieldType) (tag f2 l2 al na cls : Nat), ai_S E2 (y, c2, mL, ret, tag, f2, l2, al, na, kind, cls) (orc a) ∧ ai_CW (y, c2, mL, ret, tag, f2, l2, al, na, kind, cls) ∧ ai_wm own Kc d idx y = true ∧ f2 + 1 ≤ fr ∧ 8 + (mL + 11) + l2 ≤ lo ∧ z = (al : Int) ∧ b = (if kind = 1 then na else na + 1) ∧ t = (if tag = 3 then 0 else tag) ∧ tag = ai_rtag ret ∧ tag ≠ 8 ∧ ai_tl tl = cls := by
  unfold ai_ct at hg
  split at hg
  · rename_i y c2 mL ret tag f2 l2 al na k2 cls hq
    simp only [Bool.and_eq_true, decide_eq_true_eq] at hg
    obtain ⟨⟨⟨⟨⟨⟨⟨⟨⟨g0, g1⟩, g2⟩, g3⟩, g4⟩, g5⟩, g6⟩, g7⟩, g8⟩, g9⟩ := hg
    subst g5
    obtain ⟨c1, c3⟩ := hcal a _ hq
    exact ⟨y, c2, mL, ret, tag, f2, l2, al, na, cls, c1, c3, g1, g2, g3, g4, g6, g7, g8, g9, g0⟩
  · cases hg
theorem rtag_in {ret : Option FieldType} {tag : Nat} (h : tag = ai_rtag ret) (h8 : tag ≠ 8) : tag = 0 ∨ tag = 1 ∨ tag = 2 ∨ tag = 3 ∨ tag = 9 := by
  subst h
  unfold ai_rtag at h8 ⊢
  split <;> simp_all
theorem wm_inv {idx : Nat} {y : MethodName} (F : ai_F p s m args meth c cc nL own isInit D cid B0 xa E2 Kc) (h : ai_wm own Kc d idx y = true) : (Jvm.Cond.methodLink own idx y).before args s = true ∨ (Jvm.Cond.methodLinkNest own idx y "SuiteBench").before args s = true := by
  unfold ai_wm at h
  split at h
  · rename_i w hw
    simp only [Bool.or_eq_true, decide_eq_true_eq] at h
    rcases h with h | h
    · subst h; exact Or.inl (kc_word F hw)
    · subst h; exact Or.inr (kc_word F hw)
  · cases h
/-- the words that a callee wants stand at its start -/
theorem ws_warm {y : MethodName} {c2 : ByteArray} {mL : Nat} {ret : Option FieldType} (F : ai_F p s m args meth c cc nL own isInit D cid B0 xa E2 Kc) (h : Jvm.Cond.code y c2 mL ret ∈ ai_gw) : ∀ w ∈ (Jvm.Cond.code y c2 mL ret :: ai_gw), ∀ (a' : Array Value) (U : State), s.WarmedH U.vm → w.before a' U = true := fun w hw a' U hW => (List.mem_cons.mp hw).elim (fun e => by subst e; exact gw_warm h hW (F.2.2.2.2.1 _ h)) fun e => gw_warm e hW (F.2.2.2.2.1 _ e)
theorem na_of {y : MethodName} {na : Nat} (h : (parseMethodDescriptor y.desc).map (fun d => d.parameters.length) = some na) : ∀ sig, parseMethodDescriptor y.desc = some sig → na = sig.parameters.length := fun sig h2 => by
  rw [h2] at h
  exact (Option.some.inj h).symm
theorem s_invokevirtual {idx : Nat} (F : ai_F p s m args meth c cc nL own isInit D cid B0 xa E2 Kc) (hR : ai_RM R fr lo n0 lim gx gy) (hcal : ∀ (a : Nat) (i : ai_I), ai_nth cal a = some i → ai_S E2 i (orc a) ∧ ai_CW i) (hfl : l.flags = flags0) (g : ai_chk own cc nL Kc cal fr lo isInit rt (pc, .invokevirtual idx, len, a, b, d, t, z, tl) = true) (q : ai_st orc lim X (pc, .invokevirtual idx, len, a, b, d, t, z, tl) (ai_PS p l e R s m args below meth c D cid B0 xa nL n0 lim ad0 gx gy Qf) L S n hr h Q) : ai_PS p l e R s m args below meth c D cid B0 xa nL n0 lim ad0 gx gy Qf pc L S n hr h := by
  simp only [ai_chk, Bool.and_eq_true, decide_eq_true_eq, Bool.or_eq_true] at g
  simp only [ai_st] at q
  obtain ⟨hd, rfl, g⟩ := g
  obtain ⟨y, c2, mL, ret, tag, f2, l2, al, na, cls, hS2, hCW, hwm, hf2, hl2, hz, hb, ht, htag, ht8, htl⟩ := ct_inv hcal g
  obtain ⟨w1, w2, w3, w4⟩ := hCW
  simp only at w4
  obtain ⟨As, R', hAs, rfl, hrc, hq⟩ := pop_inv b [] S q
  simp only [List.append_nil] at hrc hq
  intro ad H locs ls h1 h2 h3 h4 h5 h6 h7 h8 h9
  obtain ⟨hlim, hq⟩ := bd_inv hq h2
  obtain ⟨hcat, hq⟩ := k8_cat (ad := ad) (xa := xa) hq
  obtain ⟨hSA, hSR⟩ := SI_app.mp h8
  rw [SI_rev] at hSA
  obtain ⟨x, As', rfl, hrc⟩ := rc_inv hrc
  obtain ⟨q0, rfl, hq0, hk0⟩ := ok_nat hrc
  rw [htl] at hk0
  obtain ⟨i1, i2, T, N, hC⟩ := w4
  have hcls : cls < 13 := by
    have := (List.getElem?_eq_some_iff.mp hC).1
    simpa [vwCl] using this
  have hget : (ai_ws cid ad n hr h)[q0]? = some (ad q0, .inr (cls, ai_fs ad cls hr h (q0 : Int))) := by rw [ws_get hq0, ce_obj hk0 (by omega)]
  have hM := hS2 l D cid B0 xa ad _ n hr h _ hfl F.2.2.2.2.2.2.2.2.2.1 hq hSA h5
  have hna : (As'.map (ai_cv ad xa)).length = na := by
    simp only [List.length_map]
    simp only [List.length_cons] at hAs
    rw [hb] at hAs
    simp at hAs
    exact hAs
  have hpre : PreV s H y.cls (ad q0) (va_Pc (((2, (q0 : Int)) :: As').map (ai_cv ad xa)) (ai_Pw E2 D cid B0 xa ad n hr h)) (As'.map (ai_cv ad xa)) :=
    ⟨pc_blind F.2.2.2.2.2.2.2.2.2.1, va_recv F.2.2.2.2.2.2.1 h4.1 hC hget, fun U hU hW => ⟨by rw [List.map_cons, cv_ref], pw_of F h4 h9 hU hW⟩⟩
  have hrooms : n - n0 + gx + al ≤ R.cells ∧ ai_cs n - ai_cs n0 + gy + (ai_cs (n + al) - ai_cs n) ≤ R.slots := by
    have k1 := cs_mono h1
    have k2 := cs_mono (show n ≤ n + al by omega)
    have k3 := cs_mono (show n + al ≤ lim by omega)
    obtain ⟨r1, r2, r3, r4⟩ := hR
    constructor <;> omega
  have hst : (((2, (q0 : Int)) :: As').reverse ++ R').map (ai_cv ad xa) = (As'.map (ai_cv ad xa)).reverse ++ .ref (ad q0) :: R'.map (ai_cv ad xa) := by
    simp [cv_ref]
  rw [hst]
  have hsz : (F0 m pc ls ((As'.map (ai_cv ad xa)).reverse ++ .ref (ad q0) :: R'.map (ai_cv ad xa))).locals.size = nL := h6.2.1
  have hAt : ((Value.ref (ad q0)) :: As'.map (ai_cv ad xa)) = ((2, (q0 : Int)) :: As').map (ai_cv ad xa) := by rw [List.map_cons, cv_ref]
  rcases wm_inv F hwm with hl | hl
  · have hrun := va_runV (l := l) (e := e) (R := R) (below := below) (meth := meth) (H := H) (locs := locs) (cells := n - n0 + gx) (slots := ai_cs n - ai_cs n0 + gy) (index := idx) (g := F0 m pc ls ((As'.map (ai_cv ad xa)).reverse ++ .ref (ad q0) :: R'.map (ai_cv ad xa))) (rest := R'.map (ai_cv ad xa)) ⟨F.1, F.2.1, F.2.2.1, F.2.2.2.1, F.2.2.2.2.1⟩ hM ⟨⟨rfl, rfl, Nat.le_trans hf2 hR.1, Nat.le_trans hl2 hR.2.1, ws_warm F w1, List.mem_cons_self, F.2.2.2.2.1 _ w1, F.2.2.2.2.1 _ w2, ⟨w3.1, w3.2.1⟩, na_of w3.2.2, hl⟩, F.2.2.2.2.1 _ i1, F.2.2.2.2.1 _ i2⟩ hpre rfl hna hsz rfl (lv_room hcat) hd hrooms
    rw [hAt] at hrun
    exact sn_back (al := al) (n := n) rfl hrun ht (rtag_in htag ht8) h1 (by omega) h3 h6 h7 hSR h9
  · have hrun := va_runVN (l := l) (e := e) (R := R) (below := below) (meth := meth) (H := H) (locs := locs) (cells := n - n0 + gx) (slots := ai_cs n - ai_cs n0 + gy) (index := idx) (g := F0 m pc ls ((As'.map (ai_cv ad xa)).reverse ++ .ref (ad q0) :: R'.map (ai_cv ad xa))) (rest := R'.map (ai_cv ad xa)) ⟨F.1, F.2.1, F.2.2.1, F.2.2.2.1, F.2.2.2.2.1⟩ hM ⟨⟨⟨rfl, rfl, Nat.le_trans hf2 hR.1, Nat.le_trans hl2 hR.2.1, ws_warm F w1, List.mem_cons_self⟩, F.2.2.2.2.1 _ w1, F.2.2.2.2.1 _ w2, ⟨w3.1, w3.2.1⟩, na_of w3.2.2, hl⟩, F.2.2.2.2.1 _ i1, F.2.2.2.2.1 _ i2⟩ hpre rfl hna hsz rfl (lv_room hcat) hd hrooms
    rw [hAt] at hrun
    exact sn_back (al := al) (n := n) rfl hrun ht (rtag_in htag ht8) h1 (by omega) h3 h6 h7 hSR h9

theorem s_invokestatic {idx : Nat} (F : ai_F p s m args meth c cc nL own isInit D cid B0 xa E2 Kc) (hR : ai_RM R fr lo n0 lim gx gy) (hcal : ∀ (a : Nat) (i : ai_I), ai_nth cal a = some i → ai_S E2 i (orc a) ∧ ai_CW i) (hfl : l.flags = flags0) (g : ai_chk own cc nL Kc cal fr lo isInit rt (pc, .invokestatic idx, len, a, b, d, t, z, tl) = true) (q : ai_st orc lim X (pc, .invokestatic idx, len, a, b, d, t, z, tl) (ai_PS p l e R s m args below meth c D cid B0 xa nL n0 lim ad0 gx gy Qf) L S n hr h Q) : ai_PS p l e R s m args below meth c D cid B0 xa nL n0 lim ad0 gx gy Qf pc L S n hr h := by
  simp only [ai_chk, Bool.and_eq_true, decide_eq_true_eq, Bool.or_eq_true] at g
  simp only [ai_st] at q
  obtain ⟨hd, rfl, g⟩ := g
  split at g
  · simp only [Bool.and_eq_true, decide_eq_true_eq] at g
    obtain ⟨⟨g1, g2⟩, g3⟩ := g
    obtain ⟨s0, sp, d0, dp, ln, R', rfl, hok, hok2, k1, k2, k3, k4, k5, hq⟩ := inv_cpy q
    obtain ⟨q0, rfl, hq0, hk0⟩ := ok_nat hok
    obtain ⟨q1, rfl, hq1, hk1⟩ := ok_nat hok2
    intro ad H locs ls h1 h2 h3 h4 h5 h6 h7 h8 h9
    obtain ⟨hcat, hq⟩ := k8_cat (ad := ad) (xa := xa) hq
    have v1 : i32 ln := (SI_cons.mp h8).1
    have v2 : i32 dp := (SI_cons.mp (SI_cons.mp h8).2).1
    have v3 : i32 sp := (SI_cons.mp (SI_cons.mp (SI_cons.mp (SI_cons.mp h8).2).2).2).1
    have hSI := (SI_cons.mp (SI_cons.mp (SI_cons.mp (SI_cons.mp (SI_cons.mp h8).2).2).2).2).2
    have hget0 : (ai_ws cid ad n hr h)[q0]? = some (ad q0, .inl (cid 0, (ai_l (q0 : Int)).toNat, ai_ar ad 0 hr h (q0 : Int))) := by rw [ws_get hq0, ce_arr (t := 0) hk0]
    have hget1 : (ai_ws cid ad n hr h)[q1]? = some (ad q1, .inl (cid 0, (ai_l (q1 : Int)).toNat, ai_ar ad 0 hr h (q1 : Int))) := by rw [ws_get hq1, ce_arr (t := 0) hk1]
    have nz : ∀ {x : Int}, i32 x → 0 ≤ x → ¬ Int32.ofInt x < 0 := fun hx hx0 z => by
      have := (e_lt hx (show i32 0 from ⟨by decide, by decide⟩)).mp z
      omega
    simp only [List.map_cons]
    rw [cv_ref, cv_ref]
    refine va_copyi F.1 F.2.1 (F.2.2.1.trans h6.2.1.symm) F.2.2.2.1 (kc_word F g1) (F.2.2.2.2.1 _ gw_cp.1) (F.2.2.2.2.1 _ gw_cp.2.1) (F.2.2.2.2.1 _ gw_cp.2.2) F.2.2.2.2.2.2.1 h4.1 h4.2 h9 q0 q1 0 0 hget0 hget1 rfl rfl rfl (nz v3 k1) (nz v2 k2) (nz v1 k3) (by rw [e_cl v3, e_cl v1]; omega) (by rw [e_cl v2, e_cl v1]; omega) (fun _ _ => rfl) (by have := hR.1; omega) (by have := hR.2.1; omega) hd fun H1 locs1 hP1 hD1 hS1 => ?_
    rw [e_cl v3, e_cl v2, e_cl v1] at hP1 hD1
    refine hq ad H1 locs1 ls h1 h2 h3 (W_set hP1 hD1 (fun _ => ?_) fun k _ hkq => ce_same (fun _ => rfl) fun j => cp_ne (by omega) j) (IH_cp (t := 0) h5 ⟨by omega, by omega⟩ hk0 hk1 (by decide)) h6 h7 hSI hS1
    rw [ce_arr (t := 0) hk1]
    congr 3
    show Sum.inl _ = Sum.inl _
    congr 1
    funext j
    unfold ai_cp va_cpy
    by_cases hj : dp.toNat ≤ j ∧ j < dp.toNat + ln.toNat
    · rw [if_pos ⟨rfl, by omega, by omega⟩, if_pos hj]
      congr 2
      omega
    · rw [if_neg (fun z => hj (by omega)), if_neg hj]
  · simp only [Bool.and_eq_true, decide_eq_true_eq] at g
    obtain ⟨⟨g1, g2⟩, g3⟩ := g
    obtain ⟨s0, sp, d0, dp, ln, R', rfl, hok, hok2, k1, k2, k3, k4, k5, hq⟩ := inv_cpy q
    obtain ⟨q0, rfl, hq0, hk0⟩ := ok_nat hok
    obtain ⟨q1, rfl, hq1, hk1⟩ := ok_nat hok2
    intro ad H locs ls h1 h2 h3 h4 h5 h6 h7 h8 h9
    obtain ⟨hcat, hq⟩ := k8_cat (ad := ad) (xa := xa) hq
    have v1 : i32 ln := (SI_cons.mp h8).1
    have v2 : i32 dp := (SI_cons.mp (SI_cons.mp h8).2).1
    have v3 : i32 sp := (SI_cons.mp (SI_cons.mp (SI_cons.mp (SI_cons.mp h8).2).2).2).1
    have hSI := (SI_cons.mp (SI_cons.mp (SI_cons.mp (SI_cons.mp (SI_cons.mp h8).2).2).2).2).2
    have hget0 : (ai_ws cid ad n hr h)[q0]? = some (ad q0, .inl (cid 1, (ai_l (q0 : Int)).toNat, ai_ar ad 1 hr h (q0 : Int))) := by rw [ws_get hq0, ce_arr (t := 1) hk0]
    have hget1 : (ai_ws cid ad n hr h)[q1]? = some (ad q1, .inl (cid 1, (ai_l (q1 : Int)).toNat, ai_ar ad 1 hr h (q1 : Int))) := by rw [ws_get hq1, ce_arr (t := 1) hk1]
    have nz : ∀ {x : Int}, i32 x → 0 ≤ x → ¬ Int32.ofInt x < 0 := fun hx hx0 z => by
      have := (e_lt hx (show i32 0 from ⟨by decide, by decide⟩)).mp z
      omega
    simp only [List.map_cons]
    rw [cv_ref, cv_ref]
    refine va_copyl F.1 F.2.1 (F.2.2.1.trans h6.2.1.symm) F.2.2.2.1 (kc_word F g1) (F.2.2.2.2.1 _ gw_cp.1) (F.2.2.2.2.1 _ gw_cp.2.1) (F.2.2.2.2.1 _ gw_cp.2.2) F.2.2.2.2.2.2.1 h4.1 h4.2 h9 q0 q1 1 1 hget0 hget1 rfl rfl rfl (nz v3 k1) (nz v2 k2) (nz v1 k3) (by rw [e_cl v3, e_cl v1]; omega) (by rw [e_cl v2, e_cl v1]; omega) (fun _ _ => rfl) (by have := hR.1; omega) (by have := hR.2.1; omega) hd fun H1 locs1 hP1 hD1 hS1 => ?_
    rw [e_cl v3, e_cl v2, e_cl v1] at hP1 hD1
    refine hq ad H1 locs1 ls h1 h2 h3 (W_set hP1 hD1 (fun _ => ?_) fun k _ hkq => ce_same (fun _ => rfl) fun j => cp_ne (by omega) j) (IH_cp (t := 1) h5 ⟨by omega, by omega⟩ hk0 hk1 (by decide)) h6 h7 hSI hS1
    rw [ce_arr (t := 1) hk1]
    congr 3
    show Sum.inr (Sum.inl _) = Sum.inr (Sum.inl _)
    congr 2
    funext j
    unfold ai_cp va_cpy
    by_cases hj : dp.toNat ≤ j ∧ j < dp.toNat + ln.toNat
    · rw [if_pos ⟨rfl, by omega, by omega⟩, if_pos hj]
      congr 2
      omega
    · rw [if_neg (fun z => hj (by omega)), if_neg hj]
  · rename_i ht20 ht21
    simp only at q
    obtain ⟨y, c2, mL, ret, tag, f2, l2, al, na, cls, hS2, hCW, hwm, hf2, hl2, hz, hb, ht, htag, ht8, htl⟩ := ct_inv hcal g
    obtain ⟨w1, w2, w3, w4⟩ := hCW
    simp only at w4
    obtain ⟨As, R', hAs, rfl, hq⟩ := pop_inv b [] S q
    simp only [List.append_nil] at hq
    intro ad H locs ls h1 h2 h3 h4 h5 h6 h7 h8 h9
    obtain ⟨hlim, hq⟩ := bd_inv hq h2
    obtain ⟨hcat, hq⟩ := k8_cat (ad := ad) (xa := xa) hq
    obtain ⟨hSA, hSR⟩ := SI_app.mp h8
    rw [SI_rev] at hSA
    have hM := hS2 l D cid B0 xa ad _ n hr h _ hfl F.2.2.2.2.2.2.2.2.2.1 hq hSA h5
    have hna : (As.map (ai_cv ad xa)).length = na := by
      simp only [List.length_map]
      rw [hAs, hb]; simp
    have hpre : PreS s H (va_Pc (As.map (ai_cv ad xa)) (ai_Pw E2 D cid B0 xa ad n hr h)) (As.map (ai_cv ad xa)) :=
      ⟨pc_blind F.2.2.2.2.2.2.2.2.2.1, fun U hU hW => ⟨rfl, pw_of F h4 h9 hU hW⟩⟩
    have hrooms : n - n0 + gx + al ≤ R.cells ∧ ai_cs n - ai_cs n0 + gy + (ai_cs (n + al) - ai_cs n) ≤ R.slots := by
      have k1 := cs_mono h1
      have k2 := cs_mono (show n ≤ n + al by omega)
      have k3 := cs_mono (show n + al ≤ lim by omega)
      obtain ⟨r1, r2, r3, r4⟩ := hR
      constructor <;> omega
    have hst : (As.reverse ++ R').map (ai_cv ad xa) = (As.map (ai_cv ad xa)).reverse ++ R'.map (ai_cv ad xa) := by simp
    rw [hst]
    have hsz : (F0 m pc ls ((As.map (ai_cv ad xa)).reverse ++ R'.map (ai_cv ad xa))).locals.size = nL := h6.2.1
    rcases wm_inv F hwm with hl | hl
    · have hrun := va_runS (l := l) (e := e) (R := R) (below := below) (meth := meth) (H := H) (locs := locs) (cells := n - n0 + gx) (slots := ai_cs n - ai_cs n0 + gy) (index := idx) (g := F0 m pc ls ((As.map (ai_cv ad xa)).reverse ++ R'.map (ai_cv ad xa))) (rest := R'.map (ai_cv ad xa)) ⟨F.1, F.2.1, F.2.2.1, F.2.2.2.1, F.2.2.2.2.1⟩ hM ⟨⟨rfl, rfl, Nat.le_trans hf2 hR.1, Nat.le_trans hl2 hR.2.1, ws_warm F w1, List.mem_cons_self, F.2.2.2.2.1 _ w1, F.2.2.2.2.1 _ w2, ⟨w3.1, w3.2.1⟩, na_of w3.2.2, hl⟩, F.2.2.2.2.1 _ w4⟩ hpre rfl hna hsz rfl (lv_room hcat) hd hrooms
      exact sn_back (al := al) (n := n) rfl hrun ht (rtag_in htag ht8) h1 (by omega) h3 h6 h7 hSR h9
    · have hrun := va_runSN (l := l) (e := e) (R := R) (below := below) (meth := meth) (H := H) (locs := locs) (cells := n - n0 + gx) (slots := ai_cs n - ai_cs n0 + gy) (index := idx) (g := F0 m pc ls ((As.map (ai_cv ad xa)).reverse ++ R'.map (ai_cv ad xa))) (rest := R'.map (ai_cv ad xa)) ⟨F.1, F.2.1, F.2.2.1, F.2.2.2.1, F.2.2.2.2.1⟩ hM ⟨⟨⟨rfl, rfl, Nat.le_trans hf2 hR.1, Nat.le_trans hl2 hR.2.1, ws_warm F w1, List.mem_cons_self⟩, F.2.2.2.2.1 _ w1, F.2.2.2.2.1 _ w2, ⟨w3.1, w3.2.1⟩, na_of w3.2.2, hl⟩, F.2.2.2.2.1 _ w4, trivial⟩ hpre rfl hna hsz rfl (lv_room hcat) hd hrooms
      exact sn_back (al := al) (n := n) rfl hrun ht (rtag_in htag ht8) h1 (by omega) h3 h6 h7 hSR h9

theorem s_invokespecial {idx : Nat} (F : ai_F p s m args meth c cc nL own isInit D cid B0 xa E2 Kc) (hR : ai_RM R fr lo n0 lim gx gy) (hcal : ∀ (a : Nat) (i : ai_I), ai_nth cal a = some i → ai_S E2 i (orc a) ∧ ai_CW i) (hfl : l.flags = flags0) (g : ai_chk own cc nL Kc cal fr lo isInit rt (pc, .invokespecial idx, len, a, b, d, t, z, tl) = true) (q : ai_st orc lim X (pc, .invokespecial idx, len, a, b, d, t, z, tl) (ai_PS p l e R s m args below meth c D cid B0 xa nL n0 lim ad0 gx gy Qf) L S n hr h Q) : ai_PS p l e R s m args below meth c D cid B0 xa nL n0 lim ad0 gx gy Qf pc L S n hr h := by
  simp only [ai_chk, Bool.and_eq_true, decide_eq_true_eq, Bool.or_eq_true] at g
  simp only [ai_st] at q
  obtain ⟨hd, rfl, g⟩ := g
  split at g
  · simp only [Bool.and_eq_true, decide_eq_true_eq] at g
    obtain ⟨⟨g1, g2⟩, g3⟩ := g
    obtain ⟨x, R', rfl, hx0, hq⟩ := inv_r1 q
    intro ad H locs ls h1 h2 h3 h4 h5 h6 h7 h8 h9
    obtain ⟨hcat, hq⟩ := k8_cat (ad := ad) (xa := xa) hq
    obtain ⟨q0, rfl⟩ : ∃ q0 : Nat, x = (q0 : Int) := ⟨x.toNat, (Int.toNat_of_nonneg hx0).symm⟩
    simp only [List.map_cons]
    rw [cv_ref]
    exact W.objInit F.1 F.2.1 F.2.2.2.1 (kc_word F g1) (F.2.2.2.2.1 _ gw_oi.1) (F.2.2.2.2.1 _ gw_oi.2) rfl (h6.2.1.trans F.2.2.1.symm) rfl hd (by have := hR.1; omega) (by have := hR.2.1; have := lv_room (pc := pc) (m := m) (ls := ls) (rest := (Value.ref (ad q0) :: R'.map (ai_cv ad xa))) hcat; omega) (hq ad H locs ls h1 h2 h3 h4 h5 h6 h7 (SI_cons.mp h8).2 h9)
  · rename_i ht30
    obtain ⟨y, c2, mL, ret, tag, f2, l2, al, na, cls, hS2, hCW, hwm, hf2, hl2, hz, hb, ht, htag, ht8, htl⟩ := ct_inv hcal g
    obtain ⟨w1, w2, w3, w4⟩ := hCW
    simp only at w4
    split at q
    · exact (ht30 rfl).elim
    obtain ⟨As, R', hAs, rfl, hrc, hq⟩ := pop_inv b [] S q
    simp only [List.append_nil] at hrc hq
    intro ad H locs ls h1 h2 h3 h4 h5 h6 h7 h8 h9
    obtain ⟨hlim, hq⟩ := bd_inv hq h2
    obtain ⟨hcat, hq⟩ := k8_cat (ad := ad) (xa := xa) hq
    obtain ⟨hSA, hSR⟩ := SI_app.mp h8
    rw [SI_rev] at hSA
    obtain ⟨x, As', rfl, hrc⟩ := rc_inv hrc
    obtain ⟨q0, rfl, hq0, hk0⟩ := ok_nat hrc
    obtain ⟨i1, i2, i3⟩ := w4
    subst i3
    have hM := hS2 l D cid B0 xa ad _ n hr h _ hfl F.2.2.2.2.2.2.2.2.2.1 hq hSA h5
    have hna : (As'.map (ai_cv ad xa)).length = na := by
      simp only [List.length_map]
      simp only [List.length_cons] at hAs
      rw [hb] at hAs
      simp at hAs
      exact hAs
    have hAt : ((Value.ref (ad q0)) :: As'.map (ai_cv ad xa)) = ((2, (q0 : Int)) :: As').map (ai_cv ad xa) := by rw [List.map_cons, cv_ref]
    have hpre : PreS s H (va_Pc (((2, (q0 : Int)) :: As').map (ai_cv ad xa)) (ai_Pw E2 D cid B0 xa ad n hr h)) (.ref (ad q0) :: As'.map (ai_cv ad xa)) :=
      ⟨pc_blind F.2.2.2.2.2.2.2.2.2.1, fun U hU hW => ⟨by rw [hAt], pw_of F h4 h9 hU hW⟩⟩
    have hrooms : n - n0 + gx + al ≤ R.cells ∧ ai_cs n - ai_cs n0 + gy + (ai_cs (n + al) - ai_cs n) ≤ R.slots := by
      have k1 := cs_mono h1
      have k2 := cs_mono (show n ≤ n + al by omega)
      have k3 := cs_mono (show n + al ≤ lim by omega)
      obtain ⟨r1, r2, r3, r4⟩ := hR
      constructor <;> omega
    have hst : (((2, (q0 : Int)) :: As').reverse ++ R').map (ai_cv ad xa) = (As'.map (ai_cv ad xa)).reverse ++ .ref (ad q0) :: R'.map (ai_cv ad xa) := by
      simp [cv_ref]
    rw [hst]
    have hsz : (F0 m pc ls ((As'.map (ai_cv ad xa)).reverse ++ .ref (ad q0) :: R'.map (ai_cv ad xa))).locals.size = nL := h6.2.1
    rcases wm_inv F hwm with hl | hl
    · have hrun := va_runI (l := l) (e := e) (R := R) (below := below) (meth := meth) (H := H) (locs := locs) (cells := n - n0 + gx) (slots := ai_cs n - ai_cs n0 + gy) (index := idx) (g := F0 m pc ls ((As'.map (ai_cv ad xa)).reverse ++ .ref (ad q0) :: R'.map (ai_cv ad xa))) (rest := R'.map (ai_cv ad xa)) ⟨F.1, F.2.1, F.2.2.1, F.2.2.2.1, F.2.2.2.2.1⟩ hM ⟨⟨rfl, rfl, Nat.le_trans hf2 hR.1, Nat.le_trans hl2 hR.2.1, ws_warm F w1, List.mem_cons_self, F.2.2.2.2.1 _ w1, F.2.2.2.2.1 _ w2, ⟨w3.1, w3.2.1⟩, na_of w3.2.2, hl⟩, i2, F.2.2.2.2.1 _ i1⟩ hpre rfl hna hsz rfl (lv_room hcat) hd hrooms
      rw [hAt] at hrun
      exact sn_back (al := al) (n := n) rfl hrun ht (rtag_in htag ht8) h1 (by omega) h3 h6 h7 hSR h9
    · have hrun := va_runIN (l := l) (e := e) (R := R) (below := below) (meth := meth) (H := H) (locs := locs) (cells := n - n0 + gx) (slots := ai_cs n - ai_cs n0 + gy) (index := idx) (g := F0 m pc ls ((As'.map (ai_cv ad xa)).reverse ++ .ref (ad q0) :: R'.map (ai_cv ad xa))) (rest := R'.map (ai_cv ad xa)) ⟨F.1, F.2.1, F.2.2.1, F.2.2.2.1, F.2.2.2.2.1⟩ hM ⟨⟨⟨rfl, rfl, Nat.le_trans hf2 hR.1, Nat.le_trans hl2 hR.2.1, ws_warm F w1, List.mem_cons_self⟩, F.2.2.2.2.1 _ w1, F.2.2.2.2.1 _ w2, ⟨w3.1, w3.2.1⟩, na_of w3.2.2, hl⟩, i2, F.2.2.2.2.1 _ i1⟩ hpre rfl hna hsz rfl (lv_room hcat) hd hrooms
      rw [hAt] at hrun
      exact sn_back (al := al) (n := n) rfl hrun ht (rtag_in htag ht8) h1 (by omega) h3 h6 h7 hSR h9
end SND7
end
section
/-! all steps together; a method's contract out of its code -/
section SND8
variable {p : Program} {l : Launch} {e : Env} {R : Room} {s : State} {m : MethodId} {args : Array Value} {below : List Frame} {meth : Method} {c : Code} {D : va_G} {cid : Nat → ClassId} {B0 : Nat} {xa : Nat → Nat} {nL n0 lim : Nat} {ad0 : Nat → Nat} {gx gy : Nat} {Qf : State → Prop} {cc : ByteArray} {own : String} {isInit : Bool} {E2 : (Nat → Nat) → State → Heap → Prop} {Kc : List Jvm.Cond} {cal : List ai_I} {fr lo : Nat} {rt : Option FieldType} {orc : Nat → SP} {X : XE} {Q : RP}
/-- how a method ends: the small machine's answer is the real one's -/
def ai_RH (p : Program) (l : Launch) (e : Env) (R : Room) (s : State) (m : MethodId) (args : Array Value) (below : List Frame) (meth : Method) (c : Code) (D : va_G) (cid : Nat → ClassId) (B0 : Nat) (xa : Nat → Nat) (n0 lim : Nat) (ad0 : Nat → Nat) (gx gy : Nat) (Qf : State → Prop) (cc : ByteArray) (rt : Option FieldType) (Q : RP) : Prop :=
  ∀ (r : AV) (n : Nat) (hr h : HP) (ad : Nat → Nat) (H : Heap) (locs : List Loc) (ls : Array Slot) (pc : Nat), Q r n hr h → n0 ≤ n → n ≤ lim → (∀ q, q < n0 → ad q = ad0 q) → ai_W D cid B0 ad n hr h H → ai_IH n hr h → ai_vr n r → va_S (fun q : Nat => B0 ≤ q) s.heap H locs →
    (r.1 = 0 → decode cc pc = .ok (.ireturn, 1) → (rt = some .int ∨ (rt = some .boolean ∧ (r.2 = 0 ∨ r.2 = 1))) → W p l e R s m args below meth c H locs (n - n0 + gx) (ai_cs n - ai_cs n0 + gy) Qf (F0 m pc ls [ai_cv ad xa r])) ∧
    (r.1 = 1 → decode cc pc = .ok (.lreturn, 1) → rt = some .long → W p l e R s m args below meth c H locs (n - n0 + gx) (ai_cs n - ai_cs n0 + gy) Qf (F0 m pc ls [ai_cv ad xa r])) ∧
    (r.1 = 2 → decode cc pc = .ok (.areturn, 1) → ((∃ C, rt = some (.object C)) ∨ ∃ C, rt = some (.array C)) → W p l e R s m args below meth c H locs (n - n0 + gx) (ai_cs n - ai_cs n0 + gy) Qf (F0 m pc ls [ai_cv ad xa r])) ∧
    (r = (9, 0) → decode cc pc = .ok (.return_, 1) → rt = none → W p l e R s m args below meth c H locs (n - n0 + gx) (ai_cs n - ai_cs n0 + gy) Qf (F0 m pc ls []))
theorem inv_ret0 {S k} (h : ai_ret0 S k) : ∃ x, S = [(0, x)] ∧ k x := by
  unfold ai_ret0 at h; split at h <;> first | exact ⟨_, rfl, h⟩ | exact h.elim
theorem inv_ret1 {S k} (h : ai_ret1 S k) : ∃ x, S = [(1, x)] ∧ k x := by
  unfold ai_ret1 at h; split at h <;> first | exact ⟨_, rfl, h⟩ | exact h.elim
theorem inv_ret2 {S k} (h : ai_ret2 S k) : ∃ x, S = [(2, x)] ∧ k x := by
  unfold ai_ret2 at h; split at h <;> first | exact ⟨_, rfl, h⟩ | exact h.elim
theorem inv_ret9 {S k} (h : ai_ret9 S k) : S = [] ∧ k := by
  unfold ai_ret9 at h; split at h <;> first | exact ⟨rfl, h⟩ | exact h.elim
theorem sn_step (F : ai_F p s m args meth c cc nL own isInit D cid B0 xa E2 Kc) (hX : ai_XS X B0 xa s) (hR : ai_RM R fr lo n0 lim gx gy) (hcal : ∀ (a : Nat) (i : ai_I), ai_nth cal a = some i → ai_S E2 i (orc a) ∧ ai_CW i) (hfl : l.flags = flags0) (hRH : ai_RH p l e R s m args below meth c D cid B0 xa n0 lim ad0 gx gy Qf cc rt Q) {ci : CI} (g : ai_chk own cc nL Kc cal fr lo isInit rt ci = true) {L : List (Option AV)} {S : List AV} {n : Nat} {hr h : HP} (q : ai_st orc lim X ci (ai_PS p l e R s m args below meth c D cid B0 xa nL n0 lim ad0 gx gy Qf) L S n hr h Q) : ai_PS p l e R s m args below meth c D cid B0 xa nL n0 lim ad0 gx gy Qf ci.1 L S n hr h := by
  obtain ⟨pc, ins, len, a, b, d, t, z, tl⟩ := ci
  cases ins with
  | iload i => exact s_iload F g q
  | iload_n i => exact s_iload_n F g q
  | lload i => exact s_lload F g q
  | lload_n i => exact s_lload_n F g q
  | aload i => exact s_aload F g q
  | aload_n i => exact s_aload_n F g q
  | istore i => exact s_istore F g q
  | istore_n i => exact s_istore_n F g q
  | astore i => exact s_astore F g q
  | astore_n i => exact s_astore_n F g q
  | lstore i => exact s_lstore F g q
  | lstore_n i => exact s_lstore_n F g q
  | iinc i v => exact s_iinc F g q
  | iconst v => exact s_iconst F g q
  | bipush v => exact s_bipush F g q
  | sipush v => exact s_sipush F g q
  | ldc i => exact s_ldc F g q
  | ldc_w i => exact s_ldc_w F g q
  | ldc2_w i => exact s_ldc2 F g q
  | lconst i => exact s_lconst F g q
  | iadd => exact s_iadd F g q
  | isub => exact s_isub F g q
  | imul => exact s_imul F g q
  | idiv => exact s_idiv F g q
  | irem => exact s_irem F g q
  | iand => exact s_iand F g q
  | ior => exact s_ior F g q
  | ixor => exact s_ixor F g q
  | ishl => exact s_ishl F g q
  | ishr => exact s_ishr F g q
  | iushr => exact s_iushr F g q
  | i2l => exact s_i2l F g q
  | i2b => exact s_i2b F g q
  | ladd => exact s_ladd F g q
  | lsub => exact s_lsub F g q
  | lmul => exact s_lmul F g q
  | land => exact s_land F g q
  | lor => exact s_lor F g q
  | lxor => exact s_lxor F g q
  | lshl => exact s_lshl F g q
  | lcmp => exact s_lcmp F g q
  | if_icmp cnd off => exact s_if_icmp F g q
  | ifCond cnd off => exact s_ifCond F g q
  | goto off => exact s_goto F g q
  | tableswitch dflt lw hi offs => exact s_tsw F g q
  | lookupswitch dflt ps => exact s_lsw F g q
  | dup => exact s_dup F g q
  | dup2 => exact s_dup2 F g q
  | pop => exact s_pop F g q
  | getfield idx => exact s_getfield F g q
  | putfield idx => exact s_putfield F g q
  | iaload => exact s_iaload F hX g q
  | laload => exact s_laload F g q
  | baload => exact s_baload F g q
  | aaload => exact s_aaload F g q
  | iastore => exact s_iastore F g q
  | lastore => exact s_lastore F g q
  | bastore => exact s_bastore F g q
  | aastore => exact s_aastore F g q
  | arraylength => exact s_arraylength F hX g q
  | new idx => exact s_new F hR g q
  | newarray ty => exact s_newarray F hR g q
  | anewarray idx => exact s_anewarray F hR g q
  | getstatic idx => exact s_getstatic F g q
  | invokevirtual idx => exact s_invokevirtual F hR hcal hfl g q
  | invokespecial idx => exact s_invokespecial F hR hcal hfl g q
  | invokestatic idx => exact s_invokestatic F hR hcal hfl g q
  | ireturn =>
    simp only [ai_chk, Bool.and_eq_true, decide_eq_true_eq, Bool.or_eq_true] at g
    obtain ⟨hd, rfl, ⟨rfl, hrt⟩ | ⟨rfl, hrt⟩⟩ := g
    · obtain ⟨x, rfl, hx, hq⟩ := inv_ret0 (show ai_ret0 S fun x => (x = 0 ∨ x = 1) ∧ Q (0, x) n hr h from q)
      intro ad H locs ls h1 h2 h3 h4 h5 h6 h7 h8 h9
      exact (hRH (0, x) n hr h ad H locs ls pc hq h1 h2 h3 h4 h5 (SI_cons.mp h8).1 h9).1 rfl hd (Or.inr ⟨hrt, hx⟩)
    · obtain ⟨x, rfl, hq⟩ := inv_ret0 (show ai_ret0 S fun x => Q (0, x) n hr h from q)
      intro ad H locs ls h1 h2 h3 h4 h5 h6 h7 h8 h9
      exact (hRH (0, x) n hr h ad H locs ls pc hq h1 h2 h3 h4 h5 (SI_cons.mp h8).1 h9).1 rfl hd (Or.inl hrt)
  | lreturn =>
    simp only [ai_chk, Bool.and_eq_true, decide_eq_true_eq, Bool.or_eq_true] at g
    obtain ⟨hd, rfl, hrt⟩ := g
    obtain ⟨x, rfl, hq⟩ := inv_ret1 (show ai_ret1 S fun x => Q (1, x) n hr h from q)
    intro ad H locs ls h1 h2 h3 h4 h5 h6 h7 h8 h9
    exact (hRH (1, x) n hr h ad H locs ls pc hq h1 h2 h3 h4 h5 (SI_cons.mp h8).1 h9).2.1 rfl hd hrt
  | areturn =>
    simp only [ai_chk, Bool.and_eq_true, decide_eq_true_eq, Bool.or_eq_true] at g
    obtain ⟨hd, rfl, hrt⟩ := g
    obtain ⟨x, rfl, hq⟩ := inv_ret2 (show ai_ret2 S fun x => Q (2, x) n hr h from q)
    intro ad H locs ls h1 h2 h3 h4 h5 h6 h7 h8 h9
    refine (hRH (2, x) n hr h ad H locs ls pc hq h1 h2 h3 h4 h5 (SI_cons.mp h8).1 h9).2.2.1 rfl hd ?_
    split at hrt
    · exact Or.inl ⟨_, rfl⟩
    · exact Or.inr ⟨_, rfl⟩
    · cases hrt
  | return_ =>
    simp only [ai_chk, Bool.and_eq_true, decide_eq_true_eq, Bool.or_eq_true] at g
    obtain ⟨hd, rfl, hrt⟩ := g
    obtain ⟨rfl, hq⟩ := inv_ret9 (show ai_ret9 S (Q (9, 0) n hr h) from q)
    intro ad H locs ls h1 h2 h3 h4 h5 h6 h7 h8 h9
    exact (hRH (9, 0) n hr h ad H locs ls pc hq h1 h2 h3 h4 h5 trivial h9).2.2.2 rfl hd hrt
  | _ => simp [ai_chk] at g
/-- from a start of the small machine that comes to its end -/
theorem sn_wp (F : ai_F p s m args meth c cc nL own isInit D cid B0 xa E2 Kc) (hX : ai_XS X B0 xa s) (hR : ai_RM R fr lo n0 lim gx gy) (hcal : ∀ (a : Nat) (i : ai_I), ai_nth cal a = some i → ai_S E2 i (orc a) ∧ ai_CW i) (hfl : l.flags = flags0) (hRH : ai_RH p l e R s m args below meth c D cid B0 xa n0 lim ad0 gx gy Qf cc rt Q) {code : ai_C} (hcode : ai_all own cc nL Kc cal fr lo isInit rt code = true) {pc : Nat} {L : List (Option AV)} {S : List AV} {n : Nat} {hr h : HP} (q : ai_wp orc lim X code Q pc L S n hr h) : ai_PS p l e R s m args below meth c D cid B0 xa nL n0 lim ad0 gx gy Qf pc L S n hr h := by
  refine q (ai_PS p l e R s m args below meth c D cid B0 xa nL n0 lim ad0 gx gy Qf) ?_ ?_
  · intro pc L S n hr h g
    unfold ai_step at g
    split at g
    · rename_i ci hci
      obtain ⟨k1, k2⟩ := at_chk hcode hci
      have := sn_step F hX hR hcal hfl hRH k1 g
      rwa [k2] at this
    · exact g.elim
  · intro pc L' L S n hr h hf g ad H locs ls h1 h2 h3 h4 h5 h6 h7 h8 h9
    exact g ad H locs ls h1 h2 h3 h4 h5 (LR_fg h6 hf) (LI_fg h7 hf) h8 h9
/-- the same up to places where something else goes on -/
theorem sn_run (F : ai_F p s m args meth c cc nL own isInit D cid B0 xa E2 Kc) (hX : ai_XS X B0 xa s) (hR : ai_RM R fr lo n0 lim gx gy) (hcal : ∀ (a : Nat) (i : ai_I), ai_nth cal a = some i → ai_S E2 i (orc a) ∧ ai_CW i) (hfl : l.flags = flags0) (hRH : ai_RH p l e R s m args below meth c D cid B0 xa n0 lim ad0 gx gy Qf cc rt Q) (ho : ∀ a, ai_mono (orc a)) {code : ai_C} (hcode : ai_all own cc nL Kc cal fr lo isInit rt code = true) {cut : List (Nat × List Bool)} : ∀ (f pc : Nat) (L : List (Option AV)) (S : List AV) (n : Nat) (hr h : HP), ai_run orc lim X code cut Q (ai_PS p l e R s m args below meth c D cid B0 xa nL n0 lim ad0 gx gy Qf) f pc L S n hr h → ai_PS p l e R s m args below meth c D cid B0 xa nL n0 lim ad0 gx gy Qf pc L S n hr h
  | 0, _, _, _, _, _, _, q => q
  | f + 1, pc, L, S, n, hr, h, q => by
    have q2 := mo_step (K' := ai_PS p l e R s m args below meth c D cid B0 xa nL n0 lim ad0 gx gy Qf) (Q' := Q) ho (fun pc L S n hr h g => by
      split at g
      · intro ad H locs ls h1 h2 h3 h4 h5 h6 h7 h8 h9
        exact g ad H locs ls h1 h2 h3 h4 h5 (LR_fg h6 (fg_mask _ _)) (LI_fg h7 (fg_mask _ _)) h8 h9
      · exact sn_run F hX hR hcal hfl hRH ho hcode f _ _ _ _ _ _ g) (fun _ _ _ _ z => z) q
    unfold ai_step at q2
    split at q2
    · rename_i ci hci
      obtain ⟨k1, k2⟩ := at_chk hcode hci
      have := sn_step F hX hR hcal hfl hRH k1 q2
      rwa [k2] at this
    · exact q2.elim
theorem ent_sl {ad xa : Nat → Nat} : ∀ (A : List AV) (i : Nat) (v : AV), ai_nth (ai_ent A) i = some (some v) → (lg_sl (A.map (ai_cv ad xa)))[i]? = some (.val (ai_cv ad xa v)) ∧ v ∈ A
  | [], i, v, h => by simp [ai_ent, ai_nth] at h
  | (t, x) :: A, i, v, h => by
    by_cases ht : t = 1
    · subst ht
      have e : lg_sl (((1, x) :: A).map (ai_cv ad xa)) = .val (ai_cv ad xa (1, x)) :: .second :: lg_sl (A.map (ai_cv ad xa)) := by
        simp [lg_sl, ai_cv, Value.category]
      rw [e]
      rw [show ai_ent ((1, x) :: A) = some (1, x) :: none :: ai_ent A from rfl] at h
      match i, h with
      | 0, h => simp [ai_nth] at h; subst h; simp
      | 1, h => simp [ai_nth] at h
      | i + 2, h => obtain ⟨h1, h2⟩ := ent_sl A i v h; exact ⟨by simpa using h1, List.mem_cons_of_mem _ h2⟩
    · have e : lg_sl (((t, x) :: A).map (ai_cv ad xa)) = .val (ai_cv ad xa (t, x)) :: lg_sl (A.map (ai_cv ad xa)) := by
        have : ¬ (ai_cv ad xa (t, x)).category = 2 := fun z => ht (cat_cv.mp z)
        simp [lg_sl, this]
      rw [e]
      have e2 : ai_ent ((t, x) :: A) = some (t, x) :: ai_ent A := by
        match t, ht with
        | 0, _ => rfl
        | 1, ht => exact (ht rfl).elim
        | t + 2, _ => rfl
      rw [e2] at h
      match i, h with
      | 0, h => simp [ai_nth] at h; subst h; simp
      | i + 1, h => obtain ⟨h1, h2⟩ := ent_sl A i v h; exact ⟨by simpa using h1, List.mem_cons_of_mem _ h2⟩
theorem ent_len {ad xa : Nat → Nat} : ∀ (A : List AV), (lg_sl (A.map (ai_cv ad xa))).length = (ai_ent A).length
  | [] => rfl
  | (t, x) :: A => by
    by_cases ht : t = 1
    · subst ht
      have e : lg_sl (((1, x) :: A).map (ai_cv ad xa)) = .val (ai_cv ad xa (1, x)) :: .second :: lg_sl (A.map (ai_cv ad xa)) := by
        simp [lg_sl, ai_cv, Value.category]
      rw [e, show ai_ent ((1, x) :: A) = some (1, x) :: none :: ai_ent A from rfl]
      simp [ent_len A]
    · have e : lg_sl (((t, x) :: A).map (ai_cv ad xa)) = .val (ai_cv ad xa (t, x)) :: lg_sl (A.map (ai_cv ad xa)) := by
        have : ¬ (ai_cv ad xa (t, x)).category = 2 := fun z => ht (cat_cv.mp z)
        simp [lg_sl, this]
      have e2 : ai_ent ((t, x) :: A) = some (t, x) :: ai_ent A := by
        match t, ht with
        | 0, _ => rfl
        | 1, ht => exact (ht rfl).elim
        | t + 2, _ => rfl
      rw [e, e2]
      simp [ent_len A]
theorem pad_nth {L : List (Option AV)} {k i : Nat} {v : AV} (h : ai_nth (ai_pad k L) i = some (some v)) : ai_nth L i = some (some v) := by
  rw [nth_eq] at h ⊢
  unfold ai_pad at h
  by_cases hi : i < L.length
  · rwa [List.getElem?_append_left hi] at h
  · rw [List.getElem?_append_right (by omega)] at h
    obtain ⟨h1, h2⟩ := List.getElem?_eq_some_iff.mp h
    simp at h2
theorem LR_ent {ad xa : Nat → Nat} {A : List AV} {nL : Nat} (hl : (ai_ent A).length ≤ nL) : ai_LR ad xa ((lg_sl (A.map (ai_cv ad xa)) ++ List.replicate (nL - (lg_sl (A.map (ai_cv ad xa))).length) Slot.unset).toArray) nL (ai_pad nL (ai_ent A)) := by
  have hk := lv_entry (A.map (ai_cv ad xa)) (n := nL) (by rw [ent_len]; exact hl)
  refine ⟨by simp [ai_pad]; omega, hk.1, hk.2.1, fun i v hv => ?_⟩
  have h1 := (ent_sl (ad := ad) (xa := xa) A i v (pad_nth hv)).1
  have hlt := (List.getElem?_eq_some_iff.mp h1).1
  rw [List.getElem?_toArray, List.getElem?_append_left hlt]
  exact h1
theorem LI_ent {n : Nat} {A : List AV} {k : Nat} (h : ai_SI n A) : ai_LI n (ai_pad k (ai_ent A)) := fun i v hv => h v (ent_sl (ad := id) (xa := id) A i v (pad_nth hv)).2
/-- a method's contract out of its code -/
theorem snd_M {y : MethodName} {tag al na kind cls : Nat} {code : ai_C} (hplain : plainName y.cls = true) (hown : y.cls = own) (hini : isInit = true → y.name = "<init>") (hcode : ai_all own cc nL Kc cal fr lo isInit rt code = true) (hKc : ∀ w ∈ Kc, w ∈ ai_gw) (htag : tag = ai_rtag rt) (htag8 : tag ≠ 8) (hcal : ∀ (a : Nat) (i : ai_I), ai_nth cal a = some i → ai_S E2 i (orc a) ∧ ai_CW i) : ai_S E2 (y, cc, nL, rt, tag, fr, lo, al, na, kind, cls) (ai_M orc al nL code) := by
  intro l D cid B0 xa ad A n hr h Q hfl hE2 hM hSI hIH
  obtain ⟨hlen, hM⟩ := hM
  refine Met.ofW (cc := cc) (maxL := nL) (ret := rt) hplain rfl ?_
  intro p e s m margs below meth c s₁ B hml hv
  obtain ⟨rfl, hB0, hW, hK, hEX⟩ := hv
  have hts := atoms_spec (ws := Jvm.Cond.code y cc nL rt :: ai_gw) B.pre
  have hownc : s.vm.findClass y.cls = some m.cls := findClass_of_methodNamed B.named
  have hlocks := B.notSynchronized
  have hin : meth.name = y.name := (name_of_methodNamed B.named B.method).1
  have F : ai_F p s m (A.map (ai_cv ad xa)).toArray meth c cc nL own isInit D cid B0 xa E2 Kc := ⟨B.exec, B.bytes, hml, by rw [← hown]; exact hownc, fun w hw => hts w (List.mem_cons_of_mem _ hw), fun z => hin.trans (hini z), hK, hB0, hEX, hE2, hKc⟩
  have hR : ai_RM ({ frames := fr, cells := al, slots := ai_cs (n + al) - ai_cs n, locals := lo } : Room) fr lo n (n + al) 0 0 := ⟨Nat.le_refl _, Nat.le_refl _, by show n + al - n + 0 ≤ al; omega, Nat.le_refl _⟩
  have bw : ∀ (n' : Nat) (hr' h' : HP) (ad' : Nat → Nat) (H : Heap) (t : State), n' = n + al → (∀ q, q < n → ad' q = ad q) → ai_W D cid B0 ad' n' hr' h' H → ai_IH n' hr' h' → t.heap = H → ai_Bw D cid B0 ad n al (n', hr', h', ad') t := fun n' hr' h' ad' H t e1 e2 e3 e4 e5 => ⟨e1, e2, e4, by rw [e5]; exact e3⟩
  have key := sn_wp (gx := 0) (gy := 0) (Qf := MQ below (ai_Qc tag D cid B0 ad n al Q) (A.map (ai_cv ad xa)).toArray s al (ai_cs (n + al) - ai_cs n) (fun q : Nat => B0 ≤ q)) (X := none) (n0 := n) (ad0 := ad) (l := l) (e := e) (below := below) F trivial hR hcal hfl ?_ hcode hM
  · have := key ad s.heap [] ((lg_sl (A.map (ai_cv ad xa)) ++ List.replicate (nL - (lg_sl (A.map (ai_cv ad xa))).length) Slot.unset).toArray) (Nat.le_refl _) (by omega) (fun _ _ => rfl) hW hIH (LR_ent hlen) (LI_ent hSI) (fun v hv => by cases hv) va_S.rf
    rw [lg_entry_eq]
    simp only [Nat.sub_self, Nat.add_zero] at this
    exact this
  · intro r n' hr' h' ad' H locs ls pc hq h1 h2 h3 h4 h5 h6 h9
    obtain ⟨hn, hq⟩ := hq
    have hcells : n' - n = al := by omega
    subst hn
    simp only [Nat.add_zero]
    rw [show n + al - n = al by omega]
    refine ⟨fun hr0 hd hrt => ?_, fun hr0 hd hrt => ?_, fun hr0 hd hrt => ?_, fun hr0 hd hrt => ?_⟩
    · obtain ⟨tg, x⟩ := r
      simp only at hr0
      subst hr0
      have hx : i32 x := h6
      have post : ∀ t : State, t.heap = H → va_Qi (fun r (u : ai_U) => Q (0, r.toInt) u.1 u.2.1 u.2.2.1) (ai_Bw D cid B0 ad n al) (fun q : Nat => B0 ≤ q) (A.map (ai_cv ad xa)).toArray s (.returned (some (.int (Int32.ofInt x)))) t := fun t ht => ⟨⟨Int32.ofInt x, (n + al, hr', h', ad'), rfl, (show Q (0, (Int32.ofInt x).toInt) (n + al) hr' h' by rw [of_i32 hx]; exact hq), bw _ _ _ _ H t rfl h3 h4 h5 ht⟩, h9.F ht⟩
      rcases hrt with hrt | ⟨hrt, hx01⟩
      · subst hrt
        refine W.zret (ty := .int) B.exec B.bytes B.returns rfl (fun t ht _ => ?_) h9.2.2 hd
        rw [show tag = 0 from htag]
        exact post t ht
      · subst hrt
        refine W.zret (ty := .boolean) B.exec B.bytes B.returns (by simp only at hx01; rcases hx01 with rfl | rfl <;> rfl) (fun t ht _ => ?_) h9.2.2 hd
        rw [show tag = 3 from htag]
        exact post t ht
    · obtain ⟨tg, x⟩ := r
      simp only at hr0
      subst hr0
      subst hrt
      have hx : i64 x := h6
      refine W.lret B.exec B.bytes B.returns (fun t ht _ => ?_) h9.2.2 hd
      rw [show tag = 1 from htag]
      exact ⟨⟨Int64.ofInt x, (n + al, hr', h', ad'), rfl, (show Q (1, (Int64.ofInt x).toInt) (n + al) hr' h' by rw [of_i64 hx]; exact hq), bw _ _ _ _ H t rfl h3 h4 h5 ht⟩, h9.F ht⟩
    · obtain ⟨tg, x⟩ := r
      simp only at hr0
      subst hr0
      have hx : -1 ≤ x ∧ x < ((n + al : Nat) : Int) := h6
      have htag2 : tag = 2 := by
        rw [htag]
        rcases hrt with ⟨C, rfl⟩ | ⟨C, rfl⟩ <;> rfl
      obtain ⟨rt', hrt'⟩ : ∃ rt', rt = some rt' := by
        rcases hrt with ⟨C, h⟩ | ⟨C, h⟩ <;> exact ⟨_, h⟩
      refine W.aret (rt := rt') B.exec B.bytes (by rw [B.returns, hrt']) ?_ ?_ (fun t ht _ => ?_) h9.2.2 hd
      · rcases hrt with ⟨C, h⟩ | ⟨C, h⟩
        · rw [h] at hrt'; cases hrt'; exact Or.inl ⟨_, rfl⟩
        · rw [h] at hrt'; cases hrt'; exact Or.inr ⟨_, rfl⟩
      · show va_rf (ai_ro ad' x) = .null ∨ ∃ a, va_rf (ai_ro ad' x) = .ref a
        cases ai_ro ad' x with
        | none => exact Or.inl rfl
        | some a => exact Or.inr ⟨a, rfl⟩
      · rw [htag2]
        exact ⟨⟨ai_ro ad' x, (n + al, hr', h', ad'), rfl, ⟨x, hx.1, hx.2, rfl, hq⟩, bw _ _ _ _ H t rfl h3 h4 h5 ht⟩, h9.F ht⟩
    · subst hr0
      subst hrt
      refine W.vret B.exec B.bytes B.returns (fun t ht _ => ?_) h9.2.2 hd
      rw [show tag = 9 from htag]
      exact ⟨⟨(n + al, hr', h', ad'), rfl, hq, bw _ _ _ _ H t rfl h3 h4 h5 ht⟩, h9.F ht⟩
end SND8
end
section
/-! the words of the tables that the code of each class links, by their places -/
def ai_tb (k : Nat) : List Jvm.Cond := match k with
  | 1 => tables_1_1
  | 2 => tables_1_2
  | 3 => tables_1_3
  | 4 => tables_1_4
  | 5 => tables_1_5
  | 6 => tables_1_6
  | 7 => tables_1_7
  | 8 => tables_1_8
  | 9 => tables_1_9
  | _ => tables_1_10
theorem tb_mem {k : Nat} {w : Jvm.Cond} (h : w ∈ ai_tb k) : w ∈ lw_tbl := by
  refine List.mem_append_right _ ?_
  unfold tables_1
  simp only [List.mem_append]
  unfold ai_tb at h
  split at h <;> simp [h]
def ai_tk (l : List (Jvm.Cond × Nat × Nat)) : Bool := l.all fun q => decide (ai_nth (ai_tb q.2.1) q.2.2 = some q.1) && ai_gd q.1
theorem tk_mem {l : List (Jvm.Cond × Nat × Nat)} (h : ai_tk l = true) : ∀ w ∈ l.map (fun q => q.1), w ∈ ai_gw := by
  intro w hw
  obtain ⟨q, hq, rfl⟩ := List.mem_map.mp hw
  have h1 := List.all_eq_true.mp h q hq
  simp only [Bool.and_eq_true, decide_eq_true_eq] at h1
  rw [nth_eq] at h1
  exact gw_mem (tb_mem (List.mem_of_getElem? h1.1)) h1.2
def kt_P : List (Jvm.Cond × Nat × Nat) := [
  ((Jvm.Cond.fieldLink "SuiteBench$Plan" (18 : Nat) "SuiteBench$Plan" "arcs" "[I"), 1, 58),
  ((Jvm.Cond.methodLink "SuiteBench$Plan" (27 : Nat) ({ cls := "java/util/Arrays", name := "fill", desc := "([II)V" } : Jvm.MethodName)), 1, 51),
  ((Jvm.Cond.fieldLink "SuiteBench$Plan" (21 : Nat) "SuiteBench$Plan" "twists" "[I"), 1, 61),
  ((Jvm.Cond.fieldLink "SuiteBench$Plan" (33 : Nat) "SuiteBench$Plan" "states" "I"), 1, 64),
  ((Jvm.Cond.fieldLink "SuiteBench$Plan" (37 : Nat) "SuiteBench$Plan" "more" "I"), 1, 67),
  ((Jvm.Cond.fieldLink "SuiteBench$Plan" (40 : Nat) "SuiteBench$Plan" "inputs" "I"), 1, 70),
  ((Jvm.Cond.fieldLink "SuiteBench$Plan" (43 : Nat) "SuiteBench$Plan" "extra" "I"), 1, 73),
  ((Jvm.Cond.fieldLink "SuiteBench$Plan" (46 : Nat) "SuiteBench$Plan" "seed" "I"), 1, 76),
  ((Jvm.Cond.fieldLink "SuiteBench$Plan" (49 : Nat) "SuiteBench$Plan" "lines" "I"), 1, 79),
  ((Jvm.Cond.fieldLink "SuiteBench$Plan" (52 : Nat) "SuiteBench$Plan" "extraTold" "Z"), 1, 82),
  ((Jvm.Cond.fieldLink "SuiteBench$Plan" (56 : Nat) "SuiteBench$Plan" "seedTold" "Z"), 1, 84),
  ((Jvm.Cond.methodLink "SuiteBench$Plan" (3 : Nat) ({ cls := "java/lang/Object", name := "<init>", desc := "()V" } : Jvm.MethodName)), 1, 46),
  ((Jvm.Cond.arrayClass Jvm.ClassFile.FieldType.int), 1, 112),
  ((Jvm.Cond.fieldLink "SuiteBench$Plan" (9 : Nat) "SuiteBench$Plan" "placeNames" "[I"), 1, 54),
  ((Jvm.Cond.fieldLink "SuiteBench$Plan" (15 : Nat) "SuiteBench$Plan" "inputNames" "[I"), 1, 56),
  ((Jvm.Cond.methodLink "SuiteBench$Plan" (24 : Nat) ({ cls := "SuiteBench$Plan", name := "clear", desc := "()V" } : Jvm.MethodName)), 1, 47),
  ((Jvm.Cond.methodLink "SuiteBench$Plan" (59 : Nat) ({ cls := "SuiteBench$Plan", name := "placeNamed", desc := "(I)I" } : Jvm.MethodName)), 4, 50),
  ((Jvm.Cond.methodLink "SuiteBench$Plan" (63 : Nat) ({ cls := "SuiteBench$Plan", name := "inputNamed", desc := "(I)I" } : Jvm.MethodName)), 4, 54)]
def kc_P : List Jvm.Cond := [
  (Jvm.Cond.fieldLink "SuiteBench$Plan" (18 : Nat) "SuiteBench$Plan" "arcs" "[I"),
  (Jvm.Cond.methodLink "SuiteBench$Plan" (27 : Nat) ({ cls := "java/util/Arrays", name := "fill", desc := "([II)V" } : Jvm.MethodName)),
  (Jvm.Cond.fieldLink "SuiteBench$Plan" (21 : Nat) "SuiteBench$Plan" "twists" "[I"),
  (Jvm.Cond.fieldLink "SuiteBench$Plan" (33 : Nat) "SuiteBench$Plan" "states" "I"),
  (Jvm.Cond.fieldLink "SuiteBench$Plan" (37 : Nat) "SuiteBench$Plan" "more" "I"),
  (Jvm.Cond.fieldLink "SuiteBench$Plan" (40 : Nat) "SuiteBench$Plan" "inputs" "I"),
  (Jvm.Cond.fieldLink "SuiteBench$Plan" (43 : Nat) "SuiteBench$Plan" "extra" "I"),
  (Jvm.Cond.fieldLink "SuiteBench$Plan" (46 : Nat) "SuiteBench$Plan" "seed" "I"),
  (Jvm.Cond.fieldLink "SuiteBench$Plan" (49 : Nat) "SuiteBench$Plan" "lines" "I"),
  (Jvm.Cond.fieldLink "SuiteBench$Plan" (52 : Nat) "SuiteBench$Plan" "extraTold" "Z"),
  (Jvm.Cond.fieldLink "SuiteBench$Plan" (56 : Nat) "SuiteBench$Plan" "seedTold" "Z"),
  (Jvm.Cond.methodLink "SuiteBench$Plan" (3 : Nat) ({ cls := "java/lang/Object", name := "<init>", desc := "()V" } : Jvm.MethodName)),
  (Jvm.Cond.arrayClass Jvm.ClassFile.FieldType.int),
  (Jvm.Cond.fieldLink "SuiteBench$Plan" (9 : Nat) "SuiteBench$Plan" "placeNames" "[I"),
  (Jvm.Cond.fieldLink "SuiteBench$Plan" (15 : Nat) "SuiteBench$Plan" "inputNames" "[I"),
  (Jvm.Cond.methodLink "SuiteBench$Plan" (24 : Nat) ({ cls := "SuiteBench$Plan", name := "clear", desc := "()V" } : Jvm.MethodName)),
  (Jvm.Cond.methodLink "SuiteBench$Plan" (59 : Nat) ({ cls := "SuiteBench$Plan", name := "placeNamed", desc := "(I)I" } : Jvm.MethodName)),
  (Jvm.Cond.methodLink "SuiteBench$Plan" (63 : Nat) ({ cls := "SuiteBench$Plan", name := "inputNamed", desc := "(I)I" } : Jvm.MethodName))]
theorem kc_P_ok : ∀ w ∈ kc_P, w ∈ ai_gw := by
  have h : kc_P = kt_P.map (fun q => q.1) := rfl
  rw [h]
  exact tk_mem (by decide +kernel)
def kt_R : List (Jvm.Cond × Nat × Nat) := [
  ((Jvm.Cond.methodLink "SuiteBench$Reader" (3 : Nat) ({ cls := "java/lang/Object", name := "<init>", desc := "()V" } : Jvm.MethodName)), 1, 40),
  ((Jvm.Cond.arrayClass Jvm.ClassFile.FieldType.byte), 1, 111),
  ((Jvm.Cond.fieldLink "SuiteBench$Reader" (9 : Nat) "SuiteBench$Reader" "tape" "[B"), 1, 113),
  ((Jvm.Cond.classLink "SuiteBench$Reader" (15 : Nat) "SuiteBench$Plan"), 1, 41),
  ((Jvm.Cond.instantiable "SuiteBench$Plan" (12 : Nat)), 1, 42),
  ((Jvm.Cond.initialized "SuiteBench$Plan"), 1, 3),
  ((Jvm.Cond.methodLink "SuiteBench$Reader" (17 : Nat) ({ cls := "SuiteBench$Plan", name := "<init>", desc := "()V" } : Jvm.MethodName)), 1, 43),
  ((Jvm.Cond.fieldLink "SuiteBench$Reader" (18 : Nat) "SuiteBench$Reader" "draft" "LSuiteBench$Plan;"), 1, 114),
  ((Jvm.Cond.fieldLink "SuiteBench$Reader" (22 : Nat) "SuiteBench$Reader" "faultPlace" "I"), 1, 120),
  ((Jvm.Cond.fieldLink "SuiteBench$Reader" (26 : Nat) "SuiteBench$Reader" "taped" "I"), 1, 117),
  ((Jvm.Cond.fieldLink "SuiteBench$Reader" (38 : Nat) "SuiteBench$Reader" "at" "I"), 1, 123),
  ((Jvm.Cond.fieldLink "SuiteBench$Reader" (35 : Nat) "SuiteBench$Reader" "end" "I"), 1, 122),
  ((Jvm.Cond.fieldLink "SuiteBench$Reader" (63 : Nat) "SuiteBench$Reader" "place" "I"), 1, 126),
  ((Jvm.Cond.fieldLink "SuiteBench$Reader" (66 : Nat) "SuiteBench$Reader" "value" "I"), 1, 125),
  ((Jvm.Cond.fieldLink "SuiteBench$Reader" (50 : Nat) "SuiteBench$Reader" "kind" "I"), 1, 124),
  ((Jvm.Cond.constant "SuiteBench$Reader" (69 : Nat) (99999 : Int32)), 4, 15),
  ((Jvm.Cond.fieldLink "SuiteBench$Reader" (41 : Nat) "SuiteBench$Reader" "fault" "I"), 1, 118),
  ((Jvm.Cond.constant "SuiteBench$Reader" (121 : Nat) (658559136 : Int32)), 4, 39),
  ((Jvm.Cond.constant "SuiteBench$Reader" (122 : Nat) (317216384 : Int32)), 4, 40),
  ((Jvm.Cond.constant "SuiteBench$Reader" (123 : Nat) (452531200 : Int32)), 4, 41),
  ((Jvm.Cond.constant "SuiteBench$Reader" (124 : Nat) (52527104 : Int32)), 4, 42),
  ((Jvm.Cond.constant "SuiteBench$Reader" (125 : Nat) (695520896 : Int32)), 4, 43),
  ((Jvm.Cond.constant "SuiteBench$Reader" (126 : Nat) (193611808 : Int32)), 4, 44),
  ((Jvm.Cond.constant "SuiteBench$Reader" (127 : Nat) (642945024 : Int32)), 4, 45),
  ((Jvm.Cond.methodLink "SuiteBench$Reader" (47 : Nat) ({ cls := "SuiteBench$Reader", name := "advance", desc := "()V" } : Jvm.MethodName)), 4, 11),
  ((Jvm.Cond.methodLink "SuiteBench$Reader" (118 : Nat) ({ cls := "SuiteBench$Reader", name := "isOfLanguage", desc := "(I)Z" } : Jvm.MethodName)), 4, 36),
  ((Jvm.Cond.methodLink "SuiteBench$Reader" (70 : Nat) ({ cls := "SuiteBench$Reader", name := "wrong", desc := "(I)Z" } : Jvm.MethodName)), 4, 20),
  ((Jvm.Cond.methodLink "SuiteBench$Reader" (128 : Nat) ({ cls := "SuiteBench$Reader", name := "readName", desc := "()Z" } : Jvm.MethodName)), 4, 32),
  ((Jvm.Cond.methodLink "SuiteBench$Reader" (131 : Nat) ({ cls := "SuiteBench$Plan", name := "isTold", desc := "(I)Z" } : Jvm.MethodName)), 4, 46),
  ((Jvm.Cond.fieldLink "SuiteBench$Reader" (97 : Nat) "SuiteBench$Plan" "more" "I"), 1, 68),
  ((Jvm.Cond.fieldLink "SuiteBench$Reader" (87 : Nat) "SuiteBench$Plan" "states" "I"), 1, 65),
  ((Jvm.Cond.methodLink "SuiteBench$Reader" (106 : Nat) ({ cls := "SuiteBench$Reader", name := "readNewName", desc := "()Z" } : Jvm.MethodName)), 4, 28),
  ((Jvm.Cond.fieldLink "SuiteBench$Reader" (109 : Nat) "SuiteBench$Plan" "placeNames" "[I"), 1, 55),
  ((Jvm.Cond.fieldLink "SuiteBench$Reader" (112 : Nat) "SuiteBench$Plan" "inputs" "I"), 1, 71),
  ((Jvm.Cond.fieldLink "SuiteBench$Reader" (115 : Nat) "SuiteBench$Plan" "inputNames" "[I"), 1, 57),
  ((Jvm.Cond.methodLink "SuiteBench$Reader" (134 : Nat) ({ cls := "SuiteBench$Plan", name := "placeNamed", desc := "(I)I" } : Jvm.MethodName)), 4, 74),
  ((Jvm.Cond.methodLink "SuiteBench$Reader" (138 : Nat) ({ cls := "SuiteBench$Plan", name := "inputNamed", desc := "(I)I" } : Jvm.MethodName)), 4, 79),
  ((Jvm.Cond.methodLink "SuiteBench$Reader" (141 : Nat) ({ cls := "SuiteBench$Reader", name := "readPlace", desc := "(I)I" } : Jvm.MethodName)), 4, 70),
  ((Jvm.Cond.methodLink "SuiteBench$Reader" (144 : Nat) ({ cls := "SuiteBench$Reader", name := "readKnownInput", desc := "()I" } : Jvm.MethodName)), 4, 75),
  ((Jvm.Cond.methodLink "SuiteBench$Reader" (148 : Nat) ({ cls := "SuiteBench$Reader", name := "readNumber", desc := "(I)Z" } : Jvm.MethodName)), 4, 80),
  ((Jvm.Cond.fieldLink "SuiteBench$Reader" (151 : Nat) "SuiteBench$Plan" "extraTold" "Z"), 1, 83),
  ((Jvm.Cond.fieldLink "SuiteBench$Reader" (155 : Nat) "SuiteBench$Plan" "extra" "I"), 1, 74),
  ((Jvm.Cond.fieldLink "SuiteBench$Reader" (158 : Nat) "SuiteBench$Plan" "seedTold" "Z"), 1, 85),
  ((Jvm.Cond.fieldLink "SuiteBench$Reader" (161 : Nat) "SuiteBench$Plan" "seed" "I"), 1, 77),
  ((Jvm.Cond.methodLink "SuiteBench$Reader" (74 : Nat) ({ cls := "SuiteBench$Reader", name := "readState", desc := "()Z" } : Jvm.MethodName)), 4, 24),
  ((Jvm.Cond.methodLink "SuiteBench$Reader" (77 : Nat) ({ cls := "SuiteBench$Reader", name := "readInput", desc := "()Z" } : Jvm.MethodName)), 4, 58),
  ((Jvm.Cond.methodLink "SuiteBench$Reader" (80 : Nat) ({ cls := "SuiteBench$Reader", name := "readMore", desc := "()Z" } : Jvm.MethodName)), 4, 62),
  ((Jvm.Cond.fieldLink "SuiteBench$Reader" (83 : Nat) "SuiteBench$Plan" "arcs" "[I"), 1, 59),
  ((Jvm.Cond.methodLink "SuiteBench$Reader" (90 : Nat) ({ cls := "SuiteBench$Reader", name := "readArc", desc := "([II)Z" } : Jvm.MethodName)), 4, 66),
  ((Jvm.Cond.fieldLink "SuiteBench$Reader" (94 : Nat) "SuiteBench$Plan" "twists" "[I"), 1, 62),
  ((Jvm.Cond.methodLink "SuiteBench$Reader" (100 : Nat) ({ cls := "SuiteBench$Reader", name := "readExtra", desc := "()Z" } : Jvm.MethodName)), 4, 84),
  ((Jvm.Cond.methodLink "SuiteBench$Reader" (103 : Nat) ({ cls := "SuiteBench$Reader", name := "readSeed", desc := "()Z" } : Jvm.MethodName)), 4, 88),
  ((Jvm.Cond.methodLink "SuiteBench$Reader" (29 : Nat) ({ cls := "java/lang/Math", name := "min", desc := "(II)I" } : Jvm.MethodName)), 4, 7),
  ((Jvm.Cond.methodLink "SuiteBench$Reader" (44 : Nat) ({ cls := "SuiteBench$Plan", name := "clear", desc := "()V" } : Jvm.MethodName)), 4, 10),
  ((Jvm.Cond.methodLink "SuiteBench$Reader" (53 : Nat) ({ cls := "SuiteBench$Reader", name := "readLine", desc := "()Z" } : Jvm.MethodName)), 4, 16),
  ((Jvm.Cond.methodLink "SuiteBench$Reader" (57 : Nat) ({ cls := "SuiteBench$Reader", name := "readClose", desc := "()Z" } : Jvm.MethodName)), 4, 92),
  ((Jvm.Cond.fieldLink "SuiteBench$Reader" (60 : Nat) "SuiteBench$Plan" "lines" "I"), 1, 81)]
def kc_R : List Jvm.Cond := [
  (Jvm.Cond.methodLink "SuiteBench$Reader" (3 : Nat) ({ cls := "java/lang/Object", name := "<init>", desc := "()V" } : Jvm.MethodName)),
  (Jvm.Cond.arrayClass Jvm.ClassFile.FieldType.byte),
  (Jvm.Cond.fieldLink "SuiteBench$Reader" (9 : Nat) "SuiteBench$Reader" "tape" "[B"),
  (Jvm.Cond.classLink "SuiteBench$Reader" (15 : Nat) "SuiteBench$Plan"),
  (Jvm.Cond.instantiable "SuiteBench$Plan" (12 : Nat)),
  (Jvm.Cond.initialized "SuiteBench$Plan"),
  (Jvm.Cond.methodLink "SuiteBench$Reader" (17 : Nat) ({ cls := "SuiteBench$Plan", name := "<init>", desc := "()V" } : Jvm.MethodName)),
  (Jvm.Cond.fieldLink "SuiteBench$Reader" (18 : Nat) "SuiteBench$Reader" "draft" "LSuiteBench$Plan;"),
  (Jvm.Cond.fieldLink "SuiteBench$Reader" (22 : Nat) "SuiteBench$Reader" "faultPlace" "I"),
  (Jvm.Cond.fieldLink "SuiteBench$Reader" (26 : Nat) "SuiteBench$Reader" "taped" "I"),
  (Jvm.Cond.fieldLink "SuiteBench$Reader" (38 : Nat) "SuiteBench$Reader" "at" "I"),
  (Jvm.Cond.fieldLink "SuiteBench$Reader" (35 : Nat) "SuiteBench$Reader" "end" "I"),
  (Jvm.Cond.fieldLink "SuiteBench$Reader" (63 : Nat) "SuiteBench$Reader" "place" "I"),
  (Jvm.Cond.fieldLink "SuiteBench$Reader" (66 : Nat) "SuiteBench$Reader" "value" "I"),
  (Jvm.Cond.fieldLink "SuiteBench$Reader" (50 : Nat) "SuiteBench$Reader" "kind" "I"),
  (Jvm.Cond.constant "SuiteBench$Reader" (69 : Nat) (99999 : Int32)),
  (Jvm.Cond.fieldLink "SuiteBench$Reader" (41 : Nat) "SuiteBench$Reader" "fault" "I"),
  (Jvm.Cond.constant "SuiteBench$Reader" (121 : Nat) (658559136 : Int32)),
  (Jvm.Cond.constant "SuiteBench$Reader" (122 : Nat) (317216384 : Int32)),
  (Jvm.Cond.constant "SuiteBench$Reader" (123 : Nat) (452531200 : Int32)),
  (Jvm.Cond.constant "SuiteBench$Reader" (124 : Nat) (52527104 : Int32)),
  (Jvm.Cond.constant "SuiteBench$Reader" (125 : Nat) (695520896 : Int32)),
  (Jvm.Cond.constant "SuiteBench$Reader" (126 : Nat) (193611808 : Int32)),
  (Jvm.Cond.constant "SuiteBench$Reader" (127 : Nat) (642945024 : Int32)),
  (Jvm.Cond.methodLink "SuiteBench$Reader" (47 : Nat) ({ cls := "SuiteBench$Reader", name := "advance", desc := "()V" } : Jvm.MethodName)),
  (Jvm.Cond.methodLink "SuiteBench$Reader" (118 : Nat) ({ cls := "SuiteBench$Reader", name := "isOfLanguage", desc := "(I)Z" } : Jvm.MethodName)),
  (Jvm.Cond.methodLink "SuiteBench$Reader" (70 : Nat) ({ cls := "SuiteBench$Reader", name := "wrong", desc := "(I)Z" } : Jvm.MethodName)),
  (Jvm.Cond.methodLink "SuiteBench$Reader" (128 : Nat) ({ cls := "SuiteBench$Reader", name := "readName", desc := "()Z" } : Jvm.MethodName)),
  (Jvm.Cond.methodLink "SuiteBench$Reader" (131 : Nat) ({ cls := "SuiteBench$Plan", name := "isTold", desc := "(I)Z" } : Jvm.MethodName)),
  (Jvm.Cond.fieldLink "SuiteBench$Reader" (97 : Nat) "SuiteBench$Plan" "more" "I"),
  (Jvm.Cond.fieldLink "SuiteBench$Reader" (87 : Nat) "SuiteBench$Plan" "states" "I"),
  (Jvm.Cond.methodLink "SuiteBench$Reader" (106 : Nat) ({ cls := "SuiteBench$Reader", name := "readNewName", desc := "()Z" } : Jvm.MethodName)),
  (Jvm.Cond.fieldLink "SuiteBench$Reader" (109 : Nat) "SuiteBench$Plan" "placeNames" "[I"),
  (Jvm.Cond.fieldLink "SuiteBench$Reader" (112 : Nat) "SuiteBench$Plan" "inputs" "I"),
  (Jvm.Cond.fieldLink "SuiteBench$Reader" (115 : Nat) "SuiteBench$Plan" "inputNames" "[I"),
  (Jvm.Cond.methodLink "SuiteBench$Reader" (134 : Nat) ({ cls := "SuiteBench$Plan", name := "placeNamed", desc := "(I)I" } : Jvm.MethodName)),
  (Jvm.Cond.methodLink "SuiteBench$Reader" (138 : Nat) ({ cls := "SuiteBench$Plan", name := "inputNamed", desc := "(I)I" } : Jvm.MethodName)),
  (Jvm.Cond.methodLink "SuiteBench$Reader" (141 : Nat) ({ cls := "SuiteBench$Reader", name := "readPlace", desc := "(I)I" } : Jvm.MethodName)),
  (Jvm.Cond.methodLink "SuiteBench$Reader" (144 : Nat) ({ cls := "SuiteBench$Reader", name := "readKnownInput", desc := "()I" } : Jvm.MethodName)),
  (Jvm.Cond.methodLink "SuiteBench$Reader" (148 : Nat) ({ cls := "SuiteBench$Reader", name := "readNumber", desc := "(I)Z" } : Jvm.MethodName)),
  (Jvm.Cond.fieldLink "SuiteBench$Reader" (151 : Nat) "SuiteBench$Plan" "extraTold" "Z"),
  (Jvm.Cond.fieldLink "SuiteBench$Reader" (155 : Nat) "SuiteBench$Plan" "extra" "I"),
  (Jvm.Cond.fieldLink "SuiteBench$Reader" (158 : Nat) "SuiteBench$Plan" "seedTold" "Z"),
  (Jvm.Cond.fieldLink "SuiteBench$Reader" (161 : Nat) "SuiteBench$Plan" "seed" "I"),
  (Jvm.Cond.methodLink "SuiteBench$Reader" (74 : Nat) ({ cls := "SuiteBench$Reader", name := "readState", desc := "()Z" } : Jvm.MethodName)),
  (Jvm.Cond.methodLink "SuiteBench$Reader" (77 : Nat) ({ cls := "SuiteBench$Reader", name := "readInput", desc := "()Z" } : Jvm.MethodName)),
  (Jvm.Cond.methodLink "SuiteBench$Reader" (80 : Nat) ({ cls := "SuiteBench$Reader", name := "readMore", desc := "()Z" } : Jvm.MethodName)),
  (Jvm.Cond.fieldLink "SuiteBench$Reader" (83 : Nat) "SuiteBench$Plan" "arcs" "[I"),
  (Jvm.Cond.methodLink "SuiteBench$Reader" (90 : Nat) ({ cls := "SuiteBench$Reader", name := "readArc", desc := "([II)Z" } : Jvm.MethodName)),
  (Jvm.Cond.fieldLink "SuiteBench$Reader" (94 : Nat) "SuiteBench$Plan" "twists" "[I"),
  (Jvm.Cond.methodLink "SuiteBench$Reader" (100 : Nat) ({ cls := "SuiteBench$Reader", name := "readExtra", desc := "()Z" } : Jvm.MethodName)),
  (Jvm.Cond.methodLink "SuiteBench$Reader" (103 : Nat) ({ cls := "SuiteBench$Reader", name := "readSeed", desc := "()Z" } : Jvm.MethodName)),
  (Jvm.Cond.methodLink "SuiteBench$Reader" (29 : Nat) ({ cls := "java/lang/Math", name := "min", desc := "(II)I" } : Jvm.MethodName)),
  (Jvm.Cond.methodLink "SuiteBench$Reader" (44 : Nat) ({ cls := "SuiteBench$Plan", name := "clear", desc := "()V" } : Jvm.MethodName)),
  (Jvm.Cond.methodLink "SuiteBench$Reader" (53 : Nat) ({ cls := "SuiteBench$Reader", name := "readLine", desc := "()Z" } : Jvm.MethodName)),
  (Jvm.Cond.methodLink "SuiteBench$Reader" (57 : Nat) ({ cls := "SuiteBench$Reader", name := "readClose", desc := "()Z" } : Jvm.MethodName)),
  (Jvm.Cond.fieldLink "SuiteBench$Reader" (60 : Nat) "SuiteBench$Plan" "lines" "I")]
theorem kc_R_ok : ∀ w ∈ kc_R, w ∈ ai_gw := by
  have h : kc_R = kt_R.map (fun q => q.1) := rfl
  rw [h]
  exact tk_mem (by decide +kernel)
def kt_M : List (Jvm.Cond × Nat × Nat) := [
  ((Jvm.Cond.methodLink "SuiteBench$Machine" (3 : Nat) ({ cls := "java/lang/Object", name := "<init>", desc := "()V" } : Jvm.MethodName)), 1, 155),
  ((Jvm.Cond.arrayClass Jvm.ClassFile.FieldType.int), 1, 112),
  ((Jvm.Cond.fieldLink "SuiteBench$Machine" (9 : Nat) "SuiteBench$Machine" "to" "[I"), 1, 156),
  ((Jvm.Cond.fieldLink "SuiteBench$Machine" (15 : Nat) "SuiteBench$Machine" "out" "[I"), 1, 164),
  ((Jvm.Cond.fieldLink "SuiteBench$Machine" (18 : Nat) "SuiteBench$Machine" "places" "I"), 1, 172),
  ((Jvm.Cond.fieldLink "SuiteBench$Machine" (22 : Nat) "SuiteBench$Machine" "inputs" "I"), 1, 180),
  ((Jvm.Cond.methodLinkNest "SuiteBench$Machine" (37 : Nat) ({ cls := "SuiteBench", name := "lengthOf", desc := "(I)I" } : Jvm.MethodName) "SuiteBench"), 3, 138),
  ((Jvm.Cond.methodLinkNest "SuiteBench$Machine" (41 : Nat) ({ cls := "SuiteBench", name := "inputAt", desc := "(II)I" } : Jvm.MethodName) "SuiteBench"), 3, 139),
  ((Jvm.Cond.constantLong "SuiteBench$Machine" (45 : Nat) (10 : Int64)), 3, 142),
  ((Jvm.Cond.methodLink "SuiteBench$Machine" (27 : Nat) ({ cls := "java/lang/System", name := "arraycopy", desc := "(Ljava/lang/Object;ILjava/lang/Object;II)V" } : Jvm.MethodName)), 5, 115),
  ((Jvm.Cond.methodLink "SuiteBench$Machine" (33 : Nat) ({ cls := "SuiteBench$Machine", name := "copyArcs", desc := "(LSuiteBench$Machine;)V" } : Jvm.MethodName)), 5, 111),
  ((Jvm.Cond.methodLink "SuiteBench$Machine" (47 : Nat) ({ cls := "java/lang/Integer", name := "bitCount", desc := "(I)I" } : Jvm.MethodName)), 6, 182)]
def kc_M : List Jvm.Cond := [
  (Jvm.Cond.methodLink "SuiteBench$Machine" (3 : Nat) ({ cls := "java/lang/Object", name := "<init>", desc := "()V" } : Jvm.MethodName)),
  (Jvm.Cond.arrayClass Jvm.ClassFile.FieldType.int),
  (Jvm.Cond.fieldLink "SuiteBench$Machine" (9 : Nat) "SuiteBench$Machine" "to" "[I"),
  (Jvm.Cond.fieldLink "SuiteBench$Machine" (15 : Nat) "SuiteBench$Machine" "out" "[I"),
  (Jvm.Cond.fieldLink "SuiteBench$Machine" (18 : Nat) "SuiteBench$Machine" "places" "I"),
  (Jvm.Cond.fieldLink "SuiteBench$Machine" (22 : Nat) "SuiteBench$Machine" "inputs" "I"),
  (Jvm.Cond.methodLinkNest "SuiteBench$Machine" (37 : Nat) ({ cls := "SuiteBench", name := "lengthOf", desc := "(I)I" } : Jvm.MethodName) "SuiteBench"),
  (Jvm.Cond.methodLinkNest "SuiteBench$Machine" (41 : Nat) ({ cls := "SuiteBench", name := "inputAt", desc := "(II)I" } : Jvm.MethodName) "SuiteBench"),
  (Jvm.Cond.constantLong "SuiteBench$Machine" (45 : Nat) (10 : Int64)),
  (Jvm.Cond.methodLink "SuiteBench$Machine" (27 : Nat) ({ cls := "java/lang/System", name := "arraycopy", desc := "(Ljava/lang/Object;ILjava/lang/Object;II)V" } : Jvm.MethodName)),
  (Jvm.Cond.methodLink "SuiteBench$Machine" (33 : Nat) ({ cls := "SuiteBench$Machine", name := "copyArcs", desc := "(LSuiteBench$Machine;)V" } : Jvm.MethodName)),
  (Jvm.Cond.methodLink "SuiteBench$Machine" (47 : Nat) ({ cls := "java/lang/Integer", name := "bitCount", desc := "(I)I" } : Jvm.MethodName))]
theorem kc_M_ok : ∀ w ∈ kc_M, w ∈ ai_gw := by
  have h : kc_M = kt_M.map (fun q => q.1) := rfl
  rw [h]
  exact tk_mem (by decide +kernel)
def kt_A : List (Jvm.Cond × Nat × Nat) := [
  ((Jvm.Cond.methodLink "SuiteBench$Traits" (3 : Nat) ({ cls := "java/lang/Object", name := "<init>", desc := "()V" } : Jvm.MethodName)), 1, 201),
  ((Jvm.Cond.arrayClass Jvm.ClassFile.FieldType.int), 1, 112),
  ((Jvm.Cond.fieldLink "SuiteBench$Traits" (9 : Nat) "SuiteBench$Traits" "access" "[I"), 1, 203),
  ((Jvm.Cond.fieldLink "SuiteBench$Traits" (15 : Nat) "SuiteBench$Traits" "separators" "[I"), 1, 206),
  ((Jvm.Cond.fieldLink "SuiteBench$Traits" (18 : Nat) "SuiteBench$Traits" "kinds" "[I"), 1, 208),
  ((Jvm.Cond.fieldLink "SuiteBench$Traits" (21 : Nat) "SuiteBench$Traits" "splitters" "[I"), 1, 210),
  ((Jvm.Cond.fieldLink "SuiteBench$Traits" (24 : Nat) "SuiteBench$Traits" "marks" "[I"), 1, 213),
  ((Jvm.Cond.fieldLink "SuiteBench$Traits" (27 : Nat) "SuiteBench$Traits" "markCounts" "[I"), 1, 216),
  ((Jvm.Cond.fieldLink "SuiteBench$Traits" (30 : Nat) "SuiteBench$Traits" "queue" "[I"), 1, 219),
  ((Jvm.Cond.fieldLink "SuiteBench$Traits" (33 : Nat) "SuiteBench$Traits" "meant" "LSuiteBench$Machine;"), 1, 202),
  ((Jvm.Cond.fieldLink "SuiteBench$Traits" (65 : Nat) "SuiteBench$Traits" "top" "I"), 1, 229),
  ((Jvm.Cond.fieldLink "SuiteBench$Traits" (68 : Nat) "SuiteBench$Machine" "out" "[I"), 1, 167),
  ((Jvm.Cond.methodLink "SuiteBench$Traits" (71 : Nat) ({ cls := "java/lang/Math", name := "max", desc := "(II)I" } : Jvm.MethodName)), 3, 95),
  ((Jvm.Cond.fieldLink "SuiteBench$Traits" (62 : Nat) "SuiteBench$Traits" "reached" "I"), 1, 220),
  ((Jvm.Cond.methodLink "SuiteBench$Traits" (77 : Nat) ({ cls := "java/util/Arrays", name := "fill", desc := "([II)V" } : Jvm.MethodName)), 3, 102),
  ((Jvm.Cond.fieldLink "SuiteBench$Traits" (52 : Nat) "SuiteBench$Machine" "places" "I"), 1, 174),
  ((Jvm.Cond.fieldLink "SuiteBench$Traits" (83 : Nat) "SuiteBench$Machine" "inputs" "I"), 1, 184),
  ((Jvm.Cond.fieldLink "SuiteBench$Traits" (86 : Nat) "SuiteBench$Machine" "to" "[I"), 1, 160),
  ((Jvm.Cond.methodLink "SuiteBench$Traits" (89 : Nat) ({ cls := "SuiteBench$Traits", name := "isReached", desc := "(I)Z" } : Jvm.MethodName)), 3, 103),
  ((Jvm.Cond.methodLinkNest "SuiteBench$Traits" (101 : Nat) ({ cls := "SuiteBench", name := "lengthOf", desc := "(I)I" } : Jvm.MethodName) "SuiteBench"), 3, 119),
  ((Jvm.Cond.methodLink "SuiteBench$Traits" (93 : Nat) ({ cls := "SuiteBench$Traits", name := "areAlike", desc := "(II)Z" } : Jvm.MethodName)), 3, 111),
  ((Jvm.Cond.methodLink "SuiteBench$Traits" (97 : Nat) ({ cls := "SuiteBench$Traits", name := "separatorOfLength", desc := "(III)I" } : Jvm.MethodName)), 3, 115),
  ((Jvm.Cond.fieldLink "SuiteBench$Traits" (105 : Nat) "SuiteBench$Traits" "kindCount" "I"), 1, 223),
  ((Jvm.Cond.fieldLink "SuiteBench$Traits" (108 : Nat) "SuiteBench$Traits" "splitterCount" "I"), 1, 226),
  ((Jvm.Cond.methodLink "SuiteBench$Traits" (114 : Nat) ({ cls := "SuiteBench$Machine", name := "tell", desc := "(II)J" } : Jvm.MethodName)), 3, 134),
  ((Jvm.Cond.methodLink "SuiteBench$Traits" (111 : Nat) ({ cls := "SuiteBench$Traits", name := "areSplit", desc := "(II)Z" } : Jvm.MethodName)), 3, 130),
  ((Jvm.Cond.methodLink "SuiteBench$Traits" (118 : Nat) ({ cls := "SuiteBench$Traits", name := "addMark", desc := "(II)V" } : Jvm.MethodName)), 3, 147),
  ((Jvm.Cond.methodLink "SuiteBench$Traits" (37 : Nat) ({ cls := "SuiteBench$Traits", name := "learnTop", desc := "()V" } : Jvm.MethodName)), 3, 91),
  ((Jvm.Cond.methodLink "SuiteBench$Traits" (40 : Nat) ({ cls := "SuiteBench$Traits", name := "learnAccess", desc := "()V" } : Jvm.MethodName)), 3, 98),
  ((Jvm.Cond.methodLink "SuiteBench$Traits" (43 : Nat) ({ cls := "SuiteBench$Traits", name := "learnSeparators", desc := "()V" } : Jvm.MethodName)), 3, 107),
  ((Jvm.Cond.methodLink "SuiteBench$Traits" (46 : Nat) ({ cls := "SuiteBench$Traits", name := "learnKinds", desc := "()V" } : Jvm.MethodName)), 3, 122),
  ((Jvm.Cond.methodLink "SuiteBench$Traits" (49 : Nat) ({ cls := "SuiteBench$Traits", name := "learnSplitters", desc := "()V" } : Jvm.MethodName)), 3, 126),
  ((Jvm.Cond.methodLink "SuiteBench$Traits" (58 : Nat) ({ cls := "SuiteBench$Traits", name := "learnMarks", desc := "(I)V" } : Jvm.MethodName)), 3, 143)]
def kc_A : List Jvm.Cond := [
  (Jvm.Cond.methodLink "SuiteBench$Traits" (3 : Nat) ({ cls := "java/lang/Object", name := "<init>", desc := "()V" } : Jvm.MethodName)),
  (Jvm.Cond.arrayClass Jvm.ClassFile.FieldType.int),
  (Jvm.Cond.fieldLink "SuiteBench$Traits" (9 : Nat) "SuiteBench$Traits" "access" "[I"),
  (Jvm.Cond.fieldLink "SuiteBench$Traits" (15 : Nat) "SuiteBench$Traits" "separators" "[I"),
  (Jvm.Cond.fieldLink "SuiteBench$Traits" (18 : Nat) "SuiteBench$Traits" "kinds" "[I"),
  (Jvm.Cond.fieldLink "SuiteBench$Traits" (21 : Nat) "SuiteBench$Traits" "splitters" "[I"),
  (Jvm.Cond.fieldLink "SuiteBench$Traits" (24 : Nat) "SuiteBench$Traits" "marks" "[I"),
  (Jvm.Cond.fieldLink "SuiteBench$Traits" (27 : Nat) "SuiteBench$Traits" "markCounts" "[I"),
  (Jvm.Cond.fieldLink "SuiteBench$Traits" (30 : Nat) "SuiteBench$Traits" "queue" "[I"),
  (Jvm.Cond.fieldLink "SuiteBench$Traits" (33 : Nat) "SuiteBench$Traits" "meant" "LSuiteBench$Machine;"),
  (Jvm.Cond.fieldLink "SuiteBench$Traits" (65 : Nat) "SuiteBench$Traits" "top" "I"),
  (Jvm.Cond.fieldLink "SuiteBench$Traits" (68 : Nat) "SuiteBench$Machine" "out" "[I"),
  (Jvm.Cond.methodLink "SuiteBench$Traits" (71 : Nat) ({ cls := "java/lang/Math", name := "max", desc := "(II)I" } : Jvm.MethodName)),
  (Jvm.Cond.fieldLink "SuiteBench$Traits" (62 : Nat) "SuiteBench$Traits" "reached" "I"),
  (Jvm.Cond.methodLink "SuiteBench$Traits" (77 : Nat) ({ cls := "java/util/Arrays", name := "fill", desc := "([II)V" } : Jvm.MethodName)),
  (Jvm.Cond.fieldLink "SuiteBench$Traits" (52 : Nat) "SuiteBench$Machine" "places" "I"),
  (Jvm.Cond.fieldLink "SuiteBench$Traits" (83 : Nat) "SuiteBench$Machine" "inputs" "I"),
  (Jvm.Cond.fieldLink "SuiteBench$Traits" (86 : Nat) "SuiteBench$Machine" "to" "[I"),
  (Jvm.Cond.methodLink "SuiteBench$Traits" (89 : Nat) ({ cls := "SuiteBench$Traits", name := "isReached", desc := "(I)Z" } : Jvm.MethodName)),
  (Jvm.Cond.methodLinkNest "SuiteBench$Traits" (101 : Nat) ({ cls := "SuiteBench", name := "lengthOf", desc := "(I)I" } : Jvm.MethodName) "SuiteBench"),
  (Jvm.Cond.methodLink "SuiteBench$Traits" (93 : Nat) ({ cls := "SuiteBench$Traits", name := "areAlike", desc := "(II)Z" } : Jvm.MethodName)),
  (Jvm.Cond.methodLink "SuiteBench$Traits" (97 : Nat) ({ cls := "SuiteBench$Traits", name := "separatorOfLength", desc := "(III)I" } : Jvm.MethodName)),
  (Jvm.Cond.fieldLink "SuiteBench$Traits" (105 : Nat) "SuiteBench$Traits" "kindCount" "I"),
  (Jvm.Cond.fieldLink "SuiteBench$Traits" (108 : Nat) "SuiteBench$Traits" "splitterCount" "I"),
  (Jvm.Cond.methodLink "SuiteBench$Traits" (114 : Nat) ({ cls := "SuiteBench$Machine", name := "tell", desc := "(II)J" } : Jvm.MethodName)),
  (Jvm.Cond.methodLink "SuiteBench$Traits" (111 : Nat) ({ cls := "SuiteBench$Traits", name := "areSplit", desc := "(II)Z" } : Jvm.MethodName)),
  (Jvm.Cond.methodLink "SuiteBench$Traits" (118 : Nat) ({ cls := "SuiteBench$Traits", name := "addMark", desc := "(II)V" } : Jvm.MethodName)),
  (Jvm.Cond.methodLink "SuiteBench$Traits" (37 : Nat) ({ cls := "SuiteBench$Traits", name := "learnTop", desc := "()V" } : Jvm.MethodName)),
  (Jvm.Cond.methodLink "SuiteBench$Traits" (40 : Nat) ({ cls := "SuiteBench$Traits", name := "learnAccess", desc := "()V" } : Jvm.MethodName)),
  (Jvm.Cond.methodLink "SuiteBench$Traits" (43 : Nat) ({ cls := "SuiteBench$Traits", name := "learnSeparators", desc := "()V" } : Jvm.MethodName)),
  (Jvm.Cond.methodLink "SuiteBench$Traits" (46 : Nat) ({ cls := "SuiteBench$Traits", name := "learnKinds", desc := "()V" } : Jvm.MethodName)),
  (Jvm.Cond.methodLink "SuiteBench$Traits" (49 : Nat) ({ cls := "SuiteBench$Traits", name := "learnSplitters", desc := "()V" } : Jvm.MethodName)),
  (Jvm.Cond.methodLink "SuiteBench$Traits" (58 : Nat) ({ cls := "SuiteBench$Traits", name := "learnMarks", desc := "(I)V" } : Jvm.MethodName))]
theorem kc_A_ok : ∀ w ∈ kc_A, w ∈ ai_gw := by
  have h : kc_A = kt_A.map (fun q => q.1) := rfl
  rw [h]
  exact tk_mem (by decide +kernel)
def kt_S : List (Jvm.Cond × Nat × Nat) := [
  ((Jvm.Cond.methodLink "SuiteBench$Search" (5 : Nat) ({ cls := "java/lang/Object", name := "<init>", desc := "()V" } : Jvm.MethodName)), 2, 21),
  ((Jvm.Cond.arrayClass Jvm.ClassFile.FieldType.int), 1, 112),
  ((Jvm.Cond.fieldLink "SuiteBench$Search" (11 : Nat) "SuiteBench$Search" "spots" "[I"), 2, 24),
  ((Jvm.Cond.fieldLink "SuiteBench$Search" (15 : Nat) "SuiteBench$Search" "paths" "[I"), 2, 25),
  ((Jvm.Cond.fieldLink "SuiteBench$Search" (18 : Nat) "SuiteBench$Search" "seen" "[I"), 2, 26),
  ((Jvm.Cond.fieldLink "SuiteBench$Search" (21 : Nat) "SuiteBench$Search" "signs" "[I"), 2, 27),
  ((Jvm.Cond.fieldLink "SuiteBench$Search" (24 : Nat) "SuiteBench$Search" "words" "[I"), 2, 28),
  ((Jvm.Cond.fieldLink "SuiteBench$Search" (27 : Nat) "SuiteBench$Search" "depths" "[I"), 2, 29),
  ((Jvm.Cond.fieldLink "SuiteBench$Search" (30 : Nat) "SuiteBench$Search" "firsts" "[I"), 2, 30),
  ((Jvm.Cond.fieldLink "SuiteBench$Search" (33 : Nat) "SuiteBench$Search" "meant" "LSuiteBench$Machine;"), 2, 22),
  ((Jvm.Cond.fieldLink "SuiteBench$Search" (37 : Nat) "SuiteBench$Search" "traits" "LSuiteBench$Traits;"), 2, 23),
  ((Jvm.Cond.methodLink "SuiteBench$Search" (41 : Nat) ({ cls := "java/util/Arrays", name := "fill", desc := "([II)V" } : Jvm.MethodName)), 3, 155),
  ((Jvm.Cond.fieldLink "SuiteBench$Search" (47 : Nat) "SuiteBench$Search" "treesKnown" "Z"), 2, 31),
  ((Jvm.Cond.constant "SuiteBench$Search" (51 : Nat) (262144 : Int32)), 4, 182),
  ((Jvm.Cond.fieldLink "SuiteBench$Search" (52 : Nat) "SuiteBench$Search" "tail" "I"), 2, 32),
  ((Jvm.Cond.fieldLink "SuiteBench$Search" (56 : Nat) "SuiteBench$Machine" "places" "I"), 1, 178),
  ((Jvm.Cond.fieldLink "SuiteBench$Search" (68 : Nat) "SuiteBench$Machine" "out" "[I"), 1, 168),
  ((Jvm.Cond.fieldLink "SuiteBench$Search" (71 : Nat) "SuiteBench$Machine" "to" "[I"), 1, 159),
  ((Jvm.Cond.fieldLink "SuiteBench$Search" (81 : Nat) "SuiteBench$Traits" "reached" "I"), 1, 221),
  ((Jvm.Cond.methodLink "SuiteBench$Search" (61 : Nat) ({ cls := "SuiteBench$Search", name := "push", desc := "(II)V" } : Jvm.MethodName)), 4, 178),
  ((Jvm.Cond.fieldLink "SuiteBench$Search" (65 : Nat) "SuiteBench$Machine" "inputs" "I"), 1, 183),
  ((Jvm.Cond.methodLink "SuiteBench$Search" (86 : Nat) ({ cls := "SuiteBench$Search", name := "followSign", desc := "(II)I" } : Jvm.MethodName)), 4, 183),
  ((Jvm.Cond.methodLink "SuiteBench$Search" (74 : Nat) ({ cls := "SuiteBench$Search", name := "leave", desc := "()V" } : Jvm.MethodName)), 4, 187),
  ((Jvm.Cond.methodLink "SuiteBench$Search" (77 : Nat) ({ cls := "SuiteBench$Search", name := "findSign", desc := "(I)I" } : Jvm.MethodName)), 4, 174),
  ((Jvm.Cond.methodLink "SuiteBench$Search" (93 : Nat) ({ cls := "java/lang/Integer", name := "bitCount", desc := "(I)I" } : Jvm.MethodName)), 5, 209),
  ((Jvm.Cond.methodLink "SuiteBench$Search" (105 : Nat) ({ cls := "SuiteBench$Search", name := "likeOnes", desc := "(III)I" } : Jvm.MethodName)), 5, 218),
  ((Jvm.Cond.methodLink "SuiteBench$Search" (102 : Nat) ({ cls := "SuiteBench$Search", name := "followAll", desc := "(II)I" } : Jvm.MethodName)), 5, 222),
  ((Jvm.Cond.methodLink "SuiteBench$Search" (109 : Nat) ({ cls := "java/lang/Math", name := "max", desc := "(II)I" } : Jvm.MethodName)), 5, 226),
  ((Jvm.Cond.methodLink "SuiteBench$Search" (126 : Nat) ({ cls := "SuiteBench$Search", name := "depthBehind", desc := "(II)I" } : Jvm.MethodName)), 5, 214),
  ((Jvm.Cond.methodLink "SuiteBench$Search" (120 : Nat) ({ cls := "java/lang/Math", name := "min", desc := "(II)I" } : Jvm.MethodName)), 5, 208),
  ((Jvm.Cond.methodLink "SuiteBench$Search" (123 : Nat) ({ cls := "SuiteBench$Search", name := "learnTree", desc := "(II)V" } : Jvm.MethodName)), 5, 210),
  ((Jvm.Cond.methodLink "SuiteBench$Search" (117 : Nat) ({ cls := "SuiteBench$Search", name := "learnTrees", desc := "()V" } : Jvm.MethodName)), 5, 204),
  ((Jvm.Cond.methodLink "SuiteBench$Search" (114 : Nat) ({ cls := "SuiteBench$Search", name := "withGroup", desc := "(II)I" } : Jvm.MethodName)), 6, 7),
  ((Jvm.Cond.methodLink "SuiteBench$Search" (98 : Nat) ({ cls := "SuiteBench$Search", name := "followGroups", desc := "(IIZ)I" } : Jvm.MethodName)), 6, 3),
  ((Jvm.Cond.methodLink "SuiteBench$Search" (90 : Nat) ({ cls := "SuiteBench$Search", name := "findForAll", desc := "(I)I" } : Jvm.MethodName)), 5, 239)]
def kc_S : List Jvm.Cond := [
  (Jvm.Cond.methodLink "SuiteBench$Search" (5 : Nat) ({ cls := "java/lang/Object", name := "<init>", desc := "()V" } : Jvm.MethodName)),
  (Jvm.Cond.arrayClass Jvm.ClassFile.FieldType.int),
  (Jvm.Cond.fieldLink "SuiteBench$Search" (11 : Nat) "SuiteBench$Search" "spots" "[I"),
  (Jvm.Cond.fieldLink "SuiteBench$Search" (15 : Nat) "SuiteBench$Search" "paths" "[I"),
  (Jvm.Cond.fieldLink "SuiteBench$Search" (18 : Nat) "SuiteBench$Search" "seen" "[I"),
  (Jvm.Cond.fieldLink "SuiteBench$Search" (21 : Nat) "SuiteBench$Search" "signs" "[I"),
  (Jvm.Cond.fieldLink "SuiteBench$Search" (24 : Nat) "SuiteBench$Search" "words" "[I"),
  (Jvm.Cond.fieldLink "SuiteBench$Search" (27 : Nat) "SuiteBench$Search" "depths" "[I"),
  (Jvm.Cond.fieldLink "SuiteBench$Search" (30 : Nat) "SuiteBench$Search" "firsts" "[I"),
  (Jvm.Cond.fieldLink "SuiteBench$Search" (33 : Nat) "SuiteBench$Search" "meant" "LSuiteBench$Machine;"),
  (Jvm.Cond.fieldLink "SuiteBench$Search" (37 : Nat) "SuiteBench$Search" "traits" "LSuiteBench$Traits;"),
  (Jvm.Cond.methodLink "SuiteBench$Search" (41 : Nat) ({ cls := "java/util/Arrays", name := "fill", desc := "([II)V" } : Jvm.MethodName)),
  (Jvm.Cond.fieldLink "SuiteBench$Search" (47 : Nat) "SuiteBench$Search" "treesKnown" "Z"),
  (Jvm.Cond.constant "SuiteBench$Search" (51 : Nat) (262144 : Int32)),
  (Jvm.Cond.fieldLink "SuiteBench$Search" (52 : Nat) "SuiteBench$Search" "tail" "I"),
  (Jvm.Cond.fieldLink "SuiteBench$Search" (56 : Nat) "SuiteBench$Machine" "places" "I"),
  (Jvm.Cond.fieldLink "SuiteBench$Search" (68 : Nat) "SuiteBench$Machine" "out" "[I"),
  (Jvm.Cond.fieldLink "SuiteBench$Search" (71 : Nat) "SuiteBench$Machine" "to" "[I"),
  (Jvm.Cond.fieldLink "SuiteBench$Search" (81 : Nat) "SuiteBench$Traits" "reached" "I"),
  (Jvm.Cond.methodLink "SuiteBench$Search" (61 : Nat) ({ cls := "SuiteBench$Search", name := "push", desc := "(II)V" } : Jvm.MethodName)),
  (Jvm.Cond.fieldLink "SuiteBench$Search" (65 : Nat) "SuiteBench$Machine" "inputs" "I"),
  (Jvm.Cond.methodLink "SuiteBench$Search" (86 : Nat) ({ cls := "SuiteBench$Search", name := "followSign", desc := "(II)I" } : Jvm.MethodName)),
  (Jvm.Cond.methodLink "SuiteBench$Search" (74 : Nat) ({ cls := "SuiteBench$Search", name := "leave", desc := "()V" } : Jvm.MethodName)),
  (Jvm.Cond.methodLink "SuiteBench$Search" (77 : Nat) ({ cls := "SuiteBench$Search", name := "findSign", desc := "(I)I" } : Jvm.MethodName)),
  (Jvm.Cond.methodLink "SuiteBench$Search" (93 : Nat) ({ cls := "java/lang/Integer", name := "bitCount", desc := "(I)I" } : Jvm.MethodName)),
  (Jvm.Cond.methodLink "SuiteBench$Search" (105 : Nat) ({ cls := "SuiteBench$Search", name := "likeOnes", desc := "(III)I" } : Jvm.MethodName)),
  (Jvm.Cond.methodLink "SuiteBench$Search" (102 : Nat) ({ cls := "SuiteBench$Search", name := "followAll", desc := "(II)I" } : Jvm.MethodName)),
  (Jvm.Cond.methodLink "SuiteBench$Search" (109 : Nat) ({ cls := "java/lang/Math", name := "max", desc := "(II)I" } : Jvm.MethodName)),
  (Jvm.Cond.methodLink "SuiteBench$Search" (126 : Nat) ({ cls := "SuiteBench$Search", name := "depthBehind", desc := "(II)I" } : Jvm.MethodName)),
  (Jvm.Cond.methodLink "SuiteBench$Search" (120 : Nat) ({ cls := "java/lang/Math", name := "min", desc := "(II)I" } : Jvm.MethodName)),
  (Jvm.Cond.methodLink "SuiteBench$Search" (123 : Nat) ({ cls := "SuiteBench$Search", name := "learnTree", desc := "(II)V" } : Jvm.MethodName)),
  (Jvm.Cond.methodLink "SuiteBench$Search" (117 : Nat) ({ cls := "SuiteBench$Search", name := "learnTrees", desc := "()V" } : Jvm.MethodName)),
  (Jvm.Cond.methodLink "SuiteBench$Search" (114 : Nat) ({ cls := "SuiteBench$Search", name := "withGroup", desc := "(II)I" } : Jvm.MethodName)),
  (Jvm.Cond.methodLink "SuiteBench$Search" (98 : Nat) ({ cls := "SuiteBench$Search", name := "followGroups", desc := "(IIZ)I" } : Jvm.MethodName)),
  (Jvm.Cond.methodLink "SuiteBench$Search" (90 : Nat) ({ cls := "SuiteBench$Search", name := "findForAll", desc := "(I)I" } : Jvm.MethodName))]
theorem kc_S_ok : ∀ w ∈ kc_S, w ∈ ai_gw := by
  have h : kc_S = kt_S.map (fun q => q.1) := rfl
  rw [h]
  exact tk_mem (by decide +kernel)
def kt_W : List (Jvm.Cond × Nat × Nat) := [
  ((Jvm.Cond.methodLink "SuiteBench$Walk" (5 : Nat) ({ cls := "java/lang/Object", name := "<init>", desc := "()V" } : Jvm.MethodName)), 2, 69),
  ((Jvm.Cond.arrayClass Jvm.ClassFile.FieldType.int), 1, 112),
  ((Jvm.Cond.fieldLink "SuiteBench$Walk" (11 : Nat) "SuiteBench$Walk" "queue" "[I"), 2, 72),
  ((Jvm.Cond.fieldLink "SuiteBench$Walk" (15 : Nat) "SuiteBench$Walk" "paths" "[I"), 2, 73),
  ((Jvm.Cond.fieldLink "SuiteBench$Walk" (18 : Nat) "SuiteBench$Walk" "meant" "LSuiteBench$Machine;"), 2, 70),
  ((Jvm.Cond.fieldLink "SuiteBench$Walk" (22 : Nat) "SuiteBench$Walk" "search" "LSuiteBench$Search;"), 2, 71),
  ((Jvm.Cond.fieldLink "SuiteBench$Walk" (35 : Nat) "SuiteBench$Walk" "stand" "I"), 2, 75),
  ((Jvm.Cond.fieldLink "SuiteBench$Walk" (77 : Nat) "SuiteBench$Machine" "inputs" "I"), 1, 182),
  ((Jvm.Cond.fieldLink "SuiteBench$Walk" (32 : Nat) "SuiteBench$Walk" "taken" "I"), 2, 74),
  ((Jvm.Cond.fieldLink "SuiteBench$Walk" (74 : Nat) "SuiteBench$Machine" "to" "[I"), 1, 158),
  ((Jvm.Cond.methodLinkNest "SuiteBench$Walk" (64 : Nat) ({ cls := "SuiteBench", name := "lengthOf", desc := "(I)I" } : Jvm.MethodName) "SuiteBench"), 5, 18),
  ((Jvm.Cond.methodLinkNest "SuiteBench$Walk" (67 : Nat) ({ cls := "SuiteBench", name := "inputAt", desc := "(II)I" } : Jvm.MethodName) "SuiteBench"), 5, 19),
  ((Jvm.Cond.fieldLink "SuiteBench$Walk" (58 : Nat) "SuiteBench$Tests" "nodes" "I"), 2, 108),
  ((Jvm.Cond.fieldLink "SuiteBench$Walk" (71 : Nat) "SuiteBench$Machine" "out" "[I"), 1, 166),
  ((Jvm.Cond.methodLink "SuiteBench$Walk" (38 : Nat) ({ cls := "SuiteBench$Tests", name := "addNode", desc := "(III)V" } : Jvm.MethodName)), 5, 9),
  ((Jvm.Cond.fieldLink "SuiteBench$Walk" (26 : Nat) "SuiteBench$Machine" "places" "I"), 1, 173),
  ((Jvm.Cond.methodLink "SuiteBench$Walk" (44 : Nat) ({ cls := "SuiteBench$Walk", name := "wordToNew", desc := "()I" } : Jvm.MethodName)), 5, 10),
  ((Jvm.Cond.methodLink "SuiteBench$Walk" (48 : Nat) ({ cls := "SuiteBench$Walk", name := "take", desc := "(LSuiteBench$Tests;I)V" } : Jvm.MethodName)), 5, 14),
  ((Jvm.Cond.methodLink "SuiteBench$Walk" (52 : Nat) ({ cls := "SuiteBench$Search", name := "signOf", desc := "(I)I" } : Jvm.MethodName)), 5, 20),
  ((Jvm.Cond.methodLink "SuiteBench$Walk" (61 : Nat) ({ cls := "SuiteBench$Tests", name := "addTest", desc := "(III)V" } : Jvm.MethodName)), 5, 21)]
def kc_W : List Jvm.Cond := [
  (Jvm.Cond.methodLink "SuiteBench$Walk" (5 : Nat) ({ cls := "java/lang/Object", name := "<init>", desc := "()V" } : Jvm.MethodName)),
  (Jvm.Cond.arrayClass Jvm.ClassFile.FieldType.int),
  (Jvm.Cond.fieldLink "SuiteBench$Walk" (11 : Nat) "SuiteBench$Walk" "queue" "[I"),
  (Jvm.Cond.fieldLink "SuiteBench$Walk" (15 : Nat) "SuiteBench$Walk" "paths" "[I"),
  (Jvm.Cond.fieldLink "SuiteBench$Walk" (18 : Nat) "SuiteBench$Walk" "meant" "LSuiteBench$Machine;"),
  (Jvm.Cond.fieldLink "SuiteBench$Walk" (22 : Nat) "SuiteBench$Walk" "search" "LSuiteBench$Search;"),
  (Jvm.Cond.fieldLink "SuiteBench$Walk" (35 : Nat) "SuiteBench$Walk" "stand" "I"),
  (Jvm.Cond.fieldLink "SuiteBench$Walk" (77 : Nat) "SuiteBench$Machine" "inputs" "I"),
  (Jvm.Cond.fieldLink "SuiteBench$Walk" (32 : Nat) "SuiteBench$Walk" "taken" "I"),
  (Jvm.Cond.fieldLink "SuiteBench$Walk" (74 : Nat) "SuiteBench$Machine" "to" "[I"),
  (Jvm.Cond.methodLinkNest "SuiteBench$Walk" (64 : Nat) ({ cls := "SuiteBench", name := "lengthOf", desc := "(I)I" } : Jvm.MethodName) "SuiteBench"),
  (Jvm.Cond.methodLinkNest "SuiteBench$Walk" (67 : Nat) ({ cls := "SuiteBench", name := "inputAt", desc := "(II)I" } : Jvm.MethodName) "SuiteBench"),
  (Jvm.Cond.fieldLink "SuiteBench$Walk" (58 : Nat) "SuiteBench$Tests" "nodes" "I"),
  (Jvm.Cond.fieldLink "SuiteBench$Walk" (71 : Nat) "SuiteBench$Machine" "out" "[I"),
  (Jvm.Cond.methodLink "SuiteBench$Walk" (38 : Nat) ({ cls := "SuiteBench$Tests", name := "addNode", desc := "(III)V" } : Jvm.MethodName)),
  (Jvm.Cond.fieldLink "SuiteBench$Walk" (26 : Nat) "SuiteBench$Machine" "places" "I"),
  (Jvm.Cond.methodLink "SuiteBench$Walk" (44 : Nat) ({ cls := "SuiteBench$Walk", name := "wordToNew", desc := "()I" } : Jvm.MethodName)),
  (Jvm.Cond.methodLink "SuiteBench$Walk" (48 : Nat) ({ cls := "SuiteBench$Walk", name := "take", desc := "(LSuiteBench$Tests;I)V" } : Jvm.MethodName)),
  (Jvm.Cond.methodLink "SuiteBench$Walk" (52 : Nat) ({ cls := "SuiteBench$Search", name := "signOf", desc := "(I)I" } : Jvm.MethodName)),
  (Jvm.Cond.methodLink "SuiteBench$Walk" (61 : Nat) ({ cls := "SuiteBench$Tests", name := "addTest", desc := "(III)V" } : Jvm.MethodName))]
theorem kc_W_ok : ∀ w ∈ kc_W, w ∈ ai_gw := by
  have h : kc_W = kt_W.map (fun q => q.1) := rfl
  rw [h]
  exact tk_mem (by decide +kernel)
def kt_E : List (Jvm.Cond × Nat × Nat) := [
  ((Jvm.Cond.methodLink "SuiteBench$Tests" (3 : Nat) ({ cls := "java/lang/Object", name := "<init>", desc := "()V" } : Jvm.MethodName)), 2, 95),
  ((Jvm.Cond.arrayClass Jvm.ClassFile.FieldType.int), 1, 112),
  ((Jvm.Cond.fieldLink "SuiteBench$Tests" (9 : Nat) "SuiteBench$Tests" "up" "[I"), 2, 96),
  ((Jvm.Cond.fieldLink "SuiteBench$Tests" (15 : Nat) "SuiteBench$Tests" "by" "[I"), 2, 97),
  ((Jvm.Cond.fieldLink "SuiteBench$Tests" (18 : Nat) "SuiteBench$Tests" "want" "[I"), 2, 99),
  ((Jvm.Cond.fieldLink "SuiteBench$Tests" (21 : Nat) "SuiteBench$Tests" "ends" "[I"), 2, 100),
  ((Jvm.Cond.fieldLink "SuiteBench$Tests" (24 : Nat) "SuiteBench$Tests" "words" "[I"), 2, 101),
  ((Jvm.Cond.fieldLink "SuiteBench$Tests" (27 : Nat) "SuiteBench$Tests" "sizes" "[I"), 2, 104),
  ((Jvm.Cond.fieldLink "SuiteBench$Tests" (30 : Nat) "SuiteBench$Tests" "at" "[I"), 2, 106),
  ((Jvm.Cond.fieldLink "SuiteBench$Tests" (33 : Nat) "SuiteBench$Tests" "nodes" "I"), 2, 107),
  ((Jvm.Cond.fieldLink "SuiteBench$Tests" (37 : Nat) "SuiteBench$Tests" "count" "I"), 2, 110),
  ((Jvm.Cond.fieldLink "SuiteBench$Tests" (40 : Nat) "SuiteBench$Tests" "known" "Z"), 2, 114),
  ((Jvm.Cond.methodLink "SuiteBench$Tests" (44 : Nat) ({ cls := "java/lang/Math", name := "max", desc := "(II)I" } : Jvm.MethodName)), 5, 30),
  ((Jvm.Cond.fieldLink "SuiteBench$Tests" (54 : Nat) "SuiteBench$Machine" "out" "[I"), 1, 169),
  ((Jvm.Cond.fieldLink "SuiteBench$Tests" (59 : Nat) "SuiteBench$Machine" "to" "[I"), 1, 161),
  ((Jvm.Cond.methodLink "SuiteBench$Tests" (50 : Nat) ({ cls := "SuiteBench$Tests", name := "step", desc := "(LSuiteBench$Machine;I)I" } : Jvm.MethodName)), 5, 50),
  ((Jvm.Cond.methodLink "SuiteBench$Tests" (62 : Nat) ({ cls := "SuiteBench$Tests", name := "isFailed", desc := "(I)Z" } : Jvm.MethodName)), 5, 58),
  ((Jvm.Cond.methodLink "SuiteBench$Tests" (66 : Nat) ({ cls := "SuiteBench$Tests", name := "stepsBehindWrong", desc := "(I)I" } : Jvm.MethodName)), 5, 70)]
def kc_E : List Jvm.Cond := [
  (Jvm.Cond.methodLink "SuiteBench$Tests" (3 : Nat) ({ cls := "java/lang/Object", name := "<init>", desc := "()V" } : Jvm.MethodName)),
  (Jvm.Cond.arrayClass Jvm.ClassFile.FieldType.int),
  (Jvm.Cond.fieldLink "SuiteBench$Tests" (9 : Nat) "SuiteBench$Tests" "up" "[I"),
  (Jvm.Cond.fieldLink "SuiteBench$Tests" (15 : Nat) "SuiteBench$Tests" "by" "[I"),
  (Jvm.Cond.fieldLink "SuiteBench$Tests" (18 : Nat) "SuiteBench$Tests" "want" "[I"),
  (Jvm.Cond.fieldLink "SuiteBench$Tests" (21 : Nat) "SuiteBench$Tests" "ends" "[I"),
  (Jvm.Cond.fieldLink "SuiteBench$Tests" (24 : Nat) "SuiteBench$Tests" "words" "[I"),
  (Jvm.Cond.fieldLink "SuiteBench$Tests" (27 : Nat) "SuiteBench$Tests" "sizes" "[I"),
  (Jvm.Cond.fieldLink "SuiteBench$Tests" (30 : Nat) "SuiteBench$Tests" "at" "[I"),
  (Jvm.Cond.fieldLink "SuiteBench$Tests" (33 : Nat) "SuiteBench$Tests" "nodes" "I"),
  (Jvm.Cond.fieldLink "SuiteBench$Tests" (37 : Nat) "SuiteBench$Tests" "count" "I"),
  (Jvm.Cond.fieldLink "SuiteBench$Tests" (40 : Nat) "SuiteBench$Tests" "known" "Z"),
  (Jvm.Cond.methodLink "SuiteBench$Tests" (44 : Nat) ({ cls := "java/lang/Math", name := "max", desc := "(II)I" } : Jvm.MethodName)),
  (Jvm.Cond.fieldLink "SuiteBench$Tests" (54 : Nat) "SuiteBench$Machine" "out" "[I"),
  (Jvm.Cond.fieldLink "SuiteBench$Tests" (59 : Nat) "SuiteBench$Machine" "to" "[I"),
  (Jvm.Cond.methodLink "SuiteBench$Tests" (50 : Nat) ({ cls := "SuiteBench$Tests", name := "step", desc := "(LSuiteBench$Machine;I)I" } : Jvm.MethodName)),
  (Jvm.Cond.methodLink "SuiteBench$Tests" (62 : Nat) ({ cls := "SuiteBench$Tests", name := "isFailed", desc := "(I)Z" } : Jvm.MethodName)),
  (Jvm.Cond.methodLink "SuiteBench$Tests" (66 : Nat) ({ cls := "SuiteBench$Tests", name := "stepsBehindWrong", desc := "(I)I" } : Jvm.MethodName))]
theorem kc_E_ok : ∀ w ∈ kc_E, w ∈ ai_gw := by
  have h : kc_E = kt_E.map (fun q => q.1) := rfl
  rw [h]
  exact tk_mem (by decide +kernel)
def kt_T : List (Jvm.Cond × Nat × Nat) := [
  ((Jvm.Cond.methodLink "SuiteBench$Suites" (5 : Nat) ({ cls := "java/lang/Object", name := "<init>", desc := "()V" } : Jvm.MethodName)), 2, 61),
  ((Jvm.Cond.classLink "SuiteBench$Suites" (11 : Nat) "SuiteBench$Tests"), 2, 62),
  ((Jvm.Cond.arrayOver (Jvm.ClassFile.FieldType.object "SuiteBench$Tests")), 2, 63),
  ((Jvm.Cond.fieldLink "SuiteBench$Suites" (13 : Nat) "SuiteBench$Suites" "all" "[LSuiteBench$Tests;"), 2, 140),
  ((Jvm.Cond.arrayClass Jvm.ClassFile.FieldType.int), 1, 112),
  ((Jvm.Cond.fieldLink "SuiteBench$Suites" (17 : Nat) "SuiteBench$Suites" "down" "[I"), 2, 141),
  ((Jvm.Cond.fieldLink "SuiteBench$Suites" (21 : Nat) "SuiteBench$Suites" "states" "[I"), 2, 142),
  ((Jvm.Cond.fieldLink "SuiteBench$Suites" (24 : Nat) "SuiteBench$Suites" "order" "[I"), 2, 143),
  ((Jvm.Cond.fieldLink "SuiteBench$Suites" (27 : Nat) "SuiteBench$Suites" "numbers" "[I"), 2, 144),
  ((Jvm.Cond.fieldLink "SuiteBench$Suites" (30 : Nat) "SuiteBench$Suites" "heads" "[I"), 2, 145),
  ((Jvm.Cond.fieldLink "SuiteBench$Suites" (33 : Nat) "SuiteBench$Suites" "meant" "LSuiteBench$Machine;"), 2, 137),
  ((Jvm.Cond.fieldLink "SuiteBench$Suites" (37 : Nat) "SuiteBench$Suites" "traits" "LSuiteBench$Traits;"), 2, 138),
  ((Jvm.Cond.classLink "SuiteBench$Suites" (41 : Nat) "SuiteBench$Walk"), 2, 64),
  ((Jvm.Cond.instantiable "SuiteBench$Walk" (6 : Nat)), 2, 65),
  ((Jvm.Cond.initialized "SuiteBench$Walk"), 1, 9),
  ((Jvm.Cond.methodLink "SuiteBench$Suites" (43 : Nat) ({ cls := "SuiteBench$Walk", name := "<init>", desc := "(LSuiteBench$Machine;LSuiteBench$Search;)V" } : Jvm.MethodName)), 2, 66),
  ((Jvm.Cond.fieldLink "SuiteBench$Suites" (46 : Nat) "SuiteBench$Suites" "walk" "LSuiteBench$Walk;"), 2, 139),
  ((Jvm.Cond.fieldLink "SuiteBench$Suites" (50 : Nat) "SuiteBench$Suites" "MOST_HEADS" "[I"), 2, 89),
  ((Jvm.Cond.instantiable "SuiteBench$Tests" (10 : Nat)), 2, 91),
  ((Jvm.Cond.initialized "SuiteBench$Tests"), 1, 10),
  ((Jvm.Cond.methodLink "SuiteBench$Suites" (53 : Nat) ({ cls := "SuiteBench$Tests", name := "<init>", desc := "(II[I)V" } : Jvm.MethodName)), 2, 92),
  ((Jvm.Cond.fieldLink "SuiteBench$Suites" (56 : Nat) "SuiteBench$Suites" "extra" "I"), 2, 148),
  ((Jvm.Cond.methodLink "SuiteBench$Suites" (60 : Nat) ({ cls := "SuiteBench$Tests", name := "clear", desc := "()V" } : Jvm.MethodName)), 3, 160),
  ((Jvm.Cond.fieldLink "SuiteBench$Suites" (88 : Nat) "SuiteBench$Suites" "grown" "I"), 2, 147),
  ((Jvm.Cond.fieldLink "SuiteBench$Suites" (143 : Nat) "SuiteBench$Machine" "to" "[I"), 1, 162),
  ((Jvm.Cond.methodLinkNest "SuiteBench$Suites" (136 : Nat) ({ cls := "SuiteBench", name := "lengthOf", desc := "(I)I" } : Jvm.MethodName) "SuiteBench"), 4, 219),
  ((Jvm.Cond.methodLinkNest "SuiteBench$Suites" (140 : Nat) ({ cls := "SuiteBench", name := "inputAt", desc := "(II)I" } : Jvm.MethodName) "SuiteBench"), 4, 220),
  ((Jvm.Cond.methodLink "SuiteBench$Suites" (133 : Nat) ({ cls := "SuiteBench$Suites", name := "growChild", desc := "(II)I" } : Jvm.MethodName)), 4, 221),
  ((Jvm.Cond.fieldLink "SuiteBench$Suites" (95 : Nat) "SuiteBench$Suites" "headCount" "I"), 2, 146),
  ((Jvm.Cond.fieldLink "SuiteBench$Suites" (75 : Nat) "SuiteBench$Machine" "places" "I"), 1, 177),
  ((Jvm.Cond.methodLink "SuiteBench$Suites" (116 : Nat) ({ cls := "SuiteBench$Traits", name := "isReached", desc := "(I)Z" } : Jvm.MethodName)), 4, 214),
  ((Jvm.Cond.fieldLink "SuiteBench$Suites" (120 : Nat) "SuiteBench$Traits" "access" "[I"), 1, 204),
  ((Jvm.Cond.methodLink "SuiteBench$Suites" (123 : Nat) ({ cls := "SuiteBench$Suites", name := "growWord", desc := "(II)I" } : Jvm.MethodName)), 4, 215),
  ((Jvm.Cond.methodLink "SuiteBench$Suites" (127 : Nat) ({ cls := "SuiteBench$Suites", name := "addHead", desc := "(I)V" } : Jvm.MethodName)), 4, 225),
  ((Jvm.Cond.fieldLink "SuiteBench$Suites" (130 : Nat) "SuiteBench$Machine" "inputs" "I"), 1, 185),
  ((Jvm.Cond.methodLink "SuiteBench$Suites" (91 : Nat) ({ cls := "SuiteBench$Suites", name := "growHeads", desc := "(I)V" } : Jvm.MethodName)), 4, 210),
  ((Jvm.Cond.fieldLink "SuiteBench$Suites" (98 : Nat) "SuiteBench$Traits" "splitters" "[I"), 1, 211),
  ((Jvm.Cond.fieldLink "SuiteBench$Suites" (103 : Nat) "SuiteBench$Traits" "splitterCount" "I"), 1, 225),
  ((Jvm.Cond.methodLink "SuiteBench$Suites" (106 : Nat) ({ cls := "SuiteBench$Suites", name := "growAll", desc := "(I[III)V" } : Jvm.MethodName)), 4, 229),
  ((Jvm.Cond.fieldLink "SuiteBench$Suites" (110 : Nat) "SuiteBench$Traits" "marks" "[I"), 1, 214),
  ((Jvm.Cond.fieldLink "SuiteBench$Suites" (113 : Nat) "SuiteBench$Traits" "markCounts" "[I"), 1, 217),
  ((Jvm.Cond.methodLink "SuiteBench$Suites" (146 : Nat) ({ cls := "SuiteBench$Tests", name := "addNode", desc := "(III)V" } : Jvm.MethodName)), 4, 237),
  ((Jvm.Cond.fieldLink "SuiteBench$Suites" (150 : Nat) "SuiteBench$Machine" "out" "[I"), 1, 170),
  ((Jvm.Cond.methodLink "SuiteBench$Suites" (153 : Nat) ({ cls := "SuiteBench$Tests", name := "addTest", desc := "(III)V" } : Jvm.MethodName)), 5, 1),
  ((Jvm.Cond.fieldLink "SuiteBench$Suites" (67 : Nat) "SuiteBench$Tests" "known" "Z"), 2, 115),
  ((Jvm.Cond.methodLink "SuiteBench$Suites" (80 : Nat) ({ cls := "SuiteBench$Suites", name := "grow", desc := "(II)V" } : Jvm.MethodName)), 4, 206),
  ((Jvm.Cond.methodLink "SuiteBench$Suites" (84 : Nat) ({ cls := "SuiteBench$Suites", name := "pour", desc := "(LSuiteBench$Tests;)V" } : Jvm.MethodName)), 4, 233),
  ((Jvm.Cond.methodLink "SuiteBench$Suites" (63 : Nat) ({ cls := "SuiteBench$Suites", name := "planned", desc := "(II)LSuiteBench$Tests;" } : Jvm.MethodName)), 4, 202),
  ((Jvm.Cond.methodLink "SuiteBench$Suites" (71 : Nat) ({ cls := "SuiteBench$Walk", name := "fill", desc := "(LSuiteBench$Tests;Z)V" } : Jvm.MethodName)), 5, 5)]
def kc_T : List Jvm.Cond := [
  (Jvm.Cond.methodLink "SuiteBench$Suites" (5 : Nat) ({ cls := "java/lang/Object", name := "<init>", desc := "()V" } : Jvm.MethodName)),
  (Jvm.Cond.classLink "SuiteBench$Suites" (11 : Nat) "SuiteBench$Tests"),
  (Jvm.Cond.arrayOver (Jvm.ClassFile.FieldType.object "SuiteBench$Tests")),
  (Jvm.Cond.fieldLink "SuiteBench$Suites" (13 : Nat) "SuiteBench$Suites" "all" "[LSuiteBench$Tests;"),
  (Jvm.Cond.arrayClass Jvm.ClassFile.FieldType.int),
  (Jvm.Cond.fieldLink "SuiteBench$Suites" (17 : Nat) "SuiteBench$Suites" "down" "[I"),
  (Jvm.Cond.fieldLink "SuiteBench$Suites" (21 : Nat) "SuiteBench$Suites" "states" "[I"),
  (Jvm.Cond.fieldLink "SuiteBench$Suites" (24 : Nat) "SuiteBench$Suites" "order" "[I"),
  (Jvm.Cond.fieldLink "SuiteBench$Suites" (27 : Nat) "SuiteBench$Suites" "numbers" "[I"),
  (Jvm.Cond.fieldLink "SuiteBench$Suites" (30 : Nat) "SuiteBench$Suites" "heads" "[I"),
  (Jvm.Cond.fieldLink "SuiteBench$Suites" (33 : Nat) "SuiteBench$Suites" "meant" "LSuiteBench$Machine;"),
  (Jvm.Cond.fieldLink "SuiteBench$Suites" (37 : Nat) "SuiteBench$Suites" "traits" "LSuiteBench$Traits;"),
  (Jvm.Cond.classLink "SuiteBench$Suites" (41 : Nat) "SuiteBench$Walk"),
  (Jvm.Cond.instantiable "SuiteBench$Walk" (6 : Nat)),
  (Jvm.Cond.initialized "SuiteBench$Walk"),
  (Jvm.Cond.methodLink "SuiteBench$Suites" (43 : Nat) ({ cls := "SuiteBench$Walk", name := "<init>", desc := "(LSuiteBench$Machine;LSuiteBench$Search;)V" } : Jvm.MethodName)),
  (Jvm.Cond.fieldLink "SuiteBench$Suites" (46 : Nat) "SuiteBench$Suites" "walk" "LSuiteBench$Walk;"),
  (Jvm.Cond.fieldLink "SuiteBench$Suites" (50 : Nat) "SuiteBench$Suites" "MOST_HEADS" "[I"),
  (Jvm.Cond.instantiable "SuiteBench$Tests" (10 : Nat)),
  (Jvm.Cond.initialized "SuiteBench$Tests"),
  (Jvm.Cond.methodLink "SuiteBench$Suites" (53 : Nat) ({ cls := "SuiteBench$Tests", name := "<init>", desc := "(II[I)V" } : Jvm.MethodName)),
  (Jvm.Cond.fieldLink "SuiteBench$Suites" (56 : Nat) "SuiteBench$Suites" "extra" "I"),
  (Jvm.Cond.methodLink "SuiteBench$Suites" (60 : Nat) ({ cls := "SuiteBench$Tests", name := "clear", desc := "()V" } : Jvm.MethodName)),
  (Jvm.Cond.fieldLink "SuiteBench$Suites" (88 : Nat) "SuiteBench$Suites" "grown" "I"),
  (Jvm.Cond.fieldLink "SuiteBench$Suites" (143 : Nat) "SuiteBench$Machine" "to" "[I"),
  (Jvm.Cond.methodLinkNest "SuiteBench$Suites" (136 : Nat) ({ cls := "SuiteBench", name := "lengthOf", desc := "(I)I" } : Jvm.MethodName) "SuiteBench"),
  (Jvm.Cond.methodLinkNest "SuiteBench$Suites" (140 : Nat) ({ cls := "SuiteBench", name := "inputAt", desc := "(II)I" } : Jvm.MethodName) "SuiteBench"),
  (Jvm.Cond.methodLink "SuiteBench$Suites" (133 : Nat) ({ cls := "SuiteBench$Suites", name := "growChild", desc := "(II)I" } : Jvm.MethodName)),
  (Jvm.Cond.fieldLink "SuiteBench$Suites" (95 : Nat) "SuiteBench$Suites" "headCount" "I"),
  (Jvm.Cond.fieldLink "SuiteBench$Suites" (75 : Nat) "SuiteBench$Machine" "places" "I"),
  (Jvm.Cond.methodLink "SuiteBench$Suites" (116 : Nat) ({ cls := "SuiteBench$Traits", name := "isReached", desc := "(I)Z" } : Jvm.MethodName)),
  (Jvm.Cond.fieldLink "SuiteBench$Suites" (120 : Nat) "SuiteBench$Traits" "access" "[I"),
  (Jvm.Cond.methodLink "SuiteBench$Suites" (123 : Nat) ({ cls := "SuiteBench$Suites", name := "growWord", desc := "(II)I" } : Jvm.MethodName)),
  (Jvm.Cond.methodLink "SuiteBench$Suites" (127 : Nat) ({ cls := "SuiteBench$Suites", name := "addHead", desc := "(I)V" } : Jvm.MethodName)),
  (Jvm.Cond.fieldLink "SuiteBench$Suites" (130 : Nat) "SuiteBench$Machine" "inputs" "I"),
  (Jvm.Cond.methodLink "SuiteBench$Suites" (91 : Nat) ({ cls := "SuiteBench$Suites", name := "growHeads", desc := "(I)V" } : Jvm.MethodName)),
  (Jvm.Cond.fieldLink "SuiteBench$Suites" (98 : Nat) "SuiteBench$Traits" "splitters" "[I"),
  (Jvm.Cond.fieldLink "SuiteBench$Suites" (103 : Nat) "SuiteBench$Traits" "splitterCount" "I"),
  (Jvm.Cond.methodLink "SuiteBench$Suites" (106 : Nat) ({ cls := "SuiteBench$Suites", name := "growAll", desc := "(I[III)V" } : Jvm.MethodName)),
  (Jvm.Cond.fieldLink "SuiteBench$Suites" (110 : Nat) "SuiteBench$Traits" "marks" "[I"),
  (Jvm.Cond.fieldLink "SuiteBench$Suites" (113 : Nat) "SuiteBench$Traits" "markCounts" "[I"),
  (Jvm.Cond.methodLink "SuiteBench$Suites" (146 : Nat) ({ cls := "SuiteBench$Tests", name := "addNode", desc := "(III)V" } : Jvm.MethodName)),
  (Jvm.Cond.fieldLink "SuiteBench$Suites" (150 : Nat) "SuiteBench$Machine" "out" "[I"),
  (Jvm.Cond.methodLink "SuiteBench$Suites" (153 : Nat) ({ cls := "SuiteBench$Tests", name := "addTest", desc := "(III)V" } : Jvm.MethodName)),
  (Jvm.Cond.fieldLink "SuiteBench$Suites" (67 : Nat) "SuiteBench$Tests" "known" "Z"),
  (Jvm.Cond.methodLink "SuiteBench$Suites" (80 : Nat) ({ cls := "SuiteBench$Suites", name := "grow", desc := "(II)V" } : Jvm.MethodName)),
  (Jvm.Cond.methodLink "SuiteBench$Suites" (84 : Nat) ({ cls := "SuiteBench$Suites", name := "pour", desc := "(LSuiteBench$Tests;)V" } : Jvm.MethodName)),
  (Jvm.Cond.methodLink "SuiteBench$Suites" (63 : Nat) ({ cls := "SuiteBench$Suites", name := "planned", desc := "(II)LSuiteBench$Tests;" } : Jvm.MethodName)),
  (Jvm.Cond.methodLink "SuiteBench$Suites" (71 : Nat) ({ cls := "SuiteBench$Walk", name := "fill", desc := "(LSuiteBench$Tests;Z)V" } : Jvm.MethodName))]
theorem kc_T_ok : ∀ w ∈ kc_T, w ∈ ai_gw := by
  have h : kc_T = kt_T.map (fun q => q.1) := rfl
  rw [h]
  exact tk_mem (by decide +kernel)
def kt_U : List (Jvm.Cond × Nat × Nat) := [
  ((Jvm.Cond.methodLink "SuiteBench$Mutants" (3 : Nat) ({ cls := "java/lang/Object", name := "<init>", desc := "()V" } : Jvm.MethodName)), 2, 179),
  ((Jvm.Cond.classLink "SuiteBench$Mutants" (9 : Nat) "SuiteBench$Machine"), 2, 180),
  ((Jvm.Cond.instantiable "SuiteBench$Machine" (4 : Nat)), 1, 151),
  ((Jvm.Cond.initialized "SuiteBench$Machine"), 1, 5),
  ((Jvm.Cond.methodLinkNest "SuiteBench$Mutants" (11 : Nat) ({ cls := "SuiteBench$Machine", name := "<init>", desc := "()V" } : Jvm.MethodName) "SuiteBench"), 2, 181),
  ((Jvm.Cond.fieldLink "SuiteBench$Mutants" (12 : Nat) "SuiteBench$Mutants" "trial" "LSuiteBench$Machine;"), 2, 185),
  ((Jvm.Cond.fieldLink "SuiteBench$Mutants" (18 : Nat) "SuiteBench$Mutants" "other" "LSuiteBench$Machine;"), 2, 186),
  ((Jvm.Cond.arrayClass Jvm.ClassFile.FieldType.int), 1, 112),
  ((Jvm.Cond.fieldLink "SuiteBench$Mutants" (21 : Nat) "SuiteBench$Mutants" "codes" "[I"), 2, 187),
  ((Jvm.Cond.arrayClass Jvm.ClassFile.FieldType.boolean), 2, 233),
  ((Jvm.Cond.fieldLink "SuiteBench$Mutants" (25 : Nat) "SuiteBench$Mutants" "equal" "[Z"), 2, 188),
  ((Jvm.Cond.fieldLink "SuiteBench$Mutants" (29 : Nat) "SuiteBench$Mutants" "noticed" "[I"), 2, 189),
  ((Jvm.Cond.fieldLink "SuiteBench$Mutants" (32 : Nat) "SuiteBench$Mutants" "missed" "[I"), 2, 190),
  ((Jvm.Cond.fieldLink "SuiteBench$Mutants" (35 : Nat) "SuiteBench$Mutants" "covers" "[I"), 2, 191),
  ((Jvm.Cond.fieldLink "SuiteBench$Mutants" (38 : Nat) "SuiteBench$Mutants" "passing" "[I"), 2, 192),
  ((Jvm.Cond.fieldLink "SuiteBench$Mutants" (41 : Nat) "SuiteBench$Mutants" "same" "[I"), 2, 193),
  ((Jvm.Cond.fieldLink "SuiteBench$Mutants" (44 : Nat) "SuiteBench$Mutants" "failing" "[I"), 2, 194),
  ((Jvm.Cond.fieldLink "SuiteBench$Mutants" (47 : Nat) "SuiteBench$Mutants" "left" "[I"), 2, 195),
  ((Jvm.Cond.fieldLink "SuiteBench$Mutants" (50 : Nat) "SuiteBench$Mutants" "meant" "LSuiteBench$Machine;"), 2, 182),
  ((Jvm.Cond.fieldLink "SuiteBench$Mutants" (53 : Nat) "SuiteBench$Mutants" "traits" "LSuiteBench$Traits;"), 2, 183),
  ((Jvm.Cond.fieldLink "SuiteBench$Mutants" (57 : Nat) "SuiteBench$Mutants" "search" "LSuiteBench$Search;"), 2, 184),
  ((Jvm.Cond.fieldLink "SuiteBench$Mutants" (71 : Nat) "SuiteBench$Mutants" "count" "I"), 2, 197),
  ((Jvm.Cond.fieldLink "SuiteBench$Mutants" (90 : Nat) "SuiteBench$Machine" "to" "[I"), 1, 157),
  ((Jvm.Cond.fieldLink "SuiteBench$Mutants" (93 : Nat) "SuiteBench$Machine" "out" "[I"), 1, 165),
  ((Jvm.Cond.fieldLink "SuiteBench$Mutants" (74 : Nat) "SuiteBench$Machine" "places" "I"), 1, 175),
  ((Jvm.Cond.methodLink "SuiteBench$Mutants" (96 : Nat) ({ cls := "SuiteBench$Mutants", name := "add", desc := "(I)V" } : Jvm.MethodName)), 3, 174),
  ((Jvm.Cond.fieldLink "SuiteBench$Mutants" (99 : Nat) "SuiteBench$Traits" "top" "I"), 1, 228),
  ((Jvm.Cond.methodLink "SuiteBench$Mutants" (61 : Nat) ({ cls := "java/util/Arrays", name := "fill", desc := "([II)V" } : Jvm.MethodName)), 3, 168),
  ((Jvm.Cond.fieldLink "SuiteBench$Mutants" (67 : Nat) "SuiteBench$Mutants" "equalCount" "I"), 2, 196),
  ((Jvm.Cond.fieldLink "SuiteBench$Mutants" (77 : Nat) "SuiteBench$Machine" "inputs" "I"), 1, 181),
  ((Jvm.Cond.methodLink "SuiteBench$Mutants" (80 : Nat) ({ cls := "SuiteBench$Traits", name := "isReached", desc := "(I)Z" } : Jvm.MethodName)), 3, 169),
  ((Jvm.Cond.methodLink "SuiteBench$Mutants" (86 : Nat) ({ cls := "SuiteBench$Mutants", name := "listArc", desc := "(I)V" } : Jvm.MethodName)), 3, 170),
  ((Jvm.Cond.methodLink "SuiteBench$Mutants" (102 : Nat) ({ cls := "SuiteBench$Machine", name := "copy", desc := "(LSuiteBench$Machine;)V" } : Jvm.MethodName)), 5, 107),
  ((Jvm.Cond.methodLink "SuiteBench$Mutants" (106 : Nat) ({ cls := "SuiteBench$Mutants", name := "dress", desc := "(LSuiteBench$Machine;I)V" } : Jvm.MethodName)), 5, 118),
  ((Jvm.Cond.methodLink "SuiteBench$Mutants" (110 : Nat) ({ cls := "SuiteBench$Search", name := "unlike", desc := "(LSuiteBench$Machine;LSuiteBench$Machine;)I" } : Jvm.MethodName)), 5, 122),
  ((Jvm.Cond.methodLink "SuiteBench$Mutants" (116 : Nat) ({ cls := "SuiteBench$Mutants", name := "undress", desc := "(LSuiteBench$Machine;I)V" } : Jvm.MethodName)), 5, 123),
  ((Jvm.Cond.methodLink "SuiteBench$Mutants" (123 : Nat) ({ cls := "SuiteBench$Mutants", name := "equalOnes", desc := "()I" } : Jvm.MethodName)), 5, 135),
  ((Jvm.Cond.methodLink "SuiteBench$Mutants" (127 : Nat) ({ cls := "SuiteBench$Tests", name := "isFailedBy", desc := "(LSuiteBench$Machine;)Z" } : Jvm.MethodName)), 5, 136),
  ((Jvm.Cond.methodLink "SuiteBench$Mutants" (119 : Nat) ({ cls := "SuiteBench$Mutants", name := "learnNoticed", desc := "(ILSuiteBench$Tests;)V" } : Jvm.MethodName)), 5, 131),
  ((Jvm.Cond.methodLink "SuiteBench$Mutants" (174 : Nat) ({ cls := "SuiteBench$Machine", name := "set", desc := "(IIII)V" } : Jvm.MethodName)), 5, 182),
  ((Jvm.Cond.methodLink "SuiteBench$Mutants" (167 : Nat) ({ cls := "SuiteBench$Mutants", name := "smallOnes", desc := "(I)I" } : Jvm.MethodName)), 5, 177),
  ((Jvm.Cond.methodLink "SuiteBench$Mutants" (170 : Nat) ({ cls := "SuiteBench$Mutants", name := "makeSmall", desc := "(II)V" } : Jvm.MethodName)), 5, 178),
  ((Jvm.Cond.methodLink "SuiteBench$Mutants" (163 : Nat) ({ cls := "SuiteBench$Mutants", name := "learnSmall", desc := "(IILSuiteBench$Tests;)V" } : Jvm.MethodName)), 5, 173),
  ((Jvm.Cond.methodLink "SuiteBench$Mutants" (152 : Nat) ({ cls := "SuiteBench$Tests", name := "run", desc := "(LSuiteBench$Machine;)V" } : Jvm.MethodName)), 6, 27),
  ((Jvm.Cond.methodLink "SuiteBench$Mutants" (155 : Nat) ({ cls := "SuiteBench$Tests", name := "isFailed", desc := "(I)Z" } : Jvm.MethodName)), 6, 28),
  ((Jvm.Cond.methodLink "SuiteBench$Mutants" (158 : Nat) ({ cls := "java/lang/Integer", name := "bitCount", desc := "(I)I" } : Jvm.MethodName)), 6, 33),
  ((Jvm.Cond.fieldLink "SuiteBench$Mutants" (137 : Nat) "SuiteBench$Tests" "count" "I"), 2, 112),
  ((Jvm.Cond.methodLink "SuiteBench$Mutants" (138 : Nat) ({ cls := "java/lang/Math", name := "min", desc := "(II)I" } : Jvm.MethodName)), 6, 22),
  ((Jvm.Cond.methodLink "SuiteBench$Mutants" (144 : Nat) ({ cls := "SuiteBench$Mutants", name := "learnFailing", desc := "(LSuiteBench$Tests;I)V" } : Jvm.MethodName)), 6, 23),
  ((Jvm.Cond.methodLink "SuiteBench$Mutants" (148 : Nat) ({ cls := "SuiteBench$Mutants", name := "bestTest", desc := "(I)I" } : Jvm.MethodName)), 6, 29),
  ((Jvm.Cond.methodLink "SuiteBench$Mutants" (133 : Nat) ({ cls := "SuiteBench$Mutants", name := "cover", desc := "(LSuiteBench$Tests;)I" } : Jvm.MethodName)), 6, 18)]
def kc_U : List Jvm.Cond := [
  (Jvm.Cond.methodLink "SuiteBench$Mutants" (3 : Nat) ({ cls := "java/lang/Object", name := "<init>", desc := "()V" } : Jvm.MethodName)),
  (Jvm.Cond.classLink "SuiteBench$Mutants" (9 : Nat) "SuiteBench$Machine"),
  (Jvm.Cond.instantiable "SuiteBench$Machine" (4 : Nat)),
  (Jvm.Cond.initialized "SuiteBench$Machine"),
  (Jvm.Cond.methodLinkNest "SuiteBench$Mutants" (11 : Nat) ({ cls := "SuiteBench$Machine", name := "<init>", desc := "()V" } : Jvm.MethodName) "SuiteBench"),
  (Jvm.Cond.fieldLink "SuiteBench$Mutants" (12 : Nat) "SuiteBench$Mutants" "trial" "LSuiteBench$Machine;"),
  (Jvm.Cond.fieldLink "SuiteBench$Mutants" (18 : Nat) "SuiteBench$Mutants" "other" "LSuiteBench$Machine;"),
  (Jvm.Cond.arrayClass Jvm.ClassFile.FieldType.int),
  (Jvm.Cond.fieldLink "SuiteBench$Mutants" (21 : Nat) "SuiteBench$Mutants" "codes" "[I"),
  (Jvm.Cond.arrayClass Jvm.ClassFile.FieldType.boolean),
  (Jvm.Cond.fieldLink "SuiteBench$Mutants" (25 : Nat) "SuiteBench$Mutants" "equal" "[Z"),
  (Jvm.Cond.fieldLink "SuiteBench$Mutants" (29 : Nat) "SuiteBench$Mutants" "noticed" "[I"),
  (Jvm.Cond.fieldLink "SuiteBench$Mutants" (32 : Nat) "SuiteBench$Mutants" "missed" "[I"),
  (Jvm.Cond.fieldLink "SuiteBench$Mutants" (35 : Nat) "SuiteBench$Mutants" "covers" "[I"),
  (Jvm.Cond.fieldLink "SuiteBench$Mutants" (38 : Nat) "SuiteBench$Mutants" "passing" "[I"),
  (Jvm.Cond.fieldLink "SuiteBench$Mutants" (41 : Nat) "SuiteBench$Mutants" "same" "[I"),
  (Jvm.Cond.fieldLink "SuiteBench$Mutants" (44 : Nat) "SuiteBench$Mutants" "failing" "[I"),
  (Jvm.Cond.fieldLink "SuiteBench$Mutants" (47 : Nat) "SuiteBench$Mutants" "left" "[I"),
  (Jvm.Cond.fieldLink "SuiteBench$Mutants" (50 : Nat) "SuiteBench$Mutants" "meant" "LSuiteBench$Machine;"),
  (Jvm.Cond.fieldLink "SuiteBench$Mutants" (53 : Nat) "SuiteBench$Mutants" "traits" "LSuiteBench$Traits;"),
  (Jvm.Cond.fieldLink "SuiteBench$Mutants" (57 : Nat) "SuiteBench$Mutants" "search" "LSuiteBench$Search;"),
  (Jvm.Cond.fieldLink "SuiteBench$Mutants" (71 : Nat) "SuiteBench$Mutants" "count" "I"),
  (Jvm.Cond.fieldLink "SuiteBench$Mutants" (90 : Nat) "SuiteBench$Machine" "to" "[I"),
  (Jvm.Cond.fieldLink "SuiteBench$Mutants" (93 : Nat) "SuiteBench$Machine" "out" "[I"),
  (Jvm.Cond.fieldLink "SuiteBench$Mutants" (74 : Nat) "SuiteBench$Machine" "places" "I"),
  (Jvm.Cond.methodLink "SuiteBench$Mutants" (96 : Nat) ({ cls := "SuiteBench$Mutants", name := "add", desc := "(I)V" } : Jvm.MethodName)),
  (Jvm.Cond.fieldLink "SuiteBench$Mutants" (99 : Nat) "SuiteBench$Traits" "top" "I"),
  (Jvm.Cond.methodLink "SuiteBench$Mutants" (61 : Nat) ({ cls := "java/util/Arrays", name := "fill", desc := "([II)V" } : Jvm.MethodName)),
  (Jvm.Cond.fieldLink "SuiteBench$Mutants" (67 : Nat) "SuiteBench$Mutants" "equalCount" "I"),
  (Jvm.Cond.fieldLink "SuiteBench$Mutants" (77 : Nat) "SuiteBench$Machine" "inputs" "I"),
  (Jvm.Cond.methodLink "SuiteBench$Mutants" (80 : Nat) ({ cls := "SuiteBench$Traits", name := "isReached", desc := "(I)Z" } : Jvm.MethodName)),
  (Jvm.Cond.methodLink "SuiteBench$Mutants" (86 : Nat) ({ cls := "SuiteBench$Mutants", name := "listArc", desc := "(I)V" } : Jvm.MethodName)),
  (Jvm.Cond.methodLink "SuiteBench$Mutants" (102 : Nat) ({ cls := "SuiteBench$Machine", name := "copy", desc := "(LSuiteBench$Machine;)V" } : Jvm.MethodName)),
  (Jvm.Cond.methodLink "SuiteBench$Mutants" (106 : Nat) ({ cls := "SuiteBench$Mutants", name := "dress", desc := "(LSuiteBench$Machine;I)V" } : Jvm.MethodName)),
  (Jvm.Cond.methodLink "SuiteBench$Mutants" (110 : Nat) ({ cls := "SuiteBench$Search", name := "unlike", desc := "(LSuiteBench$Machine;LSuiteBench$Machine;)I" } : Jvm.MethodName)),
  (Jvm.Cond.methodLink "SuiteBench$Mutants" (116 : Nat) ({ cls := "SuiteBench$Mutants", name := "undress", desc := "(LSuiteBench$Machine;I)V" } : Jvm.MethodName)),
  (Jvm.Cond.methodLink "SuiteBench$Mutants" (123 : Nat) ({ cls := "SuiteBench$Mutants", name := "equalOnes", desc := "()I" } : Jvm.MethodName)),
  (Jvm.Cond.methodLink "SuiteBench$Mutants" (127 : Nat) ({ cls := "SuiteBench$Tests", name := "isFailedBy", desc := "(LSuiteBench$Machine;)Z" } : Jvm.MethodName)),
  (Jvm.Cond.methodLink "SuiteBench$Mutants" (119 : Nat) ({ cls := "SuiteBench$Mutants", name := "learnNoticed", desc := "(ILSuiteBench$Tests;)V" } : Jvm.MethodName)),
  (Jvm.Cond.methodLink "SuiteBench$Mutants" (174 : Nat) ({ cls := "SuiteBench$Machine", name := "set", desc := "(IIII)V" } : Jvm.MethodName)),
  (Jvm.Cond.methodLink "SuiteBench$Mutants" (167 : Nat) ({ cls := "SuiteBench$Mutants", name := "smallOnes", desc := "(I)I" } : Jvm.MethodName)),
  (Jvm.Cond.methodLink "SuiteBench$Mutants" (170 : Nat) ({ cls := "SuiteBench$Mutants", name := "makeSmall", desc := "(II)V" } : Jvm.MethodName)),
  (Jvm.Cond.methodLink "SuiteBench$Mutants" (163 : Nat) ({ cls := "SuiteBench$Mutants", name := "learnSmall", desc := "(IILSuiteBench$Tests;)V" } : Jvm.MethodName)),
  (Jvm.Cond.methodLink "SuiteBench$Mutants" (152 : Nat) ({ cls := "SuiteBench$Tests", name := "run", desc := "(LSuiteBench$Machine;)V" } : Jvm.MethodName)),
  (Jvm.Cond.methodLink "SuiteBench$Mutants" (155 : Nat) ({ cls := "SuiteBench$Tests", name := "isFailed", desc := "(I)Z" } : Jvm.MethodName)),
  (Jvm.Cond.methodLink "SuiteBench$Mutants" (158 : Nat) ({ cls := "java/lang/Integer", name := "bitCount", desc := "(I)I" } : Jvm.MethodName)),
  (Jvm.Cond.fieldLink "SuiteBench$Mutants" (137 : Nat) "SuiteBench$Tests" "count" "I"),
  (Jvm.Cond.methodLink "SuiteBench$Mutants" (138 : Nat) ({ cls := "java/lang/Math", name := "min", desc := "(II)I" } : Jvm.MethodName)),
  (Jvm.Cond.methodLink "SuiteBench$Mutants" (144 : Nat) ({ cls := "SuiteBench$Mutants", name := "learnFailing", desc := "(LSuiteBench$Tests;I)V" } : Jvm.MethodName)),
  (Jvm.Cond.methodLink "SuiteBench$Mutants" (148 : Nat) ({ cls := "SuiteBench$Mutants", name := "bestTest", desc := "(I)I" } : Jvm.MethodName)),
  (Jvm.Cond.methodLink "SuiteBench$Mutants" (133 : Nat) ({ cls := "SuiteBench$Mutants", name := "cover", desc := "(LSuiteBench$Tests;)I" } : Jvm.MethodName))]
theorem kc_U_ok : ∀ w ∈ kc_U, w ∈ ai_gw := by
  have h : kc_U = kt_U.map (fun q => q.1) := rfl
  rw [h]
  exact tk_mem (by decide +kernel)
def kt_L : List (Jvm.Cond × Nat × Nat) := [
  ((Jvm.Cond.methodLink "SuiteBench$Log" (3 : Nat) ({ cls := "java/lang/Object", name := "<init>", desc := "()V" } : Jvm.MethodName)), 2, 239),
  ((Jvm.Cond.arrayClass Jvm.ClassFile.FieldType.int), 1, 112),
  ((Jvm.Cond.fieldLink "SuiteBench$Log" (9 : Nat) "SuiteBench$Log" "words" "[I"), 3, 0),
  ((Jvm.Cond.arrayClass Jvm.ClassFile.FieldType.long), 3, 11),
  ((Jvm.Cond.fieldLink "SuiteBench$Log" (15 : Nat) "SuiteBench$Log" "answers" "[J"), 3, 1),
  ((Jvm.Cond.fieldLink "SuiteBench$Log" (19 : Nat) "SuiteBench$Log" "count" "I"), 3, 2),
  ((Jvm.Cond.methodLink "SuiteBench$Log" (29 : Nat) ({ cls := "SuiteBench$Machine", name := "tell", desc := "(II)J" } : Jvm.MethodName)), 6, 69),
  ((Jvm.Cond.methodLink "SuiteBench$Log" (23 : Nat) ({ cls := "java/lang/System", name := "arraycopy", desc := "(Ljava/lang/Object;ILjava/lang/Object;II)V" } : Jvm.MethodName)), 6, 165)]
def kc_L : List Jvm.Cond := [
  (Jvm.Cond.methodLink "SuiteBench$Log" (3 : Nat) ({ cls := "java/lang/Object", name := "<init>", desc := "()V" } : Jvm.MethodName)),
  (Jvm.Cond.arrayClass Jvm.ClassFile.FieldType.int),
  (Jvm.Cond.fieldLink "SuiteBench$Log" (9 : Nat) "SuiteBench$Log" "words" "[I"),
  (Jvm.Cond.arrayClass Jvm.ClassFile.FieldType.long),
  (Jvm.Cond.fieldLink "SuiteBench$Log" (15 : Nat) "SuiteBench$Log" "answers" "[J"),
  (Jvm.Cond.fieldLink "SuiteBench$Log" (19 : Nat) "SuiteBench$Log" "count" "I"),
  (Jvm.Cond.methodLink "SuiteBench$Log" (29 : Nat) ({ cls := "SuiteBench$Machine", name := "tell", desc := "(II)J" } : Jvm.MethodName)),
  (Jvm.Cond.methodLink "SuiteBench$Log" (23 : Nat) ({ cls := "java/lang/System", name := "arraycopy", desc := "(Ljava/lang/Object;ILjava/lang/Object;II)V" } : Jvm.MethodName))]
theorem kc_L_ok : ∀ w ∈ kc_L, w ∈ ai_gw := by
  have h : kc_L = kt_L.map (fun q => q.1) := rfl
  rw [h]
  exact tk_mem (by decide +kernel)
def kt_X : List (Jvm.Cond × Nat × Nat) := [
  ((Jvm.Cond.methodLink "SuiteBench$Suspects" (3 : Nat) ({ cls := "java/lang/Object", name := "<init>", desc := "()V" } : Jvm.MethodName)), 3, 17),
  ((Jvm.Cond.classLink "SuiteBench$Suspects" (9 : Nat) "SuiteBench$Machine"), 3, 18),
  ((Jvm.Cond.instantiable "SuiteBench$Machine" (4 : Nat)), 1, 151),
  ((Jvm.Cond.initialized "SuiteBench$Machine"), 1, 5),
  ((Jvm.Cond.methodLinkNest "SuiteBench$Suspects" (11 : Nat) ({ cls := "SuiteBench$Machine", name := "<init>", desc := "()V" } : Jvm.MethodName) "SuiteBench"), 3, 19),
  ((Jvm.Cond.fieldLink "SuiteBench$Suspects" (12 : Nat) "SuiteBench$Suspects" "trial" "LSuiteBench$Machine;"), 3, 23),
  ((Jvm.Cond.arrayClass Jvm.ClassFile.FieldType.int), 1, 112),
  ((Jvm.Cond.fieldLink "SuiteBench$Suspects" (18 : Nat) "SuiteBench$Suspects" "numbers" "[I"), 3, 24),
  ((Jvm.Cond.fieldLink "SuiteBench$Suspects" (22 : Nat) "SuiteBench$Suspects" "codes" "[I"), 3, 25),
  ((Jvm.Cond.fieldLink "SuiteBench$Suspects" (25 : Nat) "SuiteBench$Suspects" "begun" "[I"), 3, 26),
  ((Jvm.Cond.fieldLink "SuiteBench$Suspects" (28 : Nat) "SuiteBench$Suspects" "at" "[I"), 3, 27),
  ((Jvm.Cond.fieldLink "SuiteBench$Suspects" (31 : Nat) "SuiteBench$Suspects" "groups" "[I"), 3, 28),
  ((Jvm.Cond.fieldLink "SuiteBench$Suspects" (34 : Nat) "SuiteBench$Suspects" "groupOf" "[I"), 3, 29),
  ((Jvm.Cond.fieldLink "SuiteBench$Suspects" (37 : Nat) "SuiteBench$Suspects" "stamps" "[I"), 3, 30),
  ((Jvm.Cond.fieldLink "SuiteBench$Suspects" (40 : Nat) "SuiteBench$Suspects" "sizes" "[I"), 3, 31),
  ((Jvm.Cond.fieldLink "SuiteBench$Suspects" (43 : Nat) "SuiteBench$Suspects" "meant" "LSuiteBench$Machine;"), 3, 20),
  ((Jvm.Cond.fieldLink "SuiteBench$Suspects" (46 : Nat) "SuiteBench$Suspects" "mutants" "LSuiteBench$Mutants;"), 3, 21),
  ((Jvm.Cond.fieldLink "SuiteBench$Suspects" (50 : Nat) "SuiteBench$Suspects" "log" "LSuiteBench$Log;"), 3, 22),
  ((Jvm.Cond.fieldLink "SuiteBench$Suspects" (54 : Nat) "SuiteBench$Suspects" "known" "Z"), 3, 36),
  ((Jvm.Cond.fieldLink "SuiteBench$Suspects" (58 : Nat) "SuiteBench$Suspects" "nextKnown" "Z"), 3, 37),
  ((Jvm.Cond.fieldLink "SuiteBench$Suspects" (61 : Nat) "SuiteBench$Suspects" "count" "I"), 3, 34),
  ((Jvm.Cond.methodLink "SuiteBench$Suspects" (86 : Nat) ({ cls := "SuiteBench$Log", name := "fits", desc := "(LSuiteBench$Machine;)Z" } : Jvm.MethodName)), 6, 65),
  ((Jvm.Cond.methodLink "SuiteBench$Suspects" (65 : Nat) ({ cls := "SuiteBench$Machine", name := "copy", desc := "(LSuiteBench$Machine;)V" } : Jvm.MethodName)), 6, 59),
  ((Jvm.Cond.fieldLink "SuiteBench$Suspects" (69 : Nat) "SuiteBench$Mutants" "count" "I"), 2, 198),
  ((Jvm.Cond.methodLink "SuiteBench$Suspects" (72 : Nat) ({ cls := "SuiteBench$Mutants", name := "dress", desc := "(LSuiteBench$Machine;I)V" } : Jvm.MethodName)), 6, 60),
  ((Jvm.Cond.methodLink "SuiteBench$Suspects" (76 : Nat) ({ cls := "SuiteBench$Suspects", name := "addIfFitting", desc := "(I)V" } : Jvm.MethodName)), 6, 61),
  ((Jvm.Cond.methodLink "SuiteBench$Suspects" (80 : Nat) ({ cls := "SuiteBench$Mutants", name := "undress", desc := "(LSuiteBench$Machine;I)V" } : Jvm.MethodName)), 6, 70),
  ((Jvm.Cond.fieldLink "SuiteBench$Suspects" (83 : Nat) "SuiteBench$Machine" "places" "I"), 1, 176),
  ((Jvm.Cond.methodLink "SuiteBench$Suspects" (92 : Nat) ({ cls := "SuiteBench$Suspects", name := "learn", desc := "()V" } : Jvm.MethodName)), 6, 55),
  ((Jvm.Cond.methodLink "SuiteBench$Suspects" (116 : Nat) ({ cls := "java/lang/Math", name := "min", desc := "(II)I" } : Jvm.MethodName)), 6, 99),
  ((Jvm.Cond.fieldLink "SuiteBench$Suspects" (121 : Nat) "SuiteBench$Suspects" "crowd" "I"), 3, 33),
  ((Jvm.Cond.methodLink "SuiteBench$Suspects" (124 : Nat) ({ cls := "java/util/Arrays", name := "fill", desc := "([II)V" } : Jvm.MethodName)), 6, 100),
  ((Jvm.Cond.constant "SuiteBench$Suspects" (130 : Nat) (65280 : Int32)), 6, 101),
  ((Jvm.Cond.methodLink "SuiteBench$Suspects" (131 : Nat) ({ cls := "SuiteBench$Mutants", name := "code", desc := "(I)I" } : Jvm.MethodName)), 6, 102),
  ((Jvm.Cond.fieldLink "SuiteBench$Suspects" (145 : Nat) "SuiteBench$Suspects" "stamp" "I"), 3, 32),
  ((Jvm.Cond.fieldLink "SuiteBench$Suspects" (148 : Nat) "SuiteBench$Machine" "out" "[I"), 1, 171),
  ((Jvm.Cond.fieldLink "SuiteBench$Suspects" (151 : Nat) "SuiteBench$Machine" "to" "[I"), 1, 163),
  ((Jvm.Cond.methodLinkNest "SuiteBench$Suspects" (135 : Nat) ({ cls := "SuiteBench", name := "inputAt", desc := "(II)I" } : Jvm.MethodName) "SuiteBench"), 6, 110),
  ((Jvm.Cond.methodLink "SuiteBench$Suspects" (138 : Nat) ({ cls := "SuiteBench$Suspects", name := "split", desc := "(II)V" } : Jvm.MethodName)), 6, 111),
  ((Jvm.Cond.methodLink "SuiteBench$Suspects" (142 : Nat) ({ cls := "java/lang/Math", name := "max", desc := "(II)I" } : Jvm.MethodName)), 6, 115),
  ((Jvm.Cond.methodLink "SuiteBench$Suspects" (102 : Nat) ({ cls := "SuiteBench$Suspects", name := "gatherCrowd", desc := "()V" } : Jvm.MethodName)), 6, 95),
  ((Jvm.Cond.fieldLink "SuiteBench$Suspects" (105 : Nat) "SuiteBench$Tests" "count" "I"), 2, 111),
  ((Jvm.Cond.fieldLink "SuiteBench$Suspects" (108 : Nat) "SuiteBench$Tests" "words" "[I"), 2, 102),
  ((Jvm.Cond.fieldLink "SuiteBench$Suspects" (111 : Nat) "SuiteBench$Tests" "sizes" "[I"), 2, 105),
  ((Jvm.Cond.methodLink "SuiteBench$Suspects" (112 : Nat) ({ cls := "SuiteBench$Suspects", name := "greatestGroup", desc := "(II)I" } : Jvm.MethodName)), 6, 106),
  ((Jvm.Cond.methodLink "SuiteBench$Suspects" (95 : Nat) ({ cls := "SuiteBench$Suspects", name := "findNext", desc := "(LSuiteBench$Tests;)I" } : Jvm.MethodName)), 6, 91),
  ((Jvm.Cond.fieldLink "SuiteBench$Suspects" (99 : Nat) "SuiteBench$Suspects" "nextFound" "I"), 3, 35)]
def kc_X : List Jvm.Cond := [
  (Jvm.Cond.methodLink "SuiteBench$Suspects" (3 : Nat) ({ cls := "java/lang/Object", name := "<init>", desc := "()V" } : Jvm.MethodName)),
  (Jvm.Cond.classLink "SuiteBench$Suspects" (9 : Nat) "SuiteBench$Machine"),
  (Jvm.Cond.instantiable "SuiteBench$Machine" (4 : Nat)),
  (Jvm.Cond.initialized "SuiteBench$Machine"),
  (Jvm.Cond.methodLinkNest "SuiteBench$Suspects" (11 : Nat) ({ cls := "SuiteBench$Machine", name := "<init>", desc := "()V" } : Jvm.MethodName) "SuiteBench"),
  (Jvm.Cond.fieldLink "SuiteBench$Suspects" (12 : Nat) "SuiteBench$Suspects" "trial" "LSuiteBench$Machine;"),
  (Jvm.Cond.arrayClass Jvm.ClassFile.FieldType.int),
  (Jvm.Cond.fieldLink "SuiteBench$Suspects" (18 : Nat) "SuiteBench$Suspects" "numbers" "[I"),
  (Jvm.Cond.fieldLink "SuiteBench$Suspects" (22 : Nat) "SuiteBench$Suspects" "codes" "[I"),
  (Jvm.Cond.fieldLink "SuiteBench$Suspects" (25 : Nat) "SuiteBench$Suspects" "begun" "[I"),
  (Jvm.Cond.fieldLink "SuiteBench$Suspects" (28 : Nat) "SuiteBench$Suspects" "at" "[I"),
  (Jvm.Cond.fieldLink "SuiteBench$Suspects" (31 : Nat) "SuiteBench$Suspects" "groups" "[I"),
  (Jvm.Cond.fieldLink "SuiteBench$Suspects" (34 : Nat) "SuiteBench$Suspects" "groupOf" "[I"),
  (Jvm.Cond.fieldLink "SuiteBench$Suspects" (37 : Nat) "SuiteBench$Suspects" "stamps" "[I"),
  (Jvm.Cond.fieldLink "SuiteBench$Suspects" (40 : Nat) "SuiteBench$Suspects" "sizes" "[I"),
  (Jvm.Cond.fieldLink "SuiteBench$Suspects" (43 : Nat) "SuiteBench$Suspects" "meant" "LSuiteBench$Machine;"),
  (Jvm.Cond.fieldLink "SuiteBench$Suspects" (46 : Nat) "SuiteBench$Suspects" "mutants" "LSuiteBench$Mutants;"),
  (Jvm.Cond.fieldLink "SuiteBench$Suspects" (50 : Nat) "SuiteBench$Suspects" "log" "LSuiteBench$Log;"),
  (Jvm.Cond.fieldLink "SuiteBench$Suspects" (54 : Nat) "SuiteBench$Suspects" "known" "Z"),
  (Jvm.Cond.fieldLink "SuiteBench$Suspects" (58 : Nat) "SuiteBench$Suspects" "nextKnown" "Z"),
  (Jvm.Cond.fieldLink "SuiteBench$Suspects" (61 : Nat) "SuiteBench$Suspects" "count" "I"),
  (Jvm.Cond.methodLink "SuiteBench$Suspects" (86 : Nat) ({ cls := "SuiteBench$Log", name := "fits", desc := "(LSuiteBench$Machine;)Z" } : Jvm.MethodName)),
  (Jvm.Cond.methodLink "SuiteBench$Suspects" (65 : Nat) ({ cls := "SuiteBench$Machine", name := "copy", desc := "(LSuiteBench$Machine;)V" } : Jvm.MethodName)),
  (Jvm.Cond.fieldLink "SuiteBench$Suspects" (69 : Nat) "SuiteBench$Mutants" "count" "I"),
  (Jvm.Cond.methodLink "SuiteBench$Suspects" (72 : Nat) ({ cls := "SuiteBench$Mutants", name := "dress", desc := "(LSuiteBench$Machine;I)V" } : Jvm.MethodName)),
  (Jvm.Cond.methodLink "SuiteBench$Suspects" (76 : Nat) ({ cls := "SuiteBench$Suspects", name := "addIfFitting", desc := "(I)V" } : Jvm.MethodName)),
  (Jvm.Cond.methodLink "SuiteBench$Suspects" (80 : Nat) ({ cls := "SuiteBench$Mutants", name := "undress", desc := "(LSuiteBench$Machine;I)V" } : Jvm.MethodName)),
  (Jvm.Cond.fieldLink "SuiteBench$Suspects" (83 : Nat) "SuiteBench$Machine" "places" "I"),
  (Jvm.Cond.methodLink "SuiteBench$Suspects" (92 : Nat) ({ cls := "SuiteBench$Suspects", name := "learn", desc := "()V" } : Jvm.MethodName)),
  (Jvm.Cond.methodLink "SuiteBench$Suspects" (116 : Nat) ({ cls := "java/lang/Math", name := "min", desc := "(II)I" } : Jvm.MethodName)),
  (Jvm.Cond.fieldLink "SuiteBench$Suspects" (121 : Nat) "SuiteBench$Suspects" "crowd" "I"),
  (Jvm.Cond.methodLink "SuiteBench$Suspects" (124 : Nat) ({ cls := "java/util/Arrays", name := "fill", desc := "([II)V" } : Jvm.MethodName)),
  (Jvm.Cond.constant "SuiteBench$Suspects" (130 : Nat) (65280 : Int32)),
  (Jvm.Cond.methodLink "SuiteBench$Suspects" (131 : Nat) ({ cls := "SuiteBench$Mutants", name := "code", desc := "(I)I" } : Jvm.MethodName)),
  (Jvm.Cond.fieldLink "SuiteBench$Suspects" (145 : Nat) "SuiteBench$Suspects" "stamp" "I"),
  (Jvm.Cond.fieldLink "SuiteBench$Suspects" (148 : Nat) "SuiteBench$Machine" "out" "[I"),
  (Jvm.Cond.fieldLink "SuiteBench$Suspects" (151 : Nat) "SuiteBench$Machine" "to" "[I"),
  (Jvm.Cond.methodLinkNest "SuiteBench$Suspects" (135 : Nat) ({ cls := "SuiteBench", name := "inputAt", desc := "(II)I" } : Jvm.MethodName) "SuiteBench"),
  (Jvm.Cond.methodLink "SuiteBench$Suspects" (138 : Nat) ({ cls := "SuiteBench$Suspects", name := "split", desc := "(II)V" } : Jvm.MethodName)),
  (Jvm.Cond.methodLink "SuiteBench$Suspects" (142 : Nat) ({ cls := "java/lang/Math", name := "max", desc := "(II)I" } : Jvm.MethodName)),
  (Jvm.Cond.methodLink "SuiteBench$Suspects" (102 : Nat) ({ cls := "SuiteBench$Suspects", name := "gatherCrowd", desc := "()V" } : Jvm.MethodName)),
  (Jvm.Cond.fieldLink "SuiteBench$Suspects" (105 : Nat) "SuiteBench$Tests" "count" "I"),
  (Jvm.Cond.fieldLink "SuiteBench$Suspects" (108 : Nat) "SuiteBench$Tests" "words" "[I"),
  (Jvm.Cond.fieldLink "SuiteBench$Suspects" (111 : Nat) "SuiteBench$Tests" "sizes" "[I"),
  (Jvm.Cond.methodLink "SuiteBench$Suspects" (112 : Nat) ({ cls := "SuiteBench$Suspects", name := "greatestGroup", desc := "(II)I" } : Jvm.MethodName)),
  (Jvm.Cond.methodLink "SuiteBench$Suspects" (95 : Nat) ({ cls := "SuiteBench$Suspects", name := "findNext", desc := "(LSuiteBench$Tests;)I" } : Jvm.MethodName)),
  (Jvm.Cond.fieldLink "SuiteBench$Suspects" (99 : Nat) "SuiteBench$Suspects" "nextFound" "I")]
theorem kc_X_ok : ∀ w ∈ kc_X, w ∈ ai_gw := by
  have h : kc_X = kt_X.map (fun q => q.1) := rfl
  rw [h]
  exact tk_mem (by decide +kernel)
def kt_B : List (Jvm.Cond × Nat × Nat) := [
  ((Jvm.Cond.fieldLink "SuiteBench" (26 : Nat) "SuiteBench" "meant" "LSuiteBench$Machine;"), 3, 183),
  ((Jvm.Cond.fieldLink "SuiteBench" (19 : Nat) "SuiteBench" "told" "LSuiteBench$Plan;"), 3, 194),
  ((Jvm.Cond.fieldLink "SuiteBench" (386 : Nat) "SuiteBench$Plan" "states" "I"), 1, 66),
  ((Jvm.Cond.fieldLink "SuiteBench" (389 : Nat) "SuiteBench$Plan" "inputs" "I"), 1, 72),
  ((Jvm.Cond.methodLink "SuiteBench" (390 : Nat) ({ cls := "SuiteBench$Machine", name := "still", desc := "(II)V" } : Jvm.MethodName)), 3, 79),
  ((Jvm.Cond.fieldLink "SuiteBench" (394 : Nat) "SuiteBench$Plan" "arcs" "[I"), 1, 60),
  ((Jvm.Cond.methodLink "SuiteBench" (397 : Nat) ({ cls := "SuiteBench$Machine", name := "tellArcs", desc := "([I)V" } : Jvm.MethodName)), 3, 83),
  ((Jvm.Cond.fieldLink "SuiteBench" (30 : Nat) "SuiteBench" "made" "LSuiteBench$Machine;"), 3, 184),
  ((Jvm.Cond.fieldLink "SuiteBench" (401 : Nat) "SuiteBench$Plan" "more" "I"), 1, 69),
  ((Jvm.Cond.fieldLink "SuiteBench" (404 : Nat) "SuiteBench$Plan" "twists" "[I"), 1, 63),
  ((Jvm.Cond.fieldLink "SuiteBench" (38 : Nat) "SuiteBench" "traits" "LSuiteBench$Traits;"), 3, 185),
  ((Jvm.Cond.methodLink "SuiteBench" (407 : Nat) ({ cls := "SuiteBench$Traits", name := "learn", desc := "()V" } : Jvm.MethodName)), 3, 87),
  ((Jvm.Cond.fieldLink "SuiteBench" (47 : Nat) "SuiteBench" "search" "LSuiteBench$Search;"), 3, 186),
  ((Jvm.Cond.methodLink "SuiteBench" (410 : Nat) ({ cls := "SuiteBench$Search", name := "renew", desc := "()V" } : Jvm.MethodName)), 3, 151),
  ((Jvm.Cond.fieldLink "SuiteBench" (56 : Nat) "SuiteBench" "suites" "LSuiteBench$Suites;"), 3, 187),
  ((Jvm.Cond.fieldLink "SuiteBench" (360 : Nat) "SuiteBench$Plan" "extra" "I"), 1, 75),
  ((Jvm.Cond.methodLink "SuiteBench" (411 : Nat) ({ cls := "SuiteBench$Suites", name := "renew", desc := "(I)V" } : Jvm.MethodName)), 3, 156),
  ((Jvm.Cond.fieldLink "SuiteBench" (63 : Nat) "SuiteBench" "mutants" "LSuiteBench$Mutants;"), 3, 188),
  ((Jvm.Cond.methodLink "SuiteBench" (413 : Nat) ({ cls := "SuiteBench$Mutants", name := "list", desc := "()V" } : Jvm.MethodName)), 3, 164),
  ((Jvm.Cond.fieldLink "SuiteBench" (70 : Nat) "SuiteBench" "log" "LSuiteBench$Log;"), 3, 189),
  ((Jvm.Cond.fieldLink "SuiteBench" (297 : Nat) "SuiteBench$Log" "count" "I"), 3, 3),
  ((Jvm.Cond.fieldLink "SuiteBench" (79 : Nat) "SuiteBench" "suspects" "LSuiteBench$Suspects;"), 3, 190),
  ((Jvm.Cond.methodLink "SuiteBench" (304 : Nat) ({ cls := "SuiteBench$Suspects", name := "renew", desc := "()V" } : Jvm.MethodName)), 3, 178),
  ((Jvm.Cond.fieldLink "SuiteBench" (416 : Nat) "SuiteBench" "pastFirst" "I"), 3, 195),
  ((Jvm.Cond.fieldLink "SuiteBench" (339 : Nat) "SuiteBench" "pastCount" "I"), 3, 196),
  ((Jvm.Cond.fieldLink "SuiteBench" (356 : Nat) "SuiteBench" "kept" "Z"), 3, 197),
  ((Jvm.Cond.methodLink "SuiteBench" (1 : Nat) ({ cls := "java/lang/Object", name := "<init>", desc := "()V" } : Jvm.MethodName)), 1, 32),
  ((Jvm.Cond.classLink "SuiteBench" (7 : Nat) "SuiteBench$Reader"), 1, 35),
  ((Jvm.Cond.instantiable "SuiteBench$Reader" (10 : Nat)), 1, 36),
  ((Jvm.Cond.initialized "SuiteBench$Reader"), 1, 2),
  ((Jvm.Cond.methodLinkNest "SuiteBench" (9 : Nat) ({ cls := "SuiteBench$Reader", name := "<init>", desc := "()V" } : Jvm.MethodName) "SuiteBench"), 1, 37),
  ((Jvm.Cond.fieldLink "SuiteBench" (10 : Nat) "SuiteBench" "reader" "LSuiteBench$Reader;"), 3, 182),
  ((Jvm.Cond.classLink "SuiteBench" (16 : Nat) "SuiteBench$Plan"), 1, 148),
  ((Jvm.Cond.instantiable "SuiteBench$Plan" (12 : Nat)), 1, 42),
  ((Jvm.Cond.initialized "SuiteBench$Plan"), 1, 3),
  ((Jvm.Cond.methodLink "SuiteBench" (18 : Nat) ({ cls := "SuiteBench$Plan", name := "<init>", desc := "()V" } : Jvm.MethodName)), 1, 149),
  ((Jvm.Cond.classLink "SuiteBench" (23 : Nat) "SuiteBench$Machine"), 1, 150),
  ((Jvm.Cond.instantiable "SuiteBench$Machine" (4 : Nat)), 1, 151),
  ((Jvm.Cond.initialized "SuiteBench$Machine"), 1, 5),
  ((Jvm.Cond.methodLinkNest "SuiteBench" (25 : Nat) ({ cls := "SuiteBench$Machine", name := "<init>", desc := "()V" } : Jvm.MethodName) "SuiteBench"), 1, 152),
  ((Jvm.Cond.classLink "SuiteBench" (33 : Nat) "SuiteBench$Traits"), 1, 196),
  ((Jvm.Cond.instantiable "SuiteBench$Traits" (12 : Nat)), 1, 197),
  ((Jvm.Cond.initialized "SuiteBench$Traits"), 1, 6),
  ((Jvm.Cond.methodLink "SuiteBench" (35 : Nat) ({ cls := "SuiteBench$Traits", name := "<init>", desc := "(LSuiteBench$Machine;)V" } : Jvm.MethodName)), 1, 198),
  ((Jvm.Cond.classLink "SuiteBench" (42 : Nat) "SuiteBench$Search"), 2, 16),
  ((Jvm.Cond.instantiable "SuiteBench$Search" (11 : Nat)), 2, 17),
  ((Jvm.Cond.initialized "SuiteBench$Search"), 1, 7),
  ((Jvm.Cond.methodLink "SuiteBench" (44 : Nat) ({ cls := "SuiteBench$Search", name := "<init>", desc := "(LSuiteBench$Machine;LSuiteBench$Traits;)V" } : Jvm.MethodName)), 2, 18),
  ((Jvm.Cond.classLink "SuiteBench" (51 : Nat) "SuiteBench$Suites"), 2, 56),
  ((Jvm.Cond.instantiable "SuiteBench$Suites" (12 : Nat)), 2, 57),
  ((Jvm.Cond.initialized "SuiteBench$Suites"), 1, 8),
  ((Jvm.Cond.methodLink "SuiteBench" (53 : Nat) ({ cls := "SuiteBench$Suites", name := "<init>", desc := "(LSuiteBench$Machine;LSuiteBench$Traits;LSuiteBench$Search;)V" } : Jvm.MethodName)), 2, 58),
  ((Jvm.Cond.classLink "SuiteBench" (60 : Nat) "SuiteBench$Mutants"), 2, 174),
  ((Jvm.Cond.instantiable "SuiteBench$Mutants" (16 : Nat)), 2, 175),
  ((Jvm.Cond.initialized "SuiteBench$Mutants"), 1, 11),
  ((Jvm.Cond.methodLink "SuiteBench" (62 : Nat) ({ cls := "SuiteBench$Mutants", name := "<init>", desc := "(LSuiteBench$Machine;LSuiteBench$Traits;LSuiteBench$Search;)V" } : Jvm.MethodName)), 2, 176),
  ((Jvm.Cond.classLink "SuiteBench" (67 : Nat) "SuiteBench$Log"), 2, 234),
  ((Jvm.Cond.instantiable "SuiteBench$Log" (3 : Nat)), 2, 235),
  ((Jvm.Cond.initialized "SuiteBench$Log"), 1, 12),
  ((Jvm.Cond.methodLinkNest "SuiteBench" (69 : Nat) ({ cls := "SuiteBench$Log", name := "<init>", desc := "()V" } : Jvm.MethodName) "SuiteBench"), 2, 236),
  ((Jvm.Cond.classLink "SuiteBench" (74 : Nat) "SuiteBench$Suspects"), 3, 12),
  ((Jvm.Cond.instantiable "SuiteBench$Suspects" (18 : Nat)), 3, 13),
  ((Jvm.Cond.initialized "SuiteBench$Suspects"), 1, 13),
  ((Jvm.Cond.methodLink "SuiteBench" (76 : Nat) ({ cls := "SuiteBench$Suspects", name := "<init>", desc := "(LSuiteBench$Machine;LSuiteBench$Mutants;LSuiteBench$Log;)V" } : Jvm.MethodName)), 3, 14),
  ((Jvm.Cond.arrayClass Jvm.ClassFile.FieldType.int), 1, 112),
  ((Jvm.Cond.fieldLink "SuiteBench" (83 : Nat) "SuiteBench" "past" "[I"), 3, 191),
  ((Jvm.Cond.fieldLink "SuiteBench" (87 : Nat) "SuiteBench" "image" "[I"), 3, 192),
  ((Jvm.Cond.fieldLink "SuiteBench" (90 : Nat) "SuiteBench" "imageLog" "LSuiteBench$Log;"), 3, 193),
  ((Jvm.Cond.methodLink "SuiteBench" (93 : Nat) ({ cls := "SuiteBench", name := "settle", desc := "()V" } : Jvm.MethodName)), 3, 75),
  ((Jvm.Cond.fieldLink "SuiteBench" (96 : Nat) "SuiteBench$Reader" "taped" "I"), 1, 116),
  ((Jvm.Cond.methodLink "SuiteBench" (100 : Nat) ({ cls := "SuiteBench$Reader", name := "take", desc := "(I)V" } : Jvm.MethodName)), 3, 235),
  ((Jvm.Cond.methodLink "SuiteBench" (104 : Nat) ({ cls := "SuiteBench$Reader", name := "reads", desc := "(I)Z" } : Jvm.MethodName)), 4, 3),
  ((Jvm.Cond.fieldLink "SuiteBench" (108 : Nat) "SuiteBench$Reader" "draft" "LSuiteBench$Plan;"), 1, 115),
  ((Jvm.Cond.fieldLink "SuiteBench" (111 : Nat) "SuiteBench$Plan" "lines" "I"), 1, 80),
  ((Jvm.Cond.fieldLink "SuiteBench" (114 : Nat) "SuiteBench$Reader" "fault" "I"), 1, 119),
  ((Jvm.Cond.fieldLink "SuiteBench" (117 : Nat) "SuiteBench$Reader" "faultPlace" "I"), 1, 121),
  ((Jvm.Cond.methodLink "SuiteBench" (120 : Nat) ({ cls := "SuiteBench$Plan", name := "placeNamed", desc := "(I)I" } : Jvm.MethodName)), 4, 104),
  ((Jvm.Cond.methodLink "SuiteBench" (124 : Nat) ({ cls := "SuiteBench$Plan", name := "inputNamed", desc := "(I)I" } : Jvm.MethodName)), 4, 105),
  ((Jvm.Cond.methodLink "SuiteBench" (127 : Nat) ({ cls := "SuiteBench$Machine", name := "has", desc := "(II)Z" } : Jvm.MethodName)), 4, 110),
  ((Jvm.Cond.methodLink "SuiteBench" (143 : Nat) ({ cls := "SuiteBench$Machine", name := "part", desc := "(III)I" } : Jvm.MethodName)), 4, 114),
  ((Jvm.Cond.fieldLink "SuiteBench" (166 : Nat) "SuiteBench$Machine" "places" "I"), 1, 179),
  ((Jvm.Cond.constant "SuiteBench" (379 : Nat) (1073741824 : Int32)), 4, 129),
  ((Jvm.Cond.methodLink "SuiteBench" (380 : Nat) ({ cls := "SuiteBench", name := "lengthOf", desc := "(I)I" } : Jvm.MethodName)), 4, 130),
  ((Jvm.Cond.methodLink "SuiteBench" (383 : Nat) ({ cls := "SuiteBench", name := "inputAt", desc := "(II)I" } : Jvm.MethodName)), 4, 131),
  ((Jvm.Cond.methodLink "SuiteBench" (147 : Nat) ({ cls := "SuiteBench", name := "isState", desc := "(I)Z" } : Jvm.MethodName)), 4, 122),
  ((Jvm.Cond.fieldLink "SuiteBench" (150 : Nat) "SuiteBench$Machine" "inputs" "I"), 1, 186),
  ((Jvm.Cond.methodLink "SuiteBench" (153 : Nat) ({ cls := "SuiteBench", name := "isWord", desc := "(II)Z" } : Jvm.MethodName)), 4, 126),
  ((Jvm.Cond.constantLong "SuiteBench" (156 : Nat) (-1 : Int64)), 4, 132),
  ((Jvm.Cond.methodLink "SuiteBench" (158 : Nat) ({ cls := "SuiteBench$Machine", name := "tell", desc := "(II)J" } : Jvm.MethodName)), 4, 133),
  ((Jvm.Cond.methodLink "SuiteBench" (162 : Nat) ({ cls := "SuiteBench$Machine", name := "go", desc := "(II)I" } : Jvm.MethodName)), 4, 138),
  ((Jvm.Cond.fieldLink "SuiteBench" (169 : Nat) "SuiteBench$Traits" "access" "[I"), 1, 205),
  ((Jvm.Cond.fieldLink "SuiteBench" (172 : Nat) "SuiteBench$Traits" "kinds" "[I"), 1, 209),
  ((Jvm.Cond.fieldLink "SuiteBench" (175 : Nat) "SuiteBench$Traits" "separators" "[I"), 1, 207),
  ((Jvm.Cond.fieldLink "SuiteBench" (178 : Nat) "SuiteBench$Traits" "splitterCount" "I"), 1, 227),
  ((Jvm.Cond.fieldLink "SuiteBench" (181 : Nat) "SuiteBench$Traits" "splitters" "[I"), 1, 212),
  ((Jvm.Cond.fieldLink "SuiteBench" (184 : Nat) "SuiteBench$Traits" "markCounts" "[I"), 1, 218),
  ((Jvm.Cond.fieldLink "SuiteBench" (187 : Nat) "SuiteBench$Traits" "marks" "[I"), 1, 215),
  ((Jvm.Cond.methodLink "SuiteBench" (190 : Nat) ({ cls := "SuiteBench$Search", name := "signOf", desc := "(I)I" } : Jvm.MethodName)), 4, 170),
  ((Jvm.Cond.methodLink "SuiteBench" (193 : Nat) ({ cls := "SuiteBench", name := "isSuite", desc := "(I)Z" } : Jvm.MethodName)), 4, 195),
  ((Jvm.Cond.methodLink "SuiteBench" (196 : Nat) ({ cls := "SuiteBench$Suites", name := "give", desc := "(I)LSuiteBench$Tests;" } : Jvm.MethodName)), 4, 198),
  ((Jvm.Cond.fieldLink "SuiteBench" (200 : Nat) "SuiteBench$Tests" "count" "I"), 2, 113),
  ((Jvm.Cond.methodLink "SuiteBench" (205 : Nat) ({ cls := "SuiteBench$Tests", name := "inputsInSum", desc := "()I" } : Jvm.MethodName)), 5, 22),
  ((Jvm.Cond.methodLink "SuiteBench" (209 : Nat) ({ cls := "SuiteBench$Tests", name := "mostInputs", desc := "()I" } : Jvm.MethodName)), 5, 26),
  ((Jvm.Cond.methodLink "SuiteBench" (212 : Nat) ({ cls := "SuiteBench", name := "isPlanned", desc := "(I)Z" } : Jvm.MethodName)), 5, 35),
  ((Jvm.Cond.fieldLink "SuiteBench" (215 : Nat) "SuiteBench$Tests" "words" "[I"), 2, 103),
  ((Jvm.Cond.fieldLink "SuiteBench" (218 : Nat) "SuiteBench$Tests" "nodes" "I"), 2, 109),
  ((Jvm.Cond.fieldLink "SuiteBench" (221 : Nat) "SuiteBench$Tests" "by" "[I"), 2, 98),
  ((Jvm.Cond.methodLink "SuiteBench" (224 : Nat) ({ cls := "SuiteBench$Tests", name := "run", desc := "(LSuiteBench$Machine;)V" } : Jvm.MethodName)), 5, 46),
  ((Jvm.Cond.methodLink "SuiteBench" (227 : Nat) ({ cls := "SuiteBench$Tests", name := "failures", desc := "()I" } : Jvm.MethodName)), 5, 54),
  ((Jvm.Cond.methodLink "SuiteBench" (230 : Nat) ({ cls := "SuiteBench$Tests", name := "firstFailure", desc := "()I" } : Jvm.MethodName)), 5, 62),
  ((Jvm.Cond.methodLink "SuiteBench" (233 : Nat) ({ cls := "SuiteBench$Tests", name := "wrongPlace", desc := "(I)I" } : Jvm.MethodName)), 5, 66),
  ((Jvm.Cond.methodLink "SuiteBench" (236 : Nat) ({ cls := "SuiteBench$Tests", name := "wrongOutput", desc := "(ILSuiteBench$Machine;)I" } : Jvm.MethodName)), 5, 74),
  ((Jvm.Cond.methodLink "SuiteBench" (240 : Nat) ({ cls := "SuiteBench$Search", name := "unlike", desc := "(LSuiteBench$Machine;LSuiteBench$Machine;)I" } : Jvm.MethodName)), 5, 82),
  ((Jvm.Cond.methodLink "SuiteBench" (244 : Nat) ({ cls := "SuiteBench$Suites", name := "planned", desc := "(II)LSuiteBench$Tests;" } : Jvm.MethodName)), 5, 94),
  ((Jvm.Cond.methodLink "SuiteBench" (248 : Nat) ({ cls := "SuiteBench$Tests", name := "isFailedBy", desc := "(LSuiteBench$Machine;)Z" } : Jvm.MethodName)), 5, 95),
  ((Jvm.Cond.fieldLink "SuiteBench" (252 : Nat) "SuiteBench$Mutants" "count" "I"), 2, 199),
  ((Jvm.Cond.methodLink "SuiteBench" (253 : Nat) ({ cls := "SuiteBench$Mutants", name := "equalOnes", desc := "()I" } : Jvm.MethodName)), 5, 103),
  ((Jvm.Cond.methodLink "SuiteBench" (256 : Nat) ({ cls := "SuiteBench$Mutants", name := "noticedBy", desc := "(ILSuiteBench$Tests;)I" } : Jvm.MethodName)), 5, 127),
  ((Jvm.Cond.methodLink "SuiteBench" (260 : Nat) ({ cls := "SuiteBench$Mutants", name := "firstMissedBy", desc := "(ILSuiteBench$Tests;)I" } : Jvm.MethodName)), 5, 137),
  ((Jvm.Cond.methodLink "SuiteBench" (263 : Nat) ({ cls := "SuiteBench$Mutants", name := "has", desc := "(I)Z" } : Jvm.MethodName)), 5, 145),
  ((Jvm.Cond.methodLink "SuiteBench" (265 : Nat) ({ cls := "SuiteBench$Mutants", name := "part", desc := "(II)I" } : Jvm.MethodName)), 5, 149),
  ((Jvm.Cond.methodLink "SuiteBench" (267 : Nat) ({ cls := "SuiteBench$Mutants", name := "unlikeOnes", desc := "(II)I" } : Jvm.MethodName)), 5, 157),
  ((Jvm.Cond.methodLink "SuiteBench" (270 : Nat) ({ cls := "SuiteBench$Mutants", name := "smallOnes", desc := "(I)I" } : Jvm.MethodName)), 5, 165),
  ((Jvm.Cond.methodLink "SuiteBench" (273 : Nat) ({ cls := "SuiteBench$Mutants", name := "smallPassing", desc := "(IILSuiteBench$Tests;)I" } : Jvm.MethodName)), 5, 169),
  ((Jvm.Cond.methodLink "SuiteBench" (277 : Nat) ({ cls := "SuiteBench$Mutants", name := "smallEqual", desc := "(IILSuiteBench$Tests;)I" } : Jvm.MethodName)), 5, 186),
  ((Jvm.Cond.methodLink "SuiteBench" (280 : Nat) ({ cls := "java/lang/Integer", name := "bitCount", desc := "(I)I" } : Jvm.MethodName)), 5, 194),
  ((Jvm.Cond.methodLink "SuiteBench" (285 : Nat) ({ cls := "SuiteBench$Search", name := "treeDepth", desc := "(I)I" } : Jvm.MethodName)), 5, 200),
  ((Jvm.Cond.methodLink "SuiteBench" (288 : Nat) ({ cls := "SuiteBench$Search", name := "treeInput", desc := "(I)I" } : Jvm.MethodName)), 5, 227),
  ((Jvm.Cond.methodLink "SuiteBench" (291 : Nat) ({ cls := "SuiteBench$Search", name := "wordForAll", desc := "(I)I" } : Jvm.MethodName)), 5, 235),
  ((Jvm.Cond.methodLink "SuiteBench" (294 : Nat) ({ cls := "SuiteBench$Mutants", name := "coveredBy", desc := "(ILSuiteBench$Tests;)I" } : Jvm.MethodName)), 6, 14),
  ((Jvm.Cond.constantLong "SuiteBench" (298 : Nat) (-3 : Int64)), 6, 38),
  ((Jvm.Cond.methodLink "SuiteBench" (300 : Nat) ({ cls := "SuiteBench$Log", name := "add", desc := "(IJ)V" } : Jvm.MethodName)), 6, 39),
  ((Jvm.Cond.methodLink "SuiteBench" (307 : Nat) ({ cls := "SuiteBench$Suspects", name := "all", desc := "()I" } : Jvm.MethodName)), 6, 51),
  ((Jvm.Cond.methodLink "SuiteBench" (310 : Nat) ({ cls := "SuiteBench$Suspects", name := "machineAmong", desc := "()I" } : Jvm.MethodName)), 6, 71),
  ((Jvm.Cond.methodLink "SuiteBench" (313 : Nat) ({ cls := "SuiteBench$Suspects", name := "number", desc := "(I)I" } : Jvm.MethodName)), 6, 79),
  ((Jvm.Cond.methodLink "SuiteBench" (316 : Nat) ({ cls := "SuiteBench$Suspects", name := "nextWord", desc := "(LSuiteBench$Tests;)I" } : Jvm.MethodName)), 6, 87),
  ((Jvm.Cond.fieldLink "SuiteBench" (320 : Nat) "SuiteBench$Plan" "seed" "I"), 1, 78),
  ((Jvm.Cond.constant "SuiteBench" (323 : Nat) (1103515245 : Int32)), 6, 120),
  ((Jvm.Cond.constant "SuiteBench" (324 : Nat) (2147483647 : Int32)), 6, 121),
  ((Jvm.Cond.methodLink "SuiteBench" (342 : Nat) ({ cls := "SuiteBench", name := "pastSlot", desc := "()I" } : Jvm.MethodName)), 6, 130),
  ((Jvm.Cond.methodLink "SuiteBench" (349 : Nat) ({ cls := "SuiteBench$Machine", name := "pack", desc := "([II)V" } : Jvm.MethodName)), 6, 134),
  ((Jvm.Cond.methodLink "SuiteBench" (325 : Nat) ({ cls := "SuiteBench", name := "remember", desc := "()V" } : Jvm.MethodName)), 6, 126),
  ((Jvm.Cond.methodLink "SuiteBench" (328 : Nat) ({ cls := "SuiteBench$Machine", name := "set", desc := "(IIII)V" } : Jvm.MethodName)), 6, 138),
  ((Jvm.Cond.methodLink "SuiteBench" (332 : Nat) ({ cls := "SuiteBench$Machine", name := "copyArcs", desc := "(LSuiteBench$Machine;)V" } : Jvm.MethodName)), 6, 147),
  ((Jvm.Cond.methodLink "SuiteBench" (335 : Nat) ({ cls := "SuiteBench$Mutants", name := "dress", desc := "(LSuiteBench$Machine;I)V" } : Jvm.MethodName)), 6, 148),
  ((Jvm.Cond.methodLink "SuiteBench" (345 : Nat) ({ cls := "SuiteBench$Machine", name := "unpack", desc := "([II)V" } : Jvm.MethodName)), 6, 153),
  ((Jvm.Cond.methodLink "SuiteBench" (352 : Nat) ({ cls := "SuiteBench$Log", name := "copy", desc := "(LSuiteBench$Log;)V" } : Jvm.MethodName)), 6, 161),
  ((Jvm.Cond.fieldLink "SuiteBench" (363 : Nat) "SuiteBench$Traits" "reached" "I"), 1, 222),
  ((Jvm.Cond.fieldLink "SuiteBench" (366 : Nat) "SuiteBench$Traits" "kindCount" "I"), 1, 224),
  ((Jvm.Cond.fieldLink "SuiteBench" (369 : Nat) "SuiteBench$Traits" "top" "I"), 1, 230),
  ((Jvm.Cond.methodLink "SuiteBench" (372 : Nat) ({ cls := "SuiteBench$Machine", name := "arcsUnlike", desc := "(LSuiteBench$Machine;)I" } : Jvm.MethodName)), 6, 174),
  ((Jvm.Cond.methodLink "SuiteBench" (376 : Nat) ({ cls := "SuiteBench$Machine", name := "placesReached", desc := "()I" } : Jvm.MethodName)), 6, 178)]
def kc_B : List Jvm.Cond := [
  (Jvm.Cond.fieldLink "SuiteBench" (26 : Nat) "SuiteBench" "meant" "LSuiteBench$Machine;"),
  (Jvm.Cond.fieldLink "SuiteBench" (19 : Nat) "SuiteBench" "told" "LSuiteBench$Plan;"),
  (Jvm.Cond.fieldLink "SuiteBench" (386 : Nat) "SuiteBench$Plan" "states" "I"),
  (Jvm.Cond.fieldLink "SuiteBench" (389 : Nat) "SuiteBench$Plan" "inputs" "I"),
  (Jvm.Cond.methodLink "SuiteBench" (390 : Nat) ({ cls := "SuiteBench$Machine", name := "still", desc := "(II)V" } : Jvm.MethodName)),
  (Jvm.Cond.fieldLink "SuiteBench" (394 : Nat) "SuiteBench$Plan" "arcs" "[I"),
  (Jvm.Cond.methodLink "SuiteBench" (397 : Nat) ({ cls := "SuiteBench$Machine", name := "tellArcs", desc := "([I)V" } : Jvm.MethodName)),
  (Jvm.Cond.fieldLink "SuiteBench" (30 : Nat) "SuiteBench" "made" "LSuiteBench$Machine;"),
  (Jvm.Cond.fieldLink "SuiteBench" (401 : Nat) "SuiteBench$Plan" "more" "I"),
  (Jvm.Cond.fieldLink "SuiteBench" (404 : Nat) "SuiteBench$Plan" "twists" "[I"),
  (Jvm.Cond.fieldLink "SuiteBench" (38 : Nat) "SuiteBench" "traits" "LSuiteBench$Traits;"),
  (Jvm.Cond.methodLink "SuiteBench" (407 : Nat) ({ cls := "SuiteBench$Traits", name := "learn", desc := "()V" } : Jvm.MethodName)),
  (Jvm.Cond.fieldLink "SuiteBench" (47 : Nat) "SuiteBench" "search" "LSuiteBench$Search;"),
  (Jvm.Cond.methodLink "SuiteBench" (410 : Nat) ({ cls := "SuiteBench$Search", name := "renew", desc := "()V" } : Jvm.MethodName)),
  (Jvm.Cond.fieldLink "SuiteBench" (56 : Nat) "SuiteBench" "suites" "LSuiteBench$Suites;"),
  (Jvm.Cond.fieldLink "SuiteBench" (360 : Nat) "SuiteBench$Plan" "extra" "I"),
  (Jvm.Cond.methodLink "SuiteBench" (411 : Nat) ({ cls := "SuiteBench$Suites", name := "renew", desc := "(I)V" } : Jvm.MethodName)),
  (Jvm.Cond.fieldLink "SuiteBench" (63 : Nat) "SuiteBench" "mutants" "LSuiteBench$Mutants;"),
  (Jvm.Cond.methodLink "SuiteBench" (413 : Nat) ({ cls := "SuiteBench$Mutants", name := "list", desc := "()V" } : Jvm.MethodName)),
  (Jvm.Cond.fieldLink "SuiteBench" (70 : Nat) "SuiteBench" "log" "LSuiteBench$Log;"),
  (Jvm.Cond.fieldLink "SuiteBench" (297 : Nat) "SuiteBench$Log" "count" "I"),
  (Jvm.Cond.fieldLink "SuiteBench" (79 : Nat) "SuiteBench" "suspects" "LSuiteBench$Suspects;"),
  (Jvm.Cond.methodLink "SuiteBench" (304 : Nat) ({ cls := "SuiteBench$Suspects", name := "renew", desc := "()V" } : Jvm.MethodName)),
  (Jvm.Cond.fieldLink "SuiteBench" (416 : Nat) "SuiteBench" "pastFirst" "I"),
  (Jvm.Cond.fieldLink "SuiteBench" (339 : Nat) "SuiteBench" "pastCount" "I"),
  (Jvm.Cond.fieldLink "SuiteBench" (356 : Nat) "SuiteBench" "kept" "Z"),
  (Jvm.Cond.methodLink "SuiteBench" (1 : Nat) ({ cls := "java/lang/Object", name := "<init>", desc := "()V" } : Jvm.MethodName)),
  (Jvm.Cond.classLink "SuiteBench" (7 : Nat) "SuiteBench$Reader"),
  (Jvm.Cond.instantiable "SuiteBench$Reader" (10 : Nat)),
  (Jvm.Cond.initialized "SuiteBench$Reader"),
  (Jvm.Cond.methodLinkNest "SuiteBench" (9 : Nat) ({ cls := "SuiteBench$Reader", name := "<init>", desc := "()V" } : Jvm.MethodName) "SuiteBench"),
  (Jvm.Cond.fieldLink "SuiteBench" (10 : Nat) "SuiteBench" "reader" "LSuiteBench$Reader;"),
  (Jvm.Cond.classLink "SuiteBench" (16 : Nat) "SuiteBench$Plan"),
  (Jvm.Cond.instantiable "SuiteBench$Plan" (12 : Nat)),
  (Jvm.Cond.initialized "SuiteBench$Plan"),
  (Jvm.Cond.methodLink "SuiteBench" (18 : Nat) ({ cls := "SuiteBench$Plan", name := "<init>", desc := "()V" } : Jvm.MethodName)),
  (Jvm.Cond.classLink "SuiteBench" (23 : Nat) "SuiteBench$Machine"),
  (Jvm.Cond.instantiable "SuiteBench$Machine" (4 : Nat)),
  (Jvm.Cond.initialized "SuiteBench$Machine"),
  (Jvm.Cond.methodLinkNest "SuiteBench" (25 : Nat) ({ cls := "SuiteBench$Machine", name := "<init>", desc := "()V" } : Jvm.MethodName) "SuiteBench"),
  (Jvm.Cond.classLink "SuiteBench" (33 : Nat) "SuiteBench$Traits"),
  (Jvm.Cond.instantiable "SuiteBench$Traits" (12 : Nat)),
  (Jvm.Cond.initialized "SuiteBench$Traits"),
  (Jvm.Cond.methodLink "SuiteBench" (35 : Nat) ({ cls := "SuiteBench$Traits", name := "<init>", desc := "(LSuiteBench$Machine;)V" } : Jvm.MethodName)),
  (Jvm.Cond.classLink "SuiteBench" (42 : Nat) "SuiteBench$Search"),
  (Jvm.Cond.instantiable "SuiteBench$Search" (11 : Nat)),
  (Jvm.Cond.initialized "SuiteBench$Search"),
  (Jvm.Cond.methodLink "SuiteBench" (44 : Nat) ({ cls := "SuiteBench$Search", name := "<init>", desc := "(LSuiteBench$Machine;LSuiteBench$Traits;)V" } : Jvm.MethodName)),
  (Jvm.Cond.classLink "SuiteBench" (51 : Nat) "SuiteBench$Suites"),
  (Jvm.Cond.instantiable "SuiteBench$Suites" (12 : Nat)),
  (Jvm.Cond.initialized "SuiteBench$Suites"),
  (Jvm.Cond.methodLink "SuiteBench" (53 : Nat) ({ cls := "SuiteBench$Suites", name := "<init>", desc := "(LSuiteBench$Machine;LSuiteBench$Traits;LSuiteBench$Search;)V" } : Jvm.MethodName)),
  (Jvm.Cond.classLink "SuiteBench" (60 : Nat) "SuiteBench$Mutants"),
  (Jvm.Cond.instantiable "SuiteBench$Mutants" (16 : Nat)),
  (Jvm.Cond.initialized "SuiteBench$Mutants"),
  (Jvm.Cond.methodLink "SuiteBench" (62 : Nat) ({ cls := "SuiteBench$Mutants", name := "<init>", desc := "(LSuiteBench$Machine;LSuiteBench$Traits;LSuiteBench$Search;)V" } : Jvm.MethodName)),
  (Jvm.Cond.classLink "SuiteBench" (67 : Nat) "SuiteBench$Log"),
  (Jvm.Cond.instantiable "SuiteBench$Log" (3 : Nat)),
  (Jvm.Cond.initialized "SuiteBench$Log"),
  (Jvm.Cond.methodLinkNest "SuiteBench" (69 : Nat) ({ cls := "SuiteBench$Log", name := "<init>", desc := "()V" } : Jvm.MethodName) "SuiteBench"),
  (Jvm.Cond.classLink "SuiteBench" (74 : Nat) "SuiteBench$Suspects"),
  (Jvm.Cond.instantiable "SuiteBench$Suspects" (18 : Nat)),
  (Jvm.Cond.initialized "SuiteBench$Suspects"),
  (Jvm.Cond.methodLink "SuiteBench" (76 : Nat) ({ cls := "SuiteBench$Suspects", name := "<init>", desc := "(LSuiteBench$Machine;LSuiteBench$Mutants;LSuiteBench$Log;)V" } : Jvm.MethodName)),
  (Jvm.Cond.arrayClass Jvm.ClassFile.FieldType.int),
  (Jvm.Cond.fieldLink "SuiteBench" (83 : Nat) "SuiteBench" "past" "[I"),
  (Jvm.Cond.fieldLink "SuiteBench" (87 : Nat) "SuiteBench" "image" "[I"),
  (Jvm.Cond.fieldLink "SuiteBench" (90 : Nat) "SuiteBench" "imageLog" "LSuiteBench$Log;"),
  (Jvm.Cond.methodLink "SuiteBench" (93 : Nat) ({ cls := "SuiteBench", name := "settle", desc := "()V" } : Jvm.MethodName)),
  (Jvm.Cond.fieldLink "SuiteBench" (96 : Nat) "SuiteBench$Reader" "taped" "I"),
  (Jvm.Cond.methodLink "SuiteBench" (100 : Nat) ({ cls := "SuiteBench$Reader", name := "take", desc := "(I)V" } : Jvm.MethodName)),
  (Jvm.Cond.methodLink "SuiteBench" (104 : Nat) ({ cls := "SuiteBench$Reader", name := "reads", desc := "(I)Z" } : Jvm.MethodName)),
  (Jvm.Cond.fieldLink "SuiteBench" (108 : Nat) "SuiteBench$Reader" "draft" "LSuiteBench$Plan;"),
  (Jvm.Cond.fieldLink "SuiteBench" (111 : Nat) "SuiteBench$Plan" "lines" "I"),
  (Jvm.Cond.fieldLink "SuiteBench" (114 : Nat) "SuiteBench$Reader" "fault" "I"),
  (Jvm.Cond.fieldLink "SuiteBench" (117 : Nat) "SuiteBench$Reader" "faultPlace" "I"),
  (Jvm.Cond.methodLink "SuiteBench" (120 : Nat) ({ cls := "SuiteBench$Plan", name := "placeNamed", desc := "(I)I" } : Jvm.MethodName)),
  (Jvm.Cond.methodLink "SuiteBench" (124 : Nat) ({ cls := "SuiteBench$Plan", name := "inputNamed", desc := "(I)I" } : Jvm.MethodName)),
  (Jvm.Cond.methodLink "SuiteBench" (127 : Nat) ({ cls := "SuiteBench$Machine", name := "has", desc := "(II)Z" } : Jvm.MethodName)),
  (Jvm.Cond.methodLink "SuiteBench" (143 : Nat) ({ cls := "SuiteBench$Machine", name := "part", desc := "(III)I" } : Jvm.MethodName)),
  (Jvm.Cond.fieldLink "SuiteBench" (166 : Nat) "SuiteBench$Machine" "places" "I"),
  (Jvm.Cond.constant "SuiteBench" (379 : Nat) (1073741824 : Int32)),
  (Jvm.Cond.methodLink "SuiteBench" (380 : Nat) ({ cls := "SuiteBench", name := "lengthOf", desc := "(I)I" } : Jvm.MethodName)),
  (Jvm.Cond.methodLink "SuiteBench" (383 : Nat) ({ cls := "SuiteBench", name := "inputAt", desc := "(II)I" } : Jvm.MethodName)),
  (Jvm.Cond.methodLink "SuiteBench" (147 : Nat) ({ cls := "SuiteBench", name := "isState", desc := "(I)Z" } : Jvm.MethodName)),
  (Jvm.Cond.fieldLink "SuiteBench" (150 : Nat) "SuiteBench$Machine" "inputs" "I"),
  (Jvm.Cond.methodLink "SuiteBench" (153 : Nat) ({ cls := "SuiteBench", name := "isWord", desc := "(II)Z" } : Jvm.MethodName)),
  (Jvm.Cond.constantLong "SuiteBench" (156 : Nat) (-1 : Int64)),
  (Jvm.Cond.methodLink "SuiteBench" (158 : Nat) ({ cls := "SuiteBench$Machine", name := "tell", desc := "(II)J" } : Jvm.MethodName)),
  (Jvm.Cond.methodLink "SuiteBench" (162 : Nat) ({ cls := "SuiteBench$Machine", name := "go", desc := "(II)I" } : Jvm.MethodName)),
  (Jvm.Cond.fieldLink "SuiteBench" (169 : Nat) "SuiteBench$Traits" "access" "[I"),
  (Jvm.Cond.fieldLink "SuiteBench" (172 : Nat) "SuiteBench$Traits" "kinds" "[I"),
  (Jvm.Cond.fieldLink "SuiteBench" (175 : Nat) "SuiteBench$Traits" "separators" "[I"),
  (Jvm.Cond.fieldLink "SuiteBench" (178 : Nat) "SuiteBench$Traits" "splitterCount" "I"),
  (Jvm.Cond.fieldLink "SuiteBench" (181 : Nat) "SuiteBench$Traits" "splitters" "[I"),
  (Jvm.Cond.fieldLink "SuiteBench" (184 : Nat) "SuiteBench$Traits" "markCounts" "[I"),
  (Jvm.Cond.fieldLink "SuiteBench" (187 : Nat) "SuiteBench$Traits" "marks" "[I"),
  (Jvm.Cond.methodLink "SuiteBench" (190 : Nat) ({ cls := "SuiteBench$Search", name := "signOf", desc := "(I)I" } : Jvm.MethodName)),
  (Jvm.Cond.methodLink "SuiteBench" (193 : Nat) ({ cls := "SuiteBench", name := "isSuite", desc := "(I)Z" } : Jvm.MethodName)),
  (Jvm.Cond.methodLink "SuiteBench" (196 : Nat) ({ cls := "SuiteBench$Suites", name := "give", desc := "(I)LSuiteBench$Tests;" } : Jvm.MethodName)),
  (Jvm.Cond.fieldLink "SuiteBench" (200 : Nat) "SuiteBench$Tests" "count" "I"),
  (Jvm.Cond.methodLink "SuiteBench" (205 : Nat) ({ cls := "SuiteBench$Tests", name := "inputsInSum", desc := "()I" } : Jvm.MethodName)),
  (Jvm.Cond.methodLink "SuiteBench" (209 : Nat) ({ cls := "SuiteBench$Tests", name := "mostInputs", desc := "()I" } : Jvm.MethodName)),
  (Jvm.Cond.methodLink "SuiteBench" (212 : Nat) ({ cls := "SuiteBench", name := "isPlanned", desc := "(I)Z" } : Jvm.MethodName)),
  (Jvm.Cond.fieldLink "SuiteBench" (215 : Nat) "SuiteBench$Tests" "words" "[I"),
  (Jvm.Cond.fieldLink "SuiteBench" (218 : Nat) "SuiteBench$Tests" "nodes" "I"),
  (Jvm.Cond.fieldLink "SuiteBench" (221 : Nat) "SuiteBench$Tests" "by" "[I"),
  (Jvm.Cond.methodLink "SuiteBench" (224 : Nat) ({ cls := "SuiteBench$Tests", name := "run", desc := "(LSuiteBench$Machine;)V" } : Jvm.MethodName)),
  (Jvm.Cond.methodLink "SuiteBench" (227 : Nat) ({ cls := "SuiteBench$Tests", name := "failures", desc := "()I" } : Jvm.MethodName)),
  (Jvm.Cond.methodLink "SuiteBench" (230 : Nat) ({ cls := "SuiteBench$Tests", name := "firstFailure", desc := "()I" } : Jvm.MethodName)),
  (Jvm.Cond.methodLink "SuiteBench" (233 : Nat) ({ cls := "SuiteBench$Tests", name := "wrongPlace", desc := "(I)I" } : Jvm.MethodName)),
  (Jvm.Cond.methodLink "SuiteBench" (236 : Nat) ({ cls := "SuiteBench$Tests", name := "wrongOutput", desc := "(ILSuiteBench$Machine;)I" } : Jvm.MethodName)),
  (Jvm.Cond.methodLink "SuiteBench" (240 : Nat) ({ cls := "SuiteBench$Search", name := "unlike", desc := "(LSuiteBench$Machine;LSuiteBench$Machine;)I" } : Jvm.MethodName)),
  (Jvm.Cond.methodLink "SuiteBench" (244 : Nat) ({ cls := "SuiteBench$Suites", name := "planned", desc := "(II)LSuiteBench$Tests;" } : Jvm.MethodName)),
  (Jvm.Cond.methodLink "SuiteBench" (248 : Nat) ({ cls := "SuiteBench$Tests", name := "isFailedBy", desc := "(LSuiteBench$Machine;)Z" } : Jvm.MethodName)),
  (Jvm.Cond.fieldLink "SuiteBench" (252 : Nat) "SuiteBench$Mutants" "count" "I"),
  (Jvm.Cond.methodLink "SuiteBench" (253 : Nat) ({ cls := "SuiteBench$Mutants", name := "equalOnes", desc := "()I" } : Jvm.MethodName)),
  (Jvm.Cond.methodLink "SuiteBench" (256 : Nat) ({ cls := "SuiteBench$Mutants", name := "noticedBy", desc := "(ILSuiteBench$Tests;)I" } : Jvm.MethodName)),
  (Jvm.Cond.methodLink "SuiteBench" (260 : Nat) ({ cls := "SuiteBench$Mutants", name := "firstMissedBy", desc := "(ILSuiteBench$Tests;)I" } : Jvm.MethodName)),
  (Jvm.Cond.methodLink "SuiteBench" (263 : Nat) ({ cls := "SuiteBench$Mutants", name := "has", desc := "(I)Z" } : Jvm.MethodName)),
  (Jvm.Cond.methodLink "SuiteBench" (265 : Nat) ({ cls := "SuiteBench$Mutants", name := "part", desc := "(II)I" } : Jvm.MethodName)),
  (Jvm.Cond.methodLink "SuiteBench" (267 : Nat) ({ cls := "SuiteBench$Mutants", name := "unlikeOnes", desc := "(II)I" } : Jvm.MethodName)),
  (Jvm.Cond.methodLink "SuiteBench" (270 : Nat) ({ cls := "SuiteBench$Mutants", name := "smallOnes", desc := "(I)I" } : Jvm.MethodName)),
  (Jvm.Cond.methodLink "SuiteBench" (273 : Nat) ({ cls := "SuiteBench$Mutants", name := "smallPassing", desc := "(IILSuiteBench$Tests;)I" } : Jvm.MethodName)),
  (Jvm.Cond.methodLink "SuiteBench" (277 : Nat) ({ cls := "SuiteBench$Mutants", name := "smallEqual", desc := "(IILSuiteBench$Tests;)I" } : Jvm.MethodName)),
  (Jvm.Cond.methodLink "SuiteBench" (280 : Nat) ({ cls := "java/lang/Integer", name := "bitCount", desc := "(I)I" } : Jvm.MethodName)),
  (Jvm.Cond.methodLink "SuiteBench" (285 : Nat) ({ cls := "SuiteBench$Search", name := "treeDepth", desc := "(I)I" } : Jvm.MethodName)),
  (Jvm.Cond.methodLink "SuiteBench" (288 : Nat) ({ cls := "SuiteBench$Search", name := "treeInput", desc := "(I)I" } : Jvm.MethodName)),
  (Jvm.Cond.methodLink "SuiteBench" (291 : Nat) ({ cls := "SuiteBench$Search", name := "wordForAll", desc := "(I)I" } : Jvm.MethodName)),
  (Jvm.Cond.methodLink "SuiteBench" (294 : Nat) ({ cls := "SuiteBench$Mutants", name := "coveredBy", desc := "(ILSuiteBench$Tests;)I" } : Jvm.MethodName)),
  (Jvm.Cond.constantLong "SuiteBench" (298 : Nat) (-3 : Int64)),
  (Jvm.Cond.methodLink "SuiteBench" (300 : Nat) ({ cls := "SuiteBench$Log", name := "add", desc := "(IJ)V" } : Jvm.MethodName)),
  (Jvm.Cond.methodLink "SuiteBench" (307 : Nat) ({ cls := "SuiteBench$Suspects", name := "all", desc := "()I" } : Jvm.MethodName)),
  (Jvm.Cond.methodLink "SuiteBench" (310 : Nat) ({ cls := "SuiteBench$Suspects", name := "machineAmong", desc := "()I" } : Jvm.MethodName)),
  (Jvm.Cond.methodLink "SuiteBench" (313 : Nat) ({ cls := "SuiteBench$Suspects", name := "number", desc := "(I)I" } : Jvm.MethodName)),
  (Jvm.Cond.methodLink "SuiteBench" (316 : Nat) ({ cls := "SuiteBench$Suspects", name := "nextWord", desc := "(LSuiteBench$Tests;)I" } : Jvm.MethodName)),
  (Jvm.Cond.fieldLink "SuiteBench" (320 : Nat) "SuiteBench$Plan" "seed" "I"),
  (Jvm.Cond.constant "SuiteBench" (323 : Nat) (1103515245 : Int32)),
  (Jvm.Cond.constant "SuiteBench" (324 : Nat) (2147483647 : Int32)),
  (Jvm.Cond.methodLink "SuiteBench" (342 : Nat) ({ cls := "SuiteBench", name := "pastSlot", desc := "()I" } : Jvm.MethodName)),
  (Jvm.Cond.methodLink "SuiteBench" (349 : Nat) ({ cls := "SuiteBench$Machine", name := "pack", desc := "([II)V" } : Jvm.MethodName)),
  (Jvm.Cond.methodLink "SuiteBench" (325 : Nat) ({ cls := "SuiteBench", name := "remember", desc := "()V" } : Jvm.MethodName)),
  (Jvm.Cond.methodLink "SuiteBench" (328 : Nat) ({ cls := "SuiteBench$Machine", name := "set", desc := "(IIII)V" } : Jvm.MethodName)),
  (Jvm.Cond.methodLink "SuiteBench" (332 : Nat) ({ cls := "SuiteBench$Machine", name := "copyArcs", desc := "(LSuiteBench$Machine;)V" } : Jvm.MethodName)),
  (Jvm.Cond.methodLink "SuiteBench" (335 : Nat) ({ cls := "SuiteBench$Mutants", name := "dress", desc := "(LSuiteBench$Machine;I)V" } : Jvm.MethodName)),
  (Jvm.Cond.methodLink "SuiteBench" (345 : Nat) ({ cls := "SuiteBench$Machine", name := "unpack", desc := "([II)V" } : Jvm.MethodName)),
  (Jvm.Cond.methodLink "SuiteBench" (352 : Nat) ({ cls := "SuiteBench$Log", name := "copy", desc := "(LSuiteBench$Log;)V" } : Jvm.MethodName)),
  (Jvm.Cond.fieldLink "SuiteBench" (363 : Nat) "SuiteBench$Traits" "reached" "I"),
  (Jvm.Cond.fieldLink "SuiteBench" (366 : Nat) "SuiteBench$Traits" "kindCount" "I"),
  (Jvm.Cond.fieldLink "SuiteBench" (369 : Nat) "SuiteBench$Traits" "top" "I"),
  (Jvm.Cond.methodLink "SuiteBench" (372 : Nat) ({ cls := "SuiteBench$Machine", name := "arcsUnlike", desc := "(LSuiteBench$Machine;)I" } : Jvm.MethodName)),
  (Jvm.Cond.methodLink "SuiteBench" (376 : Nat) ({ cls := "SuiteBench$Machine", name := "placesReached", desc := "()I" } : Jvm.MethodName))]
theorem kc_B_ok : ∀ w ∈ kc_B, w ∈ ai_gw := by
  have h : kc_B = kt_B.map (fun q => q.1) := rfl
  rw [h]
  exact tk_mem (by decide +kernel)
def kt_N : List (Jvm.Cond × Nat × Nat) := [
  ((Jvm.Cond.fieldLink "SuiteBenchModel" (13 : Nat) "SuiteBenchModel" "number" "[I"), 7, 94),
  ((Jvm.Cond.fieldLink "SuiteBenchModel" (44 : Nat) "SuiteBenchModel" "access" "[I"), 7, 113),
  ((Jvm.Cond.methodLink "SuiteBenchModel" (272 : Nat) ({ cls := "SuiteBenchModel", name := "states", desc := "()I" } : Jvm.MethodName)), 7, 44),
  ((Jvm.Cond.methodLink "SuiteBenchModel" (269 : Nat) ({ cls := "SuiteBenchModel", name := "inputs", desc := "()I" } : Jvm.MethodName)), 7, 52),
  ((Jvm.Cond.fieldLink "SuiteBenchModel" (38 : Nat) "SuiteBenchModel" "next" "[I"), 7, 111),
  ((Jvm.Cond.fieldLink "SuiteBenchModel" (328 : Nat) "SuiteBenchModel" "reached" "I"), 7, 114),
  ((Jvm.Cond.methodLink "SuiteBenchModel" (331 : Nat) ({ cls := "SuiteBenchModel", name := "isReached", desc := "(I)Z" } : Jvm.MethodName)), 7, 56),
  ((Jvm.Cond.fieldLink "SuiteBenchModel" (53 : Nat) "SuiteBenchModel" "isMet" "[Z"), 7, 117),
  ((Jvm.Cond.fieldLink "SuiteBenchModel" (47 : Nat) "SuiteBenchModel" "pairOf" "[I"), 7, 115),
  ((Jvm.Cond.fieldLink "SuiteBenchModel" (50 : Nat) "SuiteBenchModel" "pairWord" "[I"), 7, 116),
  ((Jvm.Cond.fieldLink "SuiteBenchModel" (41 : Nat) "SuiteBenchModel" "says" "[I"), 7, 112),
  ((Jvm.Cond.fieldLink "SuiteBenchModel" (57 : Nat) "SuiteBenchModel" "parted" "[I"), 7, 118),
  ((Jvm.Cond.methodLink "SuiteBenchModel" (334 : Nat) ({ cls := "SuiteBenchModel", name := "unlike", desc := "(IIII)I" } : Jvm.MethodName)), 7, 64),
  ((Jvm.Cond.methodLink "SuiteBenchModel" (298 : Nat) ({ cls := "SuiteBenchModel", name := "long1", desc := "(I)I" } : Jvm.MethodName)), 7, 80),
  ((Jvm.Cond.methodLink "SuiteBenchModel" (301 : Nat) ({ cls := "SuiteBenchModel", name := "inputAt", desc := "(III)I" } : Jvm.MethodName)), 7, 83),
  ((Jvm.Cond.constantLong "SuiteBenchModel" (305 : Nat) (10 : Int64)), 7, 86),
  ((Jvm.Cond.fieldLink "SuiteBenchModel" (341 : Nat) "SuiteBenchModel" "splitters" "I"), 7, 120),
  ((Jvm.Cond.fieldLink "SuiteBenchModel" (60 : Nat) "SuiteBenchModel" "splitter" "[I"), 7, 119),
  ((Jvm.Cond.methodLink "SuiteBenchModel" (319 : Nat) ({ cls := "SuiteBenchModel", name := "answers", desc := "(III)J" } : Jvm.MethodName)), 7, 76),
  ((Jvm.Cond.methodLink "SuiteBenchModel" (344 : Nat) ({ cls := "SuiteBenchModel", name := "isSplit", desc := "(II)Z" } : Jvm.MethodName)), 7, 72),
  ((Jvm.Cond.fieldLink "SuiteBenchModel" (352 : Nat) "SuiteBenchModel" "hasSigns" "Z"), 7, 122),
  ((Jvm.Cond.fieldLink "SuiteBenchModel" (72 : Nat) "SuiteBenchModel" "hasWay" "[Z"), 7, 125),
  ((Jvm.Cond.fieldLink "SuiteBenchModel" (69 : Nat) "SuiteBenchModel" "wayLong" "[I"), 7, 124),
  ((Jvm.Cond.fieldLink "SuiteBenchModel" (124 : Nat) "SuiteBenchModel" "coveredBy" "[I"), 7, 149),
  ((Jvm.Cond.fieldLink "SuiteBenchModel" (84 : Nat) "SuiteBenchModel" "testMany" "[I"), 7, 130),
  ((Jvm.Cond.fieldLink "SuiteBenchModel" (93 : Nat) "SuiteBenchModel" "hasMutants" "[Z"), 7, 139),
  ((Jvm.Cond.fieldLink "SuiteBenchModel" (99 : Nat) "SuiteBenchModel" "hasSmall" "[Z"), 7, 141),
  ((Jvm.Cond.fieldLink "SuiteBenchModel" (114 : Nat) "SuiteBenchModel" "hasFound" "[Z"), 7, 146),
  ((Jvm.Cond.fieldLink "SuiteBenchModel" (22 : Nat) "SuiteBenchModel" "arcTo" "[I"), 7, 97),
  ((Jvm.Cond.fieldLink "SuiteBenchModel" (25 : Nat) "SuiteBenchModel" "arcSays" "[I"), 7, 98),
  ((Jvm.Cond.fieldLink "SuiteBenchModel" (28 : Nat) "SuiteBenchModel" "twistTo" "[I"), 7, 99),
  ((Jvm.Cond.fieldLink "SuiteBenchModel" (31 : Nat) "SuiteBenchModel" "twistSays" "[I"), 7, 100),
  ((Jvm.Cond.fieldLink "SuiteBenchModel" (275 : Nat) "SuiteBenchModel" "logged" "I"), 7, 152),
  ((Jvm.Cond.fieldLink "SuiteBenchModel" (278 : Nat) "SuiteBenchModel" "undoable" "I"), 7, 158),
  ((Jvm.Cond.fieldLink "SuiteBenchModel" (281 : Nat) "SuiteBenchModel" "hasImage" "Z"), 7, 160),
  ((Jvm.Cond.methodLink "SuiteBenchModel" (285 : Nat) ({ cls := "SuiteBenchModel", name := "laysAccess", desc := "()V" } : Jvm.MethodName)), 7, 48),
  ((Jvm.Cond.methodLink "SuiteBenchModel" (288 : Nat) ({ cls := "SuiteBenchModel", name := "laysSeparators", desc := "()V" } : Jvm.MethodName)), 7, 60),
  ((Jvm.Cond.methodLink "SuiteBenchModel" (291 : Nat) ({ cls := "SuiteBenchModel", name := "laysSplitters", desc := "()V" } : Jvm.MethodName)), 7, 68),
  ((Jvm.Cond.methodLink "SuiteBenchModel" (294 : Nat) ({ cls := "SuiteBenchModel", name := "forgets", desc := "()V" } : Jvm.MethodName)), 7, 87),
  ((Jvm.Cond.methodLink "SuiteBenchModel" (1 : Nat) ({ cls := "java/lang/Object", name := "<init>", desc := "()V" } : Jvm.MethodName)), 7, 39),
  ((Jvm.Cond.arrayClass Jvm.ClassFile.FieldType.int), 1, 112),
  ((Jvm.Cond.fieldLink "SuiteBenchModel" (7 : Nat) "SuiteBenchModel" "tape" "[I"), 7, 92),
  ((Jvm.Cond.fieldLink "SuiteBenchModel" (16 : Nat) "SuiteBenchModel" "placeName" "[I"), 7, 95),
  ((Jvm.Cond.fieldLink "SuiteBenchModel" (19 : Nat) "SuiteBenchModel" "inputName" "[I"), 7, 96),
  ((Jvm.Cond.fieldLink "SuiteBenchModel" (34 : Nat) "SuiteBenchModel" "lastPlace" "I"), 7, 110),
  ((Jvm.Cond.arrayClass Jvm.ClassFile.FieldType.boolean), 2, 233),
  ((Jvm.Cond.fieldLink "SuiteBenchModel" (63 : Nat) "SuiteBenchModel" "signs" "[I"), 7, 121),
  ((Jvm.Cond.fieldLink "SuiteBenchModel" (66 : Nat) "SuiteBenchModel" "way" "[I"), 7, 123),
  ((Jvm.Cond.fieldLink "SuiteBenchModel" (75 : Nat) "SuiteBenchModel" "isGone" "[Z"), 7, 126),
  ((Jvm.Cond.fieldLink "SuiteBenchModel" (78 : Nat) "SuiteBenchModel" "wordTo" "[I"), 7, 127),
  ((Jvm.Cond.fieldLink "SuiteBenchModel" (81 : Nat) "SuiteBenchModel" "tests" "[I"), 7, 129),
  ((Jvm.Cond.fieldLink "SuiteBenchModel" (87 : Nat) "SuiteBenchModel" "isBegun" "[Z"), 7, 131),
  ((Jvm.Cond.fieldLink "SuiteBenchModel" (90 : Nat) "SuiteBenchModel" "mutantSums" "[I"), 7, 138),
  ((Jvm.Cond.fieldLink "SuiteBenchModel" (96 : Nat) "SuiteBenchModel" "smallSums" "[I"), 7, 140),
  ((Jvm.Cond.fieldLink "SuiteBenchModel" (102 : Nat) "SuiteBenchModel" "known" "[I"), 7, 142),
  ((Jvm.Cond.fieldLink "SuiteBenchModel" (105 : Nat) "SuiteBenchModel" "told" "[I"), 7, 143),
  ((Jvm.Cond.fieldLink "SuiteBenchModel" (108 : Nat) "SuiteBenchModel" "heard" "[I"), 7, 144),
  ((Jvm.Cond.fieldLink "SuiteBenchModel" (111 : Nat) "SuiteBenchModel" "found" "[I"), 7, 145),
  ((Jvm.Cond.arrayClass Jvm.ClassFile.FieldType.long), 3, 11),
  ((Jvm.Cond.fieldLink "SuiteBenchModel" (117 : Nat) "SuiteBenchModel" "fails" "[J"), 7, 147),
  ((Jvm.Cond.fieldLink "SuiteBenchModel" (121 : Nat) "SuiteBenchModel" "stay" "[J"), 7, 148),
  ((Jvm.Cond.fieldLink "SuiteBenchModel" (127 : Nat) "SuiteBenchModel" "logWord" "[I"), 7, 150),
  ((Jvm.Cond.fieldLink "SuiteBenchModel" (130 : Nat) "SuiteBenchModel" "logAnswer" "[J"), 7, 151),
  ((Jvm.Cond.fieldLink "SuiteBenchModel" (133 : Nat) "SuiteBenchModel" "suspected" "[I"), 7, 153),
  ((Jvm.Cond.fieldLink "SuiteBenchModel" (136 : Nat) "SuiteBenchModel" "answerOf" "[J"), 7, 155),
  ((Jvm.Cond.fieldLink "SuiteBenchModel" (139 : Nat) "SuiteBenchModel" "kept" "[I"), 7, 157),
  ((Jvm.Cond.methodLink "SuiteBenchModel" (142 : Nat) ({ cls := "SuiteBenchModel", name := "lays", desc := "()V" } : Jvm.MethodName)), 7, 40),
  ((Jvm.Cond.fieldLink "SuiteBenchModel" (145 : Nat) "SuiteBenchModel" "thrown" "I"), 7, 91),
  ((Jvm.Cond.fieldLink "SuiteBenchModel" (148 : Nat) "SuiteBenchModel" "taped" "I"), 7, 93),
  ((Jvm.Cond.fieldLink "SuiteBenchModel" (151 : Nat) "SuiteBenchModel" "at" "I"), 7, 103),
  ((Jvm.Cond.fieldLink "SuiteBenchModel" (154 : Nat) "SuiteBenchModel" "size" "I"), 7, 102),
  ((Jvm.Cond.fieldLink "SuiteBenchModel" (174 : Nat) "SuiteBenchModel" "value" "I"), 7, 106),
  ((Jvm.Cond.fieldLink "SuiteBenchModel" (161 : Nat) "SuiteBenchModel" "place" "I"), 7, 104),
  ((Jvm.Cond.methodLink "SuiteBenchModel" (157 : Nat) ({ cls := "SuiteBenchModel", name := "here", desc := "()I" } : Jvm.MethodName)), 8, 82),
  ((Jvm.Cond.fieldLink "SuiteBenchModel" (164 : Nat) "SuiteBenchModel" "sort" "I"), 7, 105),
  ((Jvm.Cond.methodLink "SuiteBenchModel" (167 : Nat) ({ cls := "SuiteBenchModel", name := "isSmall", desc := "(I)Z" } : Jvm.MethodName)), 8, 86),
  ((Jvm.Cond.methodLink "SuiteBenchModel" (171 : Nat) ({ cls := "SuiteBenchModel", name := "wordHere", desc := "()I" } : Jvm.MethodName)), 8, 89),
  ((Jvm.Cond.methodLink "SuiteBenchModel" (177 : Nat) ({ cls := "SuiteBenchModel", name := "nameHere", desc := "()V" } : Jvm.MethodName)), 8, 142),
  ((Jvm.Cond.methodLink "SuiteBenchModel" (180 : Nat) ({ cls := "SuiteBenchModel", name := "isDigit", desc := "(I)Z" } : Jvm.MethodName)), 8, 146),
  ((Jvm.Cond.constant "SuiteBenchModel" (183 : Nat) (99999 : Int32)), 8, 149),
  ((Jvm.Cond.fieldLink "SuiteBenchModel" (195 : Nat) "SuiteBenchModel" "fault" "I"), 7, 107),
  ((Jvm.Cond.fieldLink "SuiteBenchModel" (198 : Nat) "SuiteBenchModel" "faultPlace" "I"), 7, 108),
  ((Jvm.Cond.methodLink "SuiteBenchModel" (201 : Nat) ({ cls := "SuiteBenchModel", name := "token", desc := "()V" } : Jvm.MethodName)), 8, 78),
  ((Jvm.Cond.methodLink "SuiteBenchModel" (211 : Nat) ({ cls := "SuiteBenchModel", name := "reading", desc := "(I)I" } : Jvm.MethodName)), 8, 162),
  ((Jvm.Cond.methodLink "SuiteBenchModel" (204 : Nat) ({ cls := "SuiteBenchModel", name := "wrong", desc := "(I)V" } : Jvm.MethodName)), 8, 166),
  ((Jvm.Cond.methodLink "SuiteBenchModel" (215 : Nat) ({ cls := "SuiteBenchModel", name := "readPlaces", desc := "()I" } : Jvm.MethodName)), 8, 178),
  ((Jvm.Cond.methodLink "SuiteBenchModel" (218 : Nat) ({ cls := "SuiteBenchModel", name := "found", desc := "([IIII)I" } : Jvm.MethodName)), 8, 182),
  ((Jvm.Cond.methodLink "SuiteBenchModel" (208 : Nat) ({ cls := "SuiteBenchModel", name := "goOn", desc := "()V" } : Jvm.MethodName)), 8, 170),
  ((Jvm.Cond.methodLink "SuiteBenchModel" (221 : Nat) ({ cls := "SuiteBenchModel", name := "fresh", desc := "()I" } : Jvm.MethodName)), 8, 174),
  ((Jvm.Cond.methodLink "SuiteBenchModel" (224 : Nat) ({ cls := "SuiteBenchModel", name := "atHand", desc := "(ZI)I" } : Jvm.MethodName)), 8, 197),
  ((Jvm.Cond.methodLink "SuiteBenchModel" (228 : Nat) ({ cls := "SuiteBenchModel", name := "numeral", desc := "(I)I" } : Jvm.MethodName)), 8, 201),
  ((Jvm.Cond.methodLink "SuiteBenchModel" (231 : Nat) ({ cls := "SuiteBenchModel", name := "isWord", desc := "(I)Z" } : Jvm.MethodName)), 8, 154),
  ((Jvm.Cond.methodLink "SuiteBenchModel" (234 : Nat) ({ cls := "SuiteBenchModel", name := "readState", desc := "()V" } : Jvm.MethodName)), 8, 158),
  ((Jvm.Cond.methodLink "SuiteBenchModel" (237 : Nat) ({ cls := "SuiteBenchModel", name := "readInput", desc := "()V" } : Jvm.MethodName)), 8, 185),
  ((Jvm.Cond.methodLink "SuiteBenchModel" (240 : Nat) ({ cls := "SuiteBenchModel", name := "readMore", desc := "()V" } : Jvm.MethodName)), 8, 189),
  ((Jvm.Cond.methodLink "SuiteBenchModel" (243 : Nat) ({ cls := "SuiteBenchModel", name := "readArc", desc := "(Z)V" } : Jvm.MethodName)), 8, 193),
  ((Jvm.Cond.methodLink "SuiteBenchModel" (247 : Nat) ({ cls := "SuiteBenchModel", name := "readOnce", desc := "(II)V" } : Jvm.MethodName)), 8, 205),
  ((Jvm.Cond.fieldLink "SuiteBenchModel" (251 : Nat) "SuiteBenchModel" "lines" "I"), 7, 101),
  ((Jvm.Cond.methodLink "SuiteBenchModel" (254 : Nat) ({ cls := "SuiteBenchModel", name := "readLine", desc := "()V" } : Jvm.MethodName)), 8, 150),
  ((Jvm.Cond.methodLink "SuiteBenchModel" (257 : Nat) ({ cls := "SuiteBenchModel", name := "readText", desc := "(I)V" } : Jvm.MethodName)), 8, 74),
  ((Jvm.Cond.fieldLink "SuiteBenchModel" (260 : Nat) "SuiteBenchModel" "lastFault" "I"), 7, 109),
  ((Jvm.Cond.methodLink "SuiteBenchModel" (263 : Nat) ({ cls := "SuiteBenchModel", name := "takeText", desc := "()V" } : Jvm.MethodName)), 8, 209),
  ((Jvm.Cond.methodLink "SuiteBenchModel" (266 : Nat) ({ cls := "SuiteBenchModel", name := "places", desc := "()I" } : Jvm.MethodName)), 8, 221),
  ((Jvm.Cond.methodLink "SuiteBenchModel" (307 : Nat) ({ cls := "SuiteBenchModel", name := "isState", desc := "(I)Z" } : Jvm.MethodName)), 8, 229),
  ((Jvm.Cond.methodLink "SuiteBenchModel" (310 : Nat) ({ cls := "SuiteBenchModel", name := "isInput", desc := "(I)Z" } : Jvm.MethodName)), 8, 233),
  ((Jvm.Cond.methodLink "SuiteBenchModel" (313 : Nat) ({ cls := "SuiteBenchModel", name := "isPlace", desc := "(I)Z" } : Jvm.MethodName)), 9, 1),
  ((Jvm.Cond.constant "SuiteBenchModel" (297 : Nat) (1073741824 : Int32)), 9, 13),
  ((Jvm.Cond.methodLink "SuiteBenchModel" (316 : Nat) ({ cls := "SuiteBenchModel", name := "isWordNumber", desc := "(I)Z" } : Jvm.MethodName)), 9, 9),
  ((Jvm.Cond.constantLong "SuiteBenchModel" (323 : Nat) (-1 : Int64)), 9, 14),
  ((Jvm.Cond.methodLink "SuiteBenchModel" (325 : Nat) ({ cls := "SuiteBenchModel", name := "leadsTo", desc := "(III)I" } : Jvm.MethodName)), 9, 19),
  ((Jvm.Cond.methodLink "SuiteBenchModel" (338 : Nat) ({ cls := "SuiteBenchModel", name := "kindOf", desc := "(I)I" } : Jvm.MethodName)), 9, 35),
  ((Jvm.Cond.methodLink "SuiteBenchModel" (348 : Nat) ({ cls := "SuiteBenchModel", name := "markAbove", desc := "(II)I" } : Jvm.MethodName)), 9, 51),
  ((Jvm.Cond.methodLink "SuiteBenchModel" (355 : Nat) ({ cls := "SuiteBenchModel", name := "isSign", desc := "(II)Z" } : Jvm.MethodName)), 9, 63),
  ((Jvm.Cond.methodLink "SuiteBenchModel" (358 : Nat) ({ cls := "SuiteBenchModel", name := "after", desc := "(I)I" } : Jvm.MethodName)), 9, 67),
  ((Jvm.Cond.methodLink "SuiteBenchModel" (361 : Nat) ({ cls := "SuiteBenchModel", name := "laysSigns", desc := "()V" } : Jvm.MethodName)), 9, 59),
  ((Jvm.Cond.fieldLink "SuiteBenchModel" (364 : Nat) "SuiteBenchModel" "stand" "I"), 7, 128),
  ((Jvm.Cond.methodLink "SuiteBenchModel" (367 : Nat) ({ cls := "SuiteBenchModel", name := "wordToGo", desc := "()I" } : Jvm.MethodName)), 9, 79),
  ((Jvm.Cond.methodLink "SuiteBenchModel" (370 : Nat) ({ cls := "SuiteBenchModel", name := "goes", desc := "(II)V" } : Jvm.MethodName)), 9, 83),
  ((Jvm.Cond.methodLink "SuiteBenchModel" (376 : Nat) ({ cls := "SuiteBenchModel", name := "testAt", desc := "(II)I" } : Jvm.MethodName)), 9, 122),
  ((Jvm.Cond.methodLink "SuiteBenchModel" (379 : Nat) ({ cls := "SuiteBenchModel", name := "placeFor", desc := "(II)I" } : Jvm.MethodName)), 9, 118),
  ((Jvm.Cond.methodLink "SuiteBenchModel" (382 : Nat) ({ cls := "SuiteBenchModel", name := "behind", desc := "(II)I" } : Jvm.MethodName)), 9, 111),
  ((Jvm.Cond.methodLink "SuiteBenchModel" (385 : Nat) ({ cls := "SuiteBenchModel", name := "adds", desc := "(II)V" } : Jvm.MethodName)), 9, 114),
  ((Jvm.Cond.methodLink "SuiteBenchModel" (388 : Nat) ({ cls := "SuiteBenchModel", name := "addsHead", desc := "(II)V" } : Jvm.MethodName)), 9, 107),
  ((Jvm.Cond.methodLink "SuiteBenchModel" (391 : Nat) ({ cls := "SuiteBenchModel", name := "drops", desc := "(I)V" } : Jvm.MethodName)), 9, 126),
  ((Jvm.Cond.methodLink "SuiteBenchModel" (394 : Nat) ({ cls := "SuiteBenchModel", name := "extra", desc := "()I" } : Jvm.MethodName)), 9, 99),
  ((Jvm.Cond.methodLink "SuiteBenchModel" (397 : Nat) ({ cls := "SuiteBenchModel", name := "laysSuite", desc := "(I)V" } : Jvm.MethodName)), 9, 103),
  ((Jvm.Cond.methodLink "SuiteBenchModel" (400 : Nat) ({ cls := "SuiteBenchModel", name := "suiteOf", desc := "(I)I" } : Jvm.MethodName)), 9, 95),
  ((Jvm.Cond.methodLink "SuiteBenchModel" (373 : Nat) ({ cls := "SuiteBenchModel", name := "laysWay", desc := "(I)V" } : Jvm.MethodName)), 9, 75),
  ((Jvm.Cond.methodLink "SuiteBenchModel" (403 : Nat) ({ cls := "SuiteBenchModel", name := "testsOf", desc := "(I)I" } : Jvm.MethodName)), 9, 91),
  ((Jvm.Cond.methodLink "SuiteBenchModel" (406 : Nat) ({ cls := "SuiteBenchModel", name := "longOf", desc := "(II)I" } : Jvm.MethodName)), 9, 130),
  ((Jvm.Cond.methodLink "SuiteBenchModel" (409 : Nat) ({ cls := "SuiteBenchModel", name := "isOne", desc := "(I)Z" } : Jvm.MethodName)), 9, 138),
  ((Jvm.Cond.fieldLink "SuiteBenchModel" (412 : Nat) "SuiteBenchModel" "wrongAt" "I"), 7, 132),
  ((Jvm.Cond.fieldLink "SuiteBenchModel" (415 : Nat) "SuiteBenchModel" "wrongSays" "I"), 7, 133),
  ((Jvm.Cond.methodLink "SuiteBenchModel" (418 : Nat) ({ cls := "SuiteBenchModel", name := "isPassed", desc := "(II)Z" } : Jvm.MethodName)), 9, 149),
  ((Jvm.Cond.methodLink "SuiteBenchModel" (421 : Nat) ({ cls := "SuiteBenchModel", name := "isWayPassed", desc := "(II)Z" } : Jvm.MethodName)), 9, 153),
  ((Jvm.Cond.methodLink "SuiteBenchModel" (424 : Nat) ({ cls := "SuiteBenchModel", name := "isTestPassed", desc := "(III)Z" } : Jvm.MethodName)), 9, 145),
  ((Jvm.Cond.methodLink "SuiteBenchModel" (428 : Nat) ({ cls := "SuiteBenchModel", name := "laysWrong", desc := "(I)V" } : Jvm.MethodName)), 9, 157),
  ((Jvm.Cond.methodLink "SuiteBenchModel" (431 : Nat) ({ cls := "SuiteBenchModel", name := "top", desc := "()I" } : Jvm.MethodName)), 9, 181),
  ((Jvm.Cond.fieldLink "SuiteBenchModel" (434 : Nat) "SuiteBenchModel" "mutantState" "I"), 7, 134),
  ((Jvm.Cond.fieldLink "SuiteBenchModel" (437 : Nat) "SuiteBenchModel" "mutantInput" "I"), 7, 135),
  ((Jvm.Cond.fieldLink "SuiteBenchModel" (440 : Nat) "SuiteBenchModel" "mutantTo" "I"), 7, 136),
  ((Jvm.Cond.fieldLink "SuiteBenchModel" (443 : Nat) "SuiteBenchModel" "mutantSays" "I"), 7, 137),
  ((Jvm.Cond.methodLink "SuiteBenchModel" (446 : Nat) ({ cls := "SuiteBenchModel", name := "tellsMutant", desc := "(I)V" } : Jvm.MethodName)), 9, 193),
  ((Jvm.Cond.methodLink "SuiteBenchModel" (449 : Nat) ({ cls := "SuiteBenchModel", name := "mutantMany", desc := "()I" } : Jvm.MethodName)), 9, 177),
  ((Jvm.Cond.methodLink "SuiteBenchModel" (452 : Nat) ({ cls := "SuiteBenchModel", name := "laysMutant", desc := "(II)V" } : Jvm.MethodName)), 9, 189),
  ((Jvm.Cond.methodLink "SuiteBenchModel" (455 : Nat) ({ cls := "SuiteBenchModel", name := "doesFail", desc := "(II)Z" } : Jvm.MethodName)), 9, 197),
  ((Jvm.Cond.methodLink "SuiteBenchModel" (458 : Nat) ({ cls := "SuiteBenchModel", name := "laysMutants", desc := "(I)V" } : Jvm.MethodName)), 9, 185),
  ((Jvm.Cond.methodLink "SuiteBenchModel" (461 : Nat) ({ cls := "SuiteBenchModel", name := "isMutant", desc := "(I)Z" } : Jvm.MethodName)), 9, 205),
  ((Jvm.Cond.methodLink "SuiteBenchModel" (464 : Nat) ({ cls := "SuiteBenchModel", name := "smallMany", desc := "(I)I" } : Jvm.MethodName)), 9, 221),
  ((Jvm.Cond.methodLink "SuiteBenchModel" (467 : Nat) ({ cls := "SuiteBenchModel", name := "laysSmallOne", desc := "(II)V" } : Jvm.MethodName)), 9, 225),
  ((Jvm.Cond.methodLink "SuiteBenchModel" (470 : Nat) ({ cls := "SuiteBenchModel", name := "laysSmall", desc := "(II)V" } : Jvm.MethodName)), 9, 217),
  ((Jvm.Cond.methodLink "SuiteBenchModel" (473 : Nat) ({ cls := "SuiteBenchModel", name := "answersSo", desc := "(I)I" } : Jvm.MethodName)), 9, 237),
  ((Jvm.Cond.methodLink "SuiteBenchModel" (476 : Nat) ({ cls := "SuiteBenchModel", name := "leftAt", desc := "(I)I" } : Jvm.MethodName)), 10, 1),
  ((Jvm.Cond.methodLink "SuiteBenchModel" (479 : Nat) ({ cls := "SuiteBenchModel", name := "isTree", desc := "(I)Z" } : Jvm.MethodName)), 9, 233),
  ((Jvm.Cond.methodLink "SuiteBenchModel" (482 : Nat) ({ cls := "SuiteBenchModel", name := "isOf", desc := "(II)Z" } : Jvm.MethodName)), 10, 9),
  ((Jvm.Cond.methodLink "SuiteBenchModel" (485 : Nat) ({ cls := "SuiteBenchModel", name := "bits", desc := "(J)I" } : Jvm.MethodName)), 10, 25),
  ((Jvm.Cond.methodLink "SuiteBenchModel" (489 : Nat) ({ cls := "SuiteBenchModel", name := "laysFails", desc := "(I)V" } : Jvm.MethodName)), 10, 17),
  ((Jvm.Cond.methodLink "SuiteBenchModel" (492 : Nat) ({ cls := "SuiteBenchModel", name := "newBy", desc := "(I)I" } : Jvm.MethodName)), 10, 21),
  ((Jvm.Cond.constantLong "SuiteBenchModel" (495 : Nat) (-3 : Int64)), 10, 32),
  ((Jvm.Cond.fieldLink "SuiteBenchModel" (497 : Nat) "SuiteBenchModel" "suspects" "I"), 7, 154),
  ((Jvm.Cond.methodLink "SuiteBenchModel" (500 : Nat) ({ cls := "SuiteBenchModel", name := "isSuspected", desc := "(I)Z" } : Jvm.MethodName)), 10, 45),
  ((Jvm.Cond.methodLink "SuiteBenchModel" (503 : Nat) ({ cls := "SuiteBenchModel", name := "laysSuspects", desc := "()V" } : Jvm.MethodName)), 10, 41),
  ((Jvm.Cond.methodLink "SuiteBenchModel" (506 : Nat) ({ cls := "SuiteBenchModel", name := "laysAnswers", desc := "(II)V" } : Jvm.MethodName)), 10, 57),
  ((Jvm.Cond.methodLink "SuiteBenchModel" (509 : Nat) ({ cls := "SuiteBenchModel", name := "greatestGroup", desc := "(I)I" } : Jvm.MethodName)), 10, 61),
  ((Jvm.Cond.fieldLink "SuiteBenchModel" (512 : Nat) "SuiteBenchModel" "drawn" "I"), 7, 156),
  ((Jvm.Cond.constant "SuiteBenchModel" (515 : Nat) (1103515245 : Int32)), 10, 73),
  ((Jvm.Cond.constant "SuiteBenchModel" (516 : Nat) (2147483647 : Int32)), 10, 74),
  ((Jvm.Cond.methodLink "SuiteBenchModel" (517 : Nat) ({ cls := "SuiteBenchModel", name := "draw", desc := "(I)I" } : Jvm.MethodName)), 10, 69),
  ((Jvm.Cond.methodLink "SuiteBenchModel" (520 : Nat) ({ cls := "SuiteBenchModel", name := "copies", desc := "(IZ)V" } : Jvm.MethodName)), 10, 83),
  ((Jvm.Cond.methodLink "SuiteBenchModel" (524 : Nat) ({ cls := "SuiteBenchModel", name := "remembers", desc := "()V" } : Jvm.MethodName)), 10, 79),
  ((Jvm.Cond.fieldLink "SuiteBenchModel" (527 : Nat) "SuiteBenchModel" "imageLogged" "I"), 7, 159),
  ((Jvm.Cond.methodLink "SuiteBenchModel" (530 : Nat) ({ cls := "SuiteBenchModel", name := "kinds", desc := "()I" } : Jvm.MethodName)), 10, 111),
  ((Jvm.Cond.methodLink "SuiteBenchModel" (533 : Nat) ({ cls := "SuiteBenchModel", name := "twisted", desc := "()I" } : Jvm.MethodName)), 10, 115),
  ((Jvm.Cond.methodLink "SuiteBenchModel" (536 : Nat) ({ cls := "SuiteBenchModel", name := "builtReached", desc := "()I" } : Jvm.MethodName)), 10, 119)]
def kc_N : List Jvm.Cond := [
  (Jvm.Cond.fieldLink "SuiteBenchModel" (13 : Nat) "SuiteBenchModel" "number" "[I"),
  (Jvm.Cond.fieldLink "SuiteBenchModel" (44 : Nat) "SuiteBenchModel" "access" "[I"),
  (Jvm.Cond.methodLink "SuiteBenchModel" (272 : Nat) ({ cls := "SuiteBenchModel", name := "states", desc := "()I" } : Jvm.MethodName)),
  (Jvm.Cond.methodLink "SuiteBenchModel" (269 : Nat) ({ cls := "SuiteBenchModel", name := "inputs", desc := "()I" } : Jvm.MethodName)),
  (Jvm.Cond.fieldLink "SuiteBenchModel" (38 : Nat) "SuiteBenchModel" "next" "[I"),
  (Jvm.Cond.fieldLink "SuiteBenchModel" (328 : Nat) "SuiteBenchModel" "reached" "I"),
  (Jvm.Cond.methodLink "SuiteBenchModel" (331 : Nat) ({ cls := "SuiteBenchModel", name := "isReached", desc := "(I)Z" } : Jvm.MethodName)),
  (Jvm.Cond.fieldLink "SuiteBenchModel" (53 : Nat) "SuiteBenchModel" "isMet" "[Z"),
  (Jvm.Cond.fieldLink "SuiteBenchModel" (47 : Nat) "SuiteBenchModel" "pairOf" "[I"),
  (Jvm.Cond.fieldLink "SuiteBenchModel" (50 : Nat) "SuiteBenchModel" "pairWord" "[I"),
  (Jvm.Cond.fieldLink "SuiteBenchModel" (41 : Nat) "SuiteBenchModel" "says" "[I"),
  (Jvm.Cond.fieldLink "SuiteBenchModel" (57 : Nat) "SuiteBenchModel" "parted" "[I"),
  (Jvm.Cond.methodLink "SuiteBenchModel" (334 : Nat) ({ cls := "SuiteBenchModel", name := "unlike", desc := "(IIII)I" } : Jvm.MethodName)),
  (Jvm.Cond.methodLink "SuiteBenchModel" (298 : Nat) ({ cls := "SuiteBenchModel", name := "long1", desc := "(I)I" } : Jvm.MethodName)),
  (Jvm.Cond.methodLink "SuiteBenchModel" (301 : Nat) ({ cls := "SuiteBenchModel", name := "inputAt", desc := "(III)I" } : Jvm.MethodName)),
  (Jvm.Cond.constantLong "SuiteBenchModel" (305 : Nat) (10 : Int64)),
  (Jvm.Cond.fieldLink "SuiteBenchModel" (341 : Nat) "SuiteBenchModel" "splitters" "I"),
  (Jvm.Cond.fieldLink "SuiteBenchModel" (60 : Nat) "SuiteBenchModel" "splitter" "[I"),
  (Jvm.Cond.methodLink "SuiteBenchModel" (319 : Nat) ({ cls := "SuiteBenchModel", name := "answers", desc := "(III)J" } : Jvm.MethodName)),
  (Jvm.Cond.methodLink "SuiteBenchModel" (344 : Nat) ({ cls := "SuiteBenchModel", name := "isSplit", desc := "(II)Z" } : Jvm.MethodName)),
  (Jvm.Cond.fieldLink "SuiteBenchModel" (352 : Nat) "SuiteBenchModel" "hasSigns" "Z"),
  (Jvm.Cond.fieldLink "SuiteBenchModel" (72 : Nat) "SuiteBenchModel" "hasWay" "[Z"),
  (Jvm.Cond.fieldLink "SuiteBenchModel" (69 : Nat) "SuiteBenchModel" "wayLong" "[I"),
  (Jvm.Cond.fieldLink "SuiteBenchModel" (124 : Nat) "SuiteBenchModel" "coveredBy" "[I"),
  (Jvm.Cond.fieldLink "SuiteBenchModel" (84 : Nat) "SuiteBenchModel" "testMany" "[I"),
  (Jvm.Cond.fieldLink "SuiteBenchModel" (93 : Nat) "SuiteBenchModel" "hasMutants" "[Z"),
  (Jvm.Cond.fieldLink "SuiteBenchModel" (99 : Nat) "SuiteBenchModel" "hasSmall" "[Z"),
  (Jvm.Cond.fieldLink "SuiteBenchModel" (114 : Nat) "SuiteBenchModel" "hasFound" "[Z"),
  (Jvm.Cond.fieldLink "SuiteBenchModel" (22 : Nat) "SuiteBenchModel" "arcTo" "[I"),
  (Jvm.Cond.fieldLink "SuiteBenchModel" (25 : Nat) "SuiteBenchModel" "arcSays" "[I"),
  (Jvm.Cond.fieldLink "SuiteBenchModel" (28 : Nat) "SuiteBenchModel" "twistTo" "[I"),
  (Jvm.Cond.fieldLink "SuiteBenchModel" (31 : Nat) "SuiteBenchModel" "twistSays" "[I"),
  (Jvm.Cond.fieldLink "SuiteBenchModel" (275 : Nat) "SuiteBenchModel" "logged" "I"),
  (Jvm.Cond.fieldLink "SuiteBenchModel" (278 : Nat) "SuiteBenchModel" "undoable" "I"),
  (Jvm.Cond.fieldLink "SuiteBenchModel" (281 : Nat) "SuiteBenchModel" "hasImage" "Z"),
  (Jvm.Cond.methodLink "SuiteBenchModel" (285 : Nat) ({ cls := "SuiteBenchModel", name := "laysAccess", desc := "()V" } : Jvm.MethodName)),
  (Jvm.Cond.methodLink "SuiteBenchModel" (288 : Nat) ({ cls := "SuiteBenchModel", name := "laysSeparators", desc := "()V" } : Jvm.MethodName)),
  (Jvm.Cond.methodLink "SuiteBenchModel" (291 : Nat) ({ cls := "SuiteBenchModel", name := "laysSplitters", desc := "()V" } : Jvm.MethodName)),
  (Jvm.Cond.methodLink "SuiteBenchModel" (294 : Nat) ({ cls := "SuiteBenchModel", name := "forgets", desc := "()V" } : Jvm.MethodName)),
  (Jvm.Cond.methodLink "SuiteBenchModel" (1 : Nat) ({ cls := "java/lang/Object", name := "<init>", desc := "()V" } : Jvm.MethodName)),
  (Jvm.Cond.arrayClass Jvm.ClassFile.FieldType.int),
  (Jvm.Cond.fieldLink "SuiteBenchModel" (7 : Nat) "SuiteBenchModel" "tape" "[I"),
  (Jvm.Cond.fieldLink "SuiteBenchModel" (16 : Nat) "SuiteBenchModel" "placeName" "[I"),
  (Jvm.Cond.fieldLink "SuiteBenchModel" (19 : Nat) "SuiteBenchModel" "inputName" "[I"),
  (Jvm.Cond.fieldLink "SuiteBenchModel" (34 : Nat) "SuiteBenchModel" "lastPlace" "I"),
  (Jvm.Cond.arrayClass Jvm.ClassFile.FieldType.boolean),
  (Jvm.Cond.fieldLink "SuiteBenchModel" (63 : Nat) "SuiteBenchModel" "signs" "[I"),
  (Jvm.Cond.fieldLink "SuiteBenchModel" (66 : Nat) "SuiteBenchModel" "way" "[I"),
  (Jvm.Cond.fieldLink "SuiteBenchModel" (75 : Nat) "SuiteBenchModel" "isGone" "[Z"),
  (Jvm.Cond.fieldLink "SuiteBenchModel" (78 : Nat) "SuiteBenchModel" "wordTo" "[I"),
  (Jvm.Cond.fieldLink "SuiteBenchModel" (81 : Nat) "SuiteBenchModel" "tests" "[I"),
  (Jvm.Cond.fieldLink "SuiteBenchModel" (87 : Nat) "SuiteBenchModel" "isBegun" "[Z"),
  (Jvm.Cond.fieldLink "SuiteBenchModel" (90 : Nat) "SuiteBenchModel" "mutantSums" "[I"),
  (Jvm.Cond.fieldLink "SuiteBenchModel" (96 : Nat) "SuiteBenchModel" "smallSums" "[I"),
  (Jvm.Cond.fieldLink "SuiteBenchModel" (102 : Nat) "SuiteBenchModel" "known" "[I"),
  (Jvm.Cond.fieldLink "SuiteBenchModel" (105 : Nat) "SuiteBenchModel" "told" "[I"),
  (Jvm.Cond.fieldLink "SuiteBenchModel" (108 : Nat) "SuiteBenchModel" "heard" "[I"),
  (Jvm.Cond.fieldLink "SuiteBenchModel" (111 : Nat) "SuiteBenchModel" "found" "[I"),
  (Jvm.Cond.arrayClass Jvm.ClassFile.FieldType.long),
  (Jvm.Cond.fieldLink "SuiteBenchModel" (117 : Nat) "SuiteBenchModel" "fails" "[J"),
  (Jvm.Cond.fieldLink "SuiteBenchModel" (121 : Nat) "SuiteBenchModel" "stay" "[J"),
  (Jvm.Cond.fieldLink "SuiteBenchModel" (127 : Nat) "SuiteBenchModel" "logWord" "[I"),
  (Jvm.Cond.fieldLink "SuiteBenchModel" (130 : Nat) "SuiteBenchModel" "logAnswer" "[J"),
  (Jvm.Cond.fieldLink "SuiteBenchModel" (133 : Nat) "SuiteBenchModel" "suspected" "[I"),
  (Jvm.Cond.fieldLink "SuiteBenchModel" (136 : Nat) "SuiteBenchModel" "answerOf" "[J"),
  (Jvm.Cond.fieldLink "SuiteBenchModel" (139 : Nat) "SuiteBenchModel" "kept" "[I"),
  (Jvm.Cond.methodLink "SuiteBenchModel" (142 : Nat) ({ cls := "SuiteBenchModel", name := "lays", desc := "()V" } : Jvm.MethodName)),
  (Jvm.Cond.fieldLink "SuiteBenchModel" (145 : Nat) "SuiteBenchModel" "thrown" "I"),
  (Jvm.Cond.fieldLink "SuiteBenchModel" (148 : Nat) "SuiteBenchModel" "taped" "I"),
  (Jvm.Cond.fieldLink "SuiteBenchModel" (151 : Nat) "SuiteBenchModel" "at" "I"),
  (Jvm.Cond.fieldLink "SuiteBenchModel" (154 : Nat) "SuiteBenchModel" "size" "I"),
  (Jvm.Cond.fieldLink "SuiteBenchModel" (174 : Nat) "SuiteBenchModel" "value" "I"),
  (Jvm.Cond.fieldLink "SuiteBenchModel" (161 : Nat) "SuiteBenchModel" "place" "I"),
  (Jvm.Cond.methodLink "SuiteBenchModel" (157 : Nat) ({ cls := "SuiteBenchModel", name := "here", desc := "()I" } : Jvm.MethodName)),
  (Jvm.Cond.fieldLink "SuiteBenchModel" (164 : Nat) "SuiteBenchModel" "sort" "I"),
  (Jvm.Cond.methodLink "SuiteBenchModel" (167 : Nat) ({ cls := "SuiteBenchModel", name := "isSmall", desc := "(I)Z" } : Jvm.MethodName)),
  (Jvm.Cond.methodLink "SuiteBenchModel" (171 : Nat) ({ cls := "SuiteBenchModel", name := "wordHere", desc := "()I" } : Jvm.MethodName)),
  (Jvm.Cond.methodLink "SuiteBenchModel" (177 : Nat) ({ cls := "SuiteBenchModel", name := "nameHere", desc := "()V" } : Jvm.MethodName)),
  (Jvm.Cond.methodLink "SuiteBenchModel" (180 : Nat) ({ cls := "SuiteBenchModel", name := "isDigit", desc := "(I)Z" } : Jvm.MethodName)),
  (Jvm.Cond.constant "SuiteBenchModel" (183 : Nat) (99999 : Int32)),
  (Jvm.Cond.fieldLink "SuiteBenchModel" (195 : Nat) "SuiteBenchModel" "fault" "I"),
  (Jvm.Cond.fieldLink "SuiteBenchModel" (198 : Nat) "SuiteBenchModel" "faultPlace" "I"),
  (Jvm.Cond.methodLink "SuiteBenchModel" (201 : Nat) ({ cls := "SuiteBenchModel", name := "token", desc := "()V" } : Jvm.MethodName)),
  (Jvm.Cond.methodLink "SuiteBenchModel" (211 : Nat) ({ cls := "SuiteBenchModel", name := "reading", desc := "(I)I" } : Jvm.MethodName)),
  (Jvm.Cond.methodLink "SuiteBenchModel" (204 : Nat) ({ cls := "SuiteBenchModel", name := "wrong", desc := "(I)V" } : Jvm.MethodName)),
  (Jvm.Cond.methodLink "SuiteBenchModel" (215 : Nat) ({ cls := "SuiteBenchModel", name := "readPlaces", desc := "()I" } : Jvm.MethodName)),
  (Jvm.Cond.methodLink "SuiteBenchModel" (218 : Nat) ({ cls := "SuiteBenchModel", name := "found", desc := "([IIII)I" } : Jvm.MethodName)),
  (Jvm.Cond.methodLink "SuiteBenchModel" (208 : Nat) ({ cls := "SuiteBenchModel", name := "goOn", desc := "()V" } : Jvm.MethodName)),
  (Jvm.Cond.methodLink "SuiteBenchModel" (221 : Nat) ({ cls := "SuiteBenchModel", name := "fresh", desc := "()I" } : Jvm.MethodName)),
  (Jvm.Cond.methodLink "SuiteBenchModel" (224 : Nat) ({ cls := "SuiteBenchModel", name := "atHand", desc := "(ZI)I" } : Jvm.MethodName)),
  (Jvm.Cond.methodLink "SuiteBenchModel" (228 : Nat) ({ cls := "SuiteBenchModel", name := "numeral", desc := "(I)I" } : Jvm.MethodName)),
  (Jvm.Cond.methodLink "SuiteBenchModel" (231 : Nat) ({ cls := "SuiteBenchModel", name := "isWord", desc := "(I)Z" } : Jvm.MethodName)),
  (Jvm.Cond.methodLink "SuiteBenchModel" (234 : Nat) ({ cls := "SuiteBenchModel", name := "readState", desc := "()V" } : Jvm.MethodName)),
  (Jvm.Cond.methodLink "SuiteBenchModel" (237 : Nat) ({ cls := "SuiteBenchModel", name := "readInput", desc := "()V" } : Jvm.MethodName)),
  (Jvm.Cond.methodLink "SuiteBenchModel" (240 : Nat) ({ cls := "SuiteBenchModel", name := "readMore", desc := "()V" } : Jvm.MethodName)),
  (Jvm.Cond.methodLink "SuiteBenchModel" (243 : Nat) ({ cls := "SuiteBenchModel", name := "readArc", desc := "(Z)V" } : Jvm.MethodName)),
  (Jvm.Cond.methodLink "SuiteBenchModel" (247 : Nat) ({ cls := "SuiteBenchModel", name := "readOnce", desc := "(II)V" } : Jvm.MethodName)),
  (Jvm.Cond.fieldLink "SuiteBenchModel" (251 : Nat) "SuiteBenchModel" "lines" "I"),
  (Jvm.Cond.methodLink "SuiteBenchModel" (254 : Nat) ({ cls := "SuiteBenchModel", name := "readLine", desc := "()V" } : Jvm.MethodName)),
  (Jvm.Cond.methodLink "SuiteBenchModel" (257 : Nat) ({ cls := "SuiteBenchModel", name := "readText", desc := "(I)V" } : Jvm.MethodName)),
  (Jvm.Cond.fieldLink "SuiteBenchModel" (260 : Nat) "SuiteBenchModel" "lastFault" "I"),
  (Jvm.Cond.methodLink "SuiteBenchModel" (263 : Nat) ({ cls := "SuiteBenchModel", name := "takeText", desc := "()V" } : Jvm.MethodName)),
  (Jvm.Cond.methodLink "SuiteBenchModel" (266 : Nat) ({ cls := "SuiteBenchModel", name := "places", desc := "()I" } : Jvm.MethodName)),
  (Jvm.Cond.methodLink "SuiteBenchModel" (307 : Nat) ({ cls := "SuiteBenchModel", name := "isState", desc := "(I)Z" } : Jvm.MethodName)),
  (Jvm.Cond.methodLink "SuiteBenchModel" (310 : Nat) ({ cls := "SuiteBenchModel", name := "isInput", desc := "(I)Z" } : Jvm.MethodName)),
  (Jvm.Cond.methodLink "SuiteBenchModel" (313 : Nat) ({ cls := "SuiteBenchModel", name := "isPlace", desc := "(I)Z" } : Jvm.MethodName)),
  (Jvm.Cond.constant "SuiteBenchModel" (297 : Nat) (1073741824 : Int32)),
  (Jvm.Cond.methodLink "SuiteBenchModel" (316 : Nat) ({ cls := "SuiteBenchModel", name := "isWordNumber", desc := "(I)Z" } : Jvm.MethodName)),
  (Jvm.Cond.constantLong "SuiteBenchModel" (323 : Nat) (-1 : Int64)),
  (Jvm.Cond.methodLink "SuiteBenchModel" (325 : Nat) ({ cls := "SuiteBenchModel", name := "leadsTo", desc := "(III)I" } : Jvm.MethodName)),
  (Jvm.Cond.methodLink "SuiteBenchModel" (338 : Nat) ({ cls := "SuiteBenchModel", name := "kindOf", desc := "(I)I" } : Jvm.MethodName)),
  (Jvm.Cond.methodLink "SuiteBenchModel" (348 : Nat) ({ cls := "SuiteBenchModel", name := "markAbove", desc := "(II)I" } : Jvm.MethodName)),
  (Jvm.Cond.methodLink "SuiteBenchModel" (355 : Nat) ({ cls := "SuiteBenchModel", name := "isSign", desc := "(II)Z" } : Jvm.MethodName)),
  (Jvm.Cond.methodLink "SuiteBenchModel" (358 : Nat) ({ cls := "SuiteBenchModel", name := "after", desc := "(I)I" } : Jvm.MethodName)),
  (Jvm.Cond.methodLink "SuiteBenchModel" (361 : Nat) ({ cls := "SuiteBenchModel", name := "laysSigns", desc := "()V" } : Jvm.MethodName)),
  (Jvm.Cond.fieldLink "SuiteBenchModel" (364 : Nat) "SuiteBenchModel" "stand" "I"),
  (Jvm.Cond.methodLink "SuiteBenchModel" (367 : Nat) ({ cls := "SuiteBenchModel", name := "wordToGo", desc := "()I" } : Jvm.MethodName)),
  (Jvm.Cond.methodLink "SuiteBenchModel" (370 : Nat) ({ cls := "SuiteBenchModel", name := "goes", desc := "(II)V" } : Jvm.MethodName)),
  (Jvm.Cond.methodLink "SuiteBenchModel" (376 : Nat) ({ cls := "SuiteBenchModel", name := "testAt", desc := "(II)I" } : Jvm.MethodName)),
  (Jvm.Cond.methodLink "SuiteBenchModel" (379 : Nat) ({ cls := "SuiteBenchModel", name := "placeFor", desc := "(II)I" } : Jvm.MethodName)),
  (Jvm.Cond.methodLink "SuiteBenchModel" (382 : Nat) ({ cls := "SuiteBenchModel", name := "behind", desc := "(II)I" } : Jvm.MethodName)),
  (Jvm.Cond.methodLink "SuiteBenchModel" (385 : Nat) ({ cls := "SuiteBenchModel", name := "adds", desc := "(II)V" } : Jvm.MethodName)),
  (Jvm.Cond.methodLink "SuiteBenchModel" (388 : Nat) ({ cls := "SuiteBenchModel", name := "addsHead", desc := "(II)V" } : Jvm.MethodName)),
  (Jvm.Cond.methodLink "SuiteBenchModel" (391 : Nat) ({ cls := "SuiteBenchModel", name := "drops", desc := "(I)V" } : Jvm.MethodName)),
  (Jvm.Cond.methodLink "SuiteBenchModel" (394 : Nat) ({ cls := "SuiteBenchModel", name := "extra", desc := "()I" } : Jvm.MethodName)),
  (Jvm.Cond.methodLink "SuiteBenchModel" (397 : Nat) ({ cls := "SuiteBenchModel", name := "laysSuite", desc := "(I)V" } : Jvm.MethodName)),
  (Jvm.Cond.methodLink "SuiteBenchModel" (400 : Nat) ({ cls := "SuiteBenchModel", name := "suiteOf", desc := "(I)I" } : Jvm.MethodName)),
  (Jvm.Cond.methodLink "SuiteBenchModel" (373 : Nat) ({ cls := "SuiteBenchModel", name := "laysWay", desc := "(I)V" } : Jvm.MethodName)),
  (Jvm.Cond.methodLink "SuiteBenchModel" (403 : Nat) ({ cls := "SuiteBenchModel", name := "testsOf", desc := "(I)I" } : Jvm.MethodName)),
  (Jvm.Cond.methodLink "SuiteBenchModel" (406 : Nat) ({ cls := "SuiteBenchModel", name := "longOf", desc := "(II)I" } : Jvm.MethodName)),
  (Jvm.Cond.methodLink "SuiteBenchModel" (409 : Nat) ({ cls := "SuiteBenchModel", name := "isOne", desc := "(I)Z" } : Jvm.MethodName)),
  (Jvm.Cond.fieldLink "SuiteBenchModel" (412 : Nat) "SuiteBenchModel" "wrongAt" "I"),
  (Jvm.Cond.fieldLink "SuiteBenchModel" (415 : Nat) "SuiteBenchModel" "wrongSays" "I"),
  (Jvm.Cond.methodLink "SuiteBenchModel" (418 : Nat) ({ cls := "SuiteBenchModel", name := "isPassed", desc := "(II)Z" } : Jvm.MethodName)),
  (Jvm.Cond.methodLink "SuiteBenchModel" (421 : Nat) ({ cls := "SuiteBenchModel", name := "isWayPassed", desc := "(II)Z" } : Jvm.MethodName)),
  (Jvm.Cond.methodLink "SuiteBenchModel" (424 : Nat) ({ cls := "SuiteBenchModel", name := "isTestPassed", desc := "(III)Z" } : Jvm.MethodName)),
  (Jvm.Cond.methodLink "SuiteBenchModel" (428 : Nat) ({ cls := "SuiteBenchModel", name := "laysWrong", desc := "(I)V" } : Jvm.MethodName)),
  (Jvm.Cond.methodLink "SuiteBenchModel" (431 : Nat) ({ cls := "SuiteBenchModel", name := "top", desc := "()I" } : Jvm.MethodName)),
  (Jvm.Cond.fieldLink "SuiteBenchModel" (434 : Nat) "SuiteBenchModel" "mutantState" "I"),
  (Jvm.Cond.fieldLink "SuiteBenchModel" (437 : Nat) "SuiteBenchModel" "mutantInput" "I"),
  (Jvm.Cond.fieldLink "SuiteBenchModel" (440 : Nat) "SuiteBenchModel" "mutantTo" "I"),
  (Jvm.Cond.fieldLink "SuiteBenchModel" (443 : Nat) "SuiteBenchModel" "mutantSays" "I"),
  (Jvm.Cond.methodLink "SuiteBenchModel" (446 : Nat) ({ cls := "SuiteBenchModel", name := "tellsMutant", desc := "(I)V" } : Jvm.MethodName)),
  (Jvm.Cond.methodLink "SuiteBenchModel" (449 : Nat) ({ cls := "SuiteBenchModel", name := "mutantMany", desc := "()I" } : Jvm.MethodName)),
  (Jvm.Cond.methodLink "SuiteBenchModel" (452 : Nat) ({ cls := "SuiteBenchModel", name := "laysMutant", desc := "(II)V" } : Jvm.MethodName)),
  (Jvm.Cond.methodLink "SuiteBenchModel" (455 : Nat) ({ cls := "SuiteBenchModel", name := "doesFail", desc := "(II)Z" } : Jvm.MethodName)),
  (Jvm.Cond.methodLink "SuiteBenchModel" (458 : Nat) ({ cls := "SuiteBenchModel", name := "laysMutants", desc := "(I)V" } : Jvm.MethodName)),
  (Jvm.Cond.methodLink "SuiteBenchModel" (461 : Nat) ({ cls := "SuiteBenchModel", name := "isMutant", desc := "(I)Z" } : Jvm.MethodName)),
  (Jvm.Cond.methodLink "SuiteBenchModel" (464 : Nat) ({ cls := "SuiteBenchModel", name := "smallMany", desc := "(I)I" } : Jvm.MethodName)),
  (Jvm.Cond.methodLink "SuiteBenchModel" (467 : Nat) ({ cls := "SuiteBenchModel", name := "laysSmallOne", desc := "(II)V" } : Jvm.MethodName)),
  (Jvm.Cond.methodLink "SuiteBenchModel" (470 : Nat) ({ cls := "SuiteBenchModel", name := "laysSmall", desc := "(II)V" } : Jvm.MethodName)),
  (Jvm.Cond.methodLink "SuiteBenchModel" (473 : Nat) ({ cls := "SuiteBenchModel", name := "answersSo", desc := "(I)I" } : Jvm.MethodName)),
  (Jvm.Cond.methodLink "SuiteBenchModel" (476 : Nat) ({ cls := "SuiteBenchModel", name := "leftAt", desc := "(I)I" } : Jvm.MethodName)),
  (Jvm.Cond.methodLink "SuiteBenchModel" (479 : Nat) ({ cls := "SuiteBenchModel", name := "isTree", desc := "(I)Z" } : Jvm.MethodName)),
  (Jvm.Cond.methodLink "SuiteBenchModel" (482 : Nat) ({ cls := "SuiteBenchModel", name := "isOf", desc := "(II)Z" } : Jvm.MethodName)),
  (Jvm.Cond.methodLink "SuiteBenchModel" (485 : Nat) ({ cls := "SuiteBenchModel", name := "bits", desc := "(J)I" } : Jvm.MethodName)),
  (Jvm.Cond.methodLink "SuiteBenchModel" (489 : Nat) ({ cls := "SuiteBenchModel", name := "laysFails", desc := "(I)V" } : Jvm.MethodName)),
  (Jvm.Cond.methodLink "SuiteBenchModel" (492 : Nat) ({ cls := "SuiteBenchModel", name := "newBy", desc := "(I)I" } : Jvm.MethodName)),
  (Jvm.Cond.constantLong "SuiteBenchModel" (495 : Nat) (-3 : Int64)),
  (Jvm.Cond.fieldLink "SuiteBenchModel" (497 : Nat) "SuiteBenchModel" "suspects" "I"),
  (Jvm.Cond.methodLink "SuiteBenchModel" (500 : Nat) ({ cls := "SuiteBenchModel", name := "isSuspected", desc := "(I)Z" } : Jvm.MethodName)),
  (Jvm.Cond.methodLink "SuiteBenchModel" (503 : Nat) ({ cls := "SuiteBenchModel", name := "laysSuspects", desc := "()V" } : Jvm.MethodName)),
  (Jvm.Cond.methodLink "SuiteBenchModel" (506 : Nat) ({ cls := "SuiteBenchModel", name := "laysAnswers", desc := "(II)V" } : Jvm.MethodName)),
  (Jvm.Cond.methodLink "SuiteBenchModel" (509 : Nat) ({ cls := "SuiteBenchModel", name := "greatestGroup", desc := "(I)I" } : Jvm.MethodName)),
  (Jvm.Cond.fieldLink "SuiteBenchModel" (512 : Nat) "SuiteBenchModel" "drawn" "I"),
  (Jvm.Cond.constant "SuiteBenchModel" (515 : Nat) (1103515245 : Int32)),
  (Jvm.Cond.constant "SuiteBenchModel" (516 : Nat) (2147483647 : Int32)),
  (Jvm.Cond.methodLink "SuiteBenchModel" (517 : Nat) ({ cls := "SuiteBenchModel", name := "draw", desc := "(I)I" } : Jvm.MethodName)),
  (Jvm.Cond.methodLink "SuiteBenchModel" (520 : Nat) ({ cls := "SuiteBenchModel", name := "copies", desc := "(IZ)V" } : Jvm.MethodName)),
  (Jvm.Cond.methodLink "SuiteBenchModel" (524 : Nat) ({ cls := "SuiteBenchModel", name := "remembers", desc := "()V" } : Jvm.MethodName)),
  (Jvm.Cond.fieldLink "SuiteBenchModel" (527 : Nat) "SuiteBenchModel" "imageLogged" "I"),
  (Jvm.Cond.methodLink "SuiteBenchModel" (530 : Nat) ({ cls := "SuiteBenchModel", name := "kinds", desc := "()I" } : Jvm.MethodName)),
  (Jvm.Cond.methodLink "SuiteBenchModel" (533 : Nat) ({ cls := "SuiteBenchModel", name := "twisted", desc := "()I" } : Jvm.MethodName)),
  (Jvm.Cond.methodLink "SuiteBenchModel" (536 : Nat) ({ cls := "SuiteBenchModel", name := "builtReached", desc := "()I" } : Jvm.MethodName))]
theorem kc_N_ok : ∀ w ∈ kc_N, w ∈ ai_gw := by
  have h : kc_N = kt_N.map (fun q => q.1) := rfl
  rw [h]
  exact tk_mem (by decide +kernel)
def kt_JI : List (Jvm.Cond × Nat × Nat) := [
  ((Jvm.Cond.constant "java/lang/Integer" (265 : Nat) (1431655765 : Int32)), 5, 197),
  ((Jvm.Cond.constant "java/lang/Integer" (266 : Nat) (858993459 : Int32)), 5, 198),
  ((Jvm.Cond.constant "java/lang/Integer" (267 : Nat) (252645135 : Int32)), 5, 199)]
def kc_JI : List Jvm.Cond := [
  (Jvm.Cond.constant "java/lang/Integer" (265 : Nat) (1431655765 : Int32)),
  (Jvm.Cond.constant "java/lang/Integer" (266 : Nat) (858993459 : Int32)),
  (Jvm.Cond.constant "java/lang/Integer" (267 : Nat) (252645135 : Int32))]
theorem kc_JI_ok : ∀ w ∈ kc_JI, w ∈ ai_gw := by
  have h : kc_JI = kt_JI.map (fun q => q.1) := rfl
  rw [h]
  exact tk_mem (by decide +kernel)
end
section
/-! the code of the methods, by program; what it rests on, looked at; the contracts -/
theorem gw_sel (i : Nat) {w : Jvm.Cond} (h : (decide (ai_nth (k2_sels lw_privs) i = some w) && ai_gd w) = true) : w ∈ ai_gw := by
  simp only [Bool.and_eq_true, decide_eq_true_eq] at h
  rw [nth_eq] at h
  exact gw_mem (List.mem_append_left _ (List.mem_of_getElem? h.1)) h.2
/-- what is still owed of what lies outside: the model's look for a word (its text is a String) -/
def f_N_wordHere : SP := fun _ _ _ _ _ => False
theorem mf_N_wordHere : ai_mono f_N_wordHere := fun _ _ _ _ _ _ _ h => h
def i_N_wordHere : ai_I := ((⟨"SuiteBenchModel", "wordHere", "()I"⟩, prog_14_method_8_code, 4, (some .int), 0, 7, 250, 0, 0, 0, 12) : ai_I)
def ai_XH (E2 : (Nat → Nat) → State → Heap → Prop) : Prop := ai_S E2 i_N_wordHere f_N_wordHere ∧ ai_CW i_N_wordHere
theorem c_N_wordHere {E2 : (Nat → Nat) → State → Heap → Prop} (hE : ai_XH E2) : ai_S E2 i_N_wordHere f_N_wordHere := hE.1
def k_J_fill : ai_C := [
  [(0, .iconst 0, 1, 0, 0, 0, 0, 0, []), (1, .istore_n 2, 1, 2, 0, 0, 0, 0, []), (2, .aload_n 0, 1, 0, 0, 0, 0, 0, []), (3, .arraylength, 1, 0, 0, 0, 50, 0, []), (4, .istore_n 3, 1, 3, 0, 0, 0, 0, []), (5, .iload_n 2, 1, 2, 0, 0, 0, 0, []), (6, .iload_n 3, 1, 3, 0, 0, 0, 0, []), (7, .if_icmp .ge 13, 3, 20, 0, 0, 0, 0, []), (10, .aload_n 0, 1, 0, 0, 0, 0, 0, []), (11, .iload_n 2, 1, 2, 0, 0, 0, 0, []), (12, .iload_n 1, 1, 1, 0, 0, 0, 0, []), (13, .iastore, 1, 0, 0, 0, 0, 0, []), (14, .iinc 2 1, 3, 2, 0, 0, 0, 1, [])],
  [(17, .goto (-12), 3, 5, 0, 0, 0, 0, []), (20, .return_, 1, 0, 0, 0, 0, 0, [])]]
def i_J_fill : ai_I := ((⟨"java/util/Arrays", "fill", "([II)V"⟩, prog_30_method_103_code, 4, none, 9, 0, 0, 0, 2, 1, 99) : ai_I)
def o_J_fill (_ : Nat) : SP := fun _ _ _ _ _ => False
theorem mo_J_fill : ∀ a, ai_mono (o_J_fill a) := fun _ _ _ _ _ _ _ _ h => h
def f_J_fill : SP := ai_M o_J_fill 0 4 k_J_fill
theorem mf_J_fill : ai_mono f_J_fill := M_mono mo_J_fill
abbrev cal_J_fill : List ai_I := []
theorem a_J_fill : ai_all "java/util/Arrays" prog_30_method_103_code 4 [] cal_J_fill 0 0 false none k_J_fill = true := by decide +kernel
theorem w_J_fill : ai_CW i_J_fill := ⟨(tk_mem (l := [((Jvm.Cond.code ({ cls := "java/util/Arrays", name := "fill", desc := "([II)V" } : Jvm.MethodName) prog_30_method_103_code (4 : Nat) (Option.none : Option Jvm.ClassFile.FieldType)), 1, 53)]) (by decide +kernel) _ (List.mem_singleton.mpr rfl)), (tk_mem (l := [((Jvm.Cond.initialized "java/util/Arrays"), 1, 4)]) (by decide +kernel) _ (List.mem_singleton.mpr rfl)), ⟨by decide +kernel, by decide +kernel, by decide +kernel⟩, (tk_mem (l := [((Jvm.Cond.static ({ cls := "java/util/Arrays", name := "fill", desc := "([II)V" } : Jvm.MethodName)), 1, 52)]) (by decide +kernel) _ (List.mem_singleton.mpr rfl))⟩
theorem c_J_fill {E2 : (Nat → Nat) → State → Heap → Prop} (hE : ai_XH E2) : ai_S E2 i_J_fill f_J_fill := snd_M (by decide) rfl (by decide) a_J_fill (fun _ h => by cases h) (by rfl) (by decide) (fun a i h => by simp [cal_J_fill, ai_nth] at h)
def k_P_clear : ai_C := [
  [(0, .aload_n 0, 1, 0, 0, 0, 0, 0, []), (1, .getfield 18, 3, 3, 2, 0, 2, 2, []), (4, .iconst (-1), 1, 0, 0, 0, 0, (-1), []), (5, .invokestatic 27, 3, 0, 2, 1, 9, 0, [(0, 99)]), (8, .aload_n 0, 1, 0, 0, 0, 0, 0, []), (9, .getfield 21, 3, 3, 3, 2, 2, 3, []), (12, .iconst (-1), 1, 0, 0, 0, 0, (-1), []), (13, .invokestatic 27, 3, 0, 2, 1, 9, 0, [(0, 99)])],
  [(16, .aload_n 0, 1, 0, 0, 0, 0, 0, []), (17, .iconst 0, 1, 0, 0, 0, 0, 0, []), (18, .putfield 33, 3, 3, 4, 3, 0, 4, []), (21, .aload_n 0, 1, 0, 0, 0, 0, 0, []), (22, .iconst 0, 1, 0, 0, 0, 0, 0, []), (23, .putfield 37, 3, 3, 5, 4, 0, 5, []), (26, .aload_n 0, 1, 0, 0, 0, 0, 0, []), (27, .iconst 0, 1, 0, 0, 0, 0, 0, []), (28, .putfield 40, 3, 3, 6, 5, 0, 6, []), (31, .aload_n 0, 1, 0, 0, 0, 0, 0, [])],
  [(32, .iconst 0, 1, 0, 0, 0, 0, 0, []), (33, .putfield 43, 3, 3, 7, 6, 0, 7, []), (36, .aload_n 0, 1, 0, 0, 0, 0, 0, []), (37, .iconst 0, 1, 0, 0, 0, 0, 0, []), (38, .putfield 46, 3, 3, 8, 7, 0, 8, []), (41, .aload_n 0, 1, 0, 0, 0, 0, 0, []), (42, .iconst 0, 1, 0, 0, 0, 0, 0, []), (43, .putfield 49, 3, 3, 9, 8, 0, 9, []), (46, .aload_n 0, 1, 0, 0, 0, 0, 0, []), (47, .iconst 0, 1, 0, 0, 0, 0, 0, [])],
  [(48, .putfield 52, 3, 3, 10, 9, 3, 10, []), (51, .aload_n 0, 1, 0, 0, 0, 0, 0, []), (52, .iconst 0, 1, 0, 0, 0, 0, 0, []), (53, .putfield 56, 3, 3, 11, 10, 3, 11, []), (56, .return_, 1, 0, 0, 0, 0, 0, [])]]
def i_P_clear : ai_I := ((⟨"SuiteBench$Plan", "clear", "()V"⟩, prog_5_method_2_code, 1, none, 9, 1, 23, 0, 0, 0, 3) : ai_I)
def o_P_clear (a : Nat) : SP := match a with
  | 0 => f_J_fill
  | _ => fun _ _ _ _ _ => False
theorem mo_P_clear : ∀ a, ai_mono (o_P_clear a)
  | 0 => mf_J_fill
  | _ + 1 => fun _ _ _ _ _ _ _ h => h
def f_P_clear : SP := ai_M o_P_clear 0 1 k_P_clear
theorem mf_P_clear : ai_mono f_P_clear := M_mono mo_P_clear
abbrev cal_P_clear : List ai_I := [i_J_fill]
theorem a_P_clear : ai_all "SuiteBench$Plan" prog_5_method_2_code 1 kc_P cal_P_clear 1 23 false none k_P_clear = true := by decide +kernel
theorem w_P_clear : ai_CW i_P_clear := ⟨(tk_mem (l := [((Jvm.Cond.code ({ cls := "SuiteBench$Plan", name := "clear", desc := "()V" } : Jvm.MethodName) prog_5_method_2_code (1 : Nat) (Option.none : Option Jvm.ClassFile.FieldType)), 1, 50)]) (by decide +kernel) _ (List.mem_singleton.mpr rfl)), (tk_mem (l := [((Jvm.Cond.initialized "SuiteBench$Plan"), 1, 3)]) (by decide +kernel) _ (List.mem_singleton.mpr rfl)), ⟨by decide +kernel, by decide +kernel, by decide +kernel⟩, ⟨(tk_mem (l := [((Jvm.Cond.instanceMethod ({ cls := "SuiteBench$Plan", name := "clear", desc := "()V" } : Jvm.MethodName)), 1, 48)]) (by decide +kernel) _ (List.mem_singleton.mpr rfl)), (tk_mem (l := [((Jvm.Cond.selects "SuiteBench$Plan" ({ cls := "SuiteBench$Plan", name := "clear", desc := "()V" } : Jvm.MethodName) ({ cls := "SuiteBench$Plan", name := "clear", desc := "()V" } : Jvm.MethodName)), 1, 49)]) (by decide +kernel) _ (List.mem_singleton.mpr rfl)), ⟨_, _, rfl⟩⟩⟩
theorem c_P_clear {E2 : (Nat → Nat) → State → Heap → Prop} (hE : ai_XH E2) : ai_S E2 i_P_clear f_P_clear := snd_M (by decide) rfl (by decide) a_P_clear kc_P_ok (by rfl) (by decide) (fun a i h => match a, h with
    | 0, h => by cases h; exact ⟨c_J_fill hE, w_J_fill⟩
    | _ + 1, h => by simp [cal_P_clear, ai_nth] at h)
def k_P_init : ai_C := [
  [(0, .aload_n 0, 1, 0, 0, 0, 0, 0, []), (1, .invokespecial 3, 3, 0, 0, 11, 30, 0, []), (4, .aload_n 0, 1, 0, 0, 0, 0, 0, []), (5, .bipush 8, 2, 0, 0, 0, 0, 8, []), (7, .newarray .int, 2, 0, 0, 12, 50, 0, []), (9, .putfield 9, 3, 3, 0, 13, 2, 0, []), (12, .aload_n 0, 1, 0, 0, 0, 0, 0, []), (13, .iconst 3, 1, 0, 0, 0, 0, 3, []), (14, .newarray .int, 2, 0, 0, 12, 50, 0, [])],
  [(16, .putfield 15, 3, 3, 1, 14, 2, 1, []), (19, .aload_n 0, 1, 0, 0, 0, 0, 0, []), (20, .bipush 24, 2, 0, 0, 0, 0, 24, []), (22, .newarray .int, 2, 0, 0, 12, 50, 0, []), (24, .putfield 18, 3, 3, 2, 0, 2, 2, []), (27, .aload_n 0, 1, 0, 0, 0, 0, 0, []), (28, .bipush 24, 2, 0, 0, 0, 0, 24, []), (30, .newarray .int, 2, 0, 0, 12, 50, 0, [])],
  [(32, .putfield 21, 3, 3, 3, 2, 2, 3, []), (35, .aload_n 0, 1, 0, 0, 0, 0, 0, []), (36, .invokevirtual 24, 3, 0, 1, 15, 9, 0, [(0, 3)]), (39, .return_, 1, 0, 0, 0, 0, 0, [])]]
def i_P_init : ai_I := ((⟨"SuiteBench$Plan", "<init>", "()V"⟩, prog_5_method_1_code, 1, none, 9, 2, 43, 4, 0, 2, 3) : ai_I)
def o_P_init (a : Nat) : SP := match a with
  | 0 => f_P_clear
  | _ => fun _ _ _ _ _ => False
theorem mo_P_init : ∀ a, ai_mono (o_P_init a)
  | 0 => mf_P_clear
  | _ + 1 => fun _ _ _ _ _ _ _ h => h
def f_P_init : SP := ai_M o_P_init 4 1 k_P_init
theorem mf_P_init : ai_mono f_P_init := M_mono mo_P_init
abbrev cal_P_init : List ai_I := [i_P_clear]
theorem a_P_init : ai_all "SuiteBench$Plan" prog_5_method_1_code 1 kc_P cal_P_init 2 43 true none k_P_init = true := by decide +kernel
theorem w_P_init : ai_CW i_P_init := ⟨(tk_mem (l := [((Jvm.Cond.code ({ cls := "SuiteBench$Plan", name := "<init>", desc := "()V" } : Jvm.MethodName) prog_5_method_1_code (1 : Nat) (Option.none : Option Jvm.ClassFile.FieldType)), 1, 45)]) (by decide +kernel) _ (List.mem_singleton.mpr rfl)), (tk_mem (l := [((Jvm.Cond.initialized "SuiteBench$Plan"), 1, 3)]) (by decide +kernel) _ (List.mem_singleton.mpr rfl)), ⟨by decide +kernel, by decide +kernel, by decide +kernel⟩, ⟨(tk_mem (l := [((Jvm.Cond.instanceMethod ({ cls := "SuiteBench$Plan", name := "<init>", desc := "()V" } : Jvm.MethodName)), 1, 44)]) (by decide +kernel) _ (List.mem_singleton.mpr rfl)), rfl, rfl⟩⟩
theorem c_P_init {E2 : (Nat → Nat) → State → Heap → Prop} (hE : ai_XH E2) : ai_S E2 i_P_init f_P_init := snd_M (by decide) rfl (by decide) a_P_init kc_P_ok (by rfl) (by decide) (fun a i h => match a, h with
    | 0, h => by cases h; exact ⟨c_P_clear hE, w_P_clear⟩
    | _ + 1, h => by simp [cal_P_init, ai_nth] at h)
def k_R_init : ai_C := [
  [(0, .aload_n 0, 1, 0, 0, 0, 0, 0, []), (1, .invokespecial 3, 3, 0, 0, 0, 30, 0, []), (4, .aload_n 0, 1, 0, 0, 0, 0, 0, []), (5, .sipush 700, 3, 0, 0, 0, 0, 700, []), (8, .newarray .byte, 2, 0, 0, 1, 53, 0, []), (10, .putfield 9, 3, 4, 0, 2, 2, 0, []), (13, .aload_n 0, 1, 0, 0, 0, 0, 0, []), (14, .new 15, 3, 3, 4, 3, 5, 0, [])],
  [(17, .dup, 1, 0, 0, 0, 0, 0, []), (18, .invokespecial 17, 3, 0, 1, 6, 9, 4, [(0, 3)]), (21, .putfield 18, 3, 4, 1, 7, 2, 1, []), (24, .aload_n 0, 1, 0, 0, 0, 0, 0, []), (25, .iconst (-1), 1, 0, 0, 0, 0, (-1), []), (26, .putfield 22, 3, 4, 4, 8, 0, 4, []), (29, .return_, 1, 0, 0, 0, 0, 0, [])]]
def i_R_init : ai_I := ((⟨"SuiteBench$Reader", "<init>", "()V"⟩, prog_6_method_1_code, 1, none, 9, 3, 63, 6, 0, 2, 4) : ai_I)
def o_R_init (a : Nat) : SP := match a with
  | 0 => f_P_init
  | _ => fun _ _ _ _ _ => False
theorem mo_R_init : ∀ a, ai_mono (o_R_init a)
  | 0 => mf_P_init
  | _ + 1 => fun _ _ _ _ _ _ _ h => h
def f_R_init : SP := ai_M o_R_init 6 1 k_R_init
theorem mf_R_init : ai_mono f_R_init := M_mono mo_R_init
abbrev cal_R_init : List ai_I := [i_P_init]
theorem a_R_init : ai_all "SuiteBench$Reader" prog_6_method_1_code 1 kc_R cal_R_init 3 63 true none k_R_init = true := by decide +kernel
theorem w_R_init : ai_CW i_R_init := ⟨(tk_mem (l := [((Jvm.Cond.code ({ cls := "SuiteBench$Reader", name := "<init>", desc := "()V" } : Jvm.MethodName) prog_6_method_1_code (1 : Nat) (Option.none : Option Jvm.ClassFile.FieldType)), 1, 39)]) (by decide +kernel) _ (List.mem_singleton.mpr rfl)), (tk_mem (l := [((Jvm.Cond.initialized "SuiteBench$Reader"), 1, 2)]) (by decide +kernel) _ (List.mem_singleton.mpr rfl)), ⟨by decide +kernel, by decide +kernel, by decide +kernel⟩, ⟨(tk_mem (l := [((Jvm.Cond.instanceMethod ({ cls := "SuiteBench$Reader", name := "<init>", desc := "()V" } : Jvm.MethodName)), 1, 38)]) (by decide +kernel) _ (List.mem_singleton.mpr rfl)), rfl, rfl⟩⟩
theorem c_R_init {E2 : (Nat → Nat) → State → Heap → Prop} (hE : ai_XH E2) : ai_S E2 i_R_init f_R_init := snd_M (by decide) rfl (by decide) a_R_init kc_R_ok (by rfl) (by decide) (fun a i h => match a, h with
    | 0, h => by cases h; exact ⟨c_P_init hE, w_P_init⟩
    | _ + 1, h => by simp [cal_R_init, ai_nth] at h)
def k_M_init : ai_C := [
  [(0, .aload_n 0, 1, 0, 0, 0, 0, 0, []), (1, .invokespecial 3, 3, 0, 0, 0, 30, 0, []), (4, .aload_n 0, 1, 0, 0, 0, 0, 0, []), (5, .bipush 24, 2, 0, 0, 0, 0, 24, []), (7, .newarray .int, 2, 0, 0, 1, 50, 0, []), (9, .putfield 9, 3, 1, 0, 2, 2, 0, []), (12, .aload_n 0, 1, 0, 0, 0, 0, 0, []), (13, .bipush 24, 2, 0, 0, 0, 0, 24, []), (15, .newarray .int, 2, 0, 0, 1, 50, 0, [])],
  [(17, .putfield 15, 3, 1, 1, 3, 2, 1, []), (20, .return_, 1, 0, 0, 0, 0, 0, [])]]
def i_M_init : ai_I := ((⟨"SuiteBench$Machine", "<init>", "()V"⟩, prog_3_method_1_code, 1, none, 9, 1, 20, 2, 0, 2, 1) : ai_I)
def o_M_init (_ : Nat) : SP := fun _ _ _ _ _ => False
theorem mo_M_init : ∀ a, ai_mono (o_M_init a) := fun _ _ _ _ _ _ _ _ h => h
def f_M_init : SP := ai_M o_M_init 2 1 k_M_init
theorem mf_M_init : ai_mono f_M_init := M_mono mo_M_init
abbrev cal_M_init : List ai_I := []
theorem a_M_init : ai_all "SuiteBench$Machine" prog_3_method_1_code 1 kc_M cal_M_init 1 20 true none k_M_init = true := by decide +kernel
theorem w_M_init : ai_CW i_M_init := ⟨(tk_mem (l := [((Jvm.Cond.code ({ cls := "SuiteBench$Machine", name := "<init>", desc := "()V" } : Jvm.MethodName) prog_3_method_1_code (1 : Nat) (Option.none : Option Jvm.ClassFile.FieldType)), 1, 154)]) (by decide +kernel) _ (List.mem_singleton.mpr rfl)), (tk_mem (l := [((Jvm.Cond.initialized "SuiteBench$Machine"), 1, 5)]) (by decide +kernel) _ (List.mem_singleton.mpr rfl)), ⟨by decide +kernel, by decide +kernel, by decide +kernel⟩, ⟨(tk_mem (l := [((Jvm.Cond.instanceMethod ({ cls := "SuiteBench$Machine", name := "<init>", desc := "()V" } : Jvm.MethodName)), 1, 153)]) (by decide +kernel) _ (List.mem_singleton.mpr rfl)), rfl, rfl⟩⟩
theorem c_M_init {E2 : (Nat → Nat) → State → Heap → Prop} (hE : ai_XH E2) : ai_S E2 i_M_init f_M_init := snd_M (by decide) rfl (by decide) a_M_init kc_M_ok (by rfl) (by decide) (fun a i h => by simp [cal_M_init, ai_nth] at h)
def k_A_init : ai_C := [
  [(0, .aload_n 0, 1, 0, 0, 0, 0, 0, []), (1, .invokespecial 3, 3, 0, 0, 0, 30, 0, []), (4, .aload_n 0, 1, 0, 0, 0, 0, 0, []), (5, .bipush 6, 2, 0, 0, 0, 0, 6, []), (7, .newarray .int, 2, 0, 0, 1, 50, 0, []), (9, .putfield 9, 3, 9, 1, 2, 2, 1, []), (12, .aload_n 0, 1, 0, 0, 0, 0, 0, []), (13, .bipush 36, 2, 0, 0, 0, 0, 36, []), (15, .newarray .int, 2, 0, 0, 1, 50, 0, [])],
  [(17, .putfield 15, 3, 9, 2, 3, 2, 2, []), (20, .aload_n 0, 1, 0, 0, 0, 0, 0, []), (21, .bipush 6, 2, 0, 0, 0, 0, 6, []), (23, .newarray .int, 2, 0, 0, 1, 50, 0, []), (25, .putfield 18, 3, 9, 3, 4, 2, 3, []), (28, .aload_n 0, 1, 0, 0, 0, 0, 0, []), (29, .bipush 6, 2, 0, 0, 0, 0, 6, []), (31, .newarray .int, 2, 0, 0, 1, 50, 0, [])],
  [(33, .putfield 21, 3, 9, 4, 5, 2, 4, []), (36, .aload_n 0, 1, 0, 0, 0, 0, 0, []), (37, .bipush 36, 2, 0, 0, 0, 0, 36, []), (39, .newarray .int, 2, 0, 0, 1, 50, 0, []), (41, .putfield 24, 3, 9, 5, 6, 2, 5, []), (44, .aload_n 0, 1, 0, 0, 0, 0, 0, []), (45, .bipush 6, 2, 0, 0, 0, 0, 6, []), (47, .newarray .int, 2, 0, 0, 1, 50, 0, [])],
  [(49, .putfield 27, 3, 9, 6, 7, 2, 6, []), (52, .aload_n 0, 1, 0, 0, 0, 0, 0, []), (53, .bipush 6, 2, 0, 0, 0, 0, 6, []), (55, .newarray .int, 2, 0, 0, 1, 50, 0, []), (57, .putfield 30, 3, 9, 7, 8, 2, 7, []), (60, .aload_n 0, 1, 0, 0, 0, 0, 0, []), (61, .aload_n 1, 1, 1, 0, 0, 0, 0, []), (62, .putfield 33, 3, 9, 0, 9, 2, 0, [])],
  [(65, .return_, 1, 0, 0, 0, 0, 0, [])]]
def i_A_init : ai_I := ((⟨"SuiteBench$Traits", "<init>", "(LSuiteBench$Machine;)V"⟩, prog_11_method_1_code, 2, none, 9, 1, 20, 7, 1, 2, 9) : ai_I)
def o_A_init (_ : Nat) : SP := fun _ _ _ _ _ => False
theorem mo_A_init : ∀ a, ai_mono (o_A_init a) := fun _ _ _ _ _ _ _ _ h => h
def f_A_init : SP := ai_M o_A_init 7 2 k_A_init
theorem mf_A_init : ai_mono f_A_init := M_mono mo_A_init
abbrev cal_A_init : List ai_I := []
theorem a_A_init : ai_all "SuiteBench$Traits" prog_11_method_1_code 2 kc_A cal_A_init 1 20 true none k_A_init = true := by decide +kernel
theorem w_A_init : ai_CW i_A_init := ⟨(tk_mem (l := [((Jvm.Cond.code ({ cls := "SuiteBench$Traits", name := "<init>", desc := "(LSuiteBench$Machine;)V" } : Jvm.MethodName) prog_11_method_1_code (2 : Nat) (Option.none : Option Jvm.ClassFile.FieldType)), 1, 200)]) (by decide +kernel) _ (List.mem_singleton.mpr rfl)), (tk_mem (l := [((Jvm.Cond.initialized "SuiteBench$Traits"), 1, 6)]) (by decide +kernel) _ (List.mem_singleton.mpr rfl)), ⟨by decide +kernel, by decide +kernel, by decide +kernel⟩, ⟨(tk_mem (l := [((Jvm.Cond.instanceMethod ({ cls := "SuiteBench$Traits", name := "<init>", desc := "(LSuiteBench$Machine;)V" } : Jvm.MethodName)), 1, 199)]) (by decide +kernel) _ (List.mem_singleton.mpr rfl)), rfl, rfl⟩⟩
theorem c_A_init {E2 : (Nat → Nat) → State → Heap → Prop} (hE : ai_XH E2) : ai_S E2 i_A_init f_A_init := snd_M (by decide) rfl (by decide) a_A_init kc_A_ok (by rfl) (by decide) (fun a i h => by simp [cal_A_init, ai_nth] at h)
def k_S_init : ai_C := [
  [(0, .aload_n 0, 1, 0, 0, 0, 0, 0, []), (1, .invokespecial 5, 3, 0, 0, 0, 30, 0, []), (4, .aload_n 0, 1, 0, 0, 0, 0, 0, []), (5, .sipush 3280, 3, 0, 0, 0, 0, 3280, []), (8, .newarray .int, 2, 0, 0, 1, 50, 0, []), (10, .putfield 11, 3, 5, 2, 2, 2, 2, []), (13, .aload_n 0, 1, 0, 0, 0, 0, 0, []), (14, .sipush 3280, 3, 0, 0, 0, 0, 3280, [])],
  [(17, .newarray .int, 2, 0, 0, 1, 50, 0, []), (19, .putfield 15, 3, 5, 3, 3, 2, 3, []), (22, .aload_n 0, 1, 0, 0, 0, 0, 0, []), (23, .sipush 8192, 3, 0, 0, 0, 0, 8192, []), (26, .newarray .int, 2, 0, 0, 1, 50, 0, []), (28, .putfield 18, 3, 5, 4, 4, 2, 4, []), (31, .aload_n 0, 1, 0, 0, 0, 0, 0, [])],
  [(32, .bipush 6, 2, 0, 0, 0, 0, 6, []), (34, .newarray .int, 2, 0, 0, 1, 50, 0, []), (36, .putfield 21, 3, 5, 5, 5, 2, 5, []), (39, .aload_n 0, 1, 0, 0, 0, 0, 0, []), (40, .iconst 3, 1, 0, 0, 0, 0, 3, []), (41, .newarray .int, 2, 0, 0, 1, 50, 0, []), (43, .putfield 24, 3, 5, 6, 6, 2, 6, []), (46, .aload_n 0, 1, 0, 0, 0, 0, 0, []), (47, .bipush 64, 2, 0, 0, 0, 0, 64, [])],
  [(49, .newarray .int, 2, 0, 0, 1, 50, 0, []), (51, .putfield 27, 3, 5, 7, 7, 2, 7, []), (54, .aload_n 0, 1, 0, 0, 0, 0, 0, []), (55, .bipush 64, 2, 0, 0, 0, 0, 64, []), (57, .newarray .int, 2, 0, 0, 1, 50, 0, []), (59, .putfield 30, 3, 5, 8, 8, 2, 8, []), (62, .aload_n 0, 1, 0, 0, 0, 0, 0, []), (63, .aload_n 1, 1, 1, 0, 0, 0, 0, [])],
  [(64, .putfield 33, 3, 5, 0, 9, 2, 0, []), (67, .aload_n 0, 1, 0, 0, 0, 0, 0, []), (68, .aload_n 2, 1, 2, 0, 0, 0, 0, []), (69, .putfield 37, 3, 5, 1, 10, 2, 1, []), (72, .return_, 1, 0, 0, 0, 0, 0, [])]]
def i_S_init : ai_I := ((⟨"SuiteBench$Search", "<init>", "(LSuiteBench$Machine;LSuiteBench$Traits;)V"⟩, prog_7_method_1_code, 3, none, 9, 1, 20, 7, 2, 2, 5) : ai_I)
def o_S_init (_ : Nat) : SP := fun _ _ _ _ _ => False
theorem mo_S_init : ∀ a, ai_mono (o_S_init a) := fun _ _ _ _ _ _ _ _ h => h
def f_S_init : SP := ai_M o_S_init 7 3 k_S_init
theorem mf_S_init : ai_mono f_S_init := M_mono mo_S_init
abbrev cal_S_init : List ai_I := []
theorem a_S_init : ai_all "SuiteBench$Search" prog_7_method_1_code 3 kc_S cal_S_init 1 20 true none k_S_init = true := by decide +kernel
theorem w_S_init : ai_CW i_S_init := ⟨(tk_mem (l := [((Jvm.Cond.code ({ cls := "SuiteBench$Search", name := "<init>", desc := "(LSuiteBench$Machine;LSuiteBench$Traits;)V" } : Jvm.MethodName) prog_7_method_1_code (3 : Nat) (Option.none : Option Jvm.ClassFile.FieldType)), 2, 20)]) (by decide +kernel) _ (List.mem_singleton.mpr rfl)), (tk_mem (l := [((Jvm.Cond.initialized "SuiteBench$Search"), 1, 7)]) (by decide +kernel) _ (List.mem_singleton.mpr rfl)), ⟨by decide +kernel, by decide +kernel, by decide +kernel⟩, ⟨(tk_mem (l := [((Jvm.Cond.instanceMethod ({ cls := "SuiteBench$Search", name := "<init>", desc := "(LSuiteBench$Machine;LSuiteBench$Traits;)V" } : Jvm.MethodName)), 2, 19)]) (by decide +kernel) _ (List.mem_singleton.mpr rfl)), rfl, rfl⟩⟩
theorem c_S_init {E2 : (Nat → Nat) → State → Heap → Prop} (hE : ai_XH E2) : ai_S E2 i_S_init f_S_init := snd_M (by decide) rfl (by decide) a_S_init kc_S_ok (by rfl) (by decide) (fun a i h => by simp [cal_S_init, ai_nth] at h)
def k_W_init : ai_C := [
  [(0, .aload_n 0, 1, 0, 0, 0, 0, 0, []), (1, .invokespecial 5, 3, 0, 0, 0, 30, 0, []), (4, .aload_n 0, 1, 0, 0, 0, 0, 0, []), (5, .bipush 6, 2, 0, 0, 0, 0, 6, []), (7, .newarray .int, 2, 0, 0, 1, 50, 0, []), (9, .putfield 11, 3, 10, 2, 2, 2, 2, []), (12, .aload_n 0, 1, 0, 0, 0, 0, 0, []), (13, .bipush 6, 2, 0, 0, 0, 0, 6, []), (15, .newarray .int, 2, 0, 0, 1, 50, 0, [])],
  [(17, .putfield 15, 3, 10, 3, 3, 2, 3, []), (20, .aload_n 0, 1, 0, 0, 0, 0, 0, []), (21, .aload_n 1, 1, 1, 0, 0, 0, 0, []), (22, .putfield 18, 3, 10, 0, 4, 2, 0, []), (25, .aload_n 0, 1, 0, 0, 0, 0, 0, []), (26, .aload_n 2, 1, 2, 0, 0, 0, 0, []), (27, .putfield 22, 3, 10, 1, 5, 2, 1, []), (30, .return_, 1, 0, 0, 0, 0, 0, [])]]
def i_W_init : ai_I := ((⟨"SuiteBench$Walk", "<init>", "(LSuiteBench$Machine;LSuiteBench$Search;)V"⟩, prog_12_method_1_code, 3, none, 9, 1, 20, 2, 2, 2, 10) : ai_I)
def o_W_init (_ : Nat) : SP := fun _ _ _ _ _ => False
theorem mo_W_init : ∀ a, ai_mono (o_W_init a) := fun _ _ _ _ _ _ _ _ h => h
def f_W_init : SP := ai_M o_W_init 2 3 k_W_init
theorem mf_W_init : ai_mono f_W_init := M_mono mo_W_init
abbrev cal_W_init : List ai_I := []
theorem a_W_init : ai_all "SuiteBench$Walk" prog_12_method_1_code 3 kc_W cal_W_init 1 20 true none k_W_init = true := by decide +kernel
theorem w_W_init : ai_CW i_W_init := ⟨(tk_mem (l := [((Jvm.Cond.code ({ cls := "SuiteBench$Walk", name := "<init>", desc := "(LSuiteBench$Machine;LSuiteBench$Search;)V" } : Jvm.MethodName) prog_12_method_1_code (3 : Nat) (Option.none : Option Jvm.ClassFile.FieldType)), 2, 68)]) (by decide +kernel) _ (List.mem_singleton.mpr rfl)), (tk_mem (l := [((Jvm.Cond.initialized "SuiteBench$Walk"), 1, 9)]) (by decide +kernel) _ (List.mem_singleton.mpr rfl)), ⟨by decide +kernel, by decide +kernel, by decide +kernel⟩, ⟨(tk_mem (l := [((Jvm.Cond.instanceMethod ({ cls := "SuiteBench$Walk", name := "<init>", desc := "(LSuiteBench$Machine;LSuiteBench$Search;)V" } : Jvm.MethodName)), 2, 67)]) (by decide +kernel) _ (List.mem_singleton.mpr rfl)), rfl, rfl⟩⟩
theorem c_W_init {E2 : (Nat → Nat) → State → Heap → Prop} (hE : ai_XH E2) : ai_S E2 i_W_init f_W_init := snd_M (by decide) rfl (by decide) a_W_init kc_W_ok (by rfl) (by decide) (fun a i h => by simp [cal_W_init, ai_nth] at h)
def k_E_init : ai_C := [
  [(0, .aload_n 0, 1, 0, 0, 0, 0, 0, []), (1, .invokespecial 3, 3, 0, 0, 0, 30, 0, []), (4, .aload_n 0, 1, 0, 0, 0, 0, 0, []), (5, .iload_n 1, 1, 1, 0, 0, 0, 0, []), (6, .newarray .int, 2, 0, 0, 1, 50, 0, []), (8, .putfield 9, 3, 8, 0, 2, 2, 0, []), (11, .aload_n 0, 1, 0, 0, 0, 0, 0, []), (12, .iload_n 1, 1, 1, 0, 0, 0, 0, []), (13, .newarray .int, 2, 0, 0, 1, 50, 0, []), (15, .putfield 15, 3, 8, 1, 3, 2, 1, [])],
  [(18, .aload_n 0, 1, 0, 0, 0, 0, 0, []), (19, .iload_n 1, 1, 1, 0, 0, 0, 0, []), (20, .newarray .int, 2, 0, 0, 1, 50, 0, []), (22, .putfield 18, 3, 8, 2, 4, 2, 2, []), (25, .aload_n 0, 1, 0, 0, 0, 0, 0, []), (26, .iload_n 2, 1, 2, 0, 0, 0, 0, []), (27, .newarray .int, 2, 0, 0, 1, 50, 0, []), (29, .putfield 21, 3, 8, 3, 5, 2, 3, [])],
  [(32, .aload_n 0, 1, 0, 0, 0, 0, 0, []), (33, .iload_n 2, 1, 2, 0, 0, 0, 0, []), (34, .newarray .int, 2, 0, 0, 1, 50, 0, []), (36, .putfield 24, 3, 8, 4, 6, 2, 4, []), (39, .aload_n 0, 1, 0, 0, 0, 0, 0, []), (40, .iload_n 2, 1, 2, 0, 0, 0, 0, []), (41, .newarray .int, 2, 0, 0, 1, 50, 0, []), (43, .putfield 27, 3, 8, 5, 7, 2, 5, []), (46, .aload_n 0, 1, 0, 0, 0, 0, 0, []), (47, .aload_n 3, 1, 3, 0, 0, 0, 0, [])],
  [(48, .putfield 30, 3, 8, 6, 8, 2, 6, []), (51, .return_, 1, 0, 0, 0, 0, 0, [])]]
def i_E_init : ai_I := ((⟨"SuiteBench$Tests", "<init>", "(II[I)V"⟩, prog_10_method_1_code, 4, none, 9, 1, 20, 6, 3, 2, 8) : ai_I)
def o_E_init (_ : Nat) : SP := fun _ _ _ _ _ => False
theorem mo_E_init : ∀ a, ai_mono (o_E_init a) := fun _ _ _ _ _ _ _ _ h => h
def f_E_init : SP := ai_M o_E_init 6 4 k_E_init
theorem mf_E_init : ai_mono f_E_init := M_mono mo_E_init
abbrev cal_E_init : List ai_I := []
theorem a_E_init : ai_all "SuiteBench$Tests" prog_10_method_1_code 4 kc_E cal_E_init 1 20 true none k_E_init = true := by decide +kernel
theorem w_E_init : ai_CW i_E_init := ⟨(tk_mem (l := [((Jvm.Cond.code ({ cls := "SuiteBench$Tests", name := "<init>", desc := "(II[I)V" } : Jvm.MethodName) prog_10_method_1_code (4 : Nat) (Option.none : Option Jvm.ClassFile.FieldType)), 2, 94)]) (by decide +kernel) _ (List.mem_singleton.mpr rfl)), (tk_mem (l := [((Jvm.Cond.initialized "SuiteBench$Tests"), 1, 10)]) (by decide +kernel) _ (List.mem_singleton.mpr rfl)), ⟨by decide +kernel, by decide +kernel, by decide +kernel⟩, ⟨(tk_mem (l := [((Jvm.Cond.instanceMethod ({ cls := "SuiteBench$Tests", name := "<init>", desc := "(II[I)V" } : Jvm.MethodName)), 2, 93)]) (by decide +kernel) _ (List.mem_singleton.mpr rfl)), rfl, rfl⟩⟩
theorem c_E_init {E2 : (Nat → Nat) → State → Heap → Prop} (hE : ai_XH E2) : ai_S E2 i_E_init f_E_init := snd_M (by decide) rfl (by decide) a_E_init kc_E_ok (by rfl) (by decide) (fun a i h => by simp [cal_E_init, ai_nth] at h)
def k_T_init : ai_C := [
  [(0, .aload_n 0, 1, 0, 0, 0, 0, 0, []), (1, .invokespecial 5, 3, 0, 0, 0, 30, 0, []), (4, .aload_n 0, 1, 0, 0, 0, 0, 0, []), (5, .bipush 8, 2, 0, 0, 0, 0, 8, []), (7, .anewarray 11, 3, 0, 2, 1, 0, 0, []), (10, .putfield 13, 3, 6, 3, 3, 2, 3, []), (13, .aload_n 0, 1, 0, 0, 0, 0, 0, []), (14, .sipush 13650, 3, 0, 0, 0, 0, 13650, [])],
  [(17, .newarray .int, 2, 0, 0, 4, 50, 0, []), (19, .putfield 17, 3, 6, 4, 5, 2, 4, []), (22, .aload_n 0, 1, 0, 0, 0, 0, 0, []), (23, .sipush 4550, 3, 0, 0, 0, 0, 4550, []), (26, .newarray .int, 2, 0, 0, 4, 50, 0, []), (28, .putfield 21, 3, 6, 5, 6, 2, 5, []), (31, .aload_n 0, 1, 0, 0, 0, 0, 0, [])],
  [(32, .sipush 4550, 3, 0, 0, 0, 0, 4550, []), (35, .newarray .int, 2, 0, 0, 4, 50, 0, []), (37, .putfield 24, 3, 6, 6, 7, 2, 6, []), (40, .aload_n 0, 1, 0, 0, 0, 0, 0, []), (41, .sipush 4550, 3, 0, 0, 0, 0, 4550, []), (44, .newarray .int, 2, 0, 0, 4, 50, 0, []), (46, .putfield 27, 3, 6, 7, 8, 2, 7, [])],
  [(49, .aload_n 0, 1, 0, 0, 0, 0, 0, []), (50, .sipush 240, 3, 0, 0, 0, 0, 240, []), (53, .newarray .int, 2, 0, 0, 4, 50, 0, []), (55, .putfield 30, 3, 6, 8, 9, 2, 8, []), (58, .aload_n 0, 1, 0, 0, 0, 0, 0, []), (59, .aload_n 1, 1, 1, 0, 0, 0, 0, []), (60, .putfield 33, 3, 6, 0, 10, 2, 0, []), (63, .aload_n 0, 1, 0, 0, 0, 0, 0, [])],
  [(64, .aload_n 2, 1, 2, 0, 0, 0, 0, []), (65, .putfield 37, 3, 6, 1, 11, 2, 1, []), (68, .aload_n 0, 1, 0, 0, 0, 0, 0, []), (69, .new 41, 3, 10, 13, 12, 14, 0, []), (72, .dup, 1, 0, 0, 0, 0, 0, []), (73, .aload_n 1, 1, 1, 0, 0, 0, 0, []), (74, .aload_n 3, 1, 3, 0, 0, 0, 0, []), (75, .invokespecial 43, 3, 0, 3, 15, 9, 2, [(0, 10)]), (78, .putfield 46, 3, 6, 2, 16, 2, 2, [])],
  [(81, .sipush 4550, 3, 0, 0, 0, 0, 4550, []), (84, .newarray .int, 2, 0, 0, 4, 50, 0, []), (86, .astore 4, 2, 4, 0, 0, 0, 0, []), (88, .iconst 0, 1, 0, 0, 0, 0, 0, []), (89, .istore 5, 2, 5, 0, 0, 0, 0, []), (91, .iload 5, 2, 5, 0, 0, 0, 0, []), (93, .iconst 3, 1, 0, 0, 0, 0, 3, []), (94, .if_icmp .ge 72, 3, 166, 0, 0, 0, 0, [])],
  [(97, .getstatic 50, 3, 0, 0, 17, 0, 0, []), (100, .iload 5, 2, 5, 0, 0, 0, 0, []), (102, .iaload, 1, 0, 0, 0, 0, 0, []), (103, .bipush 26, 2, 0, 0, 0, 0, 26, []), (105, .imul, 1, 0, 0, 0, 0, 0, []), (106, .istore 6, 2, 6, 0, 0, 0, 0, []), (108, .getstatic 50, 3, 0, 0, 17, 0, 0, []), (111, .iload 5, 2, 5, 0, 0, 0, 0, [])],
  [(113, .iaload, 1, 0, 0, 0, 0, 0, []), (114, .iconst 5, 1, 0, 0, 0, 0, 5, []), (115, .imul, 1, 0, 0, 0, 0, 0, []), (116, .istore 7, 2, 7, 0, 0, 0, 0, []), (118, .aload_n 0, 1, 0, 0, 0, 0, 0, []), (119, .getfield 13, 3, 6, 3, 3, 2, 3, []), (122, .iload 5, 2, 5, 0, 0, 0, 0, []), (124, .new 11, 3, 8, 18, 1, 19, 0, []), (127, .dup, 1, 0, 0, 0, 0, 0, [])],
  [(128, .iload 6, 2, 6, 0, 0, 0, 0, []), (130, .iload 7, 2, 7, 0, 0, 0, 0, []), (132, .aload 4, 2, 4, 0, 0, 0, 0, []), (134, .invokespecial 53, 3, 1, 4, 20, 9, 6, [(0, 8)]), (137, .aastore, 1, 0, 0, 0, 0, 0, []), (138, .aload_n 0, 1, 0, 0, 0, 0, 0, []), (139, .getfield 13, 3, 6, 3, 3, 2, 3, []), (142, .iconst 3, 1, 0, 0, 0, 0, 3, []), (143, .iload 5, 2, 5, 0, 0, 0, 0, [])],
  [(145, .iadd, 1, 0, 0, 0, 0, 0, []), (146, .new 11, 3, 8, 18, 1, 19, 0, []), (149, .dup, 1, 0, 0, 0, 0, 0, []), (150, .iload 6, 2, 6, 0, 0, 0, 0, []), (152, .iload 7, 2, 7, 0, 0, 0, 0, []), (154, .aload 4, 2, 4, 0, 0, 0, 0, []), (156, .invokespecial 53, 3, 1, 4, 20, 9, 6, [(0, 8)]), (159, .aastore, 1, 0, 0, 0, 0, 0, [])],
  [(160, .iinc 5 1, 3, 5, 0, 0, 0, 1, []), (163, .goto (-72), 3, 91, 0, 0, 0, 0, []), (166, .aload_n 0, 1, 0, 0, 0, 0, 0, []), (167, .getfield 13, 3, 6, 3, 3, 2, 3, []), (170, .bipush 6, 2, 0, 0, 0, 0, 6, []), (172, .new 11, 3, 8, 18, 1, 19, 0, []), (175, .dup, 1, 0, 0, 0, 0, 0, [])],
  [(176, .sipush 253, 3, 0, 0, 0, 0, 253, []), (179, .iconst 1, 1, 0, 0, 0, 0, 1, []), (180, .aload 4, 2, 4, 0, 0, 0, 0, []), (182, .invokespecial 53, 3, 1, 4, 20, 9, 6, [(0, 8)]), (185, .aastore, 1, 0, 0, 0, 0, 0, []), (186, .aload_n 0, 1, 0, 0, 0, 0, 0, []), (187, .getfield 13, 3, 6, 3, 3, 2, 3, []), (190, .bipush 7, 2, 0, 0, 0, 0, 7, [])],
  [(192, .new 11, 3, 8, 18, 1, 19, 0, []), (195, .dup, 1, 0, 0, 0, 0, 0, []), (196, .sipush 253, 3, 0, 0, 0, 0, 253, []), (199, .iconst 1, 1, 0, 0, 0, 0, 1, []), (200, .aload 4, 2, 4, 0, 0, 0, 0, []), (202, .invokespecial 53, 3, 1, 4, 20, 9, 6, [(0, 8)]), (205, .aastore, 1, 0, 0, 0, 0, 0, []), (206, .return_, 1, 0, 0, 0, 0, 0, [])]]
def i_T_init : ai_I := ((⟨"SuiteBench$Suites", "<init>", "(LSuiteBench$Machine;LSuiteBench$Traits;LSuiteBench$Search;)V"⟩, prog_8_method_1_code, 8, none, 9, 2, 43, 66, 3, 2, 6) : ai_I)
def o_T_init (a : Nat) : SP := match a with
  | 0 => f_W_init
  | 1 => f_E_init
  | _ => fun _ _ _ _ _ => False
theorem mo_T_init : ∀ a, ai_mono (o_T_init a)
  | 0 => mf_W_init
  | 1 => mf_E_init
  | _ + 2 => fun _ _ _ _ _ _ _ h => h
def f_T_init : SP := ai_M o_T_init 66 8 k_T_init
theorem mf_T_init : ai_mono f_T_init := M_mono mo_T_init
abbrev cal_T_init : List ai_I := [i_W_init, i_E_init]
theorem a_T_init : ai_all "SuiteBench$Suites" prog_8_method_1_code 8 kc_T cal_T_init 2 43 true none k_T_init = true := by decide +kernel
theorem w_T_init : ai_CW i_T_init := ⟨(tk_mem (l := [((Jvm.Cond.code ({ cls := "SuiteBench$Suites", name := "<init>", desc := "(LSuiteBench$Machine;LSuiteBench$Traits;LSuiteBench$Search;)V" } : Jvm.MethodName) prog_8_method_1_code (8 : Nat) (Option.none : Option Jvm.ClassFile.FieldType)), 2, 60)]) (by decide +kernel) _ (List.mem_singleton.mpr rfl)), (tk_mem (l := [((Jvm.Cond.initialized "SuiteBench$Suites"), 1, 8)]) (by decide +kernel) _ (List.mem_singleton.mpr rfl)), ⟨by decide +kernel, by decide +kernel, by decide +kernel⟩, ⟨(tk_mem (l := [((Jvm.Cond.instanceMethod ({ cls := "SuiteBench$Suites", name := "<init>", desc := "(LSuiteBench$Machine;LSuiteBench$Traits;LSuiteBench$Search;)V" } : Jvm.MethodName)), 2, 59)]) (by decide +kernel) _ (List.mem_singleton.mpr rfl)), rfl, rfl⟩⟩
theorem c_T_init {E2 : (Nat → Nat) → State → Heap → Prop} (hE : ai_XH E2) : ai_S E2 i_T_init f_T_init := snd_M (by decide) rfl (by decide) a_T_init kc_T_ok (by rfl) (by decide) (fun a i h => match a, h with
    | 0, h => by cases h; exact ⟨c_W_init hE, w_W_init⟩
    | 1, h => by cases h; exact ⟨c_E_init hE, w_E_init⟩
    | _ + 2, h => by simp [cal_T_init, ai_nth] at h)
def k_U_init : ai_C := [
  [(0, .aload_n 0, 1, 0, 0, 0, 0, 0, []), (1, .invokespecial 3, 3, 0, 0, 0, 30, 0, []), (4, .aload_n 0, 1, 0, 0, 0, 0, 0, []), (5, .new 9, 3, 1, 2, 1, 3, 0, []), (8, .dup, 1, 0, 0, 0, 0, 0, []), (9, .invokespecial 11, 3, 0, 1, 4, 9, 2, [(0, 1)]), (12, .putfield 12, 3, 2, 3, 5, 2, 3, []), (15, .aload_n 0, 1, 0, 0, 0, 0, 0, [])],
  [(16, .new 9, 3, 1, 2, 1, 3, 0, []), (19, .dup, 1, 0, 0, 0, 0, 0, []), (20, .invokespecial 11, 3, 0, 1, 4, 9, 2, [(0, 1)]), (23, .putfield 18, 3, 2, 4, 6, 2, 4, []), (26, .aload_n 0, 1, 0, 0, 0, 0, 0, []), (27, .sipush 252, 3, 0, 0, 0, 0, 252, []), (30, .newarray .int, 2, 0, 0, 7, 50, 0, [])],
  [(32, .putfield 21, 3, 2, 5, 8, 2, 5, []), (35, .aload_n 0, 1, 0, 0, 0, 0, 0, []), (36, .sipush 252, 3, 0, 0, 0, 0, 252, []), (39, .newarray .boolean, 2, 0, 0, 9, 52, 0, []), (41, .putfield 25, 3, 2, 6, 10, 2, 6, []), (44, .aload_n 0, 1, 0, 0, 0, 0, 0, []), (45, .iconst 4, 1, 0, 0, 0, 0, 4, []), (46, .newarray .int, 2, 0, 0, 7, 50, 0, [])],
  [(48, .putfield 29, 3, 2, 7, 11, 2, 7, []), (51, .aload_n 0, 1, 0, 0, 0, 0, 0, []), (52, .iconst 4, 1, 0, 0, 0, 0, 4, []), (53, .newarray .int, 2, 0, 0, 7, 50, 0, []), (55, .putfield 32, 3, 2, 8, 12, 2, 8, []), (58, .aload_n 0, 1, 0, 0, 0, 0, 0, []), (59, .iconst 2, 1, 0, 0, 0, 0, 2, []), (60, .newarray .int, 2, 0, 0, 7, 50, 0, []), (62, .putfield 35, 3, 2, 9, 13, 2, 9, [])],
  [(65, .aload_n 0, 1, 0, 0, 0, 0, 0, []), (66, .iconst 4, 1, 0, 0, 0, 0, 4, []), (67, .newarray .int, 2, 0, 0, 7, 50, 0, []), (69, .putfield 38, 3, 2, 10, 14, 2, 10, []), (72, .aload_n 0, 1, 0, 0, 0, 0, 0, []), (73, .iconst 4, 1, 0, 0, 0, 0, 4, []), (74, .newarray .int, 2, 0, 0, 7, 50, 0, []), (76, .putfield 41, 3, 2, 11, 15, 2, 11, []), (79, .aload_n 0, 1, 0, 0, 0, 0, 0, [])],
  [(80, .sipush 7000, 3, 0, 0, 0, 0, 7000, []), (83, .newarray .int, 2, 0, 0, 7, 50, 0, []), (85, .putfield 44, 3, 2, 12, 16, 2, 12, []), (88, .aload_n 0, 1, 0, 0, 0, 0, 0, []), (89, .bipush 8, 2, 0, 0, 0, 0, 8, []), (91, .newarray .int, 2, 0, 0, 7, 50, 0, []), (93, .putfield 47, 3, 2, 13, 17, 2, 13, [])],
  [(96, .aload_n 0, 1, 0, 0, 0, 0, 0, []), (97, .aload_n 1, 1, 1, 0, 0, 0, 0, []), (98, .putfield 50, 3, 2, 0, 18, 2, 0, []), (101, .aload_n 0, 1, 0, 0, 0, 0, 0, []), (102, .aload_n 2, 1, 2, 0, 0, 0, 0, []), (103, .putfield 53, 3, 2, 1, 19, 2, 1, []), (106, .aload_n 0, 1, 0, 0, 0, 0, 0, []), (107, .aload_n 3, 1, 3, 0, 0, 0, 0, []), (108, .putfield 57, 3, 2, 2, 20, 2, 2, []), (111, .return_, 1, 0, 0, 0, 0, 0, [])]]
def i_U_init : ai_I := ((⟨"SuiteBench$Mutants", "<init>", "(LSuiteBench$Machine;LSuiteBench$Traits;LSuiteBench$Search;)V"⟩, prog_4_method_1_code, 4, none, 9, 2, 40, 15, 3, 2, 2) : ai_I)
def o_U_init (a : Nat) : SP := match a with
  | 0 => f_M_init
  | _ => fun _ _ _ _ _ => False
theorem mo_U_init : ∀ a, ai_mono (o_U_init a)
  | 0 => mf_M_init
  | _ + 1 => fun _ _ _ _ _ _ _ h => h
def f_U_init : SP := ai_M o_U_init 15 4 k_U_init
theorem mf_U_init : ai_mono f_U_init := M_mono mo_U_init
abbrev cal_U_init : List ai_I := [i_M_init]
theorem a_U_init : ai_all "SuiteBench$Mutants" prog_4_method_1_code 4 kc_U cal_U_init 2 40 true none k_U_init = true := by decide +kernel
theorem w_U_init : ai_CW i_U_init := ⟨(tk_mem (l := [((Jvm.Cond.code ({ cls := "SuiteBench$Mutants", name := "<init>", desc := "(LSuiteBench$Machine;LSuiteBench$Traits;LSuiteBench$Search;)V" } : Jvm.MethodName) prog_4_method_1_code (4 : Nat) (Option.none : Option Jvm.ClassFile.FieldType)), 2, 178)]) (by decide +kernel) _ (List.mem_singleton.mpr rfl)), (tk_mem (l := [((Jvm.Cond.initialized "SuiteBench$Mutants"), 1, 11)]) (by decide +kernel) _ (List.mem_singleton.mpr rfl)), ⟨by decide +kernel, by decide +kernel, by decide +kernel⟩, ⟨(tk_mem (l := [((Jvm.Cond.instanceMethod ({ cls := "SuiteBench$Mutants", name := "<init>", desc := "(LSuiteBench$Machine;LSuiteBench$Traits;LSuiteBench$Search;)V" } : Jvm.MethodName)), 2, 177)]) (by decide +kernel) _ (List.mem_singleton.mpr rfl)), rfl, rfl⟩⟩
theorem c_U_init {E2 : (Nat → Nat) → State → Heap → Prop} (hE : ai_XH E2) : ai_S E2 i_U_init f_U_init := snd_M (by decide) rfl (by decide) a_U_init kc_U_ok (by rfl) (by decide) (fun a i h => match a, h with
    | 0, h => by cases h; exact ⟨c_M_init hE, w_M_init⟩
    | _ + 1, h => by simp [cal_U_init, ai_nth] at h)
def k_L_init : ai_C := [
  [(0, .aload_n 0, 1, 0, 0, 0, 0, 0, []), (1, .invokespecial 3, 3, 0, 0, 0, 30, 0, []), (4, .aload_n 0, 1, 0, 0, 0, 0, 0, []), (5, .bipush 20, 2, 0, 0, 0, 0, 20, []), (7, .newarray .int, 2, 0, 0, 1, 50, 0, []), (9, .putfield 9, 3, 0, 0, 2, 2, 0, []), (12, .aload_n 0, 1, 0, 0, 0, 0, 0, []), (13, .bipush 20, 2, 0, 0, 0, 0, 20, []), (15, .newarray .long, 2, 0, 0, 3, 51, 0, [])],
  [(17, .putfield 15, 3, 0, 1, 4, 2, 1, []), (20, .return_, 1, 0, 0, 0, 0, 0, [])]]
def i_L_init : ai_I := ((⟨"SuiteBench$Log", "<init>", "()V"⟩, prog_2_method_1_code, 1, none, 9, 1, 20, 2, 0, 2, 0) : ai_I)
def o_L_init (_ : Nat) : SP := fun _ _ _ _ _ => False
theorem mo_L_init : ∀ a, ai_mono (o_L_init a) := fun _ _ _ _ _ _ _ _ h => h
def f_L_init : SP := ai_M o_L_init 2 1 k_L_init
theorem mf_L_init : ai_mono f_L_init := M_mono mo_L_init
abbrev cal_L_init : List ai_I := []
theorem a_L_init : ai_all "SuiteBench$Log" prog_2_method_1_code 1 kc_L cal_L_init 1 20 true none k_L_init = true := by decide +kernel
theorem w_L_init : ai_CW i_L_init := ⟨(tk_mem (l := [((Jvm.Cond.code ({ cls := "SuiteBench$Log", name := "<init>", desc := "()V" } : Jvm.MethodName) prog_2_method_1_code (1 : Nat) (Option.none : Option Jvm.ClassFile.FieldType)), 2, 238)]) (by decide +kernel) _ (List.mem_singleton.mpr rfl)), (tk_mem (l := [((Jvm.Cond.initialized "SuiteBench$Log"), 1, 12)]) (by decide +kernel) _ (List.mem_singleton.mpr rfl)), ⟨by decide +kernel, by decide +kernel, by decide +kernel⟩, ⟨(tk_mem (l := [((Jvm.Cond.instanceMethod ({ cls := "SuiteBench$Log", name := "<init>", desc := "()V" } : Jvm.MethodName)), 2, 237)]) (by decide +kernel) _ (List.mem_singleton.mpr rfl)), rfl, rfl⟩⟩
theorem c_L_init {E2 : (Nat → Nat) → State → Heap → Prop} (hE : ai_XH E2) : ai_S E2 i_L_init f_L_init := snd_M (by decide) rfl (by decide) a_L_init kc_L_ok (by rfl) (by decide) (fun a i h => by simp [cal_L_init, ai_nth] at h)
end
section
/-! what is to be shown of each method between its cuts, by program -/
def cut_J_fill : List (Nat × List Bool) := [(5, [true, true, true, true])]
def p_J_fill_5 (lim : Nat) (Q : RP) (l0 l1 l2 l3 : Int) (n : Nat) (hr h : HP) : Prop := ai_wp o_J_fill lim none k_J_fill Q 5 [some (2, l0), some (0, l1), some (0, l2), some (0, l3)] [] n hr h
theorem b_J_fill_5 {lim : Nat} {Q : RP} {l0 l1 l2 l3 : Int} {n : Nat} {hr h : HP} (H : (l3 ≤ l2 → Q (9, 0) n hr h) ∧ (l2 < l3 → ai_ok n l0 50 ∧ 0 ≤ l2 ∧ l2 < ai_l l0 ∧ p_J_fill_5 lim Q l0 l1 (w32 (l2 + 1)) l3 n hr (ai_up h l0 l2 l1))) : p_J_fill_5 lim Q l0 l1 l2 l3 n hr h := wp_run (cut := cut_J_fill) mo_J_fill 11 _ _ _ _ _ _ H
theorem e_J_fill {Q : RP} {l0 l1 : Int} {n : Nat} {hr h : HP} (H : ai_ok n l0 50 ∧ p_J_fill_5 (n + 0) (ai_q 0 n Q) l0 l1 0 (ai_l l0) n hr h) : f_J_fill [(2, l0), (0, l1)] n hr h Q := ⟨Nat.le_of_ble_eq_true rfl, wp_run (cut := cut_J_fill) mo_J_fill 7 _ _ _ _ _ _ H⟩
def cut_P_clear : List (Nat × List Bool) := []
theorem e_P_clear {Q : RP} {l0 : Int} {n : Nat} {hr h : HP} (H : ai_ok n l0 3 ∧ f_J_fill [(2, hr l0 2), (0, (-1))] n hr h fun r1 n1 hr1 h1 => ai_ok n1 l0 3 ∧ f_J_fill [(2, hr1 l0 3), (0, (-1))] n1 hr1 h1 fun r2 n2 hr2 h2 => ai_ok n2 l0 3 ∧ ai_ok n2 l0 3 ∧ ai_ok n2 l0 3 ∧ ai_ok n2 l0 3 ∧ ai_ok n2 l0 3 ∧ ai_ok n2 l0 3 ∧ ai_ok n2 l0 3 ∧ ((0 : Int) = 0 ∨ (0 : Int) = 1) ∧ ai_ok n2 l0 3 ∧ ((0 : Int) = 0 ∨ (0 : Int) = 1) ∧ (ai_q 0 n Q) (9, 0) n2 hr2 (ai_up (ai_up (ai_up (ai_up (ai_up (ai_up (ai_up (ai_up h2 l0 4 0) l0 5 0) l0 6 0) l0 7 0) l0 8 0) l0 9 0) l0 10 0) l0 11 0)) : f_P_clear [(2, l0)] n hr h Q := ⟨Nat.le_of_ble_eq_true rfl, wp_run (cut := cut_P_clear) mo_P_clear 34 _ _ _ _ _ _ H⟩
def cut_P_init : List (Nat × List Bool) := []
theorem e_P_init {Q : RP} {l0 : Int} {n : Nat} {hr h : HP} (H : 0 ≤ l0 ∧ n < (n + 4) ∧ ai_k (n : Int) = 50 ∧ ai_l (n : Int) = 8 ∧ ai_ok (n + 1) l0 3 ∧ (n + 1) < (n + 4) ∧ ai_k (n + 1 : Int) = 50 ∧ ai_l (n + 1 : Int) = 3 ∧ ai_ok (n + 1 + 1) l0 3 ∧ (n + 1 + 1) < (n + 4) ∧ ai_k (n + 1 + 1 : Int) = 50 ∧ ai_l (n + 1 + 1 : Int) = 24 ∧ ai_ok (n + 1 + 1 + 1) l0 3 ∧ (n + 1 + 1 + 1) < (n + 4) ∧ ai_k (n + 1 + 1 + 1 : Int) = 50 ∧ ai_l (n + 1 + 1 + 1 : Int) = 24 ∧ ai_ok (n + 1 + 1 + 1 + 1) l0 3 ∧ ai_ok (n + 1 + 1 + 1 + 1) l0 3 ∧ f_P_clear [(2, l0)] (n + 1 + 1 + 1 + 1) (ai_up (ai_cl (ai_up (ai_cl (ai_up (ai_cl (ai_up (ai_cl hr (n : Int) (-1)) l0 0 (n : Int)) (n + 1 : Int) (-1)) l0 1 (n + 1 : Int)) (n + 1 + 1 : Int) (-1)) l0 2 (n + 1 + 1 : Int)) (n + 1 + 1 + 1 : Int) (-1)) l0 3 (n + 1 + 1 + 1 : Int)) (ai_cl (ai_cl (ai_cl (ai_cl h (n : Int) 0) (n + 1 : Int) 0) (n + 1 + 1 : Int) 0) (n + 1 + 1 + 1 : Int) 0) fun r1 n1 hr1 h1 => (ai_q 4 n Q) (9, 0) n1 hr1 h1) : f_P_init [(2, l0)] n hr h Q := ⟨Nat.le_of_ble_eq_true rfl, wp_run (cut := cut_P_init) mo_P_init 22 _ _ _ _ _ _ H⟩
def cut_R_init : List (Nat × List Bool) := []
theorem e_R_init {Q : RP} {l0 : Int} {n : Nat} {hr h : HP} (H : 0 ≤ l0 ∧ n < (n + 6) ∧ ai_k (n : Int) = 53 ∧ ai_l (n : Int) = 700 ∧ ai_ok (n + 1) l0 4 ∧ (n + 1) < (n + 6) ∧ ai_k (n + 1 : Int) = 3 ∧ ai_ok (n + 1 + 1) (n + 1 : Int) 3 ∧ (n + 1 + 1 : Int) + 4 ≤ ((n + 6) : Int) ∧ f_P_init [(2, (n + 1 : Int))] (n + 1 + 1) (ai_cl (ai_up (ai_cl hr (n : Int) (-1)) l0 0 (n : Int)) (n + 1 : Int) (-1)) (ai_cl (ai_cl h (n : Int) 0) (n + 1 : Int) 0) fun r1 n1 hr1 h1 => ai_ok n1 l0 4 ∧ ai_ok n1 l0 4 ∧ (ai_q 6 n Q) (9, 0) n1 (ai_up hr1 l0 1 (n + 1 : Int)) (ai_up h1 l0 4 (-1))) : f_R_init [(2, l0)] n hr h Q := ⟨Nat.le_of_ble_eq_true rfl, wp_run (cut := cut_R_init) mo_R_init 16 _ _ _ _ _ _ H⟩
def cut_M_init : List (Nat × List Bool) := []
theorem e_M_init {Q : RP} {l0 : Int} {n : Nat} {hr h : HP} (H : 0 ≤ l0 ∧ n < (n + 2) ∧ ai_k (n : Int) = 50 ∧ ai_l (n : Int) = 24 ∧ ai_ok (n + 1) l0 1 ∧ (n + 1) < (n + 2) ∧ ai_k (n + 1 : Int) = 50 ∧ ai_l (n + 1 : Int) = 24 ∧ ai_ok (n + 1 + 1) l0 1 ∧ (ai_q 2 n Q) (9, 0) (n + 1 + 1) (ai_up (ai_cl (ai_up (ai_cl hr (n : Int) (-1)) l0 0 (n : Int)) (n + 1 : Int) (-1)) l0 1 (n + 1 : Int)) (ai_cl (ai_cl h (n : Int) 0) (n + 1 : Int) 0)) : f_M_init [(2, l0)] n hr h Q := ⟨Nat.le_of_ble_eq_true rfl, wp_run (cut := cut_M_init) mo_M_init 12 _ _ _ _ _ _ H⟩
def cut_A_init : List (Nat × List Bool) := []
theorem e_A_init {Q : RP} {l0 l1 : Int} {n : Nat} {hr h : HP} (H : 0 ≤ l0 ∧ n < (n + 7) ∧ ai_k (n : Int) = 50 ∧ ai_l (n : Int) = 6 ∧ ai_ok (n + 1) l0 9 ∧ (n + 1) < (n + 7) ∧ ai_k (n + 1 : Int) = 50 ∧ ai_l (n + 1 : Int) = 36 ∧ ai_ok (n + 1 + 1) l0 9 ∧ (n + 1 + 1) < (n + 7) ∧ ai_k (n + 1 + 1 : Int) = 50 ∧ ai_l (n + 1 + 1 : Int) = 6 ∧ ai_ok (n + 1 + 1 + 1) l0 9 ∧ (n + 1 + 1 + 1) < (n + 7) ∧ ai_k (n + 1 + 1 + 1 : Int) = 50 ∧ ai_l (n + 1 + 1 + 1 : Int) = 6 ∧ ai_ok (n + 1 + 1 + 1 + 1) l0 9 ∧ (n + 1 + 1 + 1 + 1) < (n + 7) ∧ ai_k (n + 1 + 1 + 1 + 1 : Int) = 50 ∧ ai_l (n + 1 + 1 + 1 + 1 : Int) = 36 ∧ ai_ok (n + 1 + 1 + 1 + 1 + 1) l0 9 ∧ (n + 1 + 1 + 1 + 1 + 1) < (n + 7) ∧ ai_k (n + 1 + 1 + 1 + 1 + 1 : Int) = 50 ∧ ai_l (n + 1 + 1 + 1 + 1 + 1 : Int) = 6 ∧ ai_ok (n + 1 + 1 + 1 + 1 + 1 + 1) l0 9 ∧ (n + 1 + 1 + 1 + 1 + 1 + 1) < (n + 7) ∧ ai_k (n + 1 + 1 + 1 + 1 + 1 + 1 : Int) = 50 ∧ ai_l (n + 1 + 1 + 1 + 1 + 1 + 1 : Int) = 6 ∧ ai_ok (n + 1 + 1 + 1 + 1 + 1 + 1 + 1) l0 9 ∧ ai_ok (n + 1 + 1 + 1 + 1 + 1 + 1 + 1) l0 9 ∧ (ai_q 7 n Q) (9, 0) (n + 1 + 1 + 1 + 1 + 1 + 1 + 1) (ai_up (ai_up (ai_cl (ai_up (ai_cl (ai_up (ai_cl (ai_up (ai_cl (ai_up (ai_cl (ai_up (ai_cl (ai_up (ai_cl hr (n : Int) (-1)) l0 1 (n : Int)) (n + 1 : Int) (-1)) l0 2 (n + 1 : Int)) (n + 1 + 1 : Int) (-1)) l0 3 (n + 1 + 1 : Int)) (n + 1 + 1 + 1 : Int) (-1)) l0 4 (n + 1 + 1 + 1 : Int)) (n + 1 + 1 + 1 + 1 : Int) (-1)) l0 5 (n + 1 + 1 + 1 + 1 : Int)) (n + 1 + 1 + 1 + 1 + 1 : Int) (-1)) l0 6 (n + 1 + 1 + 1 + 1 + 1 : Int)) (n + 1 + 1 + 1 + 1 + 1 + 1 : Int) (-1)) l0 7 (n + 1 + 1 + 1 + 1 + 1 + 1 : Int)) l0 0 l1) (ai_cl (ai_cl (ai_cl (ai_cl (ai_cl (ai_cl (ai_cl h (n : Int) 0) (n + 1 : Int) 0) (n + 1 + 1 : Int) 0) (n + 1 + 1 + 1 : Int) 0) (n + 1 + 1 + 1 + 1 : Int) 0) (n + 1 + 1 + 1 + 1 + 1 : Int) 0) (n + 1 + 1 + 1 + 1 + 1 + 1 : Int) 0)) : f_A_init [(2, l0), (2, l1)] n hr h Q := ⟨Nat.le_of_ble_eq_true rfl, wp_run (cut := cut_A_init) mo_A_init 35 _ _ _ _ _ _ H⟩
def cut_S_init : List (Nat × List Bool) := []
theorem e_S_init {Q : RP} {l0 l1 l2 : Int} {n : Nat} {hr h : HP} (H : 0 ≤ l0 ∧ n < (n + 7) ∧ ai_k (n : Int) = 50 ∧ ai_l (n : Int) = 3280 ∧ ai_ok (n + 1) l0 5 ∧ (n + 1) < (n + 7) ∧ ai_k (n + 1 : Int) = 50 ∧ ai_l (n + 1 : Int) = 3280 ∧ ai_ok (n + 1 + 1) l0 5 ∧ (n + 1 + 1) < (n + 7) ∧ ai_k (n + 1 + 1 : Int) = 50 ∧ ai_l (n + 1 + 1 : Int) = 8192 ∧ ai_ok (n + 1 + 1 + 1) l0 5 ∧ (n + 1 + 1 + 1) < (n + 7) ∧ ai_k (n + 1 + 1 + 1 : Int) = 50 ∧ ai_l (n + 1 + 1 + 1 : Int) = 6 ∧ ai_ok (n + 1 + 1 + 1 + 1) l0 5 ∧ (n + 1 + 1 + 1 + 1) < (n + 7) ∧ ai_k (n + 1 + 1 + 1 + 1 : Int) = 50 ∧ ai_l (n + 1 + 1 + 1 + 1 : Int) = 3 ∧ ai_ok (n + 1 + 1 + 1 + 1 + 1) l0 5 ∧ (n + 1 + 1 + 1 + 1 + 1) < (n + 7) ∧ ai_k (n + 1 + 1 + 1 + 1 + 1 : Int) = 50 ∧ ai_l (n + 1 + 1 + 1 + 1 + 1 : Int) = 64 ∧ ai_ok (n + 1 + 1 + 1 + 1 + 1 + 1) l0 5 ∧ (n + 1 + 1 + 1 + 1 + 1 + 1) < (n + 7) ∧ ai_k (n + 1 + 1 + 1 + 1 + 1 + 1 : Int) = 50 ∧ ai_l (n + 1 + 1 + 1 + 1 + 1 + 1 : Int) = 64 ∧ ai_ok (n + 1 + 1 + 1 + 1 + 1 + 1 + 1) l0 5 ∧ ai_ok (n + 1 + 1 + 1 + 1 + 1 + 1 + 1) l0 5 ∧ ai_ok (n + 1 + 1 + 1 + 1 + 1 + 1 + 1) l0 5 ∧ (ai_q 7 n Q) (9, 0) (n + 1 + 1 + 1 + 1 + 1 + 1 + 1) (ai_up (ai_up (ai_up (ai_cl (ai_up (ai_cl (ai_up (ai_cl (ai_up (ai_cl (ai_up (ai_cl (ai_up (ai_cl (ai_up (ai_cl hr (n : Int) (-1)) l0 2 (n : Int)) (n + 1 : Int) (-1)) l0 3 (n + 1 : Int)) (n + 1 + 1 : Int) (-1)) l0 4 (n + 1 + 1 : Int)) (n + 1 + 1 + 1 : Int) (-1)) l0 5 (n + 1 + 1 + 1 : Int)) (n + 1 + 1 + 1 + 1 : Int) (-1)) l0 6 (n + 1 + 1 + 1 + 1 : Int)) (n + 1 + 1 + 1 + 1 + 1 : Int) (-1)) l0 7 (n + 1 + 1 + 1 + 1 + 1 : Int)) (n + 1 + 1 + 1 + 1 + 1 + 1 : Int) (-1)) l0 8 (n + 1 + 1 + 1 + 1 + 1 + 1 : Int)) l0 0 l1) l0 1 l2) (ai_cl (ai_cl (ai_cl (ai_cl (ai_cl (ai_cl (ai_cl h (n : Int) 0) (n + 1 : Int) 0) (n + 1 + 1 : Int) 0) (n + 1 + 1 + 1 : Int) 0) (n + 1 + 1 + 1 + 1 : Int) 0) (n + 1 + 1 + 1 + 1 + 1 : Int) 0) (n + 1 + 1 + 1 + 1 + 1 + 1 : Int) 0)) : f_S_init [(2, l0), (2, l1), (2, l2)] n hr h Q := ⟨Nat.le_of_ble_eq_true rfl, wp_run (cut := cut_S_init) mo_S_init 38 _ _ _ _ _ _ H⟩
def cut_W_init : List (Nat × List Bool) := []
theorem e_W_init {Q : RP} {l0 l1 l2 : Int} {n : Nat} {hr h : HP} (H : 0 ≤ l0 ∧ n < (n + 2) ∧ ai_k (n : Int) = 50 ∧ ai_l (n : Int) = 6 ∧ ai_ok (n + 1) l0 10 ∧ (n + 1) < (n + 2) ∧ ai_k (n + 1 : Int) = 50 ∧ ai_l (n + 1 : Int) = 6 ∧ ai_ok (n + 1 + 1) l0 10 ∧ ai_ok (n + 1 + 1) l0 10 ∧ ai_ok (n + 1 + 1) l0 10 ∧ (ai_q 2 n Q) (9, 0) (n + 1 + 1) (ai_up (ai_up (ai_up (ai_cl (ai_up (ai_cl hr (n : Int) (-1)) l0 2 (n : Int)) (n + 1 : Int) (-1)) l0 3 (n + 1 : Int)) l0 0 l1) l0 1 l2) (ai_cl (ai_cl h (n : Int) 0) (n + 1 : Int) 0)) : f_W_init [(2, l0), (2, l1), (2, l2)] n hr h Q := ⟨Nat.le_of_ble_eq_true rfl, wp_run (cut := cut_W_init) mo_W_init 18 _ _ _ _ _ _ H⟩
def cut_E_init : List (Nat × List Bool) := []
theorem e_E_init {Q : RP} {l0 l1 l2 l3 : Int} {n : Nat} {hr h : HP} (H : 0 ≤ l0 ∧ n < (n + 6) ∧ ai_k (n : Int) = 50 ∧ ai_l (n : Int) = l1 ∧ ai_ok (n + 1) l0 8 ∧ (n + 1) < (n + 6) ∧ ai_k (n + 1 : Int) = 50 ∧ ai_l (n + 1 : Int) = l1 ∧ ai_ok (n + 1 + 1) l0 8 ∧ (n + 1 + 1) < (n + 6) ∧ ai_k (n + 1 + 1 : Int) = 50 ∧ ai_l (n + 1 + 1 : Int) = l1 ∧ ai_ok (n + 1 + 1 + 1) l0 8 ∧ (n + 1 + 1 + 1) < (n + 6) ∧ ai_k (n + 1 + 1 + 1 : Int) = 50 ∧ ai_l (n + 1 + 1 + 1 : Int) = l2 ∧ ai_ok (n + 1 + 1 + 1 + 1) l0 8 ∧ (n + 1 + 1 + 1 + 1) < (n + 6) ∧ ai_k (n + 1 + 1 + 1 + 1 : Int) = 50 ∧ ai_l (n + 1 + 1 + 1 + 1 : Int) = l2 ∧ ai_ok (n + 1 + 1 + 1 + 1 + 1) l0 8 ∧ (n + 1 + 1 + 1 + 1 + 1) < (n + 6) ∧ ai_k (n + 1 + 1 + 1 + 1 + 1 : Int) = 50 ∧ ai_l (n + 1 + 1 + 1 + 1 + 1 : Int) = l2 ∧ ai_ok (n + 1 + 1 + 1 + 1 + 1 + 1) l0 8 ∧ ai_ok (n + 1 + 1 + 1 + 1 + 1 + 1) l0 8 ∧ (ai_q 6 n Q) (9, 0) (n + 1 + 1 + 1 + 1 + 1 + 1) (ai_up (ai_up (ai_cl (ai_up (ai_cl (ai_up (ai_cl (ai_up (ai_cl (ai_up (ai_cl (ai_up (ai_cl hr (n : Int) (-1)) l0 0 (n : Int)) (n + 1 : Int) (-1)) l0 1 (n + 1 : Int)) (n + 1 + 1 : Int) (-1)) l0 2 (n + 1 + 1 : Int)) (n + 1 + 1 + 1 : Int) (-1)) l0 3 (n + 1 + 1 + 1 : Int)) (n + 1 + 1 + 1 + 1 : Int) (-1)) l0 4 (n + 1 + 1 + 1 + 1 : Int)) (n + 1 + 1 + 1 + 1 + 1 : Int) (-1)) l0 5 (n + 1 + 1 + 1 + 1 + 1 : Int)) l0 6 l3) (ai_cl (ai_cl (ai_cl (ai_cl (ai_cl (ai_cl h (n : Int) 0) (n + 1 : Int) 0) (n + 1 + 1 : Int) 0) (n + 1 + 1 + 1 : Int) 0) (n + 1 + 1 + 1 + 1 : Int) 0) (n + 1 + 1 + 1 + 1 + 1 : Int) 0)) : f_E_init [(2, l0), (0, l1), (0, l2), (2, l3)] n hr h Q := ⟨Nat.le_of_ble_eq_true rfl, wp_run (cut := cut_E_init) mo_E_init 31 _ _ _ _ _ _ H⟩
def cut_T_init : List (Nat × List Bool) := [(91, [true, false, false, false, true, true, false, false])]
def p_T_init_91 (lim : Nat) (Q : RP) (l0 l4 l5 : Int) (n : Nat) (hr h : HP) : Prop := ai_wp o_T_init lim none k_T_init Q 91 [some (2, l0), none, none, none, some (2, l4), some (0, l5), none, none] [] n hr h
theorem b_T_init_91 {lim : Nat} {Q : RP} {l0 l4 l5 : Int} {n : Nat} {hr h : HP} (H : ((3 : Int) ≤ l5 → ai_ok n l0 6 ∧ n < lim ∧ ai_k (n : Int) = 8 ∧ ai_ok (n + 1) (n : Int) 8 ∧ (n + 1 : Int) + 6 ≤ (lim : Int) ∧ f_E_init [(2, (n : Int)), (0, 253), (0, 1), (2, l4)] (n + 1) (ai_cl hr (n : Int) (-1)) (ai_cl h (n : Int) 0) fun r1 n1 hr1 h1 => ai_ok n1 (hr l0 3) 54 ∧ ai_ok n1 (n : Int) 8 ∧ 0 ≤ 6 ∧ 6 < ai_l (hr l0 3) ∧ ai_ok n1 l0 6 ∧ n1 < lim ∧ ai_k (n1 : Int) = 8 ∧ ai_ok (n1 + 1) (n1 : Int) 8 ∧ (n1 + 1 : Int) + 6 ≤ (lim : Int) ∧ f_E_init [(2, (n1 : Int)), (0, 253), (0, 1), (2, l4)] (n1 + 1) (ai_cl (ai_up hr1 (hr l0 3) 6 (n : Int)) (n1 : Int) (-1)) (ai_cl h1 (n1 : Int) 0) fun r2 n2 hr2 h2 => ai_ok n2 ((ai_up hr1 (hr l0 3) 6 (n : Int)) l0 3) 54 ∧ ai_ok n2 (n1 : Int) 8 ∧ 0 ≤ 7 ∧ 7 < ai_l ((ai_up hr1 (hr l0 3) 6 (n : Int)) l0 3) ∧ Q (9, 0) n2 (ai_up hr2 ((ai_up hr1 (hr l0 3) 6 (n : Int)) l0 3) 7 (n1 : Int)) h2) ∧ (l5 < (3 : Int) → 0 ≤ l5 ∧ l5 < 3 ∧ 0 ≤ l5 ∧ l5 < 3 ∧ ai_ok n l0 6 ∧ n < lim ∧ ai_k (n : Int) = 8 ∧ ai_ok (n + 1) (n : Int) 8 ∧ (n + 1 : Int) + 6 ≤ (lim : Int) ∧ f_E_init [(2, (n : Int)), (0, w32 ((ai_hd l5) * 26)), (0, w32 ((ai_hd l5) * 5)), (2, l4)] (n + 1) (ai_cl hr (n : Int) (-1)) (ai_cl h (n : Int) 0) fun r3 n3 hr3 h3 => ai_ok n3 (hr l0 3) 54 ∧ ai_ok n3 (n : Int) 8 ∧ 0 ≤ l5 ∧ l5 < ai_l (hr l0 3) ∧ ai_ok n3 l0 6 ∧ n3 < lim ∧ ai_k (n3 : Int) = 8 ∧ ai_ok (n3 + 1) (n3 : Int) 8 ∧ (n3 + 1 : Int) + 6 ≤ (lim : Int) ∧ f_E_init [(2, (n3 : Int)), (0, w32 ((ai_hd l5) * 26)), (0, w32 ((ai_hd l5) * 5)), (2, l4)] (n3 + 1) (ai_cl (ai_up hr3 (hr l0 3) l5 (n : Int)) (n3 : Int) (-1)) (ai_cl h3 (n3 : Int) 0) fun r4 n4 hr4 h4 => ai_ok n4 ((ai_up hr3 (hr l0 3) l5 (n : Int)) l0 3) 54 ∧ ai_ok n4 (n3 : Int) 8 ∧ 0 ≤ (w32 (3 + l5)) ∧ (w32 (3 + l5)) < ai_l ((ai_up hr3 (hr l0 3) l5 (n : Int)) l0 3) ∧ p_T_init_91 lim Q l0 l4 (w32 (l5 + 1)) n4 (ai_up hr4 ((ai_up hr3 (hr l0 3) l5 (n : Int)) l0 3) (w32 (3 + l5)) (n3 : Int)) h4)) : p_T_init_91 lim Q l0 l4 l5 n hr h := wp_run (cut := cut_T_init) mo_T_init 41 _ _ _ _ _ _ H
theorem e_T_init {Q : RP} {l0 l1 l2 l3 : Int} {n : Nat} {hr h : HP} (H : 0 ≤ l0 ∧ n < (n + 66) ∧ ai_k (n : Int) = 54 ∧ ai_l (n : Int) = 8 ∧ ai_ok (n + 1) l0 6 ∧ (n + 1) < (n + 66) ∧ ai_k (n + 1 : Int) = 50 ∧ ai_l (n + 1 : Int) = 13650 ∧ ai_ok (n + 1 + 1) l0 6 ∧ (n + 1 + 1) < (n + 66) ∧ ai_k (n + 1 + 1 : Int) = 50 ∧ ai_l (n + 1 + 1 : Int) = 4550 ∧ ai_ok (n + 1 + 1 + 1) l0 6 ∧ (n + 1 + 1 + 1) < (n + 66) ∧ ai_k (n + 1 + 1 + 1 : Int) = 50 ∧ ai_l (n + 1 + 1 + 1 : Int) = 4550 ∧ ai_ok (n + 1 + 1 + 1 + 1) l0 6 ∧ (n + 1 + 1 + 1 + 1) < (n + 66) ∧ ai_k (n + 1 + 1 + 1 + 1 : Int) = 50 ∧ ai_l (n + 1 + 1 + 1 + 1 : Int) = 4550 ∧ ai_ok (n + 1 + 1 + 1 + 1 + 1) l0 6 ∧ (n + 1 + 1 + 1 + 1 + 1) < (n + 66) ∧ ai_k (n + 1 + 1 + 1 + 1 + 1 : Int) = 50 ∧ ai_l (n + 1 + 1 + 1 + 1 + 1 : Int) = 240 ∧ ai_ok (n + 1 + 1 + 1 + 1 + 1 + 1) l0 6 ∧ ai_ok (n + 1 + 1 + 1 + 1 + 1 + 1) l0 6 ∧ ai_ok (n + 1 + 1 + 1 + 1 + 1 + 1) l0 6 ∧ (n + 1 + 1 + 1 + 1 + 1 + 1) < (n + 66) ∧ ai_k (n + 1 + 1 + 1 + 1 + 1 + 1 : Int) = 10 ∧ ai_ok (n + 1 + 1 + 1 + 1 + 1 + 1 + 1) (n + 1 + 1 + 1 + 1 + 1 + 1 : Int) 10 ∧ (n + 1 + 1 + 1 + 1 + 1 + 1 + 1 : Int) + 2 ≤ ((n + 66) : Int) ∧ f_W_init [(2, (n + 1 + 1 + 1 + 1 + 1 + 1 : Int)), (2, l1), (2, l3)] (n + 1 + 1 + 1 + 1 + 1 + 1 + 1) (ai_cl (ai_up (ai_up (ai_up (ai_cl (ai_up (ai_cl (ai_up (ai_cl (ai_up (ai_cl (ai_up (ai_cl (ai_up (ai_cl hr (n : Int) (-1)) l0 3 (n : Int)) (n + 1 : Int) (-1)) l0 4 (n + 1 : Int)) (n + 1 + 1 : Int) (-1)) l0 5 (n + 1 + 1 : Int)) (n + 1 + 1 + 1 : Int) (-1)) l0 6 (n + 1 + 1 + 1 : Int)) (n + 1 + 1 + 1 + 1 : Int) (-1)) l0 7 (n + 1 + 1 + 1 + 1 : Int)) (n + 1 + 1 + 1 + 1 + 1 : Int) (-1)) l0 8 (n + 1 + 1 + 1 + 1 + 1 : Int)) l0 0 l1) l0 1 l2) (n + 1 + 1 + 1 + 1 + 1 + 1 : Int) (-1)) (ai_cl (ai_cl (ai_cl (ai_cl (ai_cl (ai_cl (ai_cl h (n : Int) 0) (n + 1 : Int) 0) (n + 1 + 1 : Int) 0) (n + 1 + 1 + 1 : Int) 0) (n + 1 + 1 + 1 + 1 : Int) 0) (n + 1 + 1 + 1 + 1 + 1 : Int) 0) (n + 1 + 1 + 1 + 1 + 1 + 1 : Int) 0) fun r1 n1 hr1 h1 => ai_ok n1 l0 6 ∧ n1 < (n + 66) ∧ ai_k (n1 : Int) = 50 ∧ ai_l (n1 : Int) = 4550 ∧ p_T_init_91 (n + 66) (ai_q 66 n Q) l0 (n1 : Int) 0 (n1 + 1) (ai_cl (ai_up hr1 l0 2 (n + 1 + 1 + 1 + 1 + 1 + 1 : Int)) (n1 : Int) (-1)) (ai_cl h1 (n1 : Int) 0)) : f_T_init [(2, l0), (2, l1), (2, l2), (2, l3)] n hr h Q := ⟨Nat.le_of_ble_eq_true rfl, wp_run (cut := cut_T_init) mo_T_init 46 _ _ _ _ _ _ H⟩
def cut_U_init : List (Nat × List Bool) := []
theorem e_U_init {Q : RP} {l0 l1 l2 l3 : Int} {n : Nat} {hr h : HP} (H : 0 ≤ l0 ∧ n < (n + 15) ∧ ai_k (n : Int) = 1 ∧ ai_ok (n + 1) (n : Int) 1 ∧ (n + 1 : Int) + 2 ≤ ((n + 15) : Int) ∧ f_M_init [(2, (n : Int))] (n + 1) (ai_cl hr (n : Int) (-1)) (ai_cl h (n : Int) 0) fun r1 n1 hr1 h1 => ai_ok n1 l0 2 ∧ n1 < (n + 15) ∧ ai_k (n1 : Int) = 1 ∧ ai_ok (n1 + 1) (n1 : Int) 1 ∧ (n1 + 1 : Int) + 2 ≤ ((n + 15) : Int) ∧ f_M_init [(2, (n1 : Int))] (n1 + 1) (ai_cl (ai_up hr1 l0 3 (n : Int)) (n1 : Int) (-1)) (ai_cl h1 (n1 : Int) 0) fun r2 n2 hr2 h2 => ai_ok n2 l0 2 ∧ n2 < (n + 15) ∧ ai_k (n2 : Int) = 50 ∧ ai_l (n2 : Int) = 252 ∧ ai_ok (n2 + 1) l0 2 ∧ (n2 + 1) < (n + 15) ∧ ai_k (n2 + 1 : Int) = 52 ∧ ai_l (n2 + 1 : Int) = 252 ∧ ai_ok (n2 + 1 + 1) l0 2 ∧ (n2 + 1 + 1) < (n + 15) ∧ ai_k (n2 + 1 + 1 : Int) = 50 ∧ ai_l (n2 + 1 + 1 : Int) = 4 ∧ ai_ok (n2 + 1 + 1 + 1) l0 2 ∧ (n2 + 1 + 1 + 1) < (n + 15) ∧ ai_k (n2 + 1 + 1 + 1 : Int) = 50 ∧ ai_l (n2 + 1 + 1 + 1 : Int) = 4 ∧ ai_ok (n2 + 1 + 1 + 1 + 1) l0 2 ∧ (n2 + 1 + 1 + 1 + 1) < (n + 15) ∧ ai_k (n2 + 1 + 1 + 1 + 1 : Int) = 50 ∧ ai_l (n2 + 1 + 1 + 1 + 1 : Int) = 2 ∧ ai_ok (n2 + 1 + 1 + 1 + 1 + 1) l0 2 ∧ (n2 + 1 + 1 + 1 + 1 + 1) < (n + 15) ∧ ai_k (n2 + 1 + 1 + 1 + 1 + 1 : Int) = 50 ∧ ai_l (n2 + 1 + 1 + 1 + 1 + 1 : Int) = 4 ∧ ai_ok (n2 + 1 + 1 + 1 + 1 + 1 + 1) l0 2 ∧ (n2 + 1 + 1 + 1 + 1 + 1 + 1) < (n + 15) ∧ ai_k (n2 + 1 + 1 + 1 + 1 + 1 + 1 : Int) = 50 ∧ ai_l (n2 + 1 + 1 + 1 + 1 + 1 + 1 : Int) = 4 ∧ ai_ok (n2 + 1 + 1 + 1 + 1 + 1 + 1 + 1) l0 2 ∧ (n2 + 1 + 1 + 1 + 1 + 1 + 1 + 1) < (n + 15) ∧ ai_k (n2 + 1 + 1 + 1 + 1 + 1 + 1 + 1 : Int) = 50 ∧ ai_l (n2 + 1 + 1 + 1 + 1 + 1 + 1 + 1 : Int) = 7000 ∧ ai_ok (n2 + 1 + 1 + 1 + 1 + 1 + 1 + 1 + 1) l0 2 ∧ (n2 + 1 + 1 + 1 + 1 + 1 + 1 + 1 + 1) < (n + 15) ∧ ai_k (n2 + 1 + 1 + 1 + 1 + 1 + 1 + 1 + 1 : Int) = 50 ∧ ai_l (n2 + 1 + 1 + 1 + 1 + 1 + 1 + 1 + 1 : Int) = 8 ∧ ai_ok (n2 + 1 + 1 + 1 + 1 + 1 + 1 + 1 + 1 + 1) l0 2 ∧ ai_ok (n2 + 1 + 1 + 1 + 1 + 1 + 1 + 1 + 1 + 1) l0 2 ∧ ai_ok (n2 + 1 + 1 + 1 + 1 + 1 + 1 + 1 + 1 + 1) l0 2 ∧ ai_ok (n2 + 1 + 1 + 1 + 1 + 1 + 1 + 1 + 1 + 1) l0 2 ∧ (ai_q 15 n Q) (9, 0) (n2 + 1 + 1 + 1 + 1 + 1 + 1 + 1 + 1 + 1) (ai_up (ai_up (ai_up (ai_up (ai_cl (ai_up (ai_cl (ai_up (ai_cl (ai_up (ai_cl (ai_up (ai_cl (ai_up (ai_cl (ai_up (ai_cl (ai_up (ai_cl (ai_up (ai_cl (ai_up hr2 l0 4 (n1 : Int)) (n2 : Int) (-1)) l0 5 (n2 : Int)) (n2 + 1 : Int) (-1)) l0 6 (n2 + 1 : Int)) (n2 + 1 + 1 : Int) (-1)) l0 7 (n2 + 1 + 1 : Int)) (n2 + 1 + 1 + 1 : Int) (-1)) l0 8 (n2 + 1 + 1 + 1 : Int)) (n2 + 1 + 1 + 1 + 1 : Int) (-1)) l0 9 (n2 + 1 + 1 + 1 + 1 : Int)) (n2 + 1 + 1 + 1 + 1 + 1 : Int) (-1)) l0 10 (n2 + 1 + 1 + 1 + 1 + 1 : Int)) (n2 + 1 + 1 + 1 + 1 + 1 + 1 : Int) (-1)) l0 11 (n2 + 1 + 1 + 1 + 1 + 1 + 1 : Int)) (n2 + 1 + 1 + 1 + 1 + 1 + 1 + 1 : Int) (-1)) l0 12 (n2 + 1 + 1 + 1 + 1 + 1 + 1 + 1 : Int)) (n2 + 1 + 1 + 1 + 1 + 1 + 1 + 1 + 1 : Int) (-1)) l0 13 (n2 + 1 + 1 + 1 + 1 + 1 + 1 + 1 + 1 : Int)) l0 0 l1) l0 1 l2) l0 2 l3) (ai_cl (ai_cl (ai_cl (ai_cl (ai_cl (ai_cl (ai_cl (ai_cl (ai_cl h2 (n2 : Int) 0) (n2 + 1 : Int) 0) (n2 + 1 + 1 : Int) 0) (n2 + 1 + 1 + 1 : Int) 0) (n2 + 1 + 1 + 1 + 1 : Int) 0) (n2 + 1 + 1 + 1 + 1 + 1 : Int) 0) (n2 + 1 + 1 + 1 + 1 + 1 + 1 : Int) 0) (n2 + 1 + 1 + 1 + 1 + 1 + 1 + 1 : Int) 0) (n2 + 1 + 1 + 1 + 1 + 1 + 1 + 1 + 1 : Int) 0)) : f_U_init [(2, l0), (2, l1), (2, l2), (2, l3)] n hr h Q := ⟨Nat.le_of_ble_eq_true rfl, wp_run (cut := cut_U_init) mo_U_init 59 _ _ _ _ _ _ H⟩
def cut_L_init : List (Nat × List Bool) := []
theorem e_L_init {Q : RP} {l0 : Int} {n : Nat} {hr h : HP} (H : 0 ≤ l0 ∧ n < (n + 2) ∧ ai_k (n : Int) = 50 ∧ ai_l (n : Int) = 20 ∧ ai_ok (n + 1) l0 0 ∧ (n + 1) < (n + 2) ∧ ai_k (n + 1 : Int) = 51 ∧ ai_l (n + 1 : Int) = 20 ∧ ai_ok (n + 1 + 1) l0 0 ∧ (ai_q 2 n Q) (9, 0) (n + 1 + 1) (ai_up (ai_cl (ai_up (ai_cl hr (n : Int) (-1)) l0 0 (n : Int)) (n + 1 : Int) (-1)) l0 1 (n + 1 : Int)) (ai_cl (ai_cl h (n : Int) 0) (n + 1 : Int) 0)) : f_L_init [(2, l0)] n hr h Q := ⟨Nat.le_of_ble_eq_true rfl, wp_run (cut := cut_L_init) mo_L_init 12 _ _ _ _ _ _ H⟩
end
