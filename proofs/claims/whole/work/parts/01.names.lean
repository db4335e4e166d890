/-- a private method of a class that the tables say can be made, by its rows of tables_1 -/
def lw_okq (q : MethodName × Nat) : Prop := (q.1.cls ≠ "java/lang/invoke/MethodHandle" ∧ q.1.cls ≠ "java/lang/invoke/VarHandle") ∧ Cond.instantiable q.1.cls q.2 ∈ tables_1 ∧ Cond.privateMethod q.1 ∈ tables_1 ∧ Cond.instanceMethod q.1 ∈ tables_1
theorem lw_p0 : lw_okq (⟨"RangeResolver$Registry", "clear", "()V"⟩, 11) := ⟨⟨by decide +kernel, by decide +kernel⟩, List.mem_of_getElem? (i := 155) (by decide +kernel), List.mem_of_getElem? (i := 289) (by decide +kernel), List.mem_of_getElem? (i := 290) (by decide +kernel)⟩
theorem lw_p1 : lw_okq (⟨"RangeResolver", "layFourBytes", "(I)V"⟩, 13) := ⟨⟨by decide +kernel, by decide +kernel⟩, List.mem_of_getElem? (i := 23) (by decide +kernel), List.mem_of_getElem? (i := 455) (by decide +kernel), List.mem_of_getElem? (i := 456) (by decide +kernel)⟩
theorem lw_p2 : lw_okq (⟨"RangeResolver", "isOnTape", "(I)Z"⟩, 13) := ⟨⟨by decide +kernel, by decide +kernel⟩, List.mem_of_getElem? (i := 23) (by decide +kernel), List.mem_of_getElem? (i := 463) (by decide +kernel), List.mem_of_getElem? (i := 464) (by decide +kernel)⟩
theorem lw_p3 : lw_okq (⟨"RangeResolver$Tokens", "signAt", "(I)I"⟩, 7) := ⟨⟨by decide +kernel, by decide +kernel⟩, List.mem_of_getElem? (i := 89) (by decide +kernel), List.mem_of_getElem? (i := 482) (by decide +kernel), List.mem_of_getElem? (i := 483) (by decide +kernel)⟩
theorem lw_p4 : lw_okq (⟨"RangeResolver$Tokens", "takeName", "(I)I"⟩, 7) := ⟨⟨by decide +kernel, by decide +kernel⟩, List.mem_of_getElem? (i := 89) (by decide +kernel), List.mem_of_getElem? (i := 492) (by decide +kernel), List.mem_of_getElem? (i := 493) (by decide +kernel)⟩
theorem lw_p5 : lw_okq (⟨"RangeResolver$Tokens", "addWrong", "(I)I"⟩, 7) := ⟨⟨by decide +kernel, by decide +kernel⟩, List.mem_of_getElem? (i := 89) (by decide +kernel), List.mem_of_getElem? (i := 502) (by decide +kernel), List.mem_of_getElem? (i := 503) (by decide +kernel)⟩
theorem lw_p6 : lw_okq (⟨"RangeResolver$Tokens", "add", "(III)I"⟩, 7) := ⟨⟨by decide +kernel, by decide +kernel⟩, List.mem_of_getElem? (i := 89) (by decide +kernel), List.mem_of_getElem? (i := 506) (by decide +kernel), List.mem_of_getElem? (i := 507) (by decide +kernel)⟩
theorem lw_p7 : lw_okq (⟨"RangeResolver$Tokens", "kindOfName", "(II)I"⟩, 7) := ⟨⟨by decide +kernel, by decide +kernel⟩, List.mem_of_getElem? (i := 89) (by decide +kernel), List.mem_of_getElem? (i := 510) (by decide +kernel), List.mem_of_getElem? (i := 511) (by decide +kernel)⟩
theorem lw_p8 : lw_okq (⟨"RangeResolver$Tokens", "isWord", "(Ljava/lang/String;II)Z"⟩, 7) := ⟨⟨by decide +kernel, by decide +kernel⟩, List.mem_of_getElem? (i := 89) (by decide +kernel), List.mem_of_getElem? (i := 515) (by decide +kernel), List.mem_of_getElem? (i := 516) (by decide +kernel)⟩
theorem lw_p9 : lw_okq (⟨"RangeResolver$Tokens", "takeMark", "(II)I"⟩, 7) := ⟨⟨by decide +kernel, by decide +kernel⟩, List.mem_of_getElem? (i := 89) (by decide +kernel), List.mem_of_getElem? (i := 570) (by decide +kernel), List.mem_of_getElem? (i := 571) (by decide +kernel)⟩
theorem lw_p10 : lw_okq (⟨"RangeResolver$Tokens", "takePart", "(II)I"⟩, 7) := ⟨⟨by decide +kernel, by decide +kernel⟩, List.mem_of_getElem? (i := 89) (by decide +kernel), List.mem_of_getElem? (i := 574) (by decide +kernel), List.mem_of_getElem? (i := 575) (by decide +kernel)⟩
theorem lw_p11 : lw_okq (⟨"RangeResolver$Version", "takeNumbers", "()Z"⟩, 5) := ⟨⟨by decide +kernel, by decide +kernel⟩, List.mem_of_getElem? (i := 64) (by decide +kernel), List.mem_of_getElem? (i := 592) (by decide +kernel), List.mem_of_getElem? (i := 593) (by decide +kernel)⟩
theorem lw_p12 : lw_okq (⟨"RangeResolver$Version", "signAt", "(I)I"⟩, 5) := ⟨⟨by decide +kernel, by decide +kernel⟩, List.mem_of_getElem? (i := 64) (by decide +kernel), List.mem_of_getElem? (i := 596) (by decide +kernel), List.mem_of_getElem? (i := 597) (by decide +kernel)⟩
theorem lw_p13 : lw_okq (⟨"RangeResolver$Version", "endsAfterFilling", "()Z"⟩, 5) := ⟨⟨by decide +kernel, by decide +kernel⟩, List.mem_of_getElem? (i := 64) (by decide +kernel), List.mem_of_getElem? (i := 602) (by decide +kernel), List.mem_of_getElem? (i := 603) (by decide +kernel)⟩
theorem lw_p14 : lw_okq (⟨"RangeResolver$Version", "takeIdentifiers", "(Z)Z"⟩, 5) := ⟨⟨by decide +kernel, by decide +kernel⟩, List.mem_of_getElem? (i := 64) (by decide +kernel), List.mem_of_getElem? (i := 606) (by decide +kernel), List.mem_of_getElem? (i := 607) (by decide +kernel)⟩
theorem lw_p15 : lw_okq (⟨"RangeResolver$Version", "takeKey", "(Z)J"⟩, 5) := ⟨⟨by decide +kernel, by decide +kernel⟩, List.mem_of_getElem? (i := 64) (by decide +kernel), List.mem_of_getElem? (i := 610) (by decide +kernel), List.mem_of_getElem? (i := 611) (by decide +kernel)⟩
def lw_privs_1 : List (MethodName × Nat) := [(⟨"RangeResolver$Registry", "clear", "()V"⟩, 11), (⟨"RangeResolver", "layFourBytes", "(I)V"⟩, 13), (⟨"RangeResolver", "isOnTape", "(I)Z"⟩, 13), (⟨"RangeResolver$Tokens", "signAt", "(I)I"⟩, 7), (⟨"RangeResolver$Tokens", "takeName", "(I)I"⟩, 7), (⟨"RangeResolver$Tokens", "addWrong", "(I)I"⟩, 7), (⟨"RangeResolver$Tokens", "add", "(III)I"⟩, 7), (⟨"RangeResolver$Tokens", "kindOfName", "(II)I"⟩, 7), (⟨"RangeResolver$Tokens", "isWord", "(Ljava/lang/String;II)Z"⟩, 7), (⟨"RangeResolver$Tokens", "takeMark", "(II)I"⟩, 7), (⟨"RangeResolver$Tokens", "takePart", "(II)I"⟩, 7), (⟨"RangeResolver$Version", "takeNumbers", "()Z"⟩, 5), (⟨"RangeResolver$Version", "signAt", "(I)I"⟩, 5), (⟨"RangeResolver$Version", "endsAfterFilling", "()Z"⟩, 5), (⟨"RangeResolver$Version", "takeIdentifiers", "(Z)Z"⟩, 5), (⟨"RangeResolver$Version", "takeKey", "(Z)J"⟩, 5)]
theorem lw_r1 : ∀ q ∈ lw_privs_1, lw_okq q := List.forall_mem_cons.mpr ⟨lw_p0, List.forall_mem_cons.mpr ⟨lw_p1, List.forall_mem_cons.mpr ⟨lw_p2, List.forall_mem_cons.mpr ⟨lw_p3, List.forall_mem_cons.mpr ⟨lw_p4, List.forall_mem_cons.mpr ⟨lw_p5, List.forall_mem_cons.mpr ⟨lw_p6, List.forall_mem_cons.mpr ⟨lw_p7, List.forall_mem_cons.mpr ⟨lw_p8, List.forall_mem_cons.mpr ⟨lw_p9, List.forall_mem_cons.mpr ⟨lw_p10, List.forall_mem_cons.mpr ⟨lw_p11, List.forall_mem_cons.mpr ⟨lw_p12, List.forall_mem_cons.mpr ⟨lw_p13, List.forall_mem_cons.mpr ⟨lw_p14, List.forall_mem_cons.mpr ⟨lw_p15, fun _ h => absurd h List.not_mem_nil⟩⟩⟩⟩⟩⟩⟩⟩⟩⟩⟩⟩⟩⟩⟩⟩
theorem lw_p16 : lw_okq (⟨"RangeResolver$Registry", "takePackages", "(LRangeResolver$Tokens;LRangeResolver$RangeReader;)Z"⟩, 11) := ⟨⟨by decide +kernel, by decide +kernel⟩, List.mem_of_getElem? (i := 155) (by decide +kernel), List.mem_of_getElem? (i := 619) (by decide +kernel), List.mem_of_getElem? (i := 620) (by decide +kernel)⟩
theorem lw_p17 : lw_okq (⟨"RangeResolver$Registry", "fail", "(I)Z"⟩, 11) := ⟨⟨by decide +kernel, by decide +kernel⟩, List.mem_of_getElem? (i := 155) (by decide +kernel), List.mem_of_getElem? (i := 627) (by decide +kernel), List.mem_of_getElem? (i := 628) (by decide +kernel)⟩
theorem lw_p18 : lw_okq (⟨"RangeResolver$Registry", "takeName", "(LRangeResolver$Tokens;)Z"⟩, 11) := ⟨⟨by decide +kernel, by decide +kernel⟩, List.mem_of_getElem? (i := 155) (by decide +kernel), List.mem_of_getElem? (i := 631) (by decide +kernel), List.mem_of_getElem? (i := 632) (by decide +kernel)⟩
theorem lw_p19 : lw_okq (⟨"RangeResolver$Registry", "packNamed", "(II)I"⟩, 11) := ⟨⟨by decide +kernel, by decide +kernel⟩, List.mem_of_getElem? (i := 155) (by decide +kernel), List.mem_of_getElem? (i := 643) (by decide +kernel), List.mem_of_getElem? (i := 644) (by decide +kernel)⟩
theorem lw_p20 : lw_okq (⟨"RangeResolver$Registry", "isSameText", "(IIII)Z"⟩, 11) := ⟨⟨by decide +kernel, by decide +kernel⟩, List.mem_of_getElem? (i := 155) (by decide +kernel), List.mem_of_getElem? (i := 647) (by decide +kernel), List.mem_of_getElem? (i := 648) (by decide +kernel)⟩
theorem lw_p21 : lw_okq (⟨"RangeResolver$Registry", "addPack", "(II)V"⟩, 11) := ⟨⟨by decide +kernel, by decide +kernel⟩, List.mem_of_getElem? (i := 155) (by decide +kernel), List.mem_of_getElem? (i := 651) (by decide +kernel), List.mem_of_getElem? (i := 652) (by decide +kernel)⟩
theorem lw_p22 : lw_okq (⟨"RangeResolver$Registry", "expect", "(LRangeResolver$Tokens;I)Z"⟩, 11) := ⟨⟨by decide +kernel, by decide +kernel⟩, List.mem_of_getElem? (i := 155) (by decide +kernel), List.mem_of_getElem? (i := 655) (by decide +kernel), List.mem_of_getElem? (i := 656) (by decide +kernel)⟩
theorem lw_p23 : lw_okq (⟨"RangeResolver$Registry", "takeReleases", "(LRangeResolver$Tokens;LRangeResolver$RangeReader;)Z"⟩, 11) := ⟨⟨by decide +kernel, by decide +kernel⟩, List.mem_of_getElem? (i := 155) (by decide +kernel), List.mem_of_getElem? (i := 659) (by decide +kernel), List.mem_of_getElem? (i := 660) (by decide +kernel)⟩
theorem lw_p24 : lw_okq (⟨"RangeResolver$Registry", "addRelease", "(II)Z"⟩, 11) := ⟨⟨by decide +kernel, by decide +kernel⟩, List.mem_of_getElem? (i := 155) (by decide +kernel), List.mem_of_getElem? (i := 664) (by decide +kernel), List.mem_of_getElem? (i := 665) (by decide +kernel)⟩
theorem lw_p25 : lw_okq (⟨"RangeResolver$Registry", "takeLinks", "(LRangeResolver$Tokens;LRangeResolver$RangeReader;)Z"⟩, 11) := ⟨⟨by decide +kernel, by decide +kernel⟩, List.mem_of_getElem? (i := 155) (by decide +kernel), List.mem_of_getElem? (i := 687) (by decide +kernel), List.mem_of_getElem? (i := 688) (by decide +kernel)⟩
theorem lw_p26 : lw_okq (⟨"RangeResolver$Registry", "takeConstraint", "(LRangeResolver$Tokens;LRangeResolver$RangeReader;)Z"⟩, 11) := ⟨⟨by decide +kernel, by decide +kernel⟩, List.mem_of_getElem? (i := 155) (by decide +kernel), List.mem_of_getElem? (i := 694) (by decide +kernel), List.mem_of_getElem? (i := 695) (by decide +kernel)⟩
theorem lw_p27 : lw_okq (⟨"RangeResolver$Registry", "addConstraint", "(LRangeResolver$Tokens;II)V"⟩, 11) := ⟨⟨by decide +kernel, by decide +kernel⟩, List.mem_of_getElem? (i := 155) (by decide +kernel), List.mem_of_getElem? (i := 714) (by decide +kernel), List.mem_of_getElem? (i := 715) (by decide +kernel)⟩
theorem lw_p28 : lw_okq (⟨"RangeResolver$Registry", "takeWants", "(LRangeResolver$Tokens;LRangeResolver$RangeReader;)Z"⟩, 11) := ⟨⟨by decide +kernel, by decide +kernel⟩, List.mem_of_getElem? (i := 155) (by decide +kernel), List.mem_of_getElem? (i := 718) (by decide +kernel), List.mem_of_getElem? (i := 719) (by decide +kernel)⟩
theorem lw_p29 : lw_okq (⟨"RangeResolver$Registry", "findTargets", "()I"⟩, 11) := ⟨⟨by decide +kernel, by decide +kernel⟩, List.mem_of_getElem? (i := 155) (by decide +kernel), List.mem_of_getElem? (i := 722) (by decide +kernel), List.mem_of_getElem? (i := 723) (by decide +kernel)⟩
theorem lw_p30 : lw_okq (⟨"RangeResolver", "markReleasesInRanges", "(LRangeResolver$Registry;)V"⟩, 13) := ⟨⟨by decide +kernel, by decide +kernel⟩, List.mem_of_getElem? (i := 23) (by decide +kernel), List.mem_of_getElem? (i := 726) (by decide +kernel), List.mem_of_getElem? (i := 727) (by decide +kernel)⟩
theorem lw_p31 : lw_okq (⟨"RangeResolver$RangeReader", "openAll", "()V"⟩, 8) := ⟨⟨by decide +kernel, by decide +kernel⟩, List.mem_of_getElem? (i := 120) (by decide +kernel), List.mem_of_getElem? (i := 746) (by decide +kernel), List.mem_of_getElem? (i := 747) (by decide +kernel)⟩
def lw_privs_2 : List (MethodName × Nat) := [(⟨"RangeResolver$Registry", "takePackages", "(LRangeResolver$Tokens;LRangeResolver$RangeReader;)Z"⟩, 11), (⟨"RangeResolver$Registry", "fail", "(I)Z"⟩, 11), (⟨"RangeResolver$Registry", "takeName", "(LRangeResolver$Tokens;)Z"⟩, 11), (⟨"RangeResolver$Registry", "packNamed", "(II)I"⟩, 11), (⟨"RangeResolver$Registry", "isSameText", "(IIII)Z"⟩, 11), (⟨"RangeResolver$Registry", "addPack", "(II)V"⟩, 11), (⟨"RangeResolver$Registry", "expect", "(LRangeResolver$Tokens;I)Z"⟩, 11), (⟨"RangeResolver$Registry", "takeReleases", "(LRangeResolver$Tokens;LRangeResolver$RangeReader;)Z"⟩, 11), (⟨"RangeResolver$Registry", "addRelease", "(II)Z"⟩, 11), (⟨"RangeResolver$Registry", "takeLinks", "(LRangeResolver$Tokens;LRangeResolver$RangeReader;)Z"⟩, 11), (⟨"RangeResolver$Registry", "takeConstraint", "(LRangeResolver$Tokens;LRangeResolver$RangeReader;)Z"⟩, 11), (⟨"RangeResolver$Registry", "addConstraint", "(LRangeResolver$Tokens;II)V"⟩, 11), (⟨"RangeResolver$Registry", "takeWants", "(LRangeResolver$Tokens;LRangeResolver$RangeReader;)Z"⟩, 11), (⟨"RangeResolver$Registry", "findTargets", "()I"⟩, 11), (⟨"RangeResolver", "markReleasesInRanges", "(LRangeResolver$Registry;)V"⟩, 13), (⟨"RangeResolver$RangeReader", "openAll", "()V"⟩, 8)]
theorem lw_r2 : ∀ q ∈ lw_privs_2, lw_okq q := List.forall_mem_cons.mpr ⟨lw_p16, List.forall_mem_cons.mpr ⟨lw_p17, List.forall_mem_cons.mpr ⟨lw_p18, List.forall_mem_cons.mpr ⟨lw_p19, List.forall_mem_cons.mpr ⟨lw_p20, List.forall_mem_cons.mpr ⟨lw_p21, List.forall_mem_cons.mpr ⟨lw_p22, List.forall_mem_cons.mpr ⟨lw_p23, List.forall_mem_cons.mpr ⟨lw_p24, List.forall_mem_cons.mpr ⟨lw_p25, List.forall_mem_cons.mpr ⟨lw_p26, List.forall_mem_cons.mpr ⟨lw_p27, List.forall_mem_cons.mpr ⟨lw_p28, List.forall_mem_cons.mpr ⟨lw_p29, List.forall_mem_cons.mpr ⟨lw_p30, List.forall_mem_cons.mpr ⟨lw_p31, fun _ h => absurd h List.not_mem_nil⟩⟩⟩⟩⟩⟩⟩⟩⟩⟩⟩⟩⟩⟩⟩⟩
theorem lw_p32 : lw_okq (⟨"RangeResolver$RangeReader", "closeAll", "(LRangeResolver$Range;)V"⟩, 8) := ⟨⟨by decide +kernel, by decide +kernel⟩, List.mem_of_getElem? (i := 120) (by decide +kernel), List.mem_of_getElem? (i := 754) (by decide +kernel), List.mem_of_getElem? (i := 755) (by decide +kernel)⟩
theorem lw_p33 : lw_okq (⟨"RangeResolver$Range", "addBound", "([JI)V"⟩, 2) := ⟨⟨by decide +kernel, by decide +kernel⟩, List.mem_of_getElem? (i := 32) (by decide +kernel), List.mem_of_getElem? (i := 763) (by decide +kernel), List.mem_of_getElem? (i := 764) (by decide +kernel)⟩
theorem lw_p34 : lw_okq (⟨"RangeResolver$RangeReader", "takePart", "([BII)V"⟩, 8) := ⟨⟨by decide +kernel, by decide +kernel⟩, List.mem_of_getElem? (i := 120) (by decide +kernel), List.mem_of_getElem? (i := 786) (by decide +kernel), List.mem_of_getElem? (i := 787) (by decide +kernel)⟩
theorem lw_p35 : lw_okq (⟨"RangeResolver$RangeReader", "startAbove", "(ZZ)V"⟩, 8) := ⟨⟨by decide +kernel, by decide +kernel⟩, List.mem_of_getElem? (i := 120) (by decide +kernel), List.mem_of_getElem? (i := 792) (by decide +kernel), List.mem_of_getElem? (i := 793) (by decide +kernel)⟩
theorem lw_p36 : lw_okq (⟨"RangeResolver$RangeReader", "raisePast", "([JZ)V"⟩, 8) := ⟨⟨by decide +kernel, by decide +kernel⟩, List.mem_of_getElem? (i := 120) (by decide +kernel), List.mem_of_getElem? (i := 797) (by decide +kernel), List.mem_of_getElem? (i := 798) (by decide +kernel)⟩
theorem lw_p37 : lw_okq (⟨"RangeResolver$RangeReader", "endBelow", "(ZZ)V"⟩, 8) := ⟨⟨by decide +kernel, by decide +kernel⟩, List.mem_of_getElem? (i := 120) (by decide +kernel), List.mem_of_getElem? (i := 813) (by decide +kernel), List.mem_of_getElem? (i := 814) (by decide +kernel)⟩
theorem lw_p38 : lw_okq (⟨"RangeResolver$RangeReader", "raiseEnd", "(IZ)V"⟩, 8) := ⟨⟨by decide +kernel, by decide +kernel⟩, List.mem_of_getElem? (i := 120) (by decide +kernel), List.mem_of_getElem? (i := 817) (by decide +kernel), List.mem_of_getElem? (i := 818) (by decide +kernel)⟩
theorem lw_p39 : lw_okq (⟨"RangeResolver$RangeReader", "firstThatIsNotZero", "()I"⟩, 8) := ⟨⟨by decide +kernel, by decide +kernel⟩, List.mem_of_getElem? (i := 120) (by decide +kernel), List.mem_of_getElem? (i := 821) (by decide +kernel), List.mem_of_getElem? (i := 822) (by decide +kernel)⟩
theorem lw_p40 : lw_okq (⟨"RangeResolver$RangeReader", "narrowAll", "()V"⟩, 8) := ⟨⟨by decide +kernel, by decide +kernel⟩, List.mem_of_getElem? (i := 120) (by decide +kernel), List.mem_of_getElem? (i := 825) (by decide +kernel), List.mem_of_getElem? (i := 826) (by decide +kernel)⟩
theorem lw_p41 : lw_okq (⟨"RangeResolver", "behindBlanks", "(II)I"⟩, 13) := ⟨⟨by decide +kernel, by decide +kernel⟩, List.mem_of_getElem? (i := 23) (by decide +kernel), List.mem_of_getElem? (i := 860) (by decide +kernel), List.mem_of_getElem? (i := 861) (by decide +kernel)⟩
theorem lw_p42 : lw_okq (⟨"RangeResolver", "behindSigns", "(II)I"⟩, 13) := ⟨⟨by decide +kernel, by decide +kernel⟩, List.mem_of_getElem? (i := 23) (by decide +kernel), List.mem_of_getElem? (i := 865) (by decide +kernel), List.mem_of_getElem? (i := 866) (by decide +kernel)⟩
theorem lw_p43 : lw_okq (⟨"RangeResolver$Page", "putText", "(Ljava/lang/String;)V"⟩, 6) := ⟨⟨by decide +kernel, by decide +kernel⟩, List.mem_of_getElem? (i := 386) (by decide +kernel), List.mem_of_getElem? (i := 914) (by decide +kernel), List.mem_of_getElem? (i := 915) (by decide +kernel)⟩
theorem lw_p44 : lw_okq (⟨"RangeResolver$Page", "putSign", "(I)V"⟩, 6) := ⟨⟨by decide +kernel, by decide +kernel⟩, List.mem_of_getElem? (i := 386) (by decide +kernel), List.mem_of_getElem? (i := 920) (by decide +kernel), List.mem_of_getElem? (i := 921) (by decide +kernel)⟩
theorem lw_p45 : lw_okq (⟨"RangeResolver$Page", "putStretch", "()V"⟩, 6) := ⟨⟨by decide +kernel, by decide +kernel⟩, List.mem_of_getElem? (i := 386) (by decide +kernel), List.mem_of_getElem? (i := 932) (by decide +kernel), List.mem_of_getElem? (i := 933) (by decide +kernel)⟩
theorem lw_p46 : lw_okq (⟨"RangeResolver$Page", "putVersion", "([J)V"⟩, 6) := ⟨⟨by decide +kernel, by decide +kernel⟩, List.mem_of_getElem? (i := 386) (by decide +kernel), List.mem_of_getElem? (i := 939) (by decide +kernel), List.mem_of_getElem? (i := 940) (by decide +kernel)⟩
theorem lw_p47 : lw_okq (⟨"RangeResolver$Page", "putNumber", "(J)V"⟩, 6) := ⟨⟨by decide +kernel, by decide +kernel⟩, List.mem_of_getElem? (i := 386) (by decide +kernel), List.mem_of_getElem? (i := 945) (by decide +kernel), List.mem_of_getElem? (i := 946) (by decide +kernel)⟩
def lw_privs_3 : List (MethodName × Nat) := [(⟨"RangeResolver$RangeReader", "closeAll", "(LRangeResolver$Range;)V"⟩, 8), (⟨"RangeResolver$Range", "addBound", "([JI)V"⟩, 2), (⟨"RangeResolver$RangeReader", "takePart", "([BII)V"⟩, 8), (⟨"RangeResolver$RangeReader", "startAbove", "(ZZ)V"⟩, 8), (⟨"RangeResolver$RangeReader", "raisePast", "([JZ)V"⟩, 8), (⟨"RangeResolver$RangeReader", "endBelow", "(ZZ)V"⟩, 8), (⟨"RangeResolver$RangeReader", "raiseEnd", "(IZ)V"⟩, 8), (⟨"RangeResolver$RangeReader", "firstThatIsNotZero", "()I"⟩, 8), (⟨"RangeResolver$RangeReader", "narrowAll", "()V"⟩, 8), (⟨"RangeResolver", "behindBlanks", "(II)I"⟩, 13), (⟨"RangeResolver", "behindSigns", "(II)I"⟩, 13), (⟨"RangeResolver$Page", "putText", "(Ljava/lang/String;)V"⟩, 6), (⟨"RangeResolver$Page", "putSign", "(I)V"⟩, 6), (⟨"RangeResolver$Page", "putStretch", "()V"⟩, 6), (⟨"RangeResolver$Page", "putVersion", "([J)V"⟩, 6), (⟨"RangeResolver$Page", "putNumber", "(J)V"⟩, 6)]
theorem lw_r3 : ∀ q ∈ lw_privs_3, lw_okq q := List.forall_mem_cons.mpr ⟨lw_p32, List.forall_mem_cons.mpr ⟨lw_p33, List.forall_mem_cons.mpr ⟨lw_p34, List.forall_mem_cons.mpr ⟨lw_p35, List.forall_mem_cons.mpr ⟨lw_p36, List.forall_mem_cons.mpr ⟨lw_p37, List.forall_mem_cons.mpr ⟨lw_p38, List.forall_mem_cons.mpr ⟨lw_p39, List.forall_mem_cons.mpr ⟨lw_p40, List.forall_mem_cons.mpr ⟨lw_p41, List.forall_mem_cons.mpr ⟨lw_p42, List.forall_mem_cons.mpr ⟨lw_p43, List.forall_mem_cons.mpr ⟨lw_p44, List.forall_mem_cons.mpr ⟨lw_p45, List.forall_mem_cons.mpr ⟨lw_p46, List.forall_mem_cons.mpr ⟨lw_p47, fun _ h => absurd h List.not_mem_nil⟩⟩⟩⟩⟩⟩⟩⟩⟩⟩⟩⟩⟩⟩⟩⟩
theorem lw_p48 : lw_okq (⟨"RangeResolver$Page", "putKey", "(J)V"⟩, 6) := ⟨⟨by decide +kernel, by decide +kernel⟩, List.mem_of_getElem? (i := 386) (by decide +kernel), List.mem_of_getElem? (i := 955) (by decide +kernel), List.mem_of_getElem? (i := 956) (by decide +kernel)⟩
theorem lw_p49 : lw_okq (⟨"RangeResolver$Page", "putBytes", "([BII)V"⟩, 6) := ⟨⟨by decide +kernel, by decide +kernel⟩, List.mem_of_getElem? (i := 386) (by decide +kernel), List.mem_of_getElem? (i := 974) (by decide +kernel), List.mem_of_getElem? (i := 975) (by decide +kernel)⟩
theorem lw_p50 : lw_okq (⟨"RangeResolver", "putConstraint", "(LRangeResolver$Constraint;)V"⟩, 13) := ⟨⟨by decide +kernel, by decide +kernel⟩, List.mem_of_getElem? (i := 23) (by decide +kernel), List.mem_of_getElem? (i := 979) (by decide +kernel), List.mem_of_getElem? (i := 980) (by decide +kernel)⟩
theorem lw_p51 : lw_okq (⟨"RangeResolver$Solver", "weaveLink", "(I)V"⟩, 8) := ⟨⟨by decide +kernel, by decide +kernel⟩, List.mem_of_getElem? (i := 329) (by decide +kernel), List.mem_of_getElem? (i := 1020) (by decide +kernel), List.mem_of_getElem? (i := 1021) (by decide +kernel)⟩
theorem lw_p52 : lw_okq (⟨"RangeResolver$Solver", "isActive", "(I)Z"⟩, 8) := ⟨⟨by decide +kernel, by decide +kernel⟩, List.mem_of_getElem? (i := 329) (by decide +kernel), List.mem_of_getElem? (i := 1026) (by decide +kernel), List.mem_of_getElem? (i := 1027) (by decide +kernel)⟩
theorem lw_p53 : lw_okq (⟨"RangeResolver$Solver", "matchValues", "(IIII)V"⟩, 8) := ⟨⟨by decide +kernel, by decide +kernel⟩, List.mem_of_getElem? (i := 329) (by decide +kernel), List.mem_of_getElem? (i := 1030) (by decide +kernel), List.mem_of_getElem? (i := 1031) (by decide +kernel)⟩
theorem lw_p54 : lw_okq (⟨"RangeResolver$Solver", "openPack", "(I)V"⟩, 8) := ⟨⟨by decide +kernel, by decide +kernel⟩, List.mem_of_getElem? (i := 329) (by decide +kernel), List.mem_of_getElem? (i := 1034) (by decide +kernel), List.mem_of_getElem? (i := 1035) (by decide +kernel)⟩
theorem lw_p55 : lw_okq (⟨"RangeResolver$Solver", "smallestPack", "(IIZ)I"⟩, 8) := ⟨⟨by decide +kernel, by decide +kernel⟩, List.mem_of_getElem? (i := 329) (by decide +kernel), List.mem_of_getElem? (i := 1050) (by decide +kernel), List.mem_of_getElem? (i := 1051) (by decide +kernel)⟩
theorem lw_p56 : lw_okq (⟨"RangeResolver$Solver", "isOpen", "(III)Z"⟩, 8) := ⟨⟨by decide +kernel, by decide +kernel⟩, List.mem_of_getElem? (i := 329) (by decide +kernel), List.mem_of_getElem? (i := 1060) (by decide +kernel), List.mem_of_getElem? (i := 1061) (by decide +kernel)⟩
theorem lw_p57 : lw_okq (⟨"RangeResolver$Solver", "lay", "(III)I"⟩, 8) := ⟨⟨by decide +kernel, by decide +kernel⟩, List.mem_of_getElem? (i := 329) (by decide +kernel), List.mem_of_getElem? (i := 1064) (by decide +kernel), List.mem_of_getElem? (i := 1065) (by decide +kernel)⟩
theorem lw_p58 : lw_okq (⟨"RangeResolver$Solver", "lockedValue", "(LRangeResolver$Finding;I)I"⟩, 8) := ⟨⟨by decide +kernel, by decide +kernel⟩, List.mem_of_getElem? (i := 329) (by decide +kernel), List.mem_of_getElem? (i := 1072) (by decide +kernel), List.mem_of_getElem? (i := 1073) (by decide +kernel)⟩
theorem lw_p59 : lw_okq (⟨"RangeResolver$Solver", "bestValue", "(II)I"⟩, 8) := ⟨⟨by decide +kernel, by decide +kernel⟩, List.mem_of_getElem? (i := 329) (by decide +kernel), List.mem_of_getElem? (i := 1084) (by decide +kernel), List.mem_of_getElem? (i := 1085) (by decide +kernel)⟩
theorem lw_p60 : lw_okq (⟨"RangeResolver$Solver", "leadsOn", "(II)Z"⟩, 8) := ⟨⟨by decide +kernel, by decide +kernel⟩, List.mem_of_getElem? (i := 329) (by decide +kernel), List.mem_of_getElem? (i := 1088) (by decide +kernel), List.mem_of_getElem? (i := 1089) (by decide +kernel)⟩
theorem lw_p61 : lw_okq (⟨"RangeResolver$Solver", "setActive", "(IZ)V"⟩, 8) := ⟨⟨by decide +kernel, by decide +kernel⟩, List.mem_of_getElem? (i := 329) (by decide +kernel), List.mem_of_getElem? (i := 1110) (by decide +kernel), List.mem_of_getElem? (i := 1111) (by decide +kernel)⟩
theorem lw_p62 : lw_okq (⟨"RangeResolver$Finding", "reaches", "(LRangeResolver$Constraint;I)Z"⟩, 6) := ⟨⟨by decide +kernel, by decide +kernel⟩, List.mem_of_getElem? (i := 361) (by decide +kernel), List.mem_of_getElem? (i := 1158) (by decide +kernel), List.mem_of_getElem? (i := 1159) (by decide +kernel)⟩
theorem lw_p63 : lw_okq (⟨"RangeResolver$Finding", "isTaken", "(LRangeResolver$Registry;LRangeResolver$Constraint;I)Z"⟩, 6) := ⟨⟨by decide +kernel, by decide +kernel⟩, List.mem_of_getElem? (i := 361) (by decide +kernel), List.mem_of_getElem? (i := 1165) (by decide +kernel), List.mem_of_getElem? (i := 1166) (by decide +kernel)⟩
def lw_privs_4 : List (MethodName × Nat) := [(⟨"RangeResolver$Page", "putKey", "(J)V"⟩, 6), (⟨"RangeResolver$Page", "putBytes", "([BII)V"⟩, 6), (⟨"RangeResolver", "putConstraint", "(LRangeResolver$Constraint;)V"⟩, 13), (⟨"RangeResolver$Solver", "weaveLink", "(I)V"⟩, 8), (⟨"RangeResolver$Solver", "isActive", "(I)Z"⟩, 8), (⟨"RangeResolver$Solver", "matchValues", "(IIII)V"⟩, 8), (⟨"RangeResolver$Solver", "openPack", "(I)V"⟩, 8), (⟨"RangeResolver$Solver", "smallestPack", "(IIZ)I"⟩, 8), (⟨"RangeResolver$Solver", "isOpen", "(III)Z"⟩, 8), (⟨"RangeResolver$Solver", "lay", "(III)I"⟩, 8), (⟨"RangeResolver$Solver", "lockedValue", "(LRangeResolver$Finding;I)I"⟩, 8), (⟨"RangeResolver$Solver", "bestValue", "(II)I"⟩, 8), (⟨"RangeResolver$Solver", "leadsOn", "(II)Z"⟩, 8), (⟨"RangeResolver$Solver", "setActive", "(IZ)V"⟩, 8), (⟨"RangeResolver$Finding", "reaches", "(LRangeResolver$Constraint;I)Z"⟩, 6), (⟨"RangeResolver$Finding", "isTaken", "(LRangeResolver$Registry;LRangeResolver$Constraint;I)Z"⟩, 6)]
theorem lw_r4 : ∀ q ∈ lw_privs_4, lw_okq q := List.forall_mem_cons.mpr ⟨lw_p48, List.forall_mem_cons.mpr ⟨lw_p49, List.forall_mem_cons.mpr ⟨lw_p50, List.forall_mem_cons.mpr ⟨lw_p51, List.forall_mem_cons.mpr ⟨lw_p52, List.forall_mem_cons.mpr ⟨lw_p53, List.forall_mem_cons.mpr ⟨lw_p54, List.forall_mem_cons.mpr ⟨lw_p55, List.forall_mem_cons.mpr ⟨lw_p56, List.forall_mem_cons.mpr ⟨lw_p57, List.forall_mem_cons.mpr ⟨lw_p58, List.forall_mem_cons.mpr ⟨lw_p59, List.forall_mem_cons.mpr ⟨lw_p60, List.forall_mem_cons.mpr ⟨lw_p61, List.forall_mem_cons.mpr ⟨lw_p62, List.forall_mem_cons.mpr ⟨lw_p63, fun _ h => absurd h List.not_mem_nil⟩⟩⟩⟩⟩⟩⟩⟩⟩⟩⟩⟩⟩⟩⟩⟩
theorem lw_p64 : lw_okq (⟨"RangeResolverModel", "full", "(I)V"⟩, 61) := ⟨⟨by decide +kernel, by decide +kernel⟩, List.mem_of_getElem? (i := 1185) (by decide +kernel), List.mem_of_getElem? (i := 1196) (by decide +kernel), List.mem_of_getElem? (i := 1197) (by decide +kernel)⟩
theorem lw_p65 : lw_okq (⟨"RangeResolverModel", "first", "([JI)V"⟩, 61) := ⟨⟨by decide +kernel, by decide +kernel⟩, List.mem_of_getElem? (i := 1185) (by decide +kernel), List.mem_of_getElem? (i := 1203) (by decide +kernel), List.mem_of_getElem? (i := 1204) (by decide +kernel)⟩
theorem lw_p66 : lw_okq (⟨"RangeResolverModel", "none", "([JI)V"⟩, 61) := ⟨⟨by decide +kernel, by decide +kernel⟩, List.mem_of_getElem? (i := 1185) (by decide +kernel), List.mem_of_getElem? (i := 1210) (by decide +kernel), List.mem_of_getElem? (i := 1211) (by decide +kernel)⟩
theorem lw_p67 : lw_okq (⟨"RangeResolverModel", "types", "(I)V"⟩, 61) := ⟨⟨by decide +kernel, by decide +kernel⟩, List.mem_of_getElem? (i := 1185) (by decide +kernel), List.mem_of_getElem? (i := 1403) (by decide +kernel), List.mem_of_getElem? (i := 1404) (by decide +kernel)⟩
theorem lw_p68 : lw_okq (⟨"RangeResolverModel", "takes", "(I)Z"⟩, 61) := ⟨⟨by decide +kernel, by decide +kernel⟩, List.mem_of_getElem? (i := 1185) (by decide +kernel), List.mem_of_getElem? (i := 1411) (by decide +kernel), List.mem_of_getElem? (i := 1412) (by decide +kernel)⟩
theorem lw_p69 : lw_okq (⟨"RangeResolverModel", "starts", "()V"⟩, 61) := ⟨⟨by decide +kernel, by decide +kernel⟩, List.mem_of_getElem? (i := 1185) (by decide +kernel), List.mem_of_getElem? (i := 1415) (by decide +kernel), List.mem_of_getElem? (i := 1416) (by decide +kernel)⟩
theorem lw_p70 : lw_okq (⟨"RangeResolverModel", "token", "()V"⟩, 61) := ⟨⟨by decide +kernel, by decide +kernel⟩, List.mem_of_getElem? (i := 1185) (by decide +kernel), List.mem_of_getElem? (i := 1419) (by decide +kernel), List.mem_of_getElem? (i := 1420) (by decide +kernel)⟩
theorem lw_p71 : lw_okq (⟨"RangeResolverModel", "at", "(I)I"⟩, 61) := ⟨⟨by decide +kernel, by decide +kernel⟩, List.mem_of_getElem? (i := 1185) (by decide +kernel), List.mem_of_getElem? (i := 1423) (by decide +kernel), List.mem_of_getElem? (i := 1424) (by decide +kernel)⟩
theorem lw_p72 : lw_okq (⟨"RangeResolverModel", "isWord", "(JI)Z"⟩, 61) := ⟨⟨by decide +kernel, by decide +kernel⟩, List.mem_of_getElem? (i := 1185) (by decide +kernel), List.mem_of_getElem? (i := 1434) (by decide +kernel), List.mem_of_getElem? (i := 1435) (by decide +kernel)⟩
theorem lw_p73 : lw_okq (⟨"RangeResolverModel", "part", "(II)V"⟩, 61) := ⟨⟨by decide +kernel, by decide +kernel⟩, List.mem_of_getElem? (i := 1185) (by decide +kernel), List.mem_of_getElem? (i := 1441) (by decide +kernel), List.mem_of_getElem? (i := 1442) (by decide +kernel)⟩
theorem lw_p74 : lw_okq (⟨"RangeResolverModel", "reads", "(II)I"⟩, 61) := ⟨⟨by decide +kernel, by decide +kernel⟩, List.mem_of_getElem? (i := 1185) (by decide +kernel), List.mem_of_getElem? (i := 1451) (by decide +kernel), List.mem_of_getElem? (i := 1452) (by decide +kernel)⟩
theorem lw_p75 : lw_okq (⟨"RangeResolverModel", "number", "(II)I"⟩, 61) := ⟨⟨by decide +kernel, by decide +kernel⟩, List.mem_of_getElem? (i := 1185) (by decide +kernel), List.mem_of_getElem? (i := 1455) (by decide +kernel), List.mem_of_getElem? (i := 1456) (by decide +kernel)⟩
theorem lw_p76 : lw_okq (⟨"RangeResolverModel", "rest", "(II)Z"⟩, 61) := ⟨⟨by decide +kernel, by decide +kernel⟩, List.mem_of_getElem? (i := 1185) (by decide +kernel), List.mem_of_getElem? (i := 1461) (by decide +kernel), List.mem_of_getElem? (i := 1462) (by decide +kernel)⟩
theorem lw_p77 : lw_okq (⟨"RangeResolverModel", "identifiers", "(IIZ)I"⟩, 61) := ⟨⟨by decide +kernel, by decide +kernel⟩, List.mem_of_getElem? (i := 1185) (by decide +kernel), List.mem_of_getElem? (i := 1465) (by decide +kernel), List.mem_of_getElem? (i := 1466) (by decide +kernel)⟩
theorem lw_p78 : lw_okq (⟨"RangeResolverModel", "range", "(I)Z"⟩, 61) := ⟨⟨by decide +kernel, by decide +kernel⟩, List.mem_of_getElem? (i := 1185) (by decide +kernel), List.mem_of_getElem? (i := 1469) (by decide +kernel), List.mem_of_getElem? (i := 1470) (by decide +kernel)⟩
theorem lw_p79 : lw_okq (⟨"RangeResolverModel", "fault", "(I)Z"⟩, 61) := ⟨⟨by decide +kernel, by decide +kernel⟩, List.mem_of_getElem? (i := 1185) (by decide +kernel), List.mem_of_getElem? (i := 1473) (by decide +kernel), List.mem_of_getElem? (i := 1474) (by decide +kernel)⟩
def lw_privs_5 : List (MethodName × Nat) := [(⟨"RangeResolverModel", "full", "(I)V"⟩, 61), (⟨"RangeResolverModel", "first", "([JI)V"⟩, 61), (⟨"RangeResolverModel", "none", "([JI)V"⟩, 61), (⟨"RangeResolverModel", "types", "(I)V"⟩, 61), (⟨"RangeResolverModel", "takes", "(I)Z"⟩, 61), (⟨"RangeResolverModel", "starts", "()V"⟩, 61), (⟨"RangeResolverModel", "token", "()V"⟩, 61), (⟨"RangeResolverModel", "at", "(I)I"⟩, 61), (⟨"RangeResolverModel", "isWord", "(JI)Z"⟩, 61), (⟨"RangeResolverModel", "part", "(II)V"⟩, 61), (⟨"RangeResolverModel", "reads", "(II)I"⟩, 61), (⟨"RangeResolverModel", "number", "(II)I"⟩, 61), (⟨"RangeResolverModel", "rest", "(II)Z"⟩, 61), (⟨"RangeResolverModel", "identifiers", "(IIZ)I"⟩, 61), (⟨"RangeResolverModel", "range", "(I)Z"⟩, 61), (⟨"RangeResolverModel", "fault", "(I)Z"⟩, 61)]
theorem lw_r5 : ∀ q ∈ lw_privs_5, lw_okq q := List.forall_mem_cons.mpr ⟨lw_p64, List.forall_mem_cons.mpr ⟨lw_p65, List.forall_mem_cons.mpr ⟨lw_p66, List.forall_mem_cons.mpr ⟨lw_p67, List.forall_mem_cons.mpr ⟨lw_p68, List.forall_mem_cons.mpr ⟨lw_p69, List.forall_mem_cons.mpr ⟨lw_p70, List.forall_mem_cons.mpr ⟨lw_p71, List.forall_mem_cons.mpr ⟨lw_p72, List.forall_mem_cons.mpr ⟨lw_p73, List.forall_mem_cons.mpr ⟨lw_p74, List.forall_mem_cons.mpr ⟨lw_p75, List.forall_mem_cons.mpr ⟨lw_p76, List.forall_mem_cons.mpr ⟨lw_p77, List.forall_mem_cons.mpr ⟨lw_p78, List.forall_mem_cons.mpr ⟨lw_p79, fun _ h => absurd h List.not_mem_nil⟩⟩⟩⟩⟩⟩⟩⟩⟩⟩⟩⟩⟩⟩⟩⟩
theorem lw_p80 : lw_okq (⟨"RangeResolverModel", "partRange", "(I)V"⟩, 61) := ⟨⟨by decide +kernel, by decide +kernel⟩, List.mem_of_getElem? (i := 1185) (by decide +kernel), List.mem_of_getElem? (i := 1477) (by decide +kernel), List.mem_of_getElem? (i := 1478) (by decide +kernel)⟩
theorem lw_p81 : lw_okq (⟨"RangeResolverModel", "upTo", "(II)V"⟩, 61) := ⟨⟨by decide +kernel, by decide +kernel⟩, List.mem_of_getElem? (i := 1185) (by decide +kernel), List.mem_of_getElem? (i := 1487) (by decide +kernel), List.mem_of_getElem? (i := 1488) (by decide +kernel)⟩
theorem lw_p82 : lw_okq (⟨"RangeResolverModel", "combined", "(IIII)I"⟩, 61) := ⟨⟨by decide +kernel, by decide +kernel⟩, List.mem_of_getElem? (i := 1185) (by decide +kernel), List.mem_of_getElem? (i := 1494) (by decide +kernel), List.mem_of_getElem? (i := 1495) (by decide +kernel)⟩
theorem lw_p83 : lw_okq (⟨"RangeResolverModel", "has", "(I[JI)Z"⟩, 61) := ⟨⟨by decide +kernel, by decide +kernel⟩, List.mem_of_getElem? (i := 1185) (by decide +kernel), List.mem_of_getElem? (i := 1498) (by decide +kernel), List.mem_of_getElem? (i := 1499) (by decide +kernel)⟩
theorem lw_p84 : lw_okq (⟨"RangeResolverModel", "nextEnd", "(II)Z"⟩, 61) := ⟨⟨by decide +kernel, by decide +kernel⟩, List.mem_of_getElem? (i := 1185) (by decide +kernel), List.mem_of_getElem? (i := 1505) (by decide +kernel), List.mem_of_getElem? (i := 1506) (by decide +kernel)⟩
theorem lw_p85 : lw_okq (⟨"RangeResolverModel", "copyRange", "(II)V"⟩, 61) := ⟨⟨by decide +kernel, by decide +kernel⟩, List.mem_of_getElem? (i := 1185) (by decide +kernel), List.mem_of_getElem? (i := 1509) (by decide +kernel), List.mem_of_getElem? (i := 1510) (by decide +kernel)⟩
theorem lw_p86 : lw_okq (⟨"RangeResolverModel", "registry", "(I)Z"⟩, 61) := ⟨⟨by decide +kernel, by decide +kernel⟩, List.mem_of_getElem? (i := 1185) (by decide +kernel), List.mem_of_getElem? (i := 1532) (by decide +kernel), List.mem_of_getElem? (i := 1533) (by decide +kernel)⟩
theorem lw_p87 : lw_okq (⟨"RangeResolverModel", "packageCalled", "(III)I"⟩, 61) := ⟨⟨by decide +kernel, by decide +kernel⟩, List.mem_of_getElem? (i := 1185) (by decide +kernel), List.mem_of_getElem? (i := 1536) (by decide +kernel), List.mem_of_getElem? (i := 1537) (by decide +kernel)⟩
theorem lw_p88 : lw_okq (⟨"RangeResolverModel", "isSame", "(IIII)Z"⟩, 61) := ⟨⟨by decide +kernel, by decide +kernel⟩, List.mem_of_getElem? (i := 1185) (by decide +kernel), List.mem_of_getElem? (i := 1540) (by decide +kernel), List.mem_of_getElem? (i := 1541) (by decide +kernel)⟩
theorem lw_p89 : lw_okq (⟨"RangeResolverModel", "release", "(I)Z"⟩, 61) := ⟨⟨by decide +kernel, by decide +kernel⟩, List.mem_of_getElem? (i := 1185) (by decide +kernel), List.mem_of_getElem? (i := 1544) (by decide +kernel), List.mem_of_getElem? (i := 1545) (by decide +kernel)⟩
theorem lw_p90 : lw_okq (⟨"RangeResolverModel", "constraint", "(III)Z"⟩, 61) := ⟨⟨by decide +kernel, by decide +kernel⟩, List.mem_of_getElem? (i := 1185) (by decide +kernel), List.mem_of_getElem? (i := 1548) (by decide +kernel), List.mem_of_getElem? (i := 1549) (by decide +kernel)⟩
theorem lw_p91 : lw_okq (⟨"RangeResolverModel", "keepRange", "(I)V"⟩, 61) := ⟨⟨by decide +kernel, by decide +kernel⟩, List.mem_of_getElem? (i := 1185) (by decide +kernel), List.mem_of_getElem? (i := 1552) (by decide +kernel), List.mem_of_getElem? (i := 1553) (by decide +kernel)⟩
theorem lw_p92 : lw_okq (⟨"RangeResolverModel", "constraints", "()I"⟩, 61) := ⟨⟨by decide +kernel, by decide +kernel⟩, List.mem_of_getElem? (i := 1185) (by decide +kernel), List.mem_of_getElem? (i := 1556) (by decide +kernel), List.mem_of_getElem? (i := 1557) (by decide +kernel)⟩
theorem lw_p93 : lw_okq (⟨"RangeResolverModel", "tables", "()V"⟩, 61) := ⟨⟨by decide +kernel, by decide +kernel⟩, List.mem_of_getElem? (i := 1185) (by decide +kernel), List.mem_of_getElem? (i := 1560) (by decide +kernel), List.mem_of_getElem? (i := 1561) (by decide +kernel)⟩
theorem lw_p94 : lw_okq (⟨"RangeResolverModel", "manyOf", "(I)I"⟩, 61) := ⟨⟨by decide +kernel, by decide +kernel⟩, List.mem_of_getElem? (i := 1185) (by decide +kernel), List.mem_of_getElem? (i := 1564) (by decide +kernel), List.mem_of_getElem? (i := 1565) (by decide +kernel)⟩
theorem lw_p95 : lw_okq (⟨"RangeResolverModel", "first", "(I)I"⟩, 61) := ⟨⟨by decide +kernel, by decide +kernel⟩, List.mem_of_getElem? (i := 1185) (by decide +kernel), List.mem_of_getElem? (i := 1568) (by decide +kernel), List.mem_of_getElem? (i := 1569) (by decide +kernel)⟩
def lw_privs_6 : List (MethodName × Nat) := [(⟨"RangeResolverModel", "partRange", "(I)V"⟩, 61), (⟨"RangeResolverModel", "upTo", "(II)V"⟩, 61), (⟨"RangeResolverModel", "combined", "(IIII)I"⟩, 61), (⟨"RangeResolverModel", "has", "(I[JI)Z"⟩, 61), (⟨"RangeResolverModel", "nextEnd", "(II)Z"⟩, 61), (⟨"RangeResolverModel", "copyRange", "(II)V"⟩, 61), (⟨"RangeResolverModel", "registry", "(I)Z"⟩, 61), (⟨"RangeResolverModel", "packageCalled", "(III)I"⟩, 61), (⟨"RangeResolverModel", "isSame", "(IIII)Z"⟩, 61), (⟨"RangeResolverModel", "release", "(I)Z"⟩, 61), (⟨"RangeResolverModel", "constraint", "(III)Z"⟩, 61), (⟨"RangeResolverModel", "keepRange", "(I)V"⟩, 61), (⟨"RangeResolverModel", "constraints", "()I"⟩, 61), (⟨"RangeResolverModel", "tables", "()V"⟩, 61), (⟨"RangeResolverModel", "manyOf", "(I)I"⟩, 61), (⟨"RangeResolverModel", "first", "(I)I"⟩, 61)]
theorem lw_r6 : ∀ q ∈ lw_privs_6, lw_okq q := List.forall_mem_cons.mpr ⟨lw_p80, List.forall_mem_cons.mpr ⟨lw_p81, List.forall_mem_cons.mpr ⟨lw_p82, List.forall_mem_cons.mpr ⟨lw_p83, List.forall_mem_cons.mpr ⟨lw_p84, List.forall_mem_cons.mpr ⟨lw_p85, List.forall_mem_cons.mpr ⟨lw_p86, List.forall_mem_cons.mpr ⟨lw_p87, List.forall_mem_cons.mpr ⟨lw_p88, List.forall_mem_cons.mpr ⟨lw_p89, List.forall_mem_cons.mpr ⟨lw_p90, List.forall_mem_cons.mpr ⟨lw_p91, List.forall_mem_cons.mpr ⟨lw_p92, List.forall_mem_cons.mpr ⟨lw_p93, List.forall_mem_cons.mpr ⟨lw_p94, List.forall_mem_cons.mpr ⟨lw_p95, fun _ h => absurd h List.not_mem_nil⟩⟩⟩⟩⟩⟩⟩⟩⟩⟩⟩⟩⟩⟩⟩⟩
theorem lw_p96 : lw_okq (⟨"RangeResolverModel", "allOn", "(Z)V"⟩, 61) := ⟨⟨by decide +kernel, by decide +kernel⟩, List.mem_of_getElem? (i := 1185) (by decide +kernel), List.mem_of_getElem? (i := 1576) (by decide +kernel), List.mem_of_getElem? (i := 1577) (by decide +kernel)⟩
theorem lw_p97 : lw_okq (⟨"RangeResolverModel", "solved", "(I)I"⟩, 61) := ⟨⟨by decide +kernel, by decide +kernel⟩, List.mem_of_getElem? (i := 1185) (by decide +kernel), List.mem_of_getElem? (i := 1580) (by decide +kernel), List.mem_of_getElem? (i := 1581) (by decide +kernel)⟩
theorem lw_p98 : lw_okq (⟨"RangeResolverModel", "opens", "()Z"⟩, 61) := ⟨⟨by decide +kernel, by decide +kernel⟩, List.mem_of_getElem? (i := 1185) (by decide +kernel), List.mem_of_getElem? (i := 1584) (by decide +kernel), List.mem_of_getElem? (i := 1585) (by decide +kernel)⟩
theorem lw_p99 : lw_okq (⟨"RangeResolverModel", "pairs", "()V"⟩, 61) := ⟨⟨by decide +kernel, by decide +kernel⟩, List.mem_of_getElem? (i := 1185) (by decide +kernel), List.mem_of_getElem? (i := 1588) (by decide +kernel), List.mem_of_getElem? (i := 1589) (by decide +kernel)⟩
theorem lw_p100 : lw_okq (⟨"RangeResolverModel", "sifts", "(I)Z"⟩, 61) := ⟨⟨by decide +kernel, by decide +kernel⟩, List.mem_of_getElem? (i := 1185) (by decide +kernel), List.mem_of_getElem? (i := 1595) (by decide +kernel), List.mem_of_getElem? (i := 1596) (by decide +kernel)⟩
theorem lw_p101 : lw_okq (⟨"RangeResolverModel", "fewest", "(I)I"⟩, 61) := ⟨⟨by decide +kernel, by decide +kernel⟩, List.mem_of_getElem? (i := 1185) (by decide +kernel), List.mem_of_getElem? (i := 1599) (by decide +kernel), List.mem_of_getElem? (i := 1600) (by decide +kernel)⟩
theorem lw_p102 : lw_okq (⟨"RangeResolverModel", "findsReason", "()V"⟩, 61) := ⟨⟨by decide +kernel, by decide +kernel⟩, List.mem_of_getElem? (i := 1185) (by decide +kernel), List.mem_of_getElem? (i := 1606) (by decide +kernel), List.mem_of_getElem? (i := 1607) (by decide +kernel)⟩
theorem lw_p103 : lw_okq (⟨"RangeResolverModel", "rows", "(IZ)V"⟩, 61) := ⟨⟨by decide +kernel, by decide +kernel⟩, List.mem_of_getElem? (i := 1185) (by decide +kernel), List.mem_of_getElem? (i := 1610) (by decide +kernel), List.mem_of_getElem? (i := 1611) (by decide +kernel)⟩
theorem lw_p104 : lw_okq (⟨"RangeResolverModel", "isWanted", "(I)Z"⟩, 61) := ⟨⟨by decide +kernel, by decide +kernel⟩, List.mem_of_getElem? (i := 1185) (by decide +kernel), List.mem_of_getElem? (i := 1614) (by decide +kernel), List.mem_of_getElem? (i := 1615) (by decide +kernel)⟩
theorem lw_p105 : lw_okq (⟨"RangeResolverModel", "saysRange", "(I)V"⟩, 61) := ⟨⟨by decide +kernel, by decide +kernel⟩, List.mem_of_getElem? (i := 1185) (by decide +kernel), List.mem_of_getElem? (i := 1643) (by decide +kernel), List.mem_of_getElem? (i := 1644) (by decide +kernel)⟩
theorem lw_p106 : lw_okq (⟨"RangeResolverModel", "says", "(I)V"⟩, 61) := ⟨⟨by decide +kernel, by decide +kernel⟩, List.mem_of_getElem? (i := 1185) (by decide +kernel), List.mem_of_getElem? (i := 1647) (by decide +kernel), List.mem_of_getElem? (i := 1648) (by decide +kernel)⟩
theorem lw_p107 : lw_okq (⟨"RangeResolverModel", "saysStretch", "(II)V"⟩, 61) := ⟨⟨by decide +kernel, by decide +kernel⟩, List.mem_of_getElem? (i := 1185) (by decide +kernel), List.mem_of_getElem? (i := 1651) (by decide +kernel), List.mem_of_getElem? (i := 1652) (by decide +kernel)⟩
theorem lw_p108 : lw_okq (⟨"RangeResolverModel", "saysVersion", "([JI)V"⟩, 61) := ⟨⟨by decide +kernel, by decide +kernel⟩, List.mem_of_getElem? (i := 1185) (by decide +kernel), List.mem_of_getElem? (i := 1655) (by decide +kernel), List.mem_of_getElem? (i := 1656) (by decide +kernel)⟩
theorem lw_p109 : lw_okq (⟨"RangeResolverModel", "saysNumber", "(J)V"⟩, 61) := ⟨⟨by decide +kernel, by decide +kernel⟩, List.mem_of_getElem? (i := 1185) (by decide +kernel), List.mem_of_getElem? (i := 1659) (by decide +kernel), List.mem_of_getElem? (i := 1660) (by decide +kernel)⟩
theorem lw_p110 : lw_okq (⟨"RangeResolverModel", "saysRelease", "(I)V"⟩, 61) := ⟨⟨by decide +kernel, by decide +kernel⟩, List.mem_of_getElem? (i := 1185) (by decide +kernel), List.mem_of_getElem? (i := 1664) (by decide +kernel), List.mem_of_getElem? (i := 1665) (by decide +kernel)⟩
theorem lw_p111 : lw_okq (⟨"RangeResolverModel", "saysText", "(II)V"⟩, 61) := ⟨⟨by decide +kernel, by decide +kernel⟩, List.mem_of_getElem? (i := 1185) (by decide +kernel), List.mem_of_getElem? (i := 1668) (by decide +kernel), List.mem_of_getElem? (i := 1669) (by decide +kernel)⟩
def lw_privs_7 : List (MethodName × Nat) := [(⟨"RangeResolverModel", "allOn", "(Z)V"⟩, 61), (⟨"RangeResolverModel", "solved", "(I)I"⟩, 61), (⟨"RangeResolverModel", "opens", "()Z"⟩, 61), (⟨"RangeResolverModel", "pairs", "()V"⟩, 61), (⟨"RangeResolverModel", "sifts", "(I)Z"⟩, 61), (⟨"RangeResolverModel", "fewest", "(I)I"⟩, 61), (⟨"RangeResolverModel", "findsReason", "()V"⟩, 61), (⟨"RangeResolverModel", "rows", "(IZ)V"⟩, 61), (⟨"RangeResolverModel", "isWanted", "(I)Z"⟩, 61), (⟨"RangeResolverModel", "saysRange", "(I)V"⟩, 61), (⟨"RangeResolverModel", "says", "(I)V"⟩, 61), (⟨"RangeResolverModel", "saysStretch", "(II)V"⟩, 61), (⟨"RangeResolverModel", "saysVersion", "([JI)V"⟩, 61), (⟨"RangeResolverModel", "saysNumber", "(J)V"⟩, 61), (⟨"RangeResolverModel", "saysRelease", "(I)V"⟩, 61), (⟨"RangeResolverModel", "saysText", "(II)V"⟩, 61)]
theorem lw_r7 : ∀ q ∈ lw_privs_7, lw_okq q := List.forall_mem_cons.mpr ⟨lw_p96, List.forall_mem_cons.mpr ⟨lw_p97, List.forall_mem_cons.mpr ⟨lw_p98, List.forall_mem_cons.mpr ⟨lw_p99, List.forall_mem_cons.mpr ⟨lw_p100, List.forall_mem_cons.mpr ⟨lw_p101, List.forall_mem_cons.mpr ⟨lw_p102, List.forall_mem_cons.mpr ⟨lw_p103, List.forall_mem_cons.mpr ⟨lw_p104, List.forall_mem_cons.mpr ⟨lw_p105, List.forall_mem_cons.mpr ⟨lw_p106, List.forall_mem_cons.mpr ⟨lw_p107, List.forall_mem_cons.mpr ⟨lw_p108, List.forall_mem_cons.mpr ⟨lw_p109, List.forall_mem_cons.mpr ⟨lw_p110, List.forall_mem_cons.mpr ⟨lw_p111, fun _ h => absurd h List.not_mem_nil⟩⟩⟩⟩⟩⟩⟩⟩⟩⟩⟩⟩⟩⟩⟩⟩
theorem lw_p112 : lw_okq (⟨"RangeResolverModel", "saysWord", "(J)V"⟩, 61) := ⟨⟨by decide +kernel, by decide +kernel⟩, List.mem_of_getElem? (i := 1185) (by decide +kernel), List.mem_of_getElem? (i := 1672) (by decide +kernel), List.mem_of_getElem? (i := 1673) (by decide +kernel)⟩
def lw_privs_8 : List (MethodName × Nat) := [(⟨"RangeResolverModel", "saysWord", "(J)V"⟩, 61)]
theorem lw_r8 : ∀ q ∈ lw_privs_8, lw_okq q := List.forall_mem_cons.mpr ⟨lw_p112, fun _ h => absurd h List.not_mem_nil⟩
def lw_privs : List (MethodName × Nat) := lw_privs_1 ++ (lw_privs_2 ++ (lw_privs_3 ++ (lw_privs_4 ++ (lw_privs_5 ++ (lw_privs_6 ++ (lw_privs_7 ++ (lw_privs_8)))))))
def lw_tbl : List Cond := k2_sels lw_privs ++ tables_1
theorem lw_privs_ok : ∀ q ∈ lw_privs, lw_okq q := by
  show ∀ q ∈ lw_privs_1 ++ (lw_privs_2 ++ (lw_privs_3 ++ (lw_privs_4 ++ (lw_privs_5 ++ (lw_privs_6 ++ (lw_privs_7 ++ (lw_privs_8))))))), lw_okq q
  exact List.forall_mem_append.mpr ⟨lw_r1, List.forall_mem_append.mpr ⟨lw_r2, List.forall_mem_append.mpr ⟨lw_r3, List.forall_mem_append.mpr ⟨lw_r4, List.forall_mem_append.mpr ⟨lw_r5, List.forall_mem_append.mpr ⟨lw_r6, List.forall_mem_append.mpr ⟨lw_r7, lw_r8⟩⟩⟩⟩⟩⟩⟩
def RX0 : String := "RangeResolver$Constraint"
def TX0 : u_T := fun k => match k with
  | 0 => ("RangeResolver$Constraint", "kind", "I", false)
  | 1 => ("RangeResolver$Constraint", "holder", "I", false)
  | 2 => ("RangeResolver$Constraint", "nameFrom", "I", false)
  | 3 => ("RangeResolver$Constraint", "nameTo", "I", false)
  | 4 => ("RangeResolver$Constraint", "target", "I", false)
  | 5 => ("RangeResolver$Constraint", "rangeFrom", "I", false)
  | 6 => ("RangeResolver$Constraint", "rangeTo", "I", false)
  | _ => ("RangeResolver$Constraint", "within", "I", false)
def tyX0 : Nat → FieldType := fun k => match k with
  | 0 => .int
  | 1 => .int
  | 2 => .int
  | 3 => .int
  | 4 => .int
  | 5 => .int
  | 6 => .int
  | _ => .int
abbrev wsX00 : List Cond := u_ws RX0 TX0 8
theorem nmX0 : ∀ a, a < 8 → ∀ b, b < 8 → a ≠ b → (TX0 a).2.1 ≠ (TX0 b).2.1 := by decide +kernel
theorem tyX0_ok : ∀ k, k < 8 → parseFieldDescriptor (TX0 k).2.2.1 = some (tyX0 k) := by decide +kernel
abbrev cX0_init : ByteArray := prog_2_method_1_code
def yX0_init : MethodName := ⟨RX0, "<init>", "()V"⟩
def RX1 : String := "RangeResolver$Finding"
def TX1 : u_T := fun k => match k with
  | 0 => ("RangeResolver$Finding", "kind", "I", false)
  | 1 => ("RangeResolver$Finding", "packs", "I", false)
  | 2 => ("RangeResolver$Finding", "releases", "[I", true)
  | 3 => ("RangeResolver$Finding", "accused", "[I", true)
  | 4 => ("RangeResolver$Finding", "accusedCount", "I", false)
  | _ => ("RangeResolver$Finding", "steps", "[I", true)
def tyX1 : Nat → FieldType := fun k => match k with
  | 0 => .int
  | 1 => .int
  | 2 => .array .int
  | 3 => .array .int
  | 4 => .int
  | _ => .array .int
abbrev wsX10 : List Cond := u_ws RX1 TX1 6
theorem nmX1 : ∀ a, a < 6 → ∀ b, b < 6 → a ≠ b → (TX1 a).2.1 ≠ (TX1 b).2.1 := by decide +kernel
theorem tyX1_ok : ∀ k, k < 6 → parseFieldDescriptor (TX1 k).2.2.1 = some (tyX1 k) := by decide +kernel
abbrev cX1_init : ByteArray := prog_3_method_1_code
def yX1_init : MethodName := ⟨RX1, "<init>", "()V"⟩
abbrev cX1_forget : ByteArray := prog_3_method_2_code
def yX1_forget : MethodName := ⟨RX1, "forget", "()V"⟩
abbrev cX1_startSolution : ByteArray := prog_3_method_3_code
def yX1_startSolution : MethodName := ⟨RX1, "startSolution", "(I)V"⟩
abbrev cX1_pick : ByteArray := prog_3_method_4_code
def yX1_pick : MethodName := ⟨RX1, "pick", "(II)V"⟩
abbrev cX1_startReason : ByteArray := prog_3_method_5_code
def yX1_startReason : MethodName := ⟨RX1, "startReason", "()V"⟩
abbrev cX1_accuse : ByteArray := prog_3_method_6_code
def yX1_accuse : MethodName := ⟨RX1, "accuse", "(I)V"⟩
abbrev cX1_isSolved : ByteArray := prog_3_method_7_code
def yX1_isSolved : MethodName := ⟨RX1, "isSolved", "()Z"⟩
abbrev cX1_releaseOf : ByteArray := prog_3_method_8_code
def yX1_releaseOf : MethodName := ⟨RX1, "releaseOf", "(I)I"⟩
abbrev cX1_accusedAt : ByteArray := prog_3_method_9_code
def yX1_accusedAt : MethodName := ⟨RX1, "accusedAt", "(I)I"⟩
abbrev cX1_accused : ByteArray := prog_3_method_10_code
def yX1_accused : MethodName := ⟨RX1, "accused", "()I"⟩
abbrev cX1_picked : ByteArray := prog_3_method_11_code
def yX1_picked : MethodName := ⟨RX1, "picked", "()I"⟩
abbrev cX1_reachedBy : ByteArray := prog_3_method_12_code
def yX1_reachedBy : MethodName := ⟨RX1, "reachedBy", "(LRangeResolver$Registry;I)I"⟩
abbrev cX1_isTaken : ByteArray := prog_3_method_13_code
def yX1_isTaken : MethodName := ⟨RX1, "isTaken", "(LRangeResolver$Registry;LRangeResolver$Constraint;I)Z"⟩
abbrev cX1_reaches : ByteArray := prog_3_method_14_code
def yX1_reaches : MethodName := ⟨RX1, "reaches", "(LRangeResolver$Constraint;I)Z"⟩
abbrev cX1_targetIs : ByteArray := prog_3_method_15_code
def yX1_targetIs : MethodName := ⟨RX1, "targetIs", "(LRangeResolver$Constraint;I)Z"⟩
def RX2 : String := "RangeResolver$Pack"
def TX2 : u_T := fun k => match k with
  | 0 => ("RangeResolver$Pack", "falling", "[I", true)
  | 1 => ("RangeResolver$Pack", "nameFrom", "I", false)
  | 2 => ("RangeResolver$Pack", "nameTo", "I", false)
  | 3 => ("RangeResolver$Pack", "firstRelease", "I", false)
  | _ => ("RangeResolver$Pack", "releases", "I", false)
def tyX2 : Nat → FieldType := fun k => match k with
  | 0 => .array .int
  | 1 => .int
  | 2 => .int
  | 3 => .int
  | _ => .int
abbrev wsX20 : List Cond := u_ws RX2 TX2 5
theorem nmX2 : ∀ a, a < 5 → ∀ b, b < 5 → a ≠ b → (TX2 a).2.1 ≠ (TX2 b).2.1 := by decide +kernel
theorem tyX2_ok : ∀ k, k < 5 → parseFieldDescriptor (TX2 k).2.2.1 = some (tyX2 k) := by decide +kernel
abbrev cX2_init : ByteArray := prog_4_method_1_code
def yX2_init : MethodName := ⟨RX2, "<init>", "()V"⟩
abbrev cX2_fallingAt : ByteArray := prog_4_method_2_code
def yX2_fallingAt : MethodName := ⟨RX2, "fallingAt", "(I)I"⟩
abbrev cX2_insertRelease : ByteArray := prog_4_method_3_code
def yX2_insertRelease : MethodName := ⟨RX2, "insertRelease", "(I)V"⟩
def RX3 : String := "RangeResolver$Page"
def TX3 : u_T := fun k => match k with
  | 0 => ("RangeResolver$Page", "bytes", "[B", true)
  | 1 => ("RangeResolver$Page", "length", "I", false)
  | 2 => ("RangeResolver$Page", "digits", "[B", true)
  | 3 => ("RangeResolver$Page", "low", "[J", true)
  | 4 => ("RangeResolver$Page", "high", "[J", true)
  | _ => ("RangeResolver$Page", "next", "[J", true)
def tyX3 : Nat → FieldType := fun k => match k with
  | 0 => .array .byte
  | 1 => .int
  | 2 => .array .byte
  | 3 => .array .long
  | 4 => .array .long
  | _ => .array .long
abbrev wsX30 : List Cond := u_ws RX3 TX3 6
theorem nmX3 : ∀ a, a < 6 → ∀ b, b < 6 → a ≠ b → (TX3 a).2.1 ≠ (TX3 b).2.1 := by decide +kernel
theorem tyX3_ok : ∀ k, k < 6 → parseFieldDescriptor (TX3 k).2.2.1 = some (tyX3 k) := by decide +kernel
abbrev cX3_init : ByteArray := prog_5_method_1_code
def yX3_init : MethodName := ⟨RX3, "<init>", "()V"⟩
abbrev cX3_clear : ByteArray := prog_5_method_2_code
def yX3_clear : MethodName := ⟨RX3, "clear", "()V"⟩
abbrev cX3_length : ByteArray := prog_5_method_3_code
def yX3_length : MethodName := ⟨RX3, "length", "()I"⟩
abbrev cX3_byteAt : ByteArray := prog_5_method_4_code
def yX3_byteAt : MethodName := ⟨RX3, "byteAt", "(I)I"⟩
abbrev cX3_putRange : ByteArray := prog_5_method_5_code
def yX3_putRange : MethodName := ⟨RX3, "putRange", "(LRangeResolver$Range;)V"⟩
abbrev cX3_putRelease : ByteArray := prog_5_method_6_code
def yX3_putRelease : MethodName := ⟨RX3, "putRelease", "(LRangeResolver$Registry;I)V"⟩
abbrev cX3_putLink : ByteArray := prog_5_method_7_code
def yX3_putLink : MethodName := ⟨RX3, "putLink", "(LRangeResolver$Registry;LRangeResolver$Constraint;)V"⟩
abbrev cX3_putStretch : ByteArray := prog_5_method_8_code
def yX3_putStretch : MethodName := ⟨RX3, "putStretch", "()V"⟩
abbrev cX3_putVersion : ByteArray := prog_5_method_9_code
def yX3_putVersion : MethodName := ⟨RX3, "putVersion", "([J)V"⟩
abbrev cX3_putKey : ByteArray := prog_5_method_10_code
def yX3_putKey : MethodName := ⟨RX3, "putKey", "(J)V"⟩
abbrev cX3_putNumber : ByteArray := prog_5_method_11_code
def yX3_putNumber : MethodName := ⟨RX3, "putNumber", "(J)V"⟩
abbrev cX3_putText : ByteArray := prog_5_method_12_code
def yX3_putText : MethodName := ⟨RX3, "putText", "(Ljava/lang/String;)V"⟩
abbrev cX3_putBytes : ByteArray := prog_5_method_13_code
def yX3_putBytes : MethodName := ⟨RX3, "putBytes", "([BII)V"⟩
abbrev cX3_putSign : ByteArray := prog_5_method_14_code
def yX3_putSign : MethodName := ⟨RX3, "putSign", "(I)V"⟩
def RX4 : String := "RangeResolver$Range"
def TX4 : u_T := fun k => match k with
  | 0 => ("RangeResolver$Range", "rows", "[J", true)
  | _ => ("RangeResolver$Range", "bounds", "I", false)
def tyX4 : Nat → FieldType := fun k => match k with
  | 0 => .array .long
  | _ => .int
abbrev wsX40 : List Cond := u_ws RX4 TX4 2
theorem nmX4 : ∀ a, a < 2 → ∀ b, b < 2 → a ≠ b → (TX4 a).2.1 ≠ (TX4 b).2.1 := by decide +kernel
theorem tyX4_ok : ∀ k, k < 2 → parseFieldDescriptor (TX4 k).2.2.1 = some (tyX4 k) := by decide +kernel
abbrev cX4_init : ByteArray := prog_6_method_1_code
def yX4_init : MethodName := ⟨RX4, "<init>", "(I)V"⟩
abbrev cX4_stretches : ByteArray := prog_6_method_2_code
def yX4_stretches : MethodName := ⟨RX4, "stretches", "()I"⟩
abbrev cX4_clear : ByteArray := prog_6_method_3_code
def yX4_clear : MethodName := ⟨RX4, "clear", "()V"⟩
abbrev cX4_setAll : ByteArray := prog_6_method_4_code
def yX4_setAll : MethodName := ⟨RX4, "setAll", "()V"⟩
abbrev cX4_setStretch : ByteArray := prog_6_method_5_code
def yX4_setStretch : MethodName := ⟨RX4, "setStretch", "([J[J)V"⟩
abbrev cX4_setTo : ByteArray := prog_6_method_6_code
def yX4_setTo : MethodName := ⟨RX4, "setTo", "(LRangeResolver$Range;)V"⟩
abbrev cX4_setJoin : ByteArray := prog_6_method_7_code
def yX4_setJoin : MethodName := ⟨RX4, "setJoin", "(ILRangeResolver$Range;LRangeResolver$Range;)V"⟩
abbrev cX4_has : ByteArray := prog_6_method_8_code
def yX4_has : MethodName := ⟨RX4, "has", "([J)Z"⟩
abbrev cX4_isAll : ByteArray := prog_6_method_9_code
def yX4_isAll : MethodName := ⟨RX4, "isAll", "()Z"⟩
abbrev cX4_copyBound : ByteArray := prog_6_method_10_code
def yX4_copyBound : MethodName := ⟨RX4, "copyBound", "(I[J)V"⟩
abbrev cX4_sideOfLower : ByteArray := prog_6_method_11_code
def yX4_sideOfLower : MethodName := ⟨RX4, "sideOfLower", "(LRangeResolver$Range;ILRangeResolver$Range;I)I"⟩
abbrev cX4_isKept : ByteArray := prog_6_method_12_code
def yX4_isKept : MethodName := ⟨RX4, "isKept", "(IZZ)Z"⟩
abbrev cX4_addBound : ByteArray := prog_6_method_13_code
def yX4_addBound : MethodName := ⟨RX4, "addBound", "([JI)V"⟩
def RX5 : String := "RangeResolver$RangeReader"
def TX5 : u_T := fun k => match k with
  | 0 => ("RangeResolver$RangeReader", "version", "LRangeResolver$Version;", true)
  | 1 => ("RangeResolver$RangeReader", "partLow", "[J", true)
  | 2 => ("RangeResolver$RangeReader", "partHigh", "[J", true)
  | 3 => ("RangeResolver$RangeReader", "low", "[J", true)
  | 4 => ("RangeResolver$RangeReader", "high", "[J", true)
  | 5 => ("RangeResolver$RangeReader", "one", "LRangeResolver$Range;", true)
  | 6 => ("RangeResolver$RangeReader", "both", "LRangeResolver$Range;", true)
  | _ => ("RangeResolver$RangeReader", "stop", "I", false)
def tyX5 : Nat → FieldType := fun k => match k with
  | 0 => .object "RangeResolver$Version"
  | 1 => .array .long
  | 2 => .array .long
  | 3 => .array .long
  | 4 => .array .long
  | 5 => .object "RangeResolver$Range"
  | 6 => .object "RangeResolver$Range"
  | _ => .int
abbrev wsX50 : List Cond := u_ws RX5 TX5 8
theorem nmX5 : ∀ a, a < 8 → ∀ b, b < 8 → a ≠ b → (TX5 a).2.1 ≠ (TX5 b).2.1 := by decide +kernel
theorem tyX5_ok : ∀ k, k < 8 → parseFieldDescriptor (TX5 k).2.2.1 = some (tyX5 k) := by decide +kernel
abbrev cX5_init : ByteArray := prog_7_method_1_code
def yX5_init : MethodName := ⟨RX5, "<init>", "()V"⟩
abbrev cX5_stop : ByteArray := prog_7_method_2_code
def yX5_stop : MethodName := ⟨RX5, "stop", "()I"⟩
abbrev cX5_check : ByteArray := prog_7_method_3_code
def yX5_check : MethodName := ⟨RX5, "check", "(LRangeResolver$Tokens;I)I"⟩
abbrev cX5_take : ByteArray := prog_7_method_4_code
def yX5_take : MethodName := ⟨RX5, "take", "([BLRangeResolver$Tokens;LRangeResolver$Range;)V"⟩
abbrev cX5_openAll : ByteArray := prog_7_method_5_code
def yX5_openAll : MethodName := ⟨RX5, "openAll", "()V"⟩
abbrev cX5_narrowAll : ByteArray := prog_7_method_6_code
def yX5_narrowAll : MethodName := ⟨RX5, "narrowAll", "()V"⟩
abbrev cX5_closeAll : ByteArray := prog_7_method_7_code
def yX5_closeAll : MethodName := ⟨RX5, "closeAll", "(LRangeResolver$Range;)V"⟩
abbrev cX5_takePart : ByteArray := prog_7_method_8_code
def yX5_takePart : MethodName := ⟨RX5, "takePart", "([BII)V"⟩
abbrev cX5_startAbove : ByteArray := prog_7_method_9_code
def yX5_startAbove : MethodName := ⟨RX5, "startAbove", "(ZZ)V"⟩
abbrev cX5_endBelow : ByteArray := prog_7_method_10_code
def yX5_endBelow : MethodName := ⟨RX5, "endBelow", "(ZZ)V"⟩
abbrev cX5_raiseEnd : ByteArray := prog_7_method_11_code
def yX5_raiseEnd : MethodName := ⟨RX5, "raiseEnd", "(IZ)V"⟩
abbrev cX5_raisePast : ByteArray := prog_7_method_12_code
def yX5_raisePast : MethodName := ⟨RX5, "raisePast", "([JZ)V"⟩
abbrev cX5_firstThatIsNotZero : ByteArray := prog_7_method_13_code
def yX5_firstThatIsNotZero : MethodName := ⟨RX5, "firstThatIsNotZero", "()I"⟩
def RX6 : String := "RangeResolver$Registry"
def TX6 : u_T := fun k => match k with
  | 0 => ("RangeResolver$Registry", "text", "[B", true)
  | 1 => ("RangeResolver$Registry", "packs", "[LRangeResolver$Pack;", true)
  | 2 => ("RangeResolver$Registry", "releases", "[LRangeResolver$Release;", true)
  | 3 => ("RangeResolver$Registry", "constraints", "[LRangeResolver$Constraint;", true)
  | 4 => ("RangeResolver$Registry", "packCount", "I", false)
  | 5 => ("RangeResolver$Registry", "releaseCount", "I", false)
  | 6 => ("RangeResolver$Registry", "constraintCount", "I", false)
  | 7 => ("RangeResolver$Registry", "linkCount", "I", false)
  | 8 => ("RangeResolver$Registry", "version", "LRangeResolver$Version;", true)
  | 9 => ("RangeResolver$Registry", "at", "I", false)
  | _ => ("RangeResolver$Registry", "fault", "I", false)
def tyX6 : Nat → FieldType := fun k => match k with
  | 0 => .array .byte
  | 1 => .array (.object "RangeResolver$Pack")
  | 2 => .array (.object "RangeResolver$Release")
  | 3 => .array (.object "RangeResolver$Constraint")
  | 4 => .int
  | 5 => .int
  | 6 => .int
  | 7 => .int
  | 8 => .object "RangeResolver$Version"
  | 9 => .int
  | _ => .int
abbrev wsX60 : List Cond := u_ws RX6 TX6 11
theorem nmX6 : ∀ a, a < 11 → ∀ b, b < 11 → a ≠ b → (TX6 a).2.1 ≠ (TX6 b).2.1 := by decide +kernel
theorem tyX6_ok : ∀ k, k < 11 → parseFieldDescriptor (TX6 k).2.2.1 = some (tyX6 k) := by decide +kernel
abbrev cX6_init : ByteArray := prog_8_method_1_code
def yX6_init : MethodName := ⟨RX6, "<init>", "()V"⟩
abbrev cX6_clear : ByteArray := prog_8_method_2_code
def yX6_clear : MethodName := ⟨RX6, "clear", "()V"⟩
abbrev cX6_packs : ByteArray := prog_8_method_3_code
def yX6_packs : MethodName := ⟨RX6, "packs", "()I"⟩
abbrev cX6_releases : ByteArray := prog_8_method_4_code
def yX6_releases : MethodName := ⟨RX6, "releases", "()I"⟩
abbrev cX6_constraints : ByteArray := prog_8_method_5_code
def yX6_constraints : MethodName := ⟨RX6, "constraints", "()I"⟩
abbrev cX6_links : ByteArray := prog_8_method_6_code
def yX6_links : MethodName := ⟨RX6, "links", "()I"⟩
abbrev cX6_packAt : ByteArray := prog_8_method_7_code
def yX6_packAt : MethodName := ⟨RX6, "packAt", "(I)LRangeResolver$Pack;"⟩
abbrev cX6_releaseAt : ByteArray := prog_8_method_8_code
def yX6_releaseAt : MethodName := ⟨RX6, "releaseAt", "(I)LRangeResolver$Release;"⟩
abbrev cX6_constraintAt : ByteArray := prog_8_method_9_code
def yX6_constraintAt : MethodName := ⟨RX6, "constraintAt", "(I)LRangeResolver$Constraint;"⟩
abbrev cX6_releasesWithin : ByteArray := prog_8_method_10_code
def yX6_releasesWithin : MethodName := ⟨RX6, "releasesWithin", "(ILRangeResolver$Range;)I"⟩
abbrev cX6_setText : ByteArray := prog_8_method_11_code
def yX6_setText : MethodName := ⟨RX6, "setText", "([BI)V"⟩
abbrev cX6_take : ByteArray := prog_8_method_12_code
def yX6_take : MethodName := ⟨RX6, "take", "(LRangeResolver$Tokens;LRangeResolver$RangeReader;)I"⟩
abbrev cX6_takePackages : ByteArray := prog_8_method_13_code
def yX6_takePackages : MethodName := ⟨RX6, "takePackages", "(LRangeResolver$Tokens;LRangeResolver$RangeReader;)Z"⟩
abbrev cX6_takeName : ByteArray := prog_8_method_14_code
def yX6_takeName : MethodName := ⟨RX6, "takeName", "(LRangeResolver$Tokens;)Z"⟩
abbrev cX6_takeReleases : ByteArray := prog_8_method_15_code
def yX6_takeReleases : MethodName := ⟨RX6, "takeReleases", "(LRangeResolver$Tokens;LRangeResolver$RangeReader;)Z"⟩
abbrev cX6_takeLinks : ByteArray := prog_8_method_16_code
def yX6_takeLinks : MethodName := ⟨RX6, "takeLinks", "(LRangeResolver$Tokens;LRangeResolver$RangeReader;)Z"⟩
abbrev cX6_takeWants : ByteArray := prog_8_method_17_code
def yX6_takeWants : MethodName := ⟨RX6, "takeWants", "(LRangeResolver$Tokens;LRangeResolver$RangeReader;)Z"⟩
abbrev cX6_takeConstraint : ByteArray := prog_8_method_18_code
def yX6_takeConstraint : MethodName := ⟨RX6, "takeConstraint", "(LRangeResolver$Tokens;LRangeResolver$RangeReader;)Z"⟩
abbrev cX6_findTargets : ByteArray := prog_8_method_19_code
def yX6_findTargets : MethodName := ⟨RX6, "findTargets", "()I"⟩
abbrev cX6_expect : ByteArray := prog_8_method_20_code
def yX6_expect : MethodName := ⟨RX6, "expect", "(LRangeResolver$Tokens;I)Z"⟩
abbrev cX6_fail : ByteArray := prog_8_method_21_code
def yX6_fail : MethodName := ⟨RX6, "fail", "(I)Z"⟩
abbrev cX6_addPack : ByteArray := prog_8_method_22_code
def yX6_addPack : MethodName := ⟨RX6, "addPack", "(II)V"⟩
abbrev cX6_addRelease : ByteArray := prog_8_method_23_code
def yX6_addRelease : MethodName := ⟨RX6, "addRelease", "(II)Z"⟩
abbrev cX6_addConstraint : ByteArray := prog_8_method_24_code
def yX6_addConstraint : MethodName := ⟨RX6, "addConstraint", "(LRangeResolver$Tokens;II)V"⟩
abbrev cX6_packNamed : ByteArray := prog_8_method_25_code
def yX6_packNamed : MethodName := ⟨RX6, "packNamed", "(II)I"⟩
abbrev cX6_isSameText : ByteArray := prog_8_method_26_code
def yX6_isSameText : MethodName := ⟨RX6, "isSameText", "(IIII)Z"⟩
def RX7 : String := "RangeResolver$Release"
def TX7 : u_T := fun k => match k with
  | 0 => ("RangeResolver$Release", "row", "[J", true)
  | 1 => ("RangeResolver$Release", "home", "I", false)
  | 2 => ("RangeResolver$Release", "versionFrom", "I", false)
  | 3 => ("RangeResolver$Release", "versionTo", "I", false)
  | 4 => ("RangeResolver$Release", "firstLink", "I", false)
  | _ => ("RangeResolver$Release", "links", "I", false)
def tyX7 : Nat → FieldType := fun k => match k with
  | 0 => .array .long
  | 1 => .int
  | 2 => .int
  | 3 => .int
  | 4 => .int
  | _ => .int
abbrev wsX70 : List Cond := u_ws RX7 TX7 6
theorem nmX7 : ∀ a, a < 6 → ∀ b, b < 6 → a ≠ b → (TX7 a).2.1 ≠ (TX7 b).2.1 := by decide +kernel
theorem tyX7_ok : ∀ k, k < 6 → parseFieldDescriptor (TX7 k).2.2.1 = some (tyX7 k) := by decide +kernel
abbrev cX7_init : ByteArray := prog_9_method_1_code
def yX7_init : MethodName := ⟨RX7, "<init>", "()V"⟩
def RX8 : String := "RangeResolver$Solver"
def TX8 : u_T := fun k => match k with
  | 0 => ("RangeResolver$Solver", "registry", "LRangeResolver$Registry;", false)
  | 1 => ("RangeResolver$Solver", "packs", "I", false)
  | 2 => ("RangeResolver$Solver", "says", "[I", true)
  | 3 => ("RangeResolver$Solver", "allowed", "[I", true)
  | 4 => ("RangeResolver$Solver", "open", "[I", true)
  | 5 => ("RangeResolver$Solver", "closers", "[I", true)
  | 6 => ("RangeResolver$Solver", "active", "[Z", true)
  | _ => ("RangeResolver$Solver", "values", "[I", true)
def tyX8 : Nat → FieldType := fun k => match k with
  | 0 => .object "RangeResolver$Registry"
  | 1 => .int
  | 2 => .array .int
  | 3 => .array .int
  | 4 => .array .int
  | 5 => .array .int
  | 6 => .array .boolean
  | _ => .array .int
abbrev wsX80 : List Cond := u_ws RX8 TX8 8
theorem nmX8 : ∀ a, a < 8 → ∀ b, b < 8 → a ≠ b → (TX8 a).2.1 ≠ (TX8 b).2.1 := by decide +kernel
theorem tyX8_ok : ∀ k, k < 8 → parseFieldDescriptor (TX8 k).2.2.1 = some (tyX8 k) := by decide +kernel
abbrev cX8_init : ByteArray := prog_10_method_1_code
def yX8_init : MethodName := ⟨RX8, "<init>", "(LRangeResolver$Registry;)V"⟩
abbrev cX8_load : ByteArray := prog_10_method_2_code
def yX8_load : MethodName := ⟨RX8, "load", "(LRangeResolver$Registry;)V"⟩
abbrev cX8_isPossible : ByteArray := prog_10_method_3_code
def yX8_isPossible : MethodName := ⟨RX8, "isPossible", "()Z"⟩
abbrev cX8_settle : ByteArray := prog_10_method_4_code
def yX8_settle : MethodName := ⟨RX8, "settle", "(LRangeResolver$Finding;Z)V"⟩
abbrev cX8_accuse : ByteArray := prog_10_method_5_code
def yX8_accuse : MethodName := ⟨RX8, "accuse", "(LRangeResolver$Finding;)V"⟩
abbrev cX8_tally : ByteArray := prog_10_method_6_code
def yX8_tally : MethodName := ⟨RX8, "tally", "(I)I"⟩
abbrev cX8_lockedValue : ByteArray := prog_10_method_7_code
def yX8_lockedValue : MethodName := ⟨RX8, "lockedValue", "(LRangeResolver$Finding;I)I"⟩
abbrev cX8_bestValue : ByteArray := prog_10_method_8_code
def yX8_bestValue : MethodName := ⟨RX8, "bestValue", "(II)I"⟩
abbrev cX8_leadsOn : ByteArray := prog_10_method_9_code
def yX8_leadsOn : MethodName := ⟨RX8, "leadsOn", "(II)Z"⟩
abbrev cX8_blameFrom : ByteArray := prog_10_method_10_code
def yX8_blameFrom : MethodName := ⟨RX8, "blameFrom", "(LRangeResolver$Solver;II)I"⟩
abbrev cX8_tallyFrom : ByteArray := prog_10_method_11_code
def yX8_tallyFrom : MethodName := ⟨RX8, "tallyFrom", "(LRangeResolver$Solver;III)I"⟩
abbrev cX8_smallestPack : ByteArray := prog_10_method_12_code
def yX8_smallestPack : MethodName := ⟨RX8, "smallestPack", "(IIZ)I"⟩
abbrev cX8_isOpen : ByteArray := prog_10_method_13_code
def yX8_isOpen : MethodName := ⟨RX8, "isOpen", "(III)Z"⟩
abbrev cX8_lay : ByteArray := prog_10_method_14_code
def yX8_lay : MethodName := ⟨RX8, "lay", "(III)I"⟩
abbrev cX8_setActive : ByteArray := prog_10_method_15_code
def yX8_setActive : MethodName := ⟨RX8, "setActive", "(IZ)V"⟩
abbrev cX8_weaveLink : ByteArray := prog_10_method_16_code
def yX8_weaveLink : MethodName := ⟨RX8, "weaveLink", "(I)V"⟩
abbrev cX8_matchValues : ByteArray := prog_10_method_17_code
def yX8_matchValues : MethodName := ⟨RX8, "matchValues", "(IIII)V"⟩
abbrev cX8_openPack : ByteArray := prog_10_method_18_code
def yX8_openPack : MethodName := ⟨RX8, "openPack", "(I)V"⟩
abbrev cX8_isActive : ByteArray := prog_10_method_19_code
def yX8_isActive : MethodName := ⟨RX8, "isActive", "(I)Z"⟩
def RX9 : String := "RangeResolver$Tokens"
def TX9 : u_T := fun k => match k with
  | 0 => ("RangeResolver$Tokens", "kinds", "[B", true)
  | 1 => ("RangeResolver$Tokens", "places", "[I", true)
  | 2 => ("RangeResolver$Tokens", "ends", "[I", true)
  | 3 => ("RangeResolver$Tokens", "size", "I", false)
  | 4 => ("RangeResolver$Tokens", "text", "[B", false)
  | 5 => ("RangeResolver$Tokens", "textEnd", "I", false)
  | _ => ("RangeResolver$Tokens", "version", "LRangeResolver$Version;", true)
def tyX9 : Nat → FieldType := fun k => match k with
  | 0 => .array .byte
  | 1 => .array .int
  | 2 => .array .int
  | 3 => .int
  | 4 => .array .byte
  | 5 => .int
  | _ => .object "RangeResolver$Version"
abbrev wsX90 : List Cond := u_ws RX9 TX9 7
theorem nmX9 : ∀ a, a < 7 → ∀ b, b < 7 → a ≠ b → (TX9 a).2.1 ≠ (TX9 b).2.1 := by decide +kernel
theorem tyX9_ok : ∀ k, k < 7 → parseFieldDescriptor (TX9 k).2.2.1 = some (tyX9 k) := by decide +kernel
abbrev cX9_init : ByteArray := prog_11_method_1_code
def yX9_init : MethodName := ⟨RX9, "<init>", "()V"⟩
abbrev cX9_size : ByteArray := prog_11_method_2_code
def yX9_size : MethodName := ⟨RX9, "size", "()I"⟩
abbrev cX9_kindAt : ByteArray := prog_11_method_3_code
def yX9_kindAt : MethodName := ⟨RX9, "kindAt", "(I)I"⟩
abbrev cX9_placeAt : ByteArray := prog_11_method_4_code
def yX9_placeAt : MethodName := ⟨RX9, "placeAt", "(I)I"⟩
abbrev cX9_endAt : ByteArray := prog_11_method_5_code
def yX9_endAt : MethodName := ⟨RX9, "endAt", "(I)I"⟩
abbrev cX9_scan : ByteArray := prog_11_method_6_code
def yX9_scan : MethodName := ⟨RX9, "scan", "([BII)V"⟩
abbrev cX9_isBlank : ByteArray := prog_11_method_7_code
def yX9_isBlank : MethodName := ⟨RX9, "isBlank", "(I)Z"⟩
abbrev cX9_isPart : ByteArray := prog_11_method_8_code
def yX9_isPart : MethodName := ⟨RX9, "isPart", "(I)Z"⟩
abbrev cX9_isLink : ByteArray := prog_11_method_9_code
def yX9_isLink : MethodName := ⟨RX9, "isLink", "(I)Z"⟩
abbrev cX9_operatorSigns : ByteArray := prog_11_method_10_code
def yX9_operatorSigns : MethodName := ⟨RX9, "operatorSigns", "(II)I"⟩
abbrev cX9_takeName : ByteArray := prog_11_method_11_code
def yX9_takeName : MethodName := ⟨RX9, "takeName", "(I)I"⟩
abbrev cX9_takeMark : ByteArray := prog_11_method_12_code
def yX9_takeMark : MethodName := ⟨RX9, "takeMark", "(II)I"⟩
abbrev cX9_takePart : ByteArray := prog_11_method_13_code
def yX9_takePart : MethodName := ⟨RX9, "takePart", "(II)I"⟩
abbrev cX9_kindOfName : ByteArray := prog_11_method_14_code
def yX9_kindOfName : MethodName := ⟨RX9, "kindOfName", "(II)I"⟩
abbrev cX9_isWord : ByteArray := prog_11_method_15_code
def yX9_isWord : MethodName := ⟨RX9, "isWord", "(Ljava/lang/String;II)Z"⟩
abbrev cX9_add : ByteArray := prog_11_method_16_code
def yX9_add : MethodName := ⟨RX9, "add", "(III)I"⟩
abbrev cX9_addWrong : ByteArray := prog_11_method_17_code
def yX9_addWrong : MethodName := ⟨RX9, "addWrong", "(I)I"⟩
abbrev cX9_signAt : ByteArray := prog_11_method_18_code
def yX9_signAt : MethodName := ⟨RX9, "signAt", "(I)I"⟩
abbrev cX9_isSmall : ByteArray := prog_11_method_19_code
def yX9_isSmall : MethodName := ⟨RX9, "isSmall", "(I)Z"⟩
abbrev cX9_isNameSign : ByteArray := prog_11_method_20_code
def yX9_isNameSign : MethodName := ⟨RX9, "isNameSign", "(I)Z"⟩
abbrev cX9_isPartSign : ByteArray := prog_11_method_21_code
def yX9_isPartSign : MethodName := ⟨RX9, "isPartSign", "(I)Z"⟩
def RX10 : String := "RangeResolver$Version"
def TX10 : u_T := fun k => match k with
  | 0 => ("RangeResolver$Version", "row", "[J", true)
  | 1 => ("RangeResolver$Version", "told", "I", false)
  | 2 => ("RangeResolver$Version", "text", "[B", false)
  | 3 => ("RangeResolver$Version", "at", "I", false)
  | _ => ("RangeResolver$Version", "end", "I", false)
def tyX10 : Nat → FieldType := fun k => match k with
  | 0 => .array .long
  | 1 => .int
  | 2 => .array .byte
  | 3 => .int
  | _ => .int
abbrev wsX100 : List Cond := u_ws RX10 TX10 5
theorem nmX10 : ∀ a, a < 5 → ∀ b, b < 5 → a ≠ b → (TX10 a).2.1 ≠ (TX10 b).2.1 := by decide +kernel
theorem tyX10_ok : ∀ k, k < 5 → parseFieldDescriptor (TX10 k).2.2.1 = some (tyX10 k) := by decide +kernel
abbrev cX10_init : ByteArray := prog_12_method_1_code
def yX10_init : MethodName := ⟨RX10, "<init>", "()V"⟩
abbrev cX10_told : ByteArray := prog_12_method_2_code
def yX10_told : MethodName := ⟨RX10, "told", "()I"⟩
abbrev cX10_take : ByteArray := prog_12_method_3_code
def yX10_take : MethodName := ⟨RX10, "take", "([BII)I"⟩
abbrev cX10_takeNumbers : ByteArray := prog_12_method_4_code
def yX10_takeNumbers : MethodName := ⟨RX10, "takeNumbers", "()Z"⟩
abbrev cX10_endsAfterFilling : ByteArray := prog_12_method_5_code
def yX10_endsAfterFilling : MethodName := ⟨RX10, "endsAfterFilling", "()Z"⟩
abbrev cX10_takeIdentifiers : ByteArray := prog_12_method_6_code
def yX10_takeIdentifiers : MethodName := ⟨RX10, "takeIdentifiers", "(Z)Z"⟩
abbrev cX10_takeKey : ByteArray := prog_12_method_7_code
def yX10_takeKey : MethodName := ⟨RX10, "takeKey", "(Z)J"⟩
abbrev cX10_signAt : ByteArray := prog_12_method_8_code
def yX10_signAt : MethodName := ⟨RX10, "signAt", "(I)I"⟩
abbrev cX10_isDigit : ByteArray := prog_12_method_9_code
def yX10_isDigit : MethodName := ⟨RX10, "isDigit", "(I)Z"⟩
abbrev cX10_isIdentifierSign : ByteArray := prog_12_method_10_code
def yX10_isIdentifierSign : MethodName := ⟨RX10, "isIdentifierSign", "(I)Z"⟩
abbrev cX10_compare : ByteArray := prog_12_method_11_code
def yX10_compare : MethodName := ⟨RX10, "compare", "([JI[JI)I"⟩
abbrev cX10_copy : ByteArray := prog_12_method_12_code
def yX10_copy : MethodName := ⟨RX10, "copy", "([JI[JI)V"⟩
abbrev cX10_fits : ByteArray := prog_12_method_13_code
def yX10_fits : MethodName := ⟨RX10, "fits", "([JI)Z"⟩
abbrev cX10_setLeast : ByteArray := prog_12_method_14_code
def yX10_setLeast : MethodName := ⟨RX10, "setLeast", "([J)V"⟩
abbrev cX10_setEndless : ByteArray := prog_12_method_15_code
def yX10_setEndless : MethodName := ⟨RX10, "setEndless", "([J)V"⟩
abbrev cX10_isLeast : ByteArray := prog_12_method_16_code
def yX10_isLeast : MethodName := ⟨RX10, "isLeast", "([JI)Z"⟩
abbrev cX10_isEndless : ByteArray := prog_12_method_17_code
def yX10_isEndless : MethodName := ⟨RX10, "isEndless", "([JI)Z"⟩
abbrev cX10_setIdentifier : ByteArray := prog_12_method_18_code
def yX10_setIdentifier : MethodName := ⟨RX10, "setIdentifier", "([JJ)V"⟩
abbrev cX10_raise : ByteArray := prog_12_method_19_code
def yX10_raise : MethodName := ⟨RX10, "raise", "([JI)V"⟩
abbrev cX10_setNext : ByteArray := prog_12_method_20_code
def yX10_setNext : MethodName := ⟨RX10, "setNext", "([J)Z"⟩
def RX11 : String := "RangeResolver"
def TX11 : u_T := fun k => match k with
  | 0 => ("RangeResolver", "tape", "[B", true)
  | 1 => ("RangeResolver", "fed", "I", false)
  | 2 => ("RangeResolver", "slots", "[LRangeResolver$Range;", true)
  | 3 => ("RangeResolver", "joined", "LRangeResolver$Range;", true)
  | 4 => ("RangeResolver", "firstVersion", "LRangeResolver$Version;", true)
  | 5 => ("RangeResolver", "secondVersion", "LRangeResolver$Version;", true)
  | 6 => ("RangeResolver", "tokens", "LRangeResolver$Tokens;", true)
  | 7 => ("RangeResolver", "rangeReader", "LRangeResolver$RangeReader;", true)
  | 8 => ("RangeResolver", "registry", "LRangeResolver$Registry;", false)
  | 9 => ("RangeResolver", "draft", "LRangeResolver$Registry;", false)
  | 10 => ("RangeResolver", "solver", "LRangeResolver$Solver;", true)
  | 11 => ("RangeResolver", "finding", "LRangeResolver$Finding;", true)
  | _ => ("RangeResolver", "page", "LRangeResolver$Page;", true)
def tyX11 : Nat → FieldType := fun k => match k with
  | 0 => .array .byte
  | 1 => .int
  | 2 => .array (.object "RangeResolver$Range")
  | 3 => .object "RangeResolver$Range"
  | 4 => .object "RangeResolver$Version"
  | 5 => .object "RangeResolver$Version"
  | 6 => .object "RangeResolver$Tokens"
  | 7 => .object "RangeResolver$RangeReader"
  | 8 => .object "RangeResolver$Registry"
  | 9 => .object "RangeResolver$Registry"
  | 10 => .object "RangeResolver$Solver"
  | 11 => .object "RangeResolver$Finding"
  | _ => .object "RangeResolver$Page"
abbrev wsX110 : List Cond := u_ws RX11 TX11 13
theorem nmX11 : ∀ a, a < 13 → ∀ b, b < 13 → a ≠ b → (TX11 a).2.1 ≠ (TX11 b).2.1 := by decide +kernel
theorem tyX11_ok : ∀ k, k < 13 → parseFieldDescriptor (TX11 k).2.2.1 = some (tyX11 k) := by decide +kernel
abbrev cX11_init : ByteArray := prog_1_method_1_code
def yX11_init : MethodName := ⟨RX11, "<init>", "()V"⟩
abbrev cX11_feed : ByteArray := prog_1_method_2_code
def yX11_feed : MethodName := ⟨RX11, "feed", "(IIIII)I"⟩
abbrev cX11_read : ByteArray := prog_1_method_3_code
def yX11_read : MethodName := ⟨RX11, "read", "(I)I"⟩
abbrev cX11_range : ByteArray := prog_1_method_4_code
def yX11_range : MethodName := ⟨RX11, "range", "(II)I"⟩
abbrev cX11_order : ByteArray := prog_1_method_5_code
def yX11_order : MethodName := ⟨RX11, "order", "(I)I"⟩
abbrev cX11_combine : ByteArray := prog_1_method_6_code
def yX11_combine : MethodName := ⟨RX11, "combine", "(IIII)I"⟩
abbrev cX11_inside : ByteArray := prog_1_method_7_code
def yX11_inside : MethodName := ⟨RX11, "inside", "(II)I"⟩
abbrev cX11_holds : ByteArray := prog_1_method_8_code
def yX11_holds : MethodName := ⟨RX11, "holds", "(II)I"⟩
abbrev cX11_write : ByteArray := prog_1_method_9_code
def yX11_write : MethodName := ⟨RX11, "write", "(II)I"⟩
abbrev cX11_octet : ByteArray := prog_1_method_10_code
def yX11_octet : MethodName := ⟨RX11, "octet", "(I)I"⟩
abbrev cX11_resolve : ByteArray := prog_1_method_11_code
def yX11_resolve : MethodName := ⟨RX11, "resolve", "(Z)I"⟩
abbrev cX11_chosen : ByteArray := prog_1_method_12_code
def yX11_chosen : MethodName := ⟨RX11, "chosen", "(I)I"⟩
abbrev cX11_reason : ByteArray := prog_1_method_13_code
def yX11_reason : MethodName := ⟨RX11, "reason", "(I)I"⟩
abbrev cX11_solutions : ByteArray := prog_1_method_14_code
def yX11_solutions : MethodName := ⟨RX11, "solutions", "(I)I"⟩
abbrev cX11_why : ByteArray := prog_1_method_15_code
def yX11_why : MethodName := ⟨RX11, "why", "(I)I"⟩
abbrev cX11_count : ByteArray := prog_1_method_16_code
def yX11_count : MethodName := ⟨RX11, "count", "(I)I"⟩
abbrev cX11_isSlot : ByteArray := prog_1_method_17_code
def yX11_isSlot : MethodName := ⟨RX11, "isSlot", "(I)Z"⟩
abbrev cX11_isOnTape : ByteArray := prog_1_method_18_code
def yX11_isOnTape : MethodName := ⟨RX11, "isOnTape", "(I)Z"⟩
abbrev cX11_layFourBytes : ByteArray := prog_1_method_19_code
def yX11_layFourBytes : MethodName := ⟨RX11, "layFourBytes", "(I)V"⟩
abbrev cX11_behindBlanks : ByteArray := prog_1_method_20_code
def yX11_behindBlanks : MethodName := ⟨RX11, "behindBlanks", "(II)I"⟩
abbrev cX11_behindSigns : ByteArray := prog_1_method_21_code
def yX11_behindSigns : MethodName := ⟨RX11, "behindSigns", "(II)I"⟩
abbrev cX11_markReleasesInRanges : ByteArray := prog_1_method_22_code
def yX11_markReleasesInRanges : MethodName := ⟨RX11, "markReleasesInRanges", "(LRangeResolver$Registry;)V"⟩
abbrev cX11_putConstraint : ByteArray := prog_1_method_23_code
def yX11_putConstraint : MethodName := ⟨RX11, "putConstraint", "(LRangeResolver$Constraint;)V"⟩
def RX12 : String := "RangeResolverModel"
def TX12 : u_T := fun k => match k with
  | 0 => ("RangeResolverModel", "tape", "[B", true)
  | 1 => ("RangeResolverModel", "taped", "I", false)
  | 2 => ("RangeResolverModel", "text", "[B", true)
  | 3 => ("RangeResolverModel", "size", "I", false)
  | 4 => ("RangeResolverModel", "read", "[J", true)
  | 5 => ("RangeResolverModel", "numbersTold", "I", false)
  | 6 => ("RangeResolverModel", "value", "J", false)
  | 7 => ("RangeResolverModel", "stretches", "[I", true)
  | 8 => ("RangeResolverModel", "ends", "[J", true)
  | 9 => ("RangeResolverModel", "many", "[J", true)
  | 10 => ("RangeResolverModel", "manyEnds", "I", false)
  | 11 => ("RangeResolverModel", "least", "[J", true)
  | 12 => ("RangeResolverModel", "mark", "[J", true)
  | 13 => ("RangeResolverModel", "other", "[J", true)
  | 14 => ("RangeResolverModel", "kind", "I", false)
  | 15 => ("RangeResolverModel", "begin", "I", false)
  | 16 => ("RangeResolverModel", "end", "I", false)
  | 17 => ("RangeResolverModel", "signs", "I", false)
  | 18 => ("RangeResolverModel", "operator", "I", false)
  | 19 => ("RangeResolverModel", "faultKind", "I", false)
  | 20 => ("RangeResolverModel", "faultPlace", "I", false)
  | 21 => ("RangeResolverModel", "side", "I", false)
  | 22 => ("RangeResolverModel", "texts", "[B", true)
  | 23 => ("RangeResolverModel", "packages", "[I", true)
  | 24 => ("RangeResolverModel", "releases", "[I", true)
  | 25 => ("RangeResolverModel", "links", "[I", true)
  | 26 => ("RangeResolverModel", "wants", "[I", true)
  | 27 => ("RangeResolverModel", "nameAt", "[I", true)
  | 28 => ("RangeResolverModel", "nameSize", "[I", true)
  | 29 => ("RangeResolverModel", "firstRelease", "[I", true)
  | 30 => ("RangeResolverModel", "packageOf", "[I", true)
  | 31 => ("RangeResolverModel", "versionAt", "[I", true)
  | 32 => ("RangeResolverModel", "versionSize", "[I", true)
  | 33 => ("RangeResolverModel", "versions", "[J", true)
  | 34 => ("RangeResolverModel", "linkOf", "[I", true)
  | 35 => ("RangeResolverModel", "linkKind", "[I", true)
  | 36 => ("RangeResolverModel", "linkAt", "[I", true)
  | 37 => ("RangeResolverModel", "linkSize", "[I", true)
  | 38 => ("RangeResolverModel", "linkTo", "[I", true)
  | 39 => ("RangeResolverModel", "stretchesRead", "[I", true)
  | 40 => ("RangeResolverModel", "endsRead", "[J", true)
  | 41 => ("RangeResolverModel", "inRange", "[I", true)
  | 42 => ("RangeResolverModel", "isOn", "[Z", true)
  | 43 => ("RangeResolverModel", "allowed", "[I", true)
  | 44 => ("RangeResolverModel", "both", "[I", true)
  | 45 => ("RangeResolverModel", "open", "[I", true)
  | 46 => ("RangeResolverModel", "fixed", "[I", true)
  | 47 => ("RangeResolverModel", "tried", "[I", true)
  | 48 => ("RangeResolverModel", "at", "[I", true)
  | 49 => ("RangeResolverModel", "state", "I", false)
  | 50 => ("RangeResolverModel", "reasons", "I", false)
  | 51 => ("RangeResolverModel", "chosenMany", "I", false)
  | 52 => ("RangeResolverModel", "isLocked", "Z", false)
  | 53 => ("RangeResolverModel", "best", "[I", true)
  | 54 => ("RangeResolverModel", "locked", "[I", true)
  | 55 => ("RangeResolverModel", "reason", "[I", true)
  | 56 => ("RangeResolverModel", "row", "[I", true)
  | 57 => ("RangeResolverModel", "rowMany", "I", false)
  | 58 => ("RangeResolverModel", "steps", "[I", true)
  | 59 => ("RangeResolverModel", "out", "[B", true)
  | _ => ("RangeResolverModel", "written", "I", false)
def tyX12 : Nat → FieldType := fun k => match k with
  | 0 => .array .byte
  | 1 => .int
  | 2 => .array .byte
  | 3 => .int
  | 4 => .array .long
  | 5 => .int
  | 6 => .long
  | 7 => .array .int
  | 8 => .array .long
  | 9 => .array .long
  | 10 => .int
  | 11 => .array .long
  | 12 => .array .long
  | 13 => .array .long
  | 14 => .int
  | 15 => .int
  | 16 => .int
  | 17 => .int
  | 18 => .int
  | 19 => .int
  | 20 => .int
  | 21 => .int
  | 22 => .array .byte
  | 23 => .array .int
  | 24 => .array .int
  | 25 => .array .int
  | 26 => .array .int
  | 27 => .array .int
  | 28 => .array .int
  | 29 => .array .int
  | 30 => .array .int
  | 31 => .array .int
  | 32 => .array .int
  | 33 => .array .long
  | 34 => .array .int
  | 35 => .array .int
  | 36 => .array .int
  | 37 => .array .int
  | 38 => .array .int
  | 39 => .array .int
  | 40 => .array .long
  | 41 => .array .int
  | 42 => .array .boolean
  | 43 => .array .int
  | 44 => .array .int
  | 45 => .array .int
  | 46 => .array .int
  | 47 => .array .int
  | 48 => .array .int
  | 49 => .int
  | 50 => .int
  | 51 => .int
  | 52 => .boolean
  | 53 => .array .int
  | 54 => .array .int
  | 55 => .array .int
  | 56 => .array .int
  | 57 => .int
  | 58 => .array .int
  | 59 => .array .byte
  | _ => .int
abbrev wsX120 : List Cond := u_ws RX12 TX12 61
theorem nmX12 : ∀ a, a < 61 → ∀ b, b < 61 → a ≠ b → (TX12 a).2.1 ≠ (TX12 b).2.1 := by decide +kernel
theorem tyX12_ok : ∀ k, k < 61 → parseFieldDescriptor (TX12 k).2.2.1 = some (tyX12 k) := by decide +kernel
abbrev cX12_init : ByteArray := prog_14_method_1_code
def yX12_init : MethodName := ⟨RX12, "<init>", "()V"⟩
abbrev cX12_types : ByteArray := prog_14_method_2_code
def yX12_types : MethodName := ⟨RX12, "types", "(I)V"⟩
abbrev cX12_feed : ByteArray := prog_14_method_3_code
def yX12_feed : MethodName := ⟨RX12, "feed", "(IIIII)I"⟩
abbrev cX12_takes : ByteArray := prog_14_method_4_code
def yX12_takes : MethodName := ⟨RX12, "takes", "(I)Z"⟩
abbrev cX12_at : ByteArray := prog_14_method_5_code
def yX12_at : MethodName := ⟨RX12, "at", "(I)I"⟩
abbrev cX12_isDigit : ByteArray := prog_14_method_6_code
def yX12_isDigit : MethodName := ⟨RX12, "isDigit", "(I)Z"⟩
abbrev cX12_isSmall : ByteArray := prog_14_method_7_code
def yX12_isSmall : MethodName := ⟨RX12, "isSmall", "(I)Z"⟩
abbrev cX12_isLetter : ByteArray := prog_14_method_8_code
def yX12_isLetter : MethodName := ⟨RX12, "isLetter", "(I)Z"⟩
abbrev cX12_isSign : ByteArray := prog_14_method_9_code
def yX12_isSign : MethodName := ⟨RX12, "isSign", "(I)Z"⟩
abbrev cX12_compare : ByteArray := prog_14_method_10_code
def yX12_compare : MethodName := ⟨RX12, "compare", "([JI[JI)I"⟩
abbrev cX12_copy : ByteArray := prog_14_method_11_code
def yX12_copy : MethodName := ⟨RX12, "copy", "([JI[JI)V"⟩
abbrev cX12_next : ByteArray := prog_14_method_12_code
def yX12_next : MethodName := ⟨RX12, "next", "([JI)V"⟩
abbrev cX12_number : ByteArray := prog_14_method_13_code
def yX12_number : MethodName := ⟨RX12, "number", "(II)I"⟩
abbrev cX12_identifiers : ByteArray := prog_14_method_14_code
def yX12_identifiers : MethodName := ⟨RX12, "identifiers", "(IIZ)I"⟩
abbrev cX12_reads : ByteArray := prog_14_method_15_code
def yX12_reads : MethodName := ⟨RX12, "reads", "(II)I"⟩
abbrev cX12_rest : ByteArray := prog_14_method_16_code
def yX12_rest : MethodName := ⟨RX12, "rest", "(II)Z"⟩
abbrev cX12_slotOf : ByteArray := prog_14_method_17_code
def yX12_slotOf : MethodName := ⟨RX12, "slotOf", "(I)I"⟩
abbrev cX12_from : ByteArray := prog_14_method_18_code
def yX12_from : MethodName := ⟨RX12, "from", "(II)I"⟩
abbrev cX12_below : ByteArray := prog_14_method_19_code
def yX12_below : MethodName := ⟨RX12, "below", "(II)I"⟩
abbrev cX12_first : ByteArray := prog_14_method_20_code
def yX12_first : MethodName := ⟨RX12, "first", "([JI)V"⟩
abbrev cX12_none : ByteArray := prog_14_method_21_code
def yX12_none : MethodName := ⟨RX12, "none", "([JI)V"⟩
abbrev cX12_full : ByteArray := prog_14_method_22_code
def yX12_full : MethodName := ⟨RX12, "full", "(I)V"⟩
abbrev cX12_copyRange : ByteArray := prog_14_method_23_code
def yX12_copyRange : MethodName := ⟨RX12, "copyRange", "(II)V"⟩
abbrev cX12_has : ByteArray := prog_14_method_24_code
def yX12_has : MethodName := ⟨RX12, "has", "(I[JI)Z"⟩
abbrev cX12_joins : ByteArray := prog_14_method_25_code
def yX12_joins : MethodName := ⟨RX12, "joins", "(IZZ)Z"⟩
abbrev cX12_combined : ByteArray := prog_14_method_26_code
def yX12_combined : MethodName := ⟨RX12, "combined", "(IIII)I"⟩
abbrev cX12_nextEnd : ByteArray := prog_14_method_27_code
def yX12_nextEnd : MethodName := ⟨RX12, "nextEnd", "(II)Z"⟩
abbrev cX12_isWord : ByteArray := prog_14_method_28_code
def yX12_isWord : MethodName := ⟨RX12, "isWord", "(JI)Z"⟩
abbrev cX12_token : ByteArray := prog_14_method_29_code
def yX12_token : MethodName := ⟨RX12, "token", "()V"⟩
abbrev cX12_part : ByteArray := prog_14_method_30_code
def yX12_part : MethodName := ⟨RX12, "part", "(II)V"⟩
abbrev cX12_partRange : ByteArray := prog_14_method_31_code
def yX12_partRange : MethodName := ⟨RX12, "partRange", "(I)V"⟩
abbrev cX12_upTo : ByteArray := prog_14_method_32_code
def yX12_upTo : MethodName := ⟨RX12, "upTo", "(II)V"⟩
abbrev cX12_fault : ByteArray := prog_14_method_33_code
def yX12_fault : MethodName := ⟨RX12, "fault", "(I)Z"⟩
abbrev cX12_range : ByteArray := prog_14_method_34_code
def yX12_range : MethodName := ⟨RX12, "range", "(I)Z"⟩
abbrev cX12_starts : ByteArray := prog_14_method_35_code
def yX12_starts : MethodName := ⟨RX12, "starts", "()V"⟩
abbrev cX12_range_ : ByteArray := prog_14_method_36_code
def yX12_range_ : MethodName := ⟨RX12, "range", "(II)I"⟩
abbrev cX12_order : ByteArray := prog_14_method_37_code
def yX12_order : MethodName := ⟨RX12, "order", "(I)I"⟩
abbrev cX12_isSlot : ByteArray := prog_14_method_38_code
def yX12_isSlot : MethodName := ⟨RX12, "isSlot", "(I)Z"⟩
abbrev cX12_combine : ByteArray := prog_14_method_39_code
def yX12_combine : MethodName := ⟨RX12, "combine", "(IIII)I"⟩
abbrev cX12_inside : ByteArray := prog_14_method_40_code
def yX12_inside : MethodName := ⟨RX12, "inside", "(II)I"⟩
abbrev cX12_isSame : ByteArray := prog_14_method_41_code
def yX12_isSame : MethodName := ⟨RX12, "isSame", "(IIII)Z"⟩
abbrev cX12_packageCalled : ByteArray := prog_14_method_42_code
def yX12_packageCalled : MethodName := ⟨RX12, "packageCalled", "(III)I"⟩
abbrev cX12_keepRange : ByteArray := prog_14_method_43_code
def yX12_keepRange : MethodName := ⟨RX12, "keepRange", "(I)V"⟩
abbrev cX12_constraint : ByteArray := prog_14_method_44_code
def yX12_constraint : MethodName := ⟨RX12, "constraint", "(III)Z"⟩
abbrev cX12_release : ByteArray := prog_14_method_45_code
def yX12_release : MethodName := ⟨RX12, "release", "(I)Z"⟩
abbrev cX12_registry : ByteArray := prog_14_method_46_code
def yX12_registry : MethodName := ⟨RX12, "registry", "(I)Z"⟩
abbrev cX12_read : ByteArray := prog_14_method_47_code
def yX12_read : MethodName := ⟨RX12, "read", "(I)I"⟩
abbrev cX12_constraints : ByteArray := prog_14_method_48_code
def yX12_constraints : MethodName := ⟨RX12, "constraints", "()I"⟩
abbrev cX12_first_ : ByteArray := prog_14_method_49_code
def yX12_first_ : MethodName := ⟨RX12, "first", "(I)I"⟩
abbrev cX12_manyOf : ByteArray := prog_14_method_50_code
def yX12_manyOf : MethodName := ⟨RX12, "manyOf", "(I)I"⟩
abbrev cX12_tables : ByteArray := prog_14_method_51_code
def yX12_tables : MethodName := ⟨RX12, "tables", "()V"⟩
abbrev cX12_pair : ByteArray := prog_14_method_52_code
def yX12_pair : MethodName := ⟨RX12, "pair", "(III)I"⟩
abbrev cX12_pairs : ByteArray := prog_14_method_53_code
def yX12_pairs : MethodName := ⟨RX12, "pairs", "()V"⟩
abbrev cX12_sifts : ByteArray := prog_14_method_54_code
def yX12_sifts : MethodName := ⟨RX12, "sifts", "(I)Z"⟩
abbrev cX12_opens : ByteArray := prog_14_method_55_code
def yX12_opens : MethodName := ⟨RX12, "opens", "()Z"⟩
abbrev cX12_bits : ByteArray := prog_14_method_56_code
def yX12_bits : MethodName := ⟨RX12, "bits", "(I)I"⟩
abbrev cX12_fewest : ByteArray := prog_14_method_57_code
def yX12_fewest : MethodName := ⟨RX12, "fewest", "(I)I"⟩
abbrev cX12_solved : ByteArray := prog_14_method_58_code
def yX12_solved : MethodName := ⟨RX12, "solved", "(I)I"⟩
abbrev cX12_allOn : ByteArray := prog_14_method_59_code
def yX12_allOn : MethodName := ⟨RX12, "allOn", "(Z)V"⟩
abbrev cX12_isWanted : ByteArray := prog_14_method_60_code
def yX12_isWanted : MethodName := ⟨RX12, "isWanted", "(I)Z"⟩
abbrev cX12_rows : ByteArray := prog_14_method_61_code
def yX12_rows : MethodName := ⟨RX12, "rows", "(IZ)V"⟩
abbrev cX12_resolve : ByteArray := prog_14_method_62_code
def yX12_resolve : MethodName := ⟨RX12, "resolve", "(Z)I"⟩
abbrev cX12_findsReason : ByteArray := prog_14_method_63_code
def yX12_findsReason : MethodName := ⟨RX12, "findsReason", "()V"⟩
abbrev cX12_chosen : ByteArray := prog_14_method_64_code
def yX12_chosen : MethodName := ⟨RX12, "chosen", "(I)I"⟩
abbrev cX12_reason : ByteArray := prog_14_method_65_code
def yX12_reason : MethodName := ⟨RX12, "reason", "(I)I"⟩
abbrev cX12_solutions : ByteArray := prog_14_method_66_code
def yX12_solutions : MethodName := ⟨RX12, "solutions", "(I)I"⟩
abbrev cX12_why : ByteArray := prog_14_method_67_code
def yX12_why : MethodName := ⟨RX12, "why", "(I)I"⟩
abbrev cX12_holds : ByteArray := prog_14_method_68_code
def yX12_holds : MethodName := ⟨RX12, "holds", "(II)I"⟩
abbrev cX12_says : ByteArray := prog_14_method_69_code
def yX12_says : MethodName := ⟨RX12, "says", "(I)V"⟩
abbrev cX12_saysNumber : ByteArray := prog_14_method_70_code
def yX12_saysNumber : MethodName := ⟨RX12, "saysNumber", "(J)V"⟩
abbrev cX12_saysVersion : ByteArray := prog_14_method_71_code
def yX12_saysVersion : MethodName := ⟨RX12, "saysVersion", "([JI)V"⟩
abbrev cX12_saysRange : ByteArray := prog_14_method_72_code
def yX12_saysRange : MethodName := ⟨RX12, "saysRange", "(I)V"⟩
abbrev cX12_saysStretch : ByteArray := prog_14_method_73_code
def yX12_saysStretch : MethodName := ⟨RX12, "saysStretch", "(II)V"⟩
abbrev cX12_saysText : ByteArray := prog_14_method_74_code
def yX12_saysText : MethodName := ⟨RX12, "saysText", "(II)V"⟩
abbrev cX12_saysRelease : ByteArray := prog_14_method_75_code
def yX12_saysRelease : MethodName := ⟨RX12, "saysRelease", "(I)V"⟩
abbrev cX12_saysWord : ByteArray := prog_14_method_76_code
def yX12_saysWord : MethodName := ⟨RX12, "saysWord", "(J)V"⟩
abbrev cX12_write : ByteArray := prog_14_method_77_code
def yX12_write : MethodName := ⟨RX12, "write", "(II)I"⟩
abbrev cX12_octet : ByteArray := prog_14_method_78_code
def yX12_octet : MethodName := ⟨RX12, "octet", "(I)I"⟩
abbrev cX12_count : ByteArray := prog_14_method_79_code
def yX12_count : MethodName := ⟨RX12, "count", "(I)I"⟩
def RJ6 : String := "java/lang/Integer"
def TJ6 : u_T := fun k => match k with
  | _ => ("", "", "", false)
def tyJ6 : Nat → FieldType := fun k => match k with
  | _ => .int
abbrev wsJ60 : List Cond := u_ws RJ6 TJ6 0
theorem nmJ6 : ∀ a, a < 0 → ∀ b, b < 0 → a ≠ b → (TJ6 a).2.1 ≠ (TJ6 b).2.1 := by decide +kernel
theorem tyJ6_ok : ∀ k, k < 0 → parseFieldDescriptor (TJ6 k).2.2.1 = some (tyJ6 k) := by decide +kernel
abbrev cJ6_bitCount_0f7a4 : ByteArray := prog_15_method_49_code
def yJ6_bitCount_0f7a4 : MethodName := ⟨RJ6, "bitCount", "(I)I"⟩
def RJ9 : String := "java/lang/Math"
def TJ9 : u_T := fun k => match k with
  | _ => ("", "", "", false)
def tyJ9 : Nat → FieldType := fun k => match k with
  | _ => .int
abbrev wsJ90 : List Cond := u_ws RJ9 TJ9 0
theorem nmJ9 : ∀ a, a < 0 → ∀ b, b < 0 → a ≠ b → (TJ9 a).2.1 ≠ (TJ9 b).2.1 := by decide +kernel
theorem tyJ9_ok : ∀ k, k < 0 → parseFieldDescriptor (TJ9 k).2.2.1 = some (tyJ9 k) := by decide +kernel
abbrev cJ9_max_7cf53 : ByteArray := prog_16_method_65_code
def yJ9_max_7cf53 : MethodName := ⟨RJ9, "max", "(II)I"⟩
abbrev cJ9_max_f86c9 : ByteArray := prog_16_method_66_code
def yJ9_max_f86c9 : MethodName := ⟨RJ9, "max", "(JJ)J"⟩
abbrev cJ9_min_7cf53 : ByteArray := prog_16_method_69_code
def yJ9_min_7cf53 : MethodName := ⟨RJ9, "min", "(II)I"⟩
def RJ0 : String := "java/lang/String"
def TJ0 : u_T := fun k => match k with
  | _ => ("", "", "", false)
def tyJ0 : Nat → FieldType := fun k => match k with
  | _ => .int
abbrev wsJ00 : List Cond := u_ws RJ0 TJ0 0
theorem nmJ0 : ∀ a, a < 0 → ∀ b, b < 0 → a ≠ b → (TJ0 a).2.1 ≠ (TJ0 b).2.1 := by decide +kernel
theorem tyJ0_ok : ∀ k, k < 0 → parseFieldDescriptor (TJ0 k).2.2.1 = some (tyJ0 k) := by decide +kernel
abbrev cJ0_length_8abf5 : ByteArray := prog_17_method_54_code
def yJ0_length_8abf5 : MethodName := ⟨RJ0, "length", "()I"⟩
abbrev cJ0_charAt_5068e : ByteArray := prog_17_method_56_code
def yJ0_charAt_5068e : MethodName := ⟨RJ0, "charAt", "(I)C"⟩
abbrev cJ0_coder_7d493 : ByteArray := prog_17_method_152_code
def yJ0_coder_7d493 : MethodName := ⟨RJ0, "coder", "()B"⟩
abbrev cJ0_isLatin1_aae02 : ByteArray := prog_17_method_154_code
def yJ0_isLatin1_aae02 : MethodName := ⟨RJ0, "isLatin1", "()Z"⟩
abbrev cJ0_checkIndex_df160 : ByteArray := prog_17_method_155_code
def yJ0_checkIndex_df160 : MethodName := ⟨RJ0, "checkIndex", "(II)V"⟩
def RJ1 : String := "java/lang/StringLatin1"
def TJ1 : u_T := fun k => match k with
  | _ => ("", "", "", false)
def tyJ1 : Nat → FieldType := fun k => match k with
  | _ => .int
abbrev wsJ10 : List Cond := u_ws RJ1 TJ1 0
theorem nmJ1 : ∀ a, a < 0 → ∀ b, b < 0 → a ≠ b → (TJ1 a).2.1 ≠ (TJ1 b).2.1 := by decide +kernel
theorem tyJ1_ok : ∀ k, k < 0 → parseFieldDescriptor (TJ1 k).2.2.1 = some (tyJ1 k) := by decide +kernel
abbrev cJ1_charAt_3b067 : ByteArray := prog_18_method_2_code
def yJ1_charAt_3b067 : MethodName := ⟨RJ1, "charAt", "([BI)C"⟩
def RJ2 : String := "java/lang/StringUTF16"
def TJ2 : u_T := fun k => match k with
  | _ => ("", "", "", false)
def tyJ2 : Nat → FieldType := fun k => match k with
  | _ => .int
abbrev wsJ20 : List Cond := u_ws RJ2 TJ2 0
theorem nmJ2 : ∀ a, a < 0 → ∀ b, b < 0 → a ≠ b → (TJ2 a).2.1 ≠ (TJ2 b).2.1 := by decide +kernel
theorem tyJ2_ok : ∀ k, k < 0 → parseFieldDescriptor (TJ2 k).2.2.1 = some (tyJ2 k) := by decide +kernel
abbrev cJ2_getChar_3b067 : ByteArray := prog_19_method_5_code
def yJ2_getChar_3b067 : MethodName := ⟨RJ2, "getChar", "([BI)C"⟩
abbrev cJ2_length_9d52b : ByteArray := prog_19_method_6_code
def yJ2_length_9d52b : MethodName := ⟨RJ2, "length", "([B)I"⟩
abbrev cJ2_charAt_3b067 : ByteArray := prog_19_method_83_code
def yJ2_charAt_3b067 : MethodName := ⟨RJ2, "charAt", "([BI)C"⟩
abbrev cJ2_checkIndex_2214a : ByteArray := prog_19_method_91_code
def yJ2_checkIndex_2214a : MethodName := ⟨RJ2, "checkIndex", "(I[B)V"⟩
def RJ10 : String := "java/lang/System"
def TJ10 : u_T := fun k => match k with
  | _ => ("", "", "", false)
def tyJ10 : Nat → FieldType := fun k => match k with
  | _ => .int
abbrev wsJ100 : List Cond := u_ws RJ10 TJ10 0
theorem nmJ10 : ∀ a, a < 0 → ∀ b, b < 0 → a ≠ b → (TJ10 a).2.1 ≠ (TJ10 b).2.1 := by decide +kernel
theorem tyJ10_ok : ∀ k, k < 0 → parseFieldDescriptor (TJ10 k).2.2.1 = some (tyJ10 k) := by decide +kernel
def RJ7 : String := "java/util/Arrays"
def TJ7 : u_T := fun k => match k with
  | _ => ("", "", "", false)
def tyJ7 : Nat → FieldType := fun k => match k with
  | _ => .int
abbrev wsJ70 : List Cond := u_ws RJ7 TJ7 0
theorem nmJ7 : ∀ a, a < 0 → ∀ b, b < 0 → a ≠ b → (TJ7 a).2.1 ≠ (TJ7 b).2.1 := by decide +kernel
theorem tyJ7_ok : ∀ k, k < 0 → parseFieldDescriptor (TJ7 k).2.2.1 = some (tyJ7 k) := by decide +kernel
abbrev cJ7_fill_d0a16 : ByteArray := prog_21_method_101_code
def yJ7_fill_d0a16 : MethodName := ⟨RJ7, "fill", "([JJ)V"⟩
abbrev cJ7_fill_53178 : ByteArray := prog_21_method_103_code
def yJ7_fill_53178 : MethodName := ⟨RJ7, "fill", "([II)V"⟩
def RJ3 : String := "jdk/internal/util/Preconditions"
def TJ3 : u_T := fun k => match k with
  | _ => ("", "", "", false)
def tyJ3 : Nat → FieldType := fun k => match k with
  | _ => .int
abbrev wsJ30 : List Cond := u_ws RJ3 TJ3 0
theorem nmJ3 : ∀ a, a < 0 → ∀ b, b < 0 → a ≠ b → (TJ3 a).2.1 ≠ (TJ3 b).2.1 := by decide +kernel
theorem tyJ3_ok : ∀ k, k < 0 → parseFieldDescriptor (TJ3 k).2.2.1 = some (tyJ3 k) := by decide +kernel
abbrev cJ3_checkIndex_8e157 : ByteArray := prog_22_method_11_code
def yJ3_checkIndex_8e157 : MethodName := ⟨RJ3, "checkIndex", "(IILjava/util/function/BiFunction;)I"⟩
def RL : String := "RangeResolverLaw"
abbrev cL_law : ByteArray := code
def yL_law : MethodName := ⟨RL, "law", "([I)Z"⟩
def CL : List vw_C := [(RX0, TX0, 8), (RX1, TX1, 6), (RX2, TX2, 5), (RX3, TX3, 6), (RX4, TX4, 2), (RX5, TX5, 8), (RX6, TX6, 11), (RX7, TX7, 6), (RX8, TX8, 8), (RX9, TX9, 7), (RX10, TX10, 5), (RX11, TX11, 13), (RX12, TX12, 61)]
def fN (c : Nat) : Nat := match c with
  | 0 => 8
  | 1 => 6
  | 2 => 5
  | 3 => 6
  | 4 => 2
  | 5 => 8
  | 6 => 11
  | 7 => 6
  | 8 => 8
  | 9 => 7
  | 10 => 5
  | 11 => 13
  | 12 => 61
  | _ => 0
def fT (c : Nat) : Nat → FieldType := match c with
  | 0 => tyX0
  | 1 => tyX1
  | 2 => tyX2
  | 3 => tyX3
  | 4 => tyX4
  | 5 => tyX5
  | 6 => tyX6
  | 7 => tyX7
  | 8 => tyX8
  | 9 => tyX9
  | 10 => tyX10
  | 11 => tyX11
  | 12 => tyX12
  | _ => fun _ => .int
def TB : List Cond := lw_tbl.filter goodWord
theorem inW0 : ∀ w ∈ u_ws RX0 TX0 8, w ∈ TB := by decide +kernel
theorem inW1 : ∀ w ∈ u_ws RX1 TX1 6, w ∈ TB := by decide +kernel
theorem inW2 : ∀ w ∈ u_ws RX2 TX2 5, w ∈ TB := by decide +kernel
theorem inW3 : ∀ w ∈ u_ws RX3 TX3 6, w ∈ TB := by decide +kernel
theorem inW4 : ∀ w ∈ u_ws RX4 TX4 2, w ∈ TB := by decide +kernel
theorem inW5 : ∀ w ∈ u_ws RX5 TX5 8, w ∈ TB := by decide +kernel
theorem inW6 : ∀ w ∈ u_ws RX6 TX6 11, w ∈ TB := by decide +kernel
theorem inW7 : ∀ w ∈ u_ws RX7 TX7 6, w ∈ TB := by decide +kernel
theorem inW8 : ∀ w ∈ u_ws RX8 TX8 8, w ∈ TB := by decide +kernel
theorem inW9 : ∀ w ∈ u_ws RX9 TX9 7, w ∈ TB := by decide +kernel
theorem inW10 : ∀ w ∈ u_ws RX10 TX10 5, w ∈ TB := by decide +kernel
theorem inW11 : ∀ w ∈ u_ws RX11 TX11 13, w ∈ TB := by decide +kernel
theorem inW12 : ∀ w ∈ u_ws RX12 TX12 61, w ∈ TB := by decide +kernel
