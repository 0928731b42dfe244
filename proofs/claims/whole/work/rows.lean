section
-- ===== PART A: goes FIRST, ahead of the names: the tables' words, and 'selects' of the private methods out of them =====
/-- a private method of a class that the tables say can be made, by its rows of tables_1 -/
def lw_okq (q : MethodName × Nat) : Prop := (q.1.cls ≠ "java/lang/invoke/MethodHandle" ∧ q.1.cls ≠ "java/lang/invoke/VarHandle") ∧ Cond.instantiable q.1.cls q.2 ∈ tables_1 ∧ Cond.privateMethod q.1 ∈ tables_1 ∧ Cond.instanceMethod q.1 ∈ tables_1
theorem lw_p0 : lw_okq (⟨"CattleShow$ClassText", "letAll", "()V"⟩, 3) := ⟨⟨by decide +kernel, by decide +kernel⟩, List.mem_of_getElem? (i := 103) (by decide +kernel), List.mem_of_getElem? (i := 109) (by decide +kernel), List.mem_of_getElem? (i := 110) (by decide +kernel)⟩
theorem lw_p1 : lw_okq (⟨"CattleShow", "classAt", "(I)LCattleShow$ShowClass;"⟩, 10) := ⟨⟨by decide +kernel, by decide +kernel⟩, List.mem_of_getElem? (i := 14) (by decide +kernel), List.mem_of_getElem? (i := 228) (by decide +kernel), List.mem_of_getElem? (i := 229) (by decide +kernel)⟩
theorem lw_p2 : lw_okq (⟨"CattleShow$ClassText", "readClause", "(LCattleShow$Tape;)I"⟩, 3) := ⟨⟨by decide +kernel, by decide +kernel⟩, List.mem_of_getElem? (i := 103) (by decide +kernel), List.mem_of_getElem? (i := 252) (by decide +kernel), List.mem_of_getElem? (i := 253) (by decide +kernel)⟩
theorem lw_p3 : lw_okq (⟨"CattleShow$ClassText", "readBreeds", "(LCattleShow$Tape;)I"⟩, 3) := ⟨⟨by decide +kernel, by decide +kernel⟩, List.mem_of_getElem? (i := 103) (by decide +kernel), List.mem_of_getElem? (i := 268) (by decide +kernel), List.mem_of_getElem? (i := 269) (by decide +kernel)⟩
theorem lw_p4 : lw_okq (⟨"CattleShow$ClassText", "readLeast", "(LCattleShow$Tape;II)I"⟩, 3) := ⟨⟨by decide +kernel, by decide +kernel⟩, List.mem_of_getElem? (i := 103) (by decide +kernel), List.mem_of_getElem? (i := 286) (by decide +kernel), List.mem_of_getElem? (i := 287) (by decide +kernel)⟩
theorem lw_p5 : lw_okq (⟨"CattleShow$ClassText", "readMost", "(LCattleShow$Tape;II)I"⟩, 3) := ⟨⟨by decide +kernel, by decide +kernel⟩, List.mem_of_getElem? (i := 103) (by decide +kernel), List.mem_of_getElem? (i := 298) (by decide +kernel), List.mem_of_getElem? (i := 299) (by decide +kernel)⟩
theorem lw_p6 : lw_okq (⟨"CattleShow$ClassText", "readMeasure", "(LCattleShow$Tape;)I"⟩, 3) := ⟨⟨by decide +kernel, by decide +kernel⟩, List.mem_of_getElem? (i := 103) (by decide +kernel), List.mem_of_getElem? (i := 305) (by decide +kernel), List.mem_of_getElem? (i := 306) (by decide +kernel)⟩
theorem lw_p7 : lw_okq (⟨"CattleShow", "beastAt", "(I)LCattleShow$Beast;"⟩, 10) := ⟨⟨by decide +kernel, by decide +kernel⟩, List.mem_of_getElem? (i := 14) (by decide +kernel), List.mem_of_getElem? (i := 360) (by decide +kernel), List.mem_of_getElem? (i := 361) (by decide +kernel)⟩
theorem lw_p8 : lw_okq (⟨"CattleShow$ClassText", "isWithin", "(II)Z"⟩, 3) := ⟨⟨by decide +kernel, by decide +kernel⟩, List.mem_of_getElem? (i := 103) (by decide +kernel), List.mem_of_getElem? (i := 376) (by decide +kernel), List.mem_of_getElem? (i := 377) (by decide +kernel)⟩
theorem lw_p9 : lw_okq (⟨"CattleShow$Joiner", "tally", "(LCattleShow$ShowClass;)V"⟩, 6) := ⟨⟨by decide +kernel, by decide +kernel⟩, List.mem_of_getElem? (i := 46) (by decide +kernel), List.mem_of_getElem? (i := 397) (by decide +kernel), List.mem_of_getElem? (i := 398) (by decide +kernel)⟩
theorem lw_p10 : lw_okq (⟨"CattleShow$Joiner", "tallyOrder", "([II)V"⟩, 6) := ⟨⟨by decide +kernel, by decide +kernel⟩, List.mem_of_getElem? (i := 46) (by decide +kernel), List.mem_of_getElem? (i := 406) (by decide +kernel), List.mem_of_getElem? (i := 407) (by decide +kernel)⟩
theorem lw_p11 : lw_okq (⟨"CattleShow$Joiner", "sumLost", "()V"⟩, 6) := ⟨⟨by decide +kernel, by decide +kernel⟩, List.mem_of_getElem? (i := 46) (by decide +kernel), List.mem_of_getElem? (i := 410) (by decide +kernel), List.mem_of_getElem? (i := 411) (by decide +kernel)⟩
theorem lw_p12 : lw_okq (⟨"CattleShow$Joiner", "findFewest", "()V"⟩, 6) := ⟨⟨by decide +kernel, by decide +kernel⟩, List.mem_of_getElem? (i := 46) (by decide +kernel), List.mem_of_getElem? (i := 414) (by decide +kernel), List.mem_of_getElem? (i := 415) (by decide +kernel)⟩
theorem lw_p13 : lw_okq (⟨"CattleShow$Joiner", "swapsWithFirst", "(II)I"⟩, 6) := ⟨⟨by decide +kernel, by decide +kernel⟩, List.mem_of_getElem? (i := 46) (by decide +kernel), List.mem_of_getElem? (i := 419) (by decide +kernel), List.mem_of_getElem? (i := 420) (by decide +kernel)⟩
theorem lw_p14 : lw_okq (⟨"CattleShow$Joiner", "leastFirst", "(I)I"⟩, 6) := ⟨⟨by decide +kernel, by decide +kernel⟩, List.mem_of_getElem? (i := 46) (by decide +kernel), List.mem_of_getElem? (i := 424) (by decide +kernel), List.mem_of_getElem? (i := 425) (by decide +kernel)⟩
theorem lw_p15 : lw_okq (⟨"CattleShow$Joiner", "beats", "(II)Z"⟩, 6) := ⟨⟨by decide +kernel, by decide +kernel⟩, List.mem_of_getElem? (i := 46) (by decide +kernel), List.mem_of_getElem? (i := 481) (by decide +kernel), List.mem_of_getElem? (i := 482) (by decide +kernel)⟩
def lw_privs_1 : List (MethodName × Nat) := [(⟨"CattleShow$ClassText", "letAll", "()V"⟩, 3), (⟨"CattleShow", "classAt", "(I)LCattleShow$ShowClass;"⟩, 10), (⟨"CattleShow$ClassText", "readClause", "(LCattleShow$Tape;)I"⟩, 3), (⟨"CattleShow$ClassText", "readBreeds", "(LCattleShow$Tape;)I"⟩, 3), (⟨"CattleShow$ClassText", "readLeast", "(LCattleShow$Tape;II)I"⟩, 3), (⟨"CattleShow$ClassText", "readMost", "(LCattleShow$Tape;II)I"⟩, 3), (⟨"CattleShow$ClassText", "readMeasure", "(LCattleShow$Tape;)I"⟩, 3), (⟨"CattleShow", "beastAt", "(I)LCattleShow$Beast;"⟩, 10), (⟨"CattleShow$ClassText", "isWithin", "(II)Z"⟩, 3), (⟨"CattleShow$Joiner", "tally", "(LCattleShow$ShowClass;)V"⟩, 6), (⟨"CattleShow$Joiner", "tallyOrder", "([II)V"⟩, 6), (⟨"CattleShow$Joiner", "sumLost", "()V"⟩, 6), (⟨"CattleShow$Joiner", "findFewest", "()V"⟩, 6), (⟨"CattleShow$Joiner", "swapsWithFirst", "(II)I"⟩, 6), (⟨"CattleShow$Joiner", "leastFirst", "(I)I"⟩, 6), (⟨"CattleShow$Joiner", "beats", "(II)Z"⟩, 6)]
theorem lw_r1 : ∀ q ∈ lw_privs_1, lw_okq q := List.forall_mem_cons.mpr ⟨lw_p0, List.forall_mem_cons.mpr ⟨lw_p1, List.forall_mem_cons.mpr ⟨lw_p2, List.forall_mem_cons.mpr ⟨lw_p3, List.forall_mem_cons.mpr ⟨lw_p4, List.forall_mem_cons.mpr ⟨lw_p5, List.forall_mem_cons.mpr ⟨lw_p6, List.forall_mem_cons.mpr ⟨lw_p7, List.forall_mem_cons.mpr ⟨lw_p8, List.forall_mem_cons.mpr ⟨lw_p9, List.forall_mem_cons.mpr ⟨lw_p10, List.forall_mem_cons.mpr ⟨lw_p11, List.forall_mem_cons.mpr ⟨lw_p12, List.forall_mem_cons.mpr ⟨lw_p13, List.forall_mem_cons.mpr ⟨lw_p14, List.forall_mem_cons.mpr ⟨lw_p15, fun _ h => absurd h List.not_mem_nil⟩⟩⟩⟩⟩⟩⟩⟩⟩⟩⟩⟩⟩⟩⟩⟩
theorem lw_p16 : lw_okq (⟨"CattleShow$ShowClass", "cutsBetween", "(II)I"⟩, 9) := ⟨⟨by decide +kernel, by decide +kernel⟩, List.mem_of_getElem? (i := 126) (by decide +kernel), List.mem_of_getElem? (i := 511) (by decide +kernel), List.mem_of_getElem? (i := 512) (by decide +kernel)⟩
theorem lw_p17 : lw_okq (⟨"CattleShow$Reasons", "readPairs", "(LCattleShow$Tape;LCattleShow$ShowClass;[LCattleShow$Beast;)I"⟩, 1) := ⟨⟨by decide +kernel, by decide +kernel⟩, List.mem_of_getElem? (i := 93) (by decide +kernel), List.mem_of_getElem? (i := 524) (by decide +kernel), List.mem_of_getElem? (i := 525) (by decide +kernel)⟩
theorem lw_p18 : lw_okq (⟨"CattleShow$Reasons", "readPair", "(LCattleShow$Tape;LCattleShow$ShowClass;[LCattleShow$Beast;)I"⟩, 1) := ⟨⟨by decide +kernel, by decide +kernel⟩, List.mem_of_getElem? (i := 93) (by decide +kernel), List.mem_of_getElem? (i := 528) (by decide +kernel), List.mem_of_getElem? (i := 529) (by decide +kernel)⟩
theorem lw_p19 : lw_okq (⟨"CattleShow$Reasons", "readTerms", "(LCattleShow$Tape;LCattleShow$Beast;LCattleShow$Beast;)I"⟩, 1) := ⟨⟨by decide +kernel, by decide +kernel⟩, List.mem_of_getElem? (i := 93) (by decide +kernel), List.mem_of_getElem? (i := 547) (by decide +kernel), List.mem_of_getElem? (i := 548) (by decide +kernel)⟩
theorem lw_p20 : lw_okq (⟨"CattleShow", "leastPlace", "(I)I"⟩, 10) := ⟨⟨by decide +kernel, by decide +kernel⟩, List.mem_of_getElem? (i := 14) (by decide +kernel), List.mem_of_getElem? (i := 582) (by decide +kernel), List.mem_of_getElem? (i := 583) (by decide +kernel)⟩
theorem lw_p21 : lw_okq (⟨"CattleShow", "classesOf", "(I)I"⟩, 10) := ⟨⟨by decide +kernel, by decide +kernel⟩, List.mem_of_getElem? (i := 14) (by decide +kernel), List.mem_of_getElem? (i := 595) (by decide +kernel), List.mem_of_getElem? (i := 596) (by decide +kernel)⟩
theorem lw_p22 : lw_okq (⟨"CattleShowModel", "push", "(I)V"⟩, 34) := ⟨⟨by decide +kernel, by decide +kernel⟩, List.mem_of_getElem? (i := 612) (by decide +kernel), List.mem_of_getElem? (i := 726) (by decide +kernel), List.mem_of_getElem? (i := 727) (by decide +kernel)⟩
theorem lw_p23 : lw_okq (⟨"CattleShowModel", "begins", "(I)V"⟩, 34) := ⟨⟨by decide +kernel, by decide +kernel⟩, List.mem_of_getElem? (i := 612) (by decide +kernel), List.mem_of_getElem? (i := 740) (by decide +kernel), List.mem_of_getElem? (i := 741) (by decide +kernel)⟩
theorem lw_p24 : lw_okq (⟨"CattleShowModel", "clause", "()V"⟩, 34) := ⟨⟨by decide +kernel, by decide +kernel⟩, List.mem_of_getElem? (i := 612) (by decide +kernel), List.mem_of_getElem? (i := 744) (by decide +kernel), List.mem_of_getElem? (i := 745) (by decide +kernel)⟩
theorem lw_p25 : lw_okq (⟨"CattleShowModel", "here", "()I"⟩, 34) := ⟨⟨by decide +kernel, by decide +kernel⟩, List.mem_of_getElem? (i := 612) (by decide +kernel), List.mem_of_getElem? (i := 748) (by decide +kernel), List.mem_of_getElem? (i := 749) (by decide +kernel)⟩
theorem lw_p26 : lw_okq (⟨"CattleShowModel", "fails", "(II)V"⟩, 34) := ⟨⟨by decide +kernel, by decide +kernel⟩, List.mem_of_getElem? (i := 612) (by decide +kernel), List.mem_of_getElem? (i := 752) (by decide +kernel), List.mem_of_getElem? (i := 753) (by decide +kernel)⟩
theorem lw_p27 : lw_okq (⟨"CattleShowModel", "breeds", "()V"⟩, 34) := ⟨⟨by decide +kernel, by decide +kernel⟩, List.mem_of_getElem? (i := 612) (by decide +kernel), List.mem_of_getElem? (i := 756) (by decide +kernel), List.mem_of_getElem? (i := 757) (by decide +kernel)⟩
theorem lw_p28 : lw_okq (⟨"CattleShowModel", "seesDigit", "()Z"⟩, 34) := ⟨⟨by decide +kernel, by decide +kernel⟩, List.mem_of_getElem? (i := 612) (by decide +kernel), List.mem_of_getElem? (i := 760) (by decide +kernel), List.mem_of_getElem? (i := 761) (by decide +kernel)⟩
theorem lw_p29 : lw_okq (⟨"CattleShowModel", "keeps", "(II)V"⟩, 34) := ⟨⟨by decide +kernel, by decide +kernel⟩, List.mem_of_getElem? (i := 612) (by decide +kernel), List.mem_of_getElem? (i := 764) (by decide +kernel), List.mem_of_getElem? (i := 765) (by decide +kernel)⟩
theorem lw_p30 : lw_okq (⟨"CattleShowModel", "measures", "()V"⟩, 34) := ⟨⟨by decide +kernel, by decide +kernel⟩, List.mem_of_getElem? (i := 612) (by decide +kernel), List.mem_of_getElem? (i := 768) (by decide +kernel), List.mem_of_getElem? (i := 769) (by decide +kernel)⟩
theorem lw_p31 : lw_okq (⟨"CattleShowModel", "readNumber", "()I"⟩, 34) := ⟨⟨by decide +kernel, by decide +kernel⟩, List.mem_of_getElem? (i := 612) (by decide +kernel), List.mem_of_getElem? (i := 772) (by decide +kernel), List.mem_of_getElem? (i := 773) (by decide +kernel)⟩
def lw_privs_2 : List (MethodName × Nat) := [(⟨"CattleShow$ShowClass", "cutsBetween", "(II)I"⟩, 9), (⟨"CattleShow$Reasons", "readPairs", "(LCattleShow$Tape;LCattleShow$ShowClass;[LCattleShow$Beast;)I"⟩, 1), (⟨"CattleShow$Reasons", "readPair", "(LCattleShow$Tape;LCattleShow$ShowClass;[LCattleShow$Beast;)I"⟩, 1), (⟨"CattleShow$Reasons", "readTerms", "(LCattleShow$Tape;LCattleShow$Beast;LCattleShow$Beast;)I"⟩, 1), (⟨"CattleShow", "leastPlace", "(I)I"⟩, 10), (⟨"CattleShow", "classesOf", "(I)I"⟩, 10), (⟨"CattleShowModel", "push", "(I)V"⟩, 34), (⟨"CattleShowModel", "begins", "(I)V"⟩, 34), (⟨"CattleShowModel", "clause", "()V"⟩, 34), (⟨"CattleShowModel", "here", "()I"⟩, 34), (⟨"CattleShowModel", "fails", "(II)V"⟩, 34), (⟨"CattleShowModel", "breeds", "()V"⟩, 34), (⟨"CattleShowModel", "seesDigit", "()Z"⟩, 34), (⟨"CattleShowModel", "keeps", "(II)V"⟩, 34), (⟨"CattleShowModel", "measures", "()V"⟩, 34), (⟨"CattleShowModel", "readNumber", "()I"⟩, 34)]
theorem lw_r2 : ∀ q ∈ lw_privs_2, lw_okq q := List.forall_mem_cons.mpr ⟨lw_p16, List.forall_mem_cons.mpr ⟨lw_p17, List.forall_mem_cons.mpr ⟨lw_p18, List.forall_mem_cons.mpr ⟨lw_p19, List.forall_mem_cons.mpr ⟨lw_p20, List.forall_mem_cons.mpr ⟨lw_p21, List.forall_mem_cons.mpr ⟨lw_p22, List.forall_mem_cons.mpr ⟨lw_p23, List.forall_mem_cons.mpr ⟨lw_p24, List.forall_mem_cons.mpr ⟨lw_p25, List.forall_mem_cons.mpr ⟨lw_p26, List.forall_mem_cons.mpr ⟨lw_p27, List.forall_mem_cons.mpr ⟨lw_p28, List.forall_mem_cons.mpr ⟨lw_p29, List.forall_mem_cons.mpr ⟨lw_p30, List.forall_mem_cons.mpr ⟨lw_p31, fun _ h => absurd h List.not_mem_nil⟩⟩⟩⟩⟩⟩⟩⟩⟩⟩⟩⟩⟩⟩⟩⟩
theorem lw_p32 : lw_okq (⟨"CattleShowModel", "isBeast", "(I)Z"⟩, 34) := ⟨⟨by decide +kernel, by decide +kernel⟩, List.mem_of_getElem? (i := 612) (by decide +kernel), List.mem_of_getElem? (i := 784) (by decide +kernel), List.mem_of_getElem? (i := 785) (by decide +kernel)⟩
theorem lw_p33 : lw_okq (⟨"CattleShowModel", "isLet", "(II)Z"⟩, 34) := ⟨⟨by decide +kernel, by decide +kernel⟩, List.mem_of_getElem? (i := 612) (by decide +kernel), List.mem_of_getElem? (i := 792) (by decide +kernel), List.mem_of_getElem? (i := 793) (by decide +kernel)⟩
theorem lw_p34 : lw_okq (⟨"CattleShowModel", "holds", "(III)Z"⟩, 34) := ⟨⟨by decide +kernel, by decide +kernel⟩, List.mem_of_getElem? (i := 612) (by decide +kernel), List.mem_of_getElem? (i := 796) (by decide +kernel), List.mem_of_getElem? (i := 797) (by decide +kernel)⟩
theorem lw_p35 : lw_okq (⟨"CattleShowModel", "isRowOf", "(I)Z"⟩, 34) := ⟨⟨by decide +kernel, by decide +kernel⟩, List.mem_of_getElem? (i := 612) (by decide +kernel), List.mem_of_getElem? (i := 822) (by decide +kernel), List.mem_of_getElem? (i := 823) (by decide +kernel)⟩
theorem lw_p36 : lw_okq (⟨"CattleShowModel", "joins", "(I)V"⟩, 34) := ⟨⟨by decide +kernel, by decide +kernel⟩, List.mem_of_getElem? (i := 612) (by decide +kernel), List.mem_of_getElem? (i := 830) (by decide +kernel), List.mem_of_getElem? (i := 831) (by decide +kernel)⟩
theorem lw_p37 : lw_okq (⟨"CattleShowModel", "ahead", "(III)I"⟩, 34) := ⟨⟨by decide +kernel, by decide +kernel⟩, List.mem_of_getElem? (i := 612) (by decide +kernel), List.mem_of_getElem? (i := 834) (by decide +kernel), List.mem_of_getElem? (i := 835) (by decide +kernel)⟩
theorem lw_p38 : lw_okq (⟨"CattleShowModel", "counts", "(II)Z"⟩, 34) := ⟨⟨by decide +kernel, by decide +kernel⟩, List.mem_of_getElem? (i := 612) (by decide +kernel), List.mem_of_getElem? (i := 838) (by decide +kernel), List.mem_of_getElem? (i := 839) (by decide +kernel)⟩
theorem lw_p39 : lw_okq (⟨"CattleShowModel", "placeIn", "(III)I"⟩, 34) := ⟨⟨by decide +kernel, by decide +kernel⟩, List.mem_of_getElem? (i := 612) (by decide +kernel), List.mem_of_getElem? (i := 842) (by decide +kernel), List.mem_of_getElem? (i := 843) (by decide +kernel)⟩
theorem lw_p40 : lw_okq (⟨"CattleShowModel", "cost", "(II)I"⟩, 34) := ⟨⟨by decide +kernel, by decide +kernel⟩, List.mem_of_getElem? (i := 612) (by decide +kernel), List.mem_of_getElem? (i := 846) (by decide +kernel), List.mem_of_getElem? (i := 847) (by decide +kernel)⟩
theorem lw_p41 : lw_okq (⟨"CattleShowModel", "isMore", "(II)Z"⟩, 34) := ⟨⟨by decide +kernel, by decide +kernel⟩, List.mem_of_getElem? (i := 612) (by decide +kernel), List.mem_of_getElem? (i := 858) (by decide +kernel), List.mem_of_getElem? (i := 859) (by decide +kernel)⟩
theorem lw_p42 : lw_okq (⟨"CattleShowModel", "placeNow", "(I)I"⟩, 34) := ⟨⟨by decide +kernel, by decide +kernel⟩, List.mem_of_getElem? (i := 612) (by decide +kernel), List.mem_of_getElem? (i := 870) (by decide +kernel), List.mem_of_getElem? (i := 871) (by decide +kernel)⟩
theorem lw_p43 : lw_okq (⟨"CattleShowModel", "pair", "()V"⟩, 34) := ⟨⟨by decide +kernel, by decide +kernel⟩, List.mem_of_getElem? (i := 612) (by decide +kernel), List.mem_of_getElem? (i := 878) (by decide +kernel), List.mem_of_getElem? (i := 879) (by decide +kernel)⟩
theorem lw_p44 : lw_okq (⟨"CattleShowModel", "place", "(I)I"⟩, 34) := ⟨⟨by decide +kernel, by decide +kernel⟩, List.mem_of_getElem? (i := 612) (by decide +kernel), List.mem_of_getElem? (i := 882) (by decide +kernel), List.mem_of_getElem? (i := 883) (by decide +kernel)⟩
theorem lw_p45 : lw_okq (⟨"CattleShowModel", "must", "(I)V"⟩, 34) := ⟨⟨by decide +kernel, by decide +kernel⟩, List.mem_of_getElem? (i := 612) (by decide +kernel), List.mem_of_getElem? (i := 886) (by decide +kernel), List.mem_of_getElem? (i := 887) (by decide +kernel)⟩
theorem lw_p46 : lw_okq (⟨"CattleShowModel", "lays", "()I"⟩, 34) := ⟨⟨by decide +kernel, by decide +kernel⟩, List.mem_of_getElem? (i := 612) (by decide +kernel), List.mem_of_getElem? (i := 898) (by decide +kernel), List.mem_of_getElem? (i := 899) (by decide +kernel)⟩
theorem lw_p47 : lw_okq (⟨"CattleShowModel", "isGood", "()Z"⟩, 34) := ⟨⟨by decide +kernel, by decide +kernel⟩, List.mem_of_getElem? (i := 612) (by decide +kernel), List.mem_of_getElem? (i := 902) (by decide +kernel), List.mem_of_getElem? (i := 903) (by decide +kernel)⟩
def lw_privs_3 : List (MethodName × Nat) := [(⟨"CattleShowModel", "isBeast", "(I)Z"⟩, 34), (⟨"CattleShowModel", "isLet", "(II)Z"⟩, 34), (⟨"CattleShowModel", "holds", "(III)Z"⟩, 34), (⟨"CattleShowModel", "isRowOf", "(I)Z"⟩, 34), (⟨"CattleShowModel", "joins", "(I)V"⟩, 34), (⟨"CattleShowModel", "ahead", "(III)I"⟩, 34), (⟨"CattleShowModel", "counts", "(II)Z"⟩, 34), (⟨"CattleShowModel", "placeIn", "(III)I"⟩, 34), (⟨"CattleShowModel", "cost", "(II)I"⟩, 34), (⟨"CattleShowModel", "isMore", "(II)Z"⟩, 34), (⟨"CattleShowModel", "placeNow", "(I)I"⟩, 34), (⟨"CattleShowModel", "pair", "()V"⟩, 34), (⟨"CattleShowModel", "place", "(I)I"⟩, 34), (⟨"CattleShowModel", "must", "(I)V"⟩, 34), (⟨"CattleShowModel", "lays", "()I"⟩, 34), (⟨"CattleShowModel", "isGood", "()Z"⟩, 34)]
theorem lw_r3 : ∀ q ∈ lw_privs_3, lw_okq q := List.forall_mem_cons.mpr ⟨lw_p32, List.forall_mem_cons.mpr ⟨lw_p33, List.forall_mem_cons.mpr ⟨lw_p34, List.forall_mem_cons.mpr ⟨lw_p35, List.forall_mem_cons.mpr ⟨lw_p36, List.forall_mem_cons.mpr ⟨lw_p37, List.forall_mem_cons.mpr ⟨lw_p38, List.forall_mem_cons.mpr ⟨lw_p39, List.forall_mem_cons.mpr ⟨lw_p40, List.forall_mem_cons.mpr ⟨lw_p41, List.forall_mem_cons.mpr ⟨lw_p42, List.forall_mem_cons.mpr ⟨lw_p43, List.forall_mem_cons.mpr ⟨lw_p44, List.forall_mem_cons.mpr ⟨lw_p45, List.forall_mem_cons.mpr ⟨lw_p46, List.forall_mem_cons.mpr ⟨lw_p47, fun _ h => absurd h List.not_mem_nil⟩⟩⟩⟩⟩⟩⟩⟩⟩⟩⟩⟩⟩⟩⟩⟩
theorem lw_p48 : lw_okq (⟨"CattleShowModel", "isNext", "(I)Z"⟩, 34) := ⟨⟨by decide +kernel, by decide +kernel⟩, List.mem_of_getElem? (i := 612) (by decide +kernel), List.mem_of_getElem? (i := 906) (by decide +kernel), List.mem_of_getElem? (i := 907) (by decide +kernel)⟩
theorem lw_p49 : lw_okq (⟨"CattleShowModel", "ranks", "()V"⟩, 34) := ⟨⟨by decide +kernel, by decide +kernel⟩, List.mem_of_getElem? (i := 612) (by decide +kernel), List.mem_of_getElem? (i := 914) (by decide +kernel), List.mem_of_getElem? (i := 915) (by decide +kernel)⟩
def lw_privs_4 : List (MethodName × Nat) := [(⟨"CattleShowModel", "isNext", "(I)Z"⟩, 34), (⟨"CattleShowModel", "ranks", "()V"⟩, 34)]
theorem lw_r4 : ∀ q ∈ lw_privs_4, lw_okq q := List.forall_mem_cons.mpr ⟨lw_p48, List.forall_mem_cons.mpr ⟨lw_p49, fun _ h => absurd h List.not_mem_nil⟩⟩
def lw_privs : List (MethodName × Nat) := lw_privs_1 ++ (lw_privs_2 ++ (lw_privs_3 ++ (lw_privs_4)))
def lw_tbl : List Cond := k2_sels lw_privs ++ tables_1
theorem lw_privs_ok : ∀ q ∈ lw_privs, lw_okq q := by
  show ∀ q ∈ lw_privs_1 ++ (lw_privs_2 ++ (lw_privs_3 ++ (lw_privs_4))), lw_okq q
  exact List.forall_mem_append.mpr ⟨lw_r1, List.forall_mem_append.mpr ⟨lw_r2, List.forall_mem_append.mpr ⟨lw_r3, lw_r4⟩⟩⟩
-- ===== end of PART A; then your names; then what follows =====
end
section
/-! ===== BEGIN words of one list among another's, by their places ===== -/
theorem goodIn_r {big : List Cond} (ws : List Cond) (ps : List Nat) (hp : ws = ps.filterMap (fun i => big[i]?)) (h : ws.all goodWord = true) : GoodIn big ws := by
  intro w hw
  have h1 := List.all_eq_true.mp h w hw
  rw [hp] at hw
  obtain ⟨i, -, hi⟩ := List.mem_filterMap.mp hw
  have hm : w ∈ big := by first | exact List.mem_of_getElem? hi | exact List.getElem?_mem hi
  exact ⟨hm, good_of_word h1⟩
theorem goodIn_app {big a b : List Cond} (ha : GoodIn big a) (hb : GoodIn big b) : GoodIn big (a ++ b) := fun w h => (List.mem_append.mp h).elim (ha w) (hb w)
theorem goodIn_ca {big a b : List Cond} {c : Cond} (ha : GoodIn big (c :: a)) (hb : GoodIn big b) : GoodIn big (c :: (a ++ b)) := fun w h => (List.mem_cons.mp h).elim (fun e => ha w (List.mem_cons.mpr (Or.inl e))) (fun h => (List.mem_append.mp h).elim (fun h => ha w (List.mem_cons.mpr (Or.inr h))) (hb w))
theorem goodIn_sub {big ws : List Cond} (hm : ∀ w ∈ ws, w ∈ big) (h : ws.all goodWord = true) : GoodIn big ws := fun w hw => ⟨hm w hw, good_of_word (List.all_eq_true.mp h w hw)⟩
/-! ===== END ===== -/
def RX0 : String := "CattleShow$Beast"
def TX0 : u_T := fun k => match k with
  | 0 => ("CattleShow$Beast", "breed", "I", true)
  | 1 => ("CattleShow$Beast", "age", "I", true)
  | 2 => ("CattleShow$Beast", "sire", "I", true)
  | 3 => ("CattleShow$Beast", "handler", "I", true)
  | _ => ("CattleShow$Beast", "measures", "[I", true)
def tyX0 : Nat → FieldType := fun k => match k with
  | 0 => .int
  | 1 => .int
  | 2 => .int
  | 3 => .int
  | _ => .array .int
abbrev wsX00 : List Cond := u_ws RX0 TX0 5
theorem nmX0 : ∀ a, a < 5 → ∀ b, b < 5 → a ≠ b → (TX0 a).2.1 ≠ (TX0 b).2.1 := by decide +kernel
theorem tyX0_ok : ∀ k, k < 5 → parseFieldDescriptor (TX0 k).2.2.1 = some (tyX0 k) := by decide +kernel
abbrev cX0_init : ByteArray := prog_2_method_1_code
def yX0_init : MethodName := ⟨RX0, "<init>", "(IIII)V"⟩
def RX1 : String := "CattleShow$ClassText"
def TX1 : u_T := fun k => match k with
  | 0 => ("CattleShow$ClassText", "least", "[I", true)
  | 1 => ("CattleShow$ClassText", "most", "[I", true)
  | _ => ("CattleShow$ClassText", "breeds", "I", false)
def tyX1 : Nat → FieldType := fun k => match k with
  | 0 => .array .int
  | 1 => .array .int
  | _ => .int
abbrev wsX10 : List Cond := u_ws RX1 TX1 3
theorem nmX1 : ∀ a, a < 3 → ∀ b, b < 3 → a ≠ b → (TX1 a).2.1 ≠ (TX1 b).2.1 := by decide +kernel
theorem tyX1_ok : ∀ k, k < 3 → parseFieldDescriptor (TX1 k).2.2.1 = some (tyX1 k) := by decide +kernel
abbrev cX1_init : ByteArray := prog_3_method_1_code
def yX1_init : MethodName := ⟨RX1, "<init>", "()V"⟩
abbrev cX1_admits : ByteArray := prog_3_method_2_code
def yX1_admits : MethodName := ⟨RX1, "admits", "(LCattleShow$Beast;)Z"⟩
abbrev cX1_readFrom : ByteArray := prog_3_method_3_code
def yX1_readFrom : MethodName := ⟨RX1, "readFrom", "(LCattleShow$Tape;)I"⟩
abbrev cX1_letAll : ByteArray := prog_3_method_4_code
def yX1_letAll : MethodName := ⟨RX1, "letAll", "()V"⟩
abbrev cX1_isWithin : ByteArray := prog_3_method_5_code
def yX1_isWithin : MethodName := ⟨RX1, "isWithin", "(II)Z"⟩
abbrev cX1_isClauseLetter : ByteArray := prog_3_method_6_code
def yX1_isClauseLetter : MethodName := ⟨RX1, "isClauseLetter", "(I)Z"⟩
abbrev cX1_readClause : ByteArray := prog_3_method_7_code
def yX1_readClause : MethodName := ⟨RX1, "readClause", "(LCattleShow$Tape;)I"⟩
abbrev cX1_readBreeds : ByteArray := prog_3_method_8_code
def yX1_readBreeds : MethodName := ⟨RX1, "readBreeds", "(LCattleShow$Tape;)I"⟩
abbrev cX1_readMeasure : ByteArray := prog_3_method_9_code
def yX1_readMeasure : MethodName := ⟨RX1, "readMeasure", "(LCattleShow$Tape;)I"⟩
abbrev cX1_readLeast : ByteArray := prog_3_method_10_code
def yX1_readLeast : MethodName := ⟨RX1, "readLeast", "(LCattleShow$Tape;II)I"⟩
abbrev cX1_readMost : ByteArray := prog_3_method_11_code
def yX1_readMost : MethodName := ⟨RX1, "readMost", "(LCattleShow$Tape;II)I"⟩
def RX2 : String := "CattleShow$Joiner"
def TX2 : u_T := fun k => match k with
  | 0 => ("CattleShow$Joiner", "members", "[I", true)
  | 1 => ("CattleShow$Joiner", "slots", "[I", true)
  | 2 => ("CattleShow$Joiner", "size", "I", false)
  | 3 => ("CattleShow$Joiner", "ahead", "[[I", true)
  | 4 => ("CattleShow$Joiner", "lost", "[[I", true)
  | _ => ("CattleShow$Joiner", "fewest", "[I", true)
def tyX2 : Nat → FieldType := fun k => match k with
  | 0 => .array .int
  | 1 => .array .int
  | 2 => .int
  | 3 => .array (.array .int)
  | 4 => .array (.array .int)
  | _ => .array .int
abbrev wsX20 : List Cond := u_ws RX2 TX2 6
theorem nmX2 : ∀ a, a < 6 → ∀ b, b < 6 → a ≠ b → (TX2 a).2.1 ≠ (TX2 b).2.1 := by decide +kernel
theorem tyX2_ok : ∀ k, k < 6 → parseFieldDescriptor (TX2 k).2.2.1 = some (tyX2 k) := by decide +kernel
abbrev cX2_init : ByteArray := prog_4_method_1_code
def yX2_init : MethodName := ⟨RX2, "<init>", "()V"⟩
abbrev cX2_join : ByteArray := prog_4_method_2_code
def yX2_join : MethodName := ⟨RX2, "join", "(LCattleShow$ShowClass;)V"⟩
abbrev cX2_findInRing : ByteArray := prog_4_method_3_code
def yX2_findInRing : MethodName := ⟨RX2, "findInRing", "(LCattleShow$ShowClass;I)I"⟩
abbrev cX2_beats : ByteArray := prog_4_method_4_code
def yX2_beats : MethodName := ⟨RX2, "beats", "(II)Z"⟩
abbrev cX2_tally : ByteArray := prog_4_method_5_code
def yX2_tally : MethodName := ⟨RX2, "tally", "(LCattleShow$ShowClass;)V"⟩
abbrev cX2_tallyOrder : ByteArray := prog_4_method_6_code
def yX2_tallyOrder : MethodName := ⟨RX2, "tallyOrder", "([II)V"⟩
abbrev cX2_sumLost : ByteArray := prog_4_method_7_code
def yX2_sumLost : MethodName := ⟨RX2, "sumLost", "()V"⟩
abbrev cX2_findFewest : ByteArray := prog_4_method_8_code
def yX2_findFewest : MethodName := ⟨RX2, "findFewest", "()V"⟩
abbrev cX2_swapsWithFirst : ByteArray := prog_4_method_9_code
def yX2_swapsWithFirst : MethodName := ⟨RX2, "swapsWithFirst", "(II)I"⟩
abbrev cX2_leastFirst : ByteArray := prog_4_method_10_code
def yX2_leastFirst : MethodName := ⟨RX2, "leastFirst", "(I)I"⟩
def RX3 : String := "CattleShow$Reasons"
def TX3 : u_T := fun k => match k with
  | _ => ("CattleShow$Reasons", "points", "I", false)
def tyX3 : Nat → FieldType := fun k => match k with
  | _ => .int
abbrev wsX30 : List Cond := u_ws RX3 TX3 1
theorem nmX3 : ∀ a, a < 1 → ∀ b, b < 1 → a ≠ b → (TX3 a).2.1 ≠ (TX3 b).2.1 := by decide +kernel
theorem tyX3_ok : ∀ k, k < 1 → parseFieldDescriptor (TX3 k).2.2.1 = some (tyX3 k) := by decide +kernel
abbrev cX3_init : ByteArray := prog_5_method_1_code
def yX3_init : MethodName := ⟨RX3, "<init>", "()V"⟩
abbrev cX3_score : ByteArray := prog_5_method_2_code
def yX3_score : MethodName := ⟨RX3, "score", "(LCattleShow$Tape;LCattleShow$ShowClass;[LCattleShow$Beast;)I"⟩
abbrev cX3_readPairs : ByteArray := prog_5_method_3_code
def yX3_readPairs : MethodName := ⟨RX3, "readPairs", "(LCattleShow$Tape;LCattleShow$ShowClass;[LCattleShow$Beast;)I"⟩
abbrev cX3_readPair : ByteArray := prog_5_method_4_code
def yX3_readPair : MethodName := ⟨RX3, "readPair", "(LCattleShow$Tape;LCattleShow$ShowClass;[LCattleShow$Beast;)I"⟩
abbrev cX3_placeNamed : ByteArray := prog_5_method_5_code
def yX3_placeNamed : MethodName := ⟨RX3, "placeNamed", "(LCattleShow$Tape;)I"⟩
abbrev cX3_faultOfPlace : ByteArray := prog_5_method_6_code
def yX3_faultOfPlace : MethodName := ⟨RX3, "faultOfPlace", "(LCattleShow$Tape;II)I"⟩
abbrev cX3_readTerms : ByteArray := prog_5_method_7_code
def yX3_readTerms : MethodName := ⟨RX3, "readTerms", "(LCattleShow$Tape;LCattleShow$Beast;LCattleShow$Beast;)I"⟩
abbrev cX3_isAtTerm : ByteArray := prog_5_method_8_code
def yX3_isAtTerm : MethodName := ⟨RX3, "isAtTerm", "(LCattleShow$Tape;)Z"⟩
abbrev cX3_isAtMeasure : ByteArray := prog_5_method_9_code
def yX3_isAtMeasure : MethodName := ⟨RX3, "isAtMeasure", "(LCattleShow$Tape;)Z"⟩
def RX4 : String := "CattleShow$ShowClass"
def TX4 : u_T := fun k => match k with
  | 0 => ("CattleShow$ShowClass", "entered", "I", false)
  | 1 => ("CattleShow$ShowClass", "size", "I", false)
  | 2 => ("CattleShow$ShowClass", "out", "I", false)
  | 3 => ("CattleShow$ShowClass", "asked", "LCattleShow$ClassText;", false)
  | 4 => ("CattleShow$ShowClass", "orders", "[[I", true)
  | 5 => ("CattleShow$ShowClass", "orderLengths", "[I", true)
  | 6 => ("CattleShow$ShowClass", "joined", "[I", true)
  | 7 => ("CattleShow$ShowClass", "fewestSwaps", "I", false)
  | _ => ("CattleShow$ShowClass", "cuts", "[I", true)
def tyX4 : Nat → FieldType := fun k => match k with
  | 0 => .int
  | 1 => .int
  | 2 => .int
  | 3 => .object "CattleShow$ClassText"
  | 4 => .array (.array .int)
  | 5 => .array .int
  | 6 => .array .int
  | 7 => .int
  | _ => .array .int
abbrev wsX40 : List Cond := u_ws RX4 TX4 9
theorem nmX4 : ∀ a, a < 9 → ∀ b, b < 9 → a ≠ b → (TX4 a).2.1 ≠ (TX4 b).2.1 := by decide +kernel
theorem tyX4_ok : ∀ k, k < 9 → parseFieldDescriptor (TX4 k).2.2.1 = some (tyX4 k) := by decide +kernel
abbrev cX4_init : ByteArray := prog_6_method_1_code
def yX4_init : MethodName := ⟨RX4, "<init>", "()V"⟩
abbrev cX4_swapText : ByteArray := prog_6_method_2_code
def yX4_swapText : MethodName := ⟨RX4, "swapText", "(LCattleShow$ClassText;)LCattleShow$ClassText;"⟩
abbrev cX4_admits : ByteArray := prog_6_method_3_code
def yX4_admits : MethodName := ⟨RX4, "admits", "(LCattleShow$Beast;)Z"⟩
abbrev cX4_holds : ByteArray := prog_6_method_4_code
def yX4_holds : MethodName := ⟨RX4, "holds", "(I)Z"⟩
abbrev cX4_canTake : ByteArray := prog_6_method_5_code
def yX4_canTake : MethodName := ⟨RX4, "canTake", "(I)Z"⟩
abbrev cX4_take : ByteArray := prog_6_method_6_code
def yX4_take : MethodName := ⟨RX4, "take", "(I)V"⟩
abbrev cX4_putOut : ByteArray := prog_6_method_7_code
def yX4_putOut : MethodName := ⟨RX4, "putOut", "(I)V"⟩
abbrev cX4_keepOrder : ByteArray := prog_6_method_8_code
def yX4_keepOrder : MethodName := ⟨RX4, "keepOrder", "(ILCattleShow$Tape;)V"⟩
abbrev cX4_countOrders : ByteArray := prog_6_method_9_code
def yX4_countOrders : MethodName := ⟨RX4, "countOrders", "()I"⟩
abbrev cX4_placeOf : ByteArray := prog_6_method_10_code
def yX4_placeOf : MethodName := ⟨RX4, "placeOf", "(I)I"⟩
abbrev cX4_cardLength : ByteArray := prog_6_method_11_code
def yX4_cardLength : MethodName := ⟨RX4, "cardLength", "()I"⟩
abbrev cX4_cardBeasts : ByteArray := prog_6_method_12_code
def yX4_cardBeasts : MethodName := ⟨RX4, "cardBeasts", "()I"⟩
abbrev cX4_scoreCard : ByteArray := prog_6_method_13_code
def yX4_scoreCard : MethodName := ⟨RX4, "scoreCard", "(LCattleShow$Tape;)I"⟩
abbrev cX4_cutsBetween : ByteArray := prog_6_method_14_code
def yX4_cutsBetween : MethodName := ⟨RX4, "cutsBetween", "(II)I"⟩
def RX5 : String := "CattleShow$Tape"
def TX5 : u_T := fun k => match k with
  | 0 => ("CattleShow$Tape", "bytes", "[I", true)
  | 1 => ("CattleShow$Tape", "filled", "I", false)
  | 2 => ("CattleShow$Tape", "readable", "I", false)
  | _ => ("CattleShow$Tape", "at", "I", false)
def tyX5 : Nat → FieldType := fun k => match k with
  | 0 => .array .int
  | 1 => .int
  | 2 => .int
  | _ => .int
abbrev wsX50 : List Cond := u_ws RX5 TX5 4
theorem nmX5 : ∀ a, a < 4 → ∀ b, b < 4 → a ≠ b → (TX5 a).2.1 ≠ (TX5 b).2.1 := by decide +kernel
theorem tyX5_ok : ∀ k, k < 4 → parseFieldDescriptor (TX5 k).2.2.1 = some (tyX5 k) := by decide +kernel
abbrev cX5_init : ByteArray := prog_7_method_1_code
def yX5_init : MethodName := ⟨RX5, "<init>", "()V"⟩
abbrev cX5_length : ByteArray := prog_7_method_2_code
def yX5_length : MethodName := ⟨RX5, "length", "()I"⟩
abbrev cX5_hasRoom : ByteArray := prog_7_method_3_code
def yX5_hasRoom : MethodName := ⟨RX5, "hasRoom", "()Z"⟩
abbrev cX5_has : ByteArray := prog_7_method_4_code
def yX5_has : MethodName := ⟨RX5, "has", "(I)Z"⟩
abbrev cX5_append : ByteArray := prog_7_method_5_code
def yX5_append : MethodName := ⟨RX5, "append", "(I)V"⟩
abbrev cX5_clear : ByteArray := prog_7_method_6_code
def yX5_clear : MethodName := ⟨RX5, "clear", "()V"⟩
abbrev cX5_byteAt : ByteArray := prog_7_method_7_code
def yX5_byteAt : MethodName := ⟨RX5, "byteAt", "(I)I"⟩
abbrev cX5_namesEachOf : ByteArray := prog_7_method_8_code
def yX5_namesEachOf : MethodName := ⟨RX5, "namesEachOf", "(I)Z"⟩
abbrev cX5_startReading : ByteArray := prog_7_method_9_code
def yX5_startReading : MethodName := ⟨RX5, "startReading", "(I)V"⟩
abbrev cX5_place : ByteArray := prog_7_method_10_code
def yX5_place : MethodName := ⟨RX5, "place", "()I"⟩
abbrev cX5_isAtEnd : ByteArray := prog_7_method_11_code
def yX5_isAtEnd : MethodName := ⟨RX5, "isAtEnd", "()Z"⟩
abbrev cX5_peek : ByteArray := prog_7_method_12_code
def yX5_peek : MethodName := ⟨RX5, "peek", "()I"⟩
abbrev cX5_skip : ByteArray := prog_7_method_13_code
def yX5_skip : MethodName := ⟨RX5, "skip", "()V"⟩
abbrev cX5_skipIf : ByteArray := prog_7_method_14_code
def yX5_skipIf : MethodName := ⟨RX5, "skipIf", "(C)Z"⟩
abbrev cX5_isAtDigit : ByteArray := prog_7_method_15_code
def yX5_isAtDigit : MethodName := ⟨RX5, "isAtDigit", "()Z"⟩
abbrev cX5_readNumber : ByteArray := prog_7_method_16_code
def yX5_readNumber : MethodName := ⟨RX5, "readNumber", "()I"⟩
abbrev cX5_faultHere : ByteArray := prog_7_method_17_code
def yX5_faultHere : MethodName := ⟨RX5, "faultHere", "(I)I"⟩
abbrev cX5_faultAt : ByteArray := prog_7_method_18_code
def yX5_faultAt : MethodName := ⟨RX5, "faultAt", "(II)I"⟩
def RX6 : String := "CattleShow$Timetable"
def TX6 : u_T := fun k => match k with
  | 0 => ("CattleShow$Timetable", "handlers", "[I", true)
  | 1 => ("CattleShow$Timetable", "hours", "[I", true)
  | 2 => ("CattleShow$Timetable", "busyHandlers", "[I", true)
  | _ => ("CattleShow$Timetable", "busyRings", "[I", true)
def tyX6 : Nat → FieldType := fun k => match k with
  | 0 => .array .int
  | 1 => .array .int
  | 2 => .array .int
  | _ => .array .int
abbrev wsX60 : List Cond := u_ws RX6 TX6 4
theorem nmX6 : ∀ a, a < 4 → ∀ b, b < 4 → a ≠ b → (TX6 a).2.1 ≠ (TX6 b).2.1 := by decide +kernel
theorem tyX6_ok : ∀ k, k < 4 → parseFieldDescriptor (TX6 k).2.2.1 = some (tyX6 k) := by decide +kernel
abbrev cX6_init : ByteArray := prog_8_method_1_code
def yX6_init : MethodName := ⟨RX6, "<init>", "()V"⟩
abbrev cX6_plan : ByteArray := prog_8_method_2_code
def yX6_plan : MethodName := ⟨RX6, "plan", "([LCattleShow$ShowClass;[LCattleShow$Beast;I)V"⟩
abbrev cX6_lastHour : ByteArray := prog_8_method_3_code
def yX6_lastHour : MethodName := ⟨RX6, "lastHour", "()I"⟩
abbrev cX6_handlersOf : ByteArray := prog_8_method_4_code
def yX6_handlersOf : MethodName := ⟨RX6, "handlersOf", "(LCattleShow$ShowClass;[LCattleShow$Beast;)I"⟩
abbrev cX6_fitFrom : ByteArray := prog_8_method_5_code
def yX6_fitFrom : MethodName := ⟨RX6, "fitFrom", "(LCattleShow$Timetable;III)Z"⟩
def RX7 : String := "CattleShow"
def TX7 : u_T := fun k => match k with
  | 0 => ("CattleShow", "tape", "LCattleShow$Tape;", true)
  | 1 => ("CattleShow", "beasts", "[LCattleShow$Beast;", true)
  | 2 => ("CattleShow", "classes", "[LCattleShow$ShowClass;", true)
  | 3 => ("CattleShow", "barred", "[I", true)
  | 4 => ("CattleShow", "joiner", "LCattleShow$Joiner;", true)
  | 5 => ("CattleShow", "timetable", "LCattleShow$Timetable;", true)
  | 6 => ("CattleShow", "reader", "LCattleShow$Reasons;", true)
  | 7 => ("CattleShow", "spareText", "LCattleShow$ClassText;", false)
  | 8 => ("CattleShow", "beastCount", "I", false)
  | _ => ("CattleShow", "rings", "I", false)
def tyX7 : Nat → FieldType := fun k => match k with
  | 0 => .object "CattleShow$Tape"
  | 1 => .array (.object "CattleShow$Beast")
  | 2 => .array (.object "CattleShow$ShowClass")
  | 3 => .array .int
  | 4 => .object "CattleShow$Joiner"
  | 5 => .object "CattleShow$Timetable"
  | 6 => .object "CattleShow$Reasons"
  | 7 => .object "CattleShow$ClassText"
  | 8 => .int
  | _ => .int
abbrev wsX70 : List Cond := u_ws RX7 TX7 10
theorem nmX7 : ∀ a, a < 10 → ∀ b, b < 10 → a ≠ b → (TX7 a).2.1 ≠ (TX7 b).2.1 := by decide +kernel
theorem tyX7_ok : ∀ k, k < 10 → parseFieldDescriptor (TX7 k).2.2.1 = some (tyX7 k) := by decide +kernel
abbrev cX7_init : ByteArray := prog_1_method_1_code
def yX7_init : MethodName := ⟨RX7, "<init>", "()V"⟩
abbrev cX7_feed : ByteArray := prog_1_method_2_code
def yX7_feed : MethodName := ⟨RX7, "feed", "(IIIII)I"⟩
abbrev cX7_text : ByteArray := prog_1_method_3_code
def yX7_text : MethodName := ⟨RX7, "text", "(II)I"⟩
abbrev cX7_beast : ByteArray := prog_1_method_4_code
def yX7_beast : MethodName := ⟨RX7, "beast", "(IIII)I"⟩
abbrev cX7_measure : ByteArray := prog_1_method_5_code
def yX7_measure : MethodName := ⟨RX7, "measure", "(III)Z"⟩
abbrev cX7_lets : ByteArray := prog_1_method_6_code
def yX7_lets : MethodName := ⟨RX7, "lets", "(II)I"⟩
abbrev cX7_enter : ByteArray := prog_1_method_7_code
def yX7_enter : MethodName := ⟨RX7, "enter", "(II)Z"⟩
abbrev cX7_protest : ByteArray := prog_1_method_8_code
def yX7_protest : MethodName := ⟨RX7, "protest", "(II)Z"⟩
abbrev cX7_bar : ByteArray := prog_1_method_9_code
def yX7_bar : MethodName := ⟨RX7, "bar", "(II)Z"⟩
abbrev cX7_order : ByteArray := prog_1_method_10_code
def yX7_order : MethodName := ⟨RX7, "order", "(II)Z"⟩
abbrev cX7_placed : ByteArray := prog_1_method_11_code
def yX7_placed : MethodName := ⟨RX7, "placed", "(II)I"⟩
abbrev cX7_swaps : ByteArray := prog_1_method_12_code
def yX7_swaps : MethodName := ⟨RX7, "swaps", "(I)I"⟩
abbrev cX7_ring : ByteArray := prog_1_method_13_code
def yX7_ring : MethodName := ⟨RX7, "ring", "(II)I"⟩
abbrev cX7_cut : ByteArray := prog_1_method_14_code
def yX7_cut : MethodName := ⟨RX7, "cut", "(III)Z"⟩
abbrev cX7_card : ByteArray := prog_1_method_15_code
def yX7_card : MethodName := ⟨RX7, "card", "(I)I"⟩
abbrev cX7_reasons : ByteArray := prog_1_method_16_code
def yX7_reasons : MethodName := ⟨RX7, "reasons", "(II)I"⟩
abbrev cX7_sand : ByteArray := prog_1_method_17_code
def yX7_sand : MethodName := ⟨RX7, "sand", "(I)Z"⟩
abbrev cX7_hour : ByteArray := prog_1_method_18_code
def yX7_hour : MethodName := ⟨RX7, "hour", "(I)I"⟩
abbrev cX7_team : ByteArray := prog_1_method_19_code
def yX7_team : MethodName := ⟨RX7, "team", "(I)I"⟩
abbrev cX7_price : ByteArray := prog_1_method_20_code
def yX7_price : MethodName := ⟨RX7, "price", "(I)I"⟩
abbrev cX7_look : ByteArray := prog_1_method_21_code
def yX7_look : MethodName := ⟨RX7, "look", "(II)I"⟩
abbrev cX7_count : ByteArray := prog_1_method_22_code
def yX7_count : MethodName := ⟨RX7, "count", "(I)I"⟩
abbrev cX7_isBelow : ByteArray := prog_1_method_23_code
def yX7_isBelow : MethodName := ⟨RX7, "isBelow", "(II)Z"⟩
abbrev cX7_classAt : ByteArray := prog_1_method_24_code
def yX7_classAt : MethodName := ⟨RX7, "classAt", "(I)LCattleShow$ShowClass;"⟩
abbrev cX7_beastAt : ByteArray := prog_1_method_25_code
def yX7_beastAt : MethodName := ⟨RX7, "beastAt", "(I)LCattleShow$Beast;"⟩
abbrev cX7_leastPlace : ByteArray := prog_1_method_26_code
def yX7_leastPlace : MethodName := ⟨RX7, "leastPlace", "(I)I"⟩
abbrev cX7_classesOf : ByteArray := prog_1_method_27_code
def yX7_classesOf : MethodName := ⟨RX7, "classesOf", "(I)I"⟩
def RX8 : String := "CattleShowModel"
def TX8 : u_T := fun k => match k with
  | 0 => ("CattleShowModel", "tape", "[B", true)
  | 1 => ("CattleShowModel", "taped", "I", false)
  | 2 => ("CattleShowModel", "beasts", "I", false)
  | 3 => ("CattleShowModel", "sand", "I", false)
  | 4 => ("CattleShowModel", "breed", "[I", true)
  | 5 => ("CattleShowModel", "age", "[I", true)
  | 6 => ("CattleShowModel", "sire", "[I", true)
  | 7 => ("CattleShowModel", "handler", "[I", true)
  | 8 => ("CattleShowModel", "measure", "[I", true)
  | 9 => ("CattleShowModel", "many", "[I", true)
  | 10 => ("CattleShowModel", "what", "[I", true)
  | 11 => ("CattleShowModel", "number", "[I", true)
  | 12 => ("CattleShowModel", "readMany", "I", false)
  | 13 => ("CattleShowModel", "readWhat", "[I", true)
  | 14 => ("CattleShowModel", "readNumber", "[I", true)
  | 15 => ("CattleShowModel", "entered", "[I", true)
  | 16 => ("CattleShowModel", "out", "[I", true)
  | 17 => ("CattleShowModel", "barred", "[I", true)
  | 18 => ("CattleShowModel", "told", "[I", true)
  | 19 => ("CattleShowModel", "order", "[I", true)
  | 20 => ("CattleShowModel", "cuts", "[I", true)
  | 21 => ("CattleShowModel", "at", "I", false)
  | 22 => ("CattleShowModel", "end", "I", false)
  | 23 => ("CattleShowModel", "bad", "I", false)
  | 24 => ("CattleShowModel", "badAt", "I", false)
  | 25 => ("CattleShowModel", "size", "I", false)
  | 26 => ("CattleShowModel", "some", "[I", true)
  | 27 => ("CattleShowModel", "wins", "[I", true)
  | 28 => ("CattleShowModel", "least", "[I", true)
  | 29 => ("CattleShowModel", "row", "[I", true)
  | 30 => ("CattleShowModel", "points", "I", false)
  | 31 => ("CattleShowModel", "handlers", "[I", true)
  | 32 => ("CattleShowModel", "hours", "[I", true)
  | _ => ("CattleShowModel", "places", "[I", true)
def tyX8 : Nat → FieldType := fun k => match k with
  | 0 => .array .byte
  | 1 => .int
  | 2 => .int
  | 3 => .int
  | 4 => .array .int
  | 5 => .array .int
  | 6 => .array .int
  | 7 => .array .int
  | 8 => .array .int
  | 9 => .array .int
  | 10 => .array .int
  | 11 => .array .int
  | 12 => .int
  | 13 => .array .int
  | 14 => .array .int
  | 15 => .array .int
  | 16 => .array .int
  | 17 => .array .int
  | 18 => .array .int
  | 19 => .array .int
  | 20 => .array .int
  | 21 => .int
  | 22 => .int
  | 23 => .int
  | 24 => .int
  | 25 => .int
  | 26 => .array .int
  | 27 => .array .int
  | 28 => .array .int
  | 29 => .array .int
  | 30 => .int
  | 31 => .array .int
  | 32 => .array .int
  | _ => .array .int
abbrev wsX80 : List Cond := u_ws RX8 TX8 34
theorem nmX8 : ∀ a, a < 34 → ∀ b, b < 34 → a ≠ b → (TX8 a).2.1 ≠ (TX8 b).2.1 := by decide +kernel
theorem tyX8_ok : ∀ k, k < 34 → parseFieldDescriptor (TX8 k).2.2.1 = some (tyX8 k) := by decide +kernel
abbrev cX8_init : ByteArray := prog_10_method_1_code
def yX8_init : MethodName := ⟨RX8, "<init>", "()V"⟩
abbrev cX8_lies : ByteArray := prog_10_method_2_code
def yX8_lies : MethodName := ⟨RX8, "lies", "(III)Z"⟩
abbrev cX8_isClass : ByteArray := prog_10_method_3_code
def yX8_isClass : MethodName := ⟨RX8, "isClass", "(I)Z"⟩
abbrev cX8_isBeast : ByteArray := prog_10_method_4_code
def yX8_isBeast : MethodName := ⟨RX8, "isBeast", "(I)Z"⟩
abbrev cX8_has : ByteArray := prog_10_method_5_code
def yX8_has : MethodName := ⟨RX8, "has", "(II)Z"⟩
abbrev cX8_sizeOf : ByteArray := prog_10_method_6_code
def yX8_sizeOf : MethodName := ⟨RX8, "sizeOf", "(I)I"⟩
abbrev cX8_push : ByteArray := prog_10_method_7_code
def yX8_push : MethodName := ⟨RX8, "push", "(I)V"⟩
abbrev cX8_feed : ByteArray := prog_10_method_8_code
def yX8_feed : MethodName := ⟨RX8, "feed", "(IIIII)I"⟩
abbrev cX8_here : ByteArray := prog_10_method_9_code
def yX8_here : MethodName := ⟨RX8, "here", "()I"⟩
abbrev cX8_fails : ByteArray := prog_10_method_10_code
def yX8_fails : MethodName := ⟨RX8, "fails", "(II)V"⟩
abbrev cX8_begins : ByteArray := prog_10_method_11_code
def yX8_begins : MethodName := ⟨RX8, "begins", "(I)V"⟩
abbrev cX8_seesDigit : ByteArray := prog_10_method_12_code
def yX8_seesDigit : MethodName := ⟨RX8, "seesDigit", "()Z"⟩
abbrev cX8_readNumber : ByteArray := prog_10_method_13_code
def yX8_readNumber : MethodName := ⟨RX8, "readNumber", "()I"⟩
abbrev cX8_keeps : ByteArray := prog_10_method_14_code
def yX8_keeps : MethodName := ⟨RX8, "keeps", "(II)V"⟩
abbrev cX8_breeds : ByteArray := prog_10_method_15_code
def yX8_breeds : MethodName := ⟨RX8, "breeds", "()V"⟩
abbrev cX8_measures : ByteArray := prog_10_method_16_code
def yX8_measures : MethodName := ⟨RX8, "measures", "()V"⟩
abbrev cX8_clause : ByteArray := prog_10_method_17_code
def yX8_clause : MethodName := ⟨RX8, "clause", "()V"⟩
abbrev cX8_text : ByteArray := prog_10_method_18_code
def yX8_text : MethodName := ⟨RX8, "text", "(II)I"⟩
abbrev cX8_beast : ByteArray := prog_10_method_19_code
def yX8_beast : MethodName := ⟨RX8, "beast", "(IIII)I"⟩
abbrev cX8_measure : ByteArray := prog_10_method_20_code
def yX8_measure : MethodName := ⟨RX8, "measure", "(III)Z"⟩
abbrev cX8_holds : ByteArray := prog_10_method_21_code
def yX8_holds : MethodName := ⟨RX8, "holds", "(III)Z"⟩
abbrev cX8_isLet : ByteArray := prog_10_method_22_code
def yX8_isLet : MethodName := ⟨RX8, "isLet", "(II)Z"⟩
abbrev cX8_lets : ByteArray := prog_10_method_23_code
def yX8_lets : MethodName := ⟨RX8, "lets", "(II)I"⟩
abbrev cX8_enter : ByteArray := prog_10_method_24_code
def yX8_enter : MethodName := ⟨RX8, "enter", "(II)Z"⟩
abbrev cX8_protest : ByteArray := prog_10_method_25_code
def yX8_protest : MethodName := ⟨RX8, "protest", "(II)Z"⟩
abbrev cX8_bar : ByteArray := prog_10_method_26_code
def yX8_bar : MethodName := ⟨RX8, "bar", "(II)Z"⟩
abbrev cX8_isRowOf : ByteArray := prog_10_method_27_code
def yX8_isRowOf : MethodName := ⟨RX8, "isRowOf", "(I)Z"⟩
abbrev cX8_order : ByteArray := prog_10_method_28_code
def yX8_order : MethodName := ⟨RX8, "order", "(II)Z"⟩
abbrev cX8_counts : ByteArray := prog_10_method_29_code
def yX8_counts : MethodName := ⟨RX8, "counts", "(II)Z"⟩
abbrev cX8_placeIn : ByteArray := prog_10_method_30_code
def yX8_placeIn : MethodName := ⟨RX8, "placeIn", "(III)I"⟩
abbrev cX8_ahead : ByteArray := prog_10_method_31_code
def yX8_ahead : MethodName := ⟨RX8, "ahead", "(III)I"⟩
abbrev cX8_cost : ByteArray := prog_10_method_32_code
def yX8_cost : MethodName := ⟨RX8, "cost", "(II)I"⟩
abbrev cX8_joins : ByteArray := prog_10_method_33_code
def yX8_joins : MethodName := ⟨RX8, "joins", "(I)V"⟩
abbrev cX8_placed : ByteArray := prog_10_method_34_code
def yX8_placed : MethodName := ⟨RX8, "placed", "(II)I"⟩
abbrev cX8_swaps : ByteArray := prog_10_method_35_code
def yX8_swaps : MethodName := ⟨RX8, "swaps", "(I)I"⟩
abbrev cX8_ring : ByteArray := prog_10_method_36_code
def yX8_ring : MethodName := ⟨RX8, "ring", "(II)I"⟩
abbrev cX8_isMore : ByteArray := prog_10_method_37_code
def yX8_isMore : MethodName := ⟨RX8, "isMore", "(II)Z"⟩
abbrev cX8_placeNow : ByteArray := prog_10_method_38_code
def yX8_placeNow : MethodName := ⟨RX8, "placeNow", "(I)I"⟩
abbrev cX8_cut : ByteArray := prog_10_method_39_code
def yX8_cut : MethodName := ⟨RX8, "cut", "(III)Z"⟩
abbrev cX8_card : ByteArray := prog_10_method_40_code
def yX8_card : MethodName := ⟨RX8, "card", "(I)I"⟩
abbrev cX8_place : ByteArray := prog_10_method_41_code
def yX8_place : MethodName := ⟨RX8, "place", "(I)I"⟩
abbrev cX8_must : ByteArray := prog_10_method_42_code
def yX8_must : MethodName := ⟨RX8, "must", "(I)V"⟩
abbrev cX8_pair : ByteArray := prog_10_method_43_code
def yX8_pair : MethodName := ⟨RX8, "pair", "()V"⟩
abbrev cX8_reasons : ByteArray := prog_10_method_44_code
def yX8_reasons : MethodName := ⟨RX8, "reasons", "(II)I"⟩
abbrev cX8_sand : ByteArray := prog_10_method_45_code
def yX8_sand : MethodName := ⟨RX8, "sand", "(I)Z"⟩
abbrev cX8_isGood : ByteArray := prog_10_method_46_code
def yX8_isGood : MethodName := ⟨RX8, "isGood", "()Z"⟩
abbrev cX8_isNext : ByteArray := prog_10_method_47_code
def yX8_isNext : MethodName := ⟨RX8, "isNext", "(I)Z"⟩
abbrev cX8_lays : ByteArray := prog_10_method_48_code
def yX8_lays : MethodName := ⟨RX8, "lays", "()I"⟩
abbrev cX8_hour : ByteArray := prog_10_method_49_code
def yX8_hour : MethodName := ⟨RX8, "hour", "(I)I"⟩
abbrev cX8_ranks : ByteArray := prog_10_method_50_code
def yX8_ranks : MethodName := ⟨RX8, "ranks", "()V"⟩
abbrev cX8_team : ByteArray := prog_10_method_51_code
def yX8_team : MethodName := ⟨RX8, "team", "(I)I"⟩
abbrev cX8_price : ByteArray := prog_10_method_52_code
def yX8_price : MethodName := ⟨RX8, "price", "(I)I"⟩
abbrev cX8_look : ByteArray := prog_10_method_53_code
def yX8_look : MethodName := ⟨RX8, "look", "(II)I"⟩
abbrev cX8_count : ByteArray := prog_10_method_54_code
def yX8_count : MethodName := ⟨RX8, "count", "(I)I"⟩
def RJ6 : String := "java/lang/Integer"
def TJ6 : u_T := fun k => match k with
  | _ => ("", "", "", false)
def tyJ6 : Nat → FieldType := fun k => match k with
  | _ => .int
abbrev wsJ60 : List Cond := u_ws RJ6 TJ6 0
theorem nmJ6 : ∀ a, a < 0 → ∀ b, b < 0 → a ≠ b → (TJ6 a).2.1 ≠ (TJ6 b).2.1 := by decide +kernel
theorem tyJ6_ok : ∀ k, k < 0 → parseFieldDescriptor (TJ6 k).2.2.1 = some (tyJ6 k) := by decide +kernel
abbrev cJ6_bitCount_0f7a4 : ByteArray := prog_11_method_49_code
def yJ6_bitCount_0f7a4 : MethodName := ⟨RJ6, "bitCount", "(I)I"⟩
def RJ9 : String := "java/lang/Math"
def TJ9 : u_T := fun k => match k with
  | _ => ("", "", "", false)
def tyJ9 : Nat → FieldType := fun k => match k with
  | _ => .int
abbrev wsJ90 : List Cond := u_ws RJ9 TJ9 0
theorem nmJ9 : ∀ a, a < 0 → ∀ b, b < 0 → a ≠ b → (TJ9 a).2.1 ≠ (TJ9 b).2.1 := by decide +kernel
theorem tyJ9_ok : ∀ k, k < 0 → parseFieldDescriptor (TJ9 k).2.2.1 = some (tyJ9 k) := by decide +kernel
abbrev cJ9_max_7cf53 : ByteArray := prog_12_method_65_code
def yJ9_max_7cf53 : MethodName := ⟨RJ9, "max", "(II)I"⟩
abbrev cJ9_min_7cf53 : ByteArray := prog_12_method_69_code
def yJ9_min_7cf53 : MethodName := ⟨RJ9, "min", "(II)I"⟩
def RJ7 : String := "java/util/Arrays"
def TJ7 : u_T := fun k => match k with
  | _ => ("", "", "", false)
def tyJ7 : Nat → FieldType := fun k => match k with
  | _ => .int
abbrev wsJ70 : List Cond := u_ws RJ7 TJ7 0
theorem nmJ7 : ∀ a, a < 0 → ∀ b, b < 0 → a ≠ b → (TJ7 a).2.1 ≠ (TJ7 b).2.1 := by decide +kernel
theorem tyJ7_ok : ∀ k, k < 0 → parseFieldDescriptor (TJ7 k).2.2.1 = some (tyJ7 k) := by decide +kernel
abbrev cJ7_fill_53178 : ByteArray := prog_13_method_103_code
def yJ7_fill_53178 : MethodName := ⟨RJ7, "fill", "([II)V"⟩
def RL : String := "CattleShowLaw"
abbrev cL_law : ByteArray := code
def yL_law : MethodName := ⟨RL, "law", "([I)Z"⟩
abbrev vwCl : List vw_C := [(RX0, TX0, 5), (RX1, TX1, 3), (RX2, TX2, 6), (RX3, TX3, 1), (RX4, TX4, 9), (RX5, TX5, 4), (RX6, TX6, 4), (RX7, TX7, 10), (RX8, TX8, 34)]
end
section
theorem dX0_init_0 : decode cX0_init 0 = .ok (.aload_n 0, 1) := by decide +kernel
theorem dX0_init_1 : decode cX0_init 1 = .ok (.invokespecial 3, 3) := by decide +kernel
theorem dX0_init_4 : decode cX0_init 4 = .ok (.aload_n 0, 1) := by decide +kernel
theorem dX0_init_5 : decode cX0_init 5 = .ok (.iconst 3, 1) := by decide +kernel
theorem dX0_init_6 : decode cX0_init 6 = .ok (.newarray .int, 2) := by decide +kernel
theorem dX0_init_8 : decode cX0_init 8 = .ok (.putfield 9, 3) := by decide +kernel
theorem dX0_init_11 : decode cX0_init 11 = .ok (.aload_n 0, 1) := by decide +kernel
theorem dX0_init_12 : decode cX0_init 12 = .ok (.iload_n 1, 1) := by decide +kernel
theorem dX0_init_13 : decode cX0_init 13 = .ok (.putfield 15, 3) := by decide +kernel
theorem dX0_init_16 : decode cX0_init 16 = .ok (.aload_n 0, 1) := by decide +kernel
theorem dX0_init_17 : decode cX0_init 17 = .ok (.iload_n 2, 1) := by decide +kernel
theorem dX0_init_18 : decode cX0_init 18 = .ok (.putfield 19, 3) := by decide +kernel
theorem dX0_init_21 : decode cX0_init 21 = .ok (.aload_n 0, 1) := by decide +kernel
theorem dX0_init_22 : decode cX0_init 22 = .ok (.iload_n 3, 1) := by decide +kernel
theorem dX0_init_23 : decode cX0_init 23 = .ok (.putfield 22, 3) := by decide +kernel
theorem dX0_init_26 : decode cX0_init 26 = .ok (.aload_n 0, 1) := by decide +kernel
theorem dX0_init_27 : decode cX0_init 27 = .ok (.iload 4, 2) := by decide +kernel
theorem dX0_init_29 : decode cX0_init 29 = .ok (.putfield 25, 3) := by decide +kernel
theorem dX0_init_32 : decode cX0_init 32 = .ok (.return_, 1) := by decide +kernel
theorem dX1_init_0 : decode cX1_init 0 = .ok (.aload_n 0, 1) := by decide +kernel
theorem dX1_init_1 : decode cX1_init 1 = .ok (.invokespecial 5, 3) := by decide +kernel
theorem dX1_init_4 : decode cX1_init 4 = .ok (.aload_n 0, 1) := by decide +kernel
theorem dX1_init_5 : decode cX1_init 5 = .ok (.iconst 4, 1) := by decide +kernel
theorem dX1_init_6 : decode cX1_init 6 = .ok (.newarray .int, 2) := by decide +kernel
theorem dX1_init_8 : decode cX1_init 8 = .ok (.putfield 11, 3) := by decide +kernel
theorem dX1_init_11 : decode cX1_init 11 = .ok (.aload_n 0, 1) := by decide +kernel
theorem dX1_init_12 : decode cX1_init 12 = .ok (.iconst 4, 1) := by decide +kernel
theorem dX1_init_13 : decode cX1_init 13 = .ok (.newarray .int, 2) := by decide +kernel
theorem dX1_init_15 : decode cX1_init 15 = .ok (.putfield 15, 3) := by decide +kernel
theorem dX1_init_18 : decode cX1_init 18 = .ok (.aload_n 0, 1) := by decide +kernel
theorem dX1_init_19 : decode cX1_init 19 = .ok (.bipush 15, 2) := by decide +kernel
theorem dX1_init_21 : decode cX1_init 21 = .ok (.putfield 18, 3) := by decide +kernel
theorem dX1_init_24 : decode cX1_init 24 = .ok (.aload_n 0, 1) := by decide +kernel
theorem dX1_init_25 : decode cX1_init 25 = .ok (.invokevirtual 22, 3) := by decide +kernel
theorem dX1_init_28 : decode cX1_init 28 = .ok (.return_, 1) := by decide +kernel
theorem dX1_admits_0 : decode cX1_admits 0 = .ok (.aload_n 0, 1) := by decide +kernel
theorem dX1_admits_1 : decode cX1_admits 1 = .ok (.getfield 18, 3) := by decide +kernel
theorem dX1_admits_4 : decode cX1_admits 4 = .ok (.iconst 1, 1) := by decide +kernel
theorem dX1_admits_5 : decode cX1_admits 5 = .ok (.aload_n 1, 1) := by decide +kernel
theorem dX1_admits_6 : decode cX1_admits 6 = .ok (.getfield 25, 3) := by decide +kernel
theorem dX1_admits_9 : decode cX1_admits 9 = .ok (.ishl, 1) := by decide +kernel
theorem dX1_admits_10 : decode cX1_admits 10 = .ok (.iand, 1) := by decide +kernel
theorem dX1_admits_11 : decode cX1_admits 11 = .ok (.ifCond .eq 15, 3) := by decide +kernel
theorem dX1_admits_14 : decode cX1_admits 14 = .ok (.aload_n 0, 1) := by decide +kernel
theorem dX1_admits_15 : decode cX1_admits 15 = .ok (.iconst 0, 1) := by decide +kernel
theorem dX1_admits_16 : decode cX1_admits 16 = .ok (.aload_n 1, 1) := by decide +kernel
theorem dX1_admits_17 : decode cX1_admits 17 = .ok (.getfield 30, 3) := by decide +kernel
theorem dX1_admits_20 : decode cX1_admits 20 = .ok (.invokevirtual 33, 3) := by decide +kernel
theorem dX1_admits_23 : decode cX1_admits 23 = .ok (.ifCond .ne 5, 3) := by decide +kernel
theorem dX1_admits_26 : decode cX1_admits 26 = .ok (.iconst 0, 1) := by decide +kernel
theorem dX1_admits_27 : decode cX1_admits 27 = .ok (.ireturn, 1) := by decide +kernel
theorem dX1_admits_28 : decode cX1_admits 28 = .ok (.iconst 0, 1) := by decide +kernel
theorem dX1_admits_29 : decode cX1_admits 29 = .ok (.istore_n 2, 1) := by decide +kernel
theorem dX1_admits_30 : decode cX1_admits 30 = .ok (.iload_n 2, 1) := by decide +kernel
theorem dX1_admits_31 : decode cX1_admits 31 = .ok (.iconst 3, 1) := by decide +kernel
theorem dX1_admits_32 : decode cX1_admits 32 = .ok (.if_icmp .ge 27, 3) := by decide +kernel
theorem dX1_admits_35 : decode cX1_admits 35 = .ok (.aload_n 0, 1) := by decide +kernel
theorem dX1_admits_36 : decode cX1_admits 36 = .ok (.iconst 1, 1) := by decide +kernel
theorem dX1_admits_37 : decode cX1_admits 37 = .ok (.iload_n 2, 1) := by decide +kernel
theorem dX1_admits_38 : decode cX1_admits 38 = .ok (.iadd, 1) := by decide +kernel
theorem dX1_admits_39 : decode cX1_admits 39 = .ok (.aload_n 1, 1) := by decide +kernel
theorem dX1_admits_40 : decode cX1_admits 40 = .ok (.getfield 37, 3) := by decide +kernel
theorem dX1_admits_43 : decode cX1_admits 43 = .ok (.iload_n 2, 1) := by decide +kernel
theorem dX1_admits_44 : decode cX1_admits 44 = .ok (.iaload, 1) := by decide +kernel
theorem dX1_admits_45 : decode cX1_admits 45 = .ok (.invokevirtual 33, 3) := by decide +kernel
theorem dX1_admits_48 : decode cX1_admits 48 = .ok (.ifCond .ne 5, 3) := by decide +kernel
theorem dX1_admits_51 : decode cX1_admits 51 = .ok (.iconst 0, 1) := by decide +kernel
theorem dX1_admits_52 : decode cX1_admits 52 = .ok (.ireturn, 1) := by decide +kernel
theorem dX1_admits_53 : decode cX1_admits 53 = .ok (.iinc 2 1, 3) := by decide +kernel
theorem dX1_admits_56 : decode cX1_admits 56 = .ok (.goto (-26), 3) := by decide +kernel
theorem dX1_admits_59 : decode cX1_admits 59 = .ok (.iconst 1, 1) := by decide +kernel
theorem dX1_admits_60 : decode cX1_admits 60 = .ok (.ireturn, 1) := by decide +kernel
theorem dX1_readFrom_0 : decode cX1_readFrom 0 = .ok (.aload_n 0, 1) := by decide +kernel
theorem dX1_readFrom_1 : decode cX1_readFrom 1 = .ok (.invokevirtual 22, 3) := by decide +kernel
theorem dX1_readFrom_4 : decode cX1_readFrom 4 = .ok (.aload_n 1, 1) := by decide +kernel
theorem dX1_readFrom_5 : decode cX1_readFrom 5 = .ok (.invokevirtual 40, 3) := by decide +kernel
theorem dX1_readFrom_8 : decode cX1_readFrom 8 = .ok (.ifCond .eq 5, 3) := by decide +kernel
theorem dX1_readFrom_11 : decode cX1_readFrom 11 = .ok (.iconst 0, 1) := by decide +kernel
theorem dX1_readFrom_12 : decode cX1_readFrom 12 = .ok (.ireturn, 1) := by decide +kernel
theorem dX1_readFrom_13 : decode cX1_readFrom 13 = .ok (.iconst 0, 1) := by decide +kernel
theorem dX1_readFrom_14 : decode cX1_readFrom 14 = .ok (.istore_n 2, 1) := by decide +kernel
theorem dX1_readFrom_15 : decode cX1_readFrom 15 = .ok (.iload_n 2, 1) := by decide +kernel
theorem dX1_readFrom_16 : decode cX1_readFrom 16 = .ok (.bipush 8, 2) := by decide +kernel
theorem dX1_readFrom_18 : decode cX1_readFrom 18 = .ok (.if_icmp .ge 45, 3) := by decide +kernel
theorem dX1_readFrom_21 : decode cX1_readFrom 21 = .ok (.aload_n 0, 1) := by decide +kernel
theorem dX1_readFrom_22 : decode cX1_readFrom 22 = .ok (.aload_n 1, 1) := by decide +kernel
theorem dX1_readFrom_23 : decode cX1_readFrom 23 = .ok (.invokevirtual 46, 3) := by decide +kernel
theorem dX1_readFrom_26 : decode cX1_readFrom 26 = .ok (.istore_n 3, 1) := by decide +kernel
theorem dX1_readFrom_27 : decode cX1_readFrom 27 = .ok (.iload_n 3, 1) := by decide +kernel
theorem dX1_readFrom_28 : decode cX1_readFrom 28 = .ok (.ifCond .eq 5, 3) := by decide +kernel
theorem dX1_readFrom_31 : decode cX1_readFrom 31 = .ok (.iload_n 3, 1) := by decide +kernel
theorem dX1_readFrom_32 : decode cX1_readFrom 32 = .ok (.ireturn, 1) := by decide +kernel
theorem dX1_readFrom_33 : decode cX1_readFrom 33 = .ok (.aload_n 1, 1) := by decide +kernel
theorem dX1_readFrom_34 : decode cX1_readFrom 34 = .ok (.invokevirtual 40, 3) := by decide +kernel
theorem dX1_readFrom_37 : decode cX1_readFrom 37 = .ok (.ifCond .eq 5, 3) := by decide +kernel
theorem dX1_readFrom_40 : decode cX1_readFrom 40 = .ok (.iconst 0, 1) := by decide +kernel
theorem dX1_readFrom_41 : decode cX1_readFrom 41 = .ok (.ireturn, 1) := by decide +kernel
theorem dX1_readFrom_42 : decode cX1_readFrom 42 = .ok (.aload_n 1, 1) := by decide +kernel
theorem dX1_readFrom_43 : decode cX1_readFrom 43 = .ok (.bipush 59, 2) := by decide +kernel
theorem dX1_readFrom_45 : decode cX1_readFrom 45 = .ok (.invokevirtual 50, 3) := by decide +kernel
theorem dX1_readFrom_48 : decode cX1_readFrom 48 = .ok (.ifCond .ne 9, 3) := by decide +kernel
theorem dX1_readFrom_51 : decode cX1_readFrom 51 = .ok (.aload_n 1, 1) := by decide +kernel
theorem dX1_readFrom_52 : decode cX1_readFrom 52 = .ok (.iconst 1, 1) := by decide +kernel
theorem dX1_readFrom_53 : decode cX1_readFrom 53 = .ok (.invokevirtual 54, 3) := by decide +kernel
theorem dX1_readFrom_56 : decode cX1_readFrom 56 = .ok (.ireturn, 1) := by decide +kernel
theorem dX1_readFrom_57 : decode cX1_readFrom 57 = .ok (.iinc 2 1, 3) := by decide +kernel
theorem dX1_readFrom_60 : decode cX1_readFrom 60 = .ok (.goto (-45), 3) := by decide +kernel
theorem dX1_readFrom_63 : decode cX1_readFrom 63 = .ok (.aload_n 1, 1) := by decide +kernel
theorem dX1_readFrom_64 : decode cX1_readFrom 64 = .ok (.aload_n 1, 1) := by decide +kernel
theorem dX1_readFrom_65 : decode cX1_readFrom 65 = .ok (.invokevirtual 58, 3) := by decide +kernel
theorem dX1_readFrom_68 : decode cX1_readFrom 68 = .ok (.invokestatic 62, 3) := by decide +kernel
theorem dX1_readFrom_71 : decode cX1_readFrom 71 = .ok (.ifCond .eq 7, 3) := by decide +kernel
theorem dX1_readFrom_74 : decode cX1_readFrom 74 = .ok (.iconst 3, 1) := by decide +kernel
theorem dX1_readFrom_75 : decode cX1_readFrom 75 = .ok (.goto 4, 3) := by decide +kernel
theorem dX1_readFrom_78 : decode cX1_readFrom 78 = .ok (.iconst 1, 1) := by decide +kernel
theorem dX1_readFrom_79 : decode cX1_readFrom 79 = .ok (.invokevirtual 54, 3) := by decide +kernel
theorem dX1_readFrom_82 : decode cX1_readFrom 82 = .ok (.ireturn, 1) := by decide +kernel
theorem dX1_letAll_0 : decode cX1_letAll 0 = .ok (.aload_n 0, 1) := by decide +kernel
theorem dX1_letAll_1 : decode cX1_letAll 1 = .ok (.bipush 15, 2) := by decide +kernel
theorem dX1_letAll_3 : decode cX1_letAll 3 = .ok (.putfield 18, 3) := by decide +kernel
theorem dX1_letAll_6 : decode cX1_letAll 6 = .ok (.aload_n 0, 1) := by decide +kernel
theorem dX1_letAll_7 : decode cX1_letAll 7 = .ok (.getfield 11, 3) := by decide +kernel
theorem dX1_letAll_10 : decode cX1_letAll 10 = .ok (.iconst 0, 1) := by decide +kernel
theorem dX1_letAll_11 : decode cX1_letAll 11 = .ok (.invokestatic 66, 3) := by decide +kernel
theorem dX1_letAll_14 : decode cX1_letAll 14 = .ok (.aload_n 0, 1) := by decide +kernel
theorem dX1_letAll_15 : decode cX1_letAll 15 = .ok (.getfield 15, 3) := by decide +kernel
theorem dX1_letAll_18 : decode cX1_letAll 18 = .ok (.ldc 74, 2) := by decide +kernel
theorem dX1_letAll_20 : decode cX1_letAll 20 = .ok (.invokestatic 66, 3) := by decide +kernel
theorem dX1_letAll_23 : decode cX1_letAll 23 = .ok (.return_, 1) := by decide +kernel
theorem dX1_isWithin_0 : decode cX1_isWithin 0 = .ok (.aload_n 0, 1) := by decide +kernel
theorem dX1_isWithin_1 : decode cX1_isWithin 1 = .ok (.getfield 11, 3) := by decide +kernel
theorem dX1_isWithin_4 : decode cX1_isWithin 4 = .ok (.iload_n 1, 1) := by decide +kernel
theorem dX1_isWithin_5 : decode cX1_isWithin 5 = .ok (.iaload, 1) := by decide +kernel
theorem dX1_isWithin_6 : decode cX1_isWithin 6 = .ok (.iload_n 2, 1) := by decide +kernel
theorem dX1_isWithin_7 : decode cX1_isWithin 7 = .ok (.if_icmp .gt 17, 3) := by decide +kernel
theorem dX1_isWithin_10 : decode cX1_isWithin 10 = .ok (.iload_n 2, 1) := by decide +kernel
theorem dX1_isWithin_11 : decode cX1_isWithin 11 = .ok (.aload_n 0, 1) := by decide +kernel
theorem dX1_isWithin_12 : decode cX1_isWithin 12 = .ok (.getfield 15, 3) := by decide +kernel
theorem dX1_isWithin_15 : decode cX1_isWithin 15 = .ok (.iload_n 1, 1) := by decide +kernel
theorem dX1_isWithin_16 : decode cX1_isWithin 16 = .ok (.iaload, 1) := by decide +kernel
theorem dX1_isWithin_17 : decode cX1_isWithin 17 = .ok (.if_icmp .gt 7, 3) := by decide +kernel
theorem dX1_isWithin_20 : decode cX1_isWithin 20 = .ok (.iconst 1, 1) := by decide +kernel
theorem dX1_isWithin_21 : decode cX1_isWithin 21 = .ok (.goto 4, 3) := by decide +kernel
theorem dX1_isWithin_24 : decode cX1_isWithin 24 = .ok (.iconst 0, 1) := by decide +kernel
theorem dX1_isWithin_25 : decode cX1_isWithin 25 = .ok (.ireturn, 1) := by decide +kernel
theorem dX1_isClauseLetter_0 : decode cX1_isClauseLetter 0 = .ok (.iload_n 0, 1) := by decide +kernel
theorem dX1_isClauseLetter_1 : decode cX1_isClauseLetter 1 = .ok (.bipush 98, 2) := by decide +kernel
theorem dX1_isClauseLetter_3 : decode cX1_isClauseLetter 3 = .ok (.if_icmp .eq 21, 3) := by decide +kernel
theorem dX1_isClauseLetter_6 : decode cX1_isClauseLetter 6 = .ok (.iload_n 0, 1) := by decide +kernel
theorem dX1_isClauseLetter_7 : decode cX1_isClauseLetter 7 = .ok (.bipush 102, 2) := by decide +kernel
theorem dX1_isClauseLetter_9 : decode cX1_isClauseLetter 9 = .ok (.if_icmp .eq 15, 3) := by decide +kernel
theorem dX1_isClauseLetter_12 : decode cX1_isClauseLetter 12 = .ok (.iload_n 0, 1) := by decide +kernel
theorem dX1_isClauseLetter_13 : decode cX1_isClauseLetter 13 = .ok (.bipush 116, 2) := by decide +kernel
theorem dX1_isClauseLetter_15 : decode cX1_isClauseLetter 15 = .ok (.if_icmp .eq 9, 3) := by decide +kernel
theorem dX1_isClauseLetter_18 : decode cX1_isClauseLetter 18 = .ok (.iload_n 0, 1) := by decide +kernel
theorem dX1_isClauseLetter_19 : decode cX1_isClauseLetter 19 = .ok (.bipush 109, 2) := by decide +kernel
theorem dX1_isClauseLetter_21 : decode cX1_isClauseLetter 21 = .ok (.if_icmp .ne 7, 3) := by decide +kernel
theorem dX1_isClauseLetter_24 : decode cX1_isClauseLetter 24 = .ok (.iconst 1, 1) := by decide +kernel
theorem dX1_isClauseLetter_25 : decode cX1_isClauseLetter 25 = .ok (.goto 4, 3) := by decide +kernel
theorem dX1_isClauseLetter_28 : decode cX1_isClauseLetter 28 = .ok (.iconst 0, 1) := by decide +kernel
theorem dX1_isClauseLetter_29 : decode cX1_isClauseLetter 29 = .ok (.ireturn, 1) := by decide +kernel
theorem dX1_readClause_0 : decode cX1_readClause 0 = .ok (.aload_n 1, 1) := by decide +kernel
theorem dX1_readClause_1 : decode cX1_readClause 1 = .ok (.bipush 98, 2) := by decide +kernel
theorem dX1_readClause_3 : decode cX1_readClause 3 = .ok (.invokevirtual 50, 3) := by decide +kernel
theorem dX1_readClause_6 : decode cX1_readClause 6 = .ok (.ifCond .eq 9, 3) := by decide +kernel
theorem dX1_readClause_9 : decode cX1_readClause 9 = .ok (.aload_n 0, 1) := by decide +kernel
theorem dX1_readClause_10 : decode cX1_readClause 10 = .ok (.aload_n 1, 1) := by decide +kernel
theorem dX1_readClause_11 : decode cX1_readClause 11 = .ok (.invokevirtual 75, 3) := by decide +kernel
theorem dX1_readClause_14 : decode cX1_readClause 14 = .ok (.ireturn, 1) := by decide +kernel
theorem dX1_readClause_15 : decode cX1_readClause 15 = .ok (.aload_n 1, 1) := by decide +kernel
theorem dX1_readClause_16 : decode cX1_readClause 16 = .ok (.bipush 102, 2) := by decide +kernel
theorem dX1_readClause_18 : decode cX1_readClause 18 = .ok (.invokevirtual 50, 3) := by decide +kernel
theorem dX1_readClause_21 : decode cX1_readClause 21 = .ok (.ifCond .eq 11, 3) := by decide +kernel
theorem dX1_readClause_24 : decode cX1_readClause 24 = .ok (.aload_n 0, 1) := by decide +kernel
theorem dX1_readClause_25 : decode cX1_readClause 25 = .ok (.aload_n 1, 1) := by decide +kernel
theorem dX1_readClause_26 : decode cX1_readClause 26 = .ok (.iconst 0, 1) := by decide +kernel
theorem dX1_readClause_27 : decode cX1_readClause 27 = .ok (.iconst 0, 1) := by decide +kernel
theorem dX1_readClause_28 : decode cX1_readClause 28 = .ok (.invokevirtual 78, 3) := by decide +kernel
theorem dX1_readClause_31 : decode cX1_readClause 31 = .ok (.ireturn, 1) := by decide +kernel
theorem dX1_readClause_32 : decode cX1_readClause 32 = .ok (.aload_n 1, 1) := by decide +kernel
theorem dX1_readClause_33 : decode cX1_readClause 33 = .ok (.bipush 116, 2) := by decide +kernel
theorem dX1_readClause_35 : decode cX1_readClause 35 = .ok (.invokevirtual 50, 3) := by decide +kernel
theorem dX1_readClause_38 : decode cX1_readClause 38 = .ok (.ifCond .eq 11, 3) := by decide +kernel
theorem dX1_readClause_41 : decode cX1_readClause 41 = .ok (.aload_n 0, 1) := by decide +kernel
theorem dX1_readClause_42 : decode cX1_readClause 42 = .ok (.aload_n 1, 1) := by decide +kernel
theorem dX1_readClause_43 : decode cX1_readClause 43 = .ok (.iconst 0, 1) := by decide +kernel
theorem dX1_readClause_44 : decode cX1_readClause 44 = .ok (.iconst 0, 1) := by decide +kernel
theorem dX1_readClause_45 : decode cX1_readClause 45 = .ok (.invokevirtual 82, 3) := by decide +kernel
theorem dX1_readClause_48 : decode cX1_readClause 48 = .ok (.ireturn, 1) := by decide +kernel
theorem dX1_readClause_49 : decode cX1_readClause 49 = .ok (.aload_n 1, 1) := by decide +kernel
theorem dX1_readClause_50 : decode cX1_readClause 50 = .ok (.bipush 109, 2) := by decide +kernel
theorem dX1_readClause_52 : decode cX1_readClause 52 = .ok (.invokevirtual 50, 3) := by decide +kernel
theorem dX1_readClause_55 : decode cX1_readClause 55 = .ok (.ifCond .eq 9, 3) := by decide +kernel
theorem dX1_readClause_58 : decode cX1_readClause 58 = .ok (.aload_n 0, 1) := by decide +kernel
theorem dX1_readClause_59 : decode cX1_readClause 59 = .ok (.aload_n 1, 1) := by decide +kernel
theorem dX1_readClause_60 : decode cX1_readClause 60 = .ok (.invokevirtual 85, 3) := by decide +kernel
theorem dX1_readClause_63 : decode cX1_readClause 63 = .ok (.ireturn, 1) := by decide +kernel
theorem dX1_readClause_64 : decode cX1_readClause 64 = .ok (.aload_n 1, 1) := by decide +kernel
theorem dX1_readClause_65 : decode cX1_readClause 65 = .ok (.iconst 1, 1) := by decide +kernel
theorem dX1_readClause_66 : decode cX1_readClause 66 = .ok (.invokevirtual 54, 3) := by decide +kernel
theorem dX1_readClause_69 : decode cX1_readClause 69 = .ok (.ireturn, 1) := by decide +kernel
theorem dX1_readBreeds_0 : decode cX1_readBreeds 0 = .ok (.aload_n 1, 1) := by decide +kernel
theorem dX1_readBreeds_1 : decode cX1_readBreeds 1 = .ok (.invokevirtual 88, 3) := by decide +kernel
theorem dX1_readBreeds_4 : decode cX1_readBreeds 4 = .ok (.ifCond .ne 9, 3) := by decide +kernel
theorem dX1_readBreeds_7 : decode cX1_readBreeds 7 = .ok (.aload_n 1, 1) := by decide +kernel
theorem dX1_readBreeds_8 : decode cX1_readBreeds 8 = .ok (.iconst 1, 1) := by decide +kernel
theorem dX1_readBreeds_9 : decode cX1_readBreeds 9 = .ok (.invokevirtual 54, 3) := by decide +kernel
theorem dX1_readBreeds_12 : decode cX1_readBreeds 12 = .ok (.ireturn, 1) := by decide +kernel
theorem dX1_readBreeds_13 : decode cX1_readBreeds 13 = .ok (.iconst 0, 1) := by decide +kernel
theorem dX1_readBreeds_14 : decode cX1_readBreeds 14 = .ok (.istore_n 2, 1) := by decide +kernel
theorem dX1_readBreeds_15 : decode cX1_readBreeds 15 = .ok (.iconst 0, 1) := by decide +kernel
theorem dX1_readBreeds_16 : decode cX1_readBreeds 16 = .ok (.istore_n 3, 1) := by decide +kernel
theorem dX1_readBreeds_17 : decode cX1_readBreeds 17 = .ok (.iload_n 3, 1) := by decide +kernel
theorem dX1_readBreeds_18 : decode cX1_readBreeds 18 = .ok (.iconst 4, 1) := by decide +kernel
theorem dX1_readBreeds_19 : decode cX1_readBreeds 19 = .ok (.if_icmp .ge 48, 3) := by decide +kernel
theorem dX1_readBreeds_22 : decode cX1_readBreeds 22 = .ok (.aload_n 1, 1) := by decide +kernel
theorem dX1_readBreeds_23 : decode cX1_readBreeds 23 = .ok (.invokevirtual 88, 3) := by decide +kernel
theorem dX1_readBreeds_26 : decode cX1_readBreeds 26 = .ok (.ifCond .eq 41, 3) := by decide +kernel
theorem dX1_readBreeds_29 : decode cX1_readBreeds 29 = .ok (.aload_n 1, 1) := by decide +kernel
theorem dX1_readBreeds_30 : decode cX1_readBreeds 30 = .ok (.invokevirtual 58, 3) := by decide +kernel
theorem dX1_readBreeds_33 : decode cX1_readBreeds 33 = .ok (.bipush 48, 2) := by decide +kernel
theorem dX1_readBreeds_35 : decode cX1_readBreeds 35 = .ok (.isub, 1) := by decide +kernel
theorem dX1_readBreeds_36 : decode cX1_readBreeds 36 = .ok (.istore 4, 2) := by decide +kernel
theorem dX1_readBreeds_38 : decode cX1_readBreeds 38 = .ok (.iload 4, 2) := by decide +kernel
theorem dX1_readBreeds_40 : decode cX1_readBreeds 40 = .ok (.iconst 4, 1) := by decide +kernel
theorem dX1_readBreeds_41 : decode cX1_readBreeds 41 = .ok (.if_icmp .lt 9, 3) := by decide +kernel
theorem dX1_readBreeds_44 : decode cX1_readBreeds 44 = .ok (.aload_n 1, 1) := by decide +kernel
theorem dX1_readBreeds_45 : decode cX1_readBreeds 45 = .ok (.iconst 2, 1) := by decide +kernel
theorem dX1_readBreeds_46 : decode cX1_readBreeds 46 = .ok (.invokevirtual 54, 3) := by decide +kernel
theorem dX1_readBreeds_49 : decode cX1_readBreeds 49 = .ok (.ireturn, 1) := by decide +kernel
theorem dX1_readBreeds_50 : decode cX1_readBreeds 50 = .ok (.iload_n 2, 1) := by decide +kernel
theorem dX1_readBreeds_51 : decode cX1_readBreeds 51 = .ok (.iconst 1, 1) := by decide +kernel
theorem dX1_readBreeds_52 : decode cX1_readBreeds 52 = .ok (.iload 4, 2) := by decide +kernel
theorem dX1_readBreeds_54 : decode cX1_readBreeds 54 = .ok (.ishl, 1) := by decide +kernel
theorem dX1_readBreeds_55 : decode cX1_readBreeds 55 = .ok (.ior, 1) := by decide +kernel
theorem dX1_readBreeds_56 : decode cX1_readBreeds 56 = .ok (.istore_n 2, 1) := by decide +kernel
theorem dX1_readBreeds_57 : decode cX1_readBreeds 57 = .ok (.aload_n 1, 1) := by decide +kernel
theorem dX1_readBreeds_58 : decode cX1_readBreeds 58 = .ok (.invokevirtual 91, 3) := by decide +kernel
theorem dX1_readBreeds_61 : decode cX1_readBreeds 61 = .ok (.iinc 3 1, 3) := by decide +kernel
theorem dX1_readBreeds_64 : decode cX1_readBreeds 64 = .ok (.goto (-47), 3) := by decide +kernel
theorem dX1_readBreeds_67 : decode cX1_readBreeds 67 = .ok (.aload_n 0, 1) := by decide +kernel
theorem dX1_readBreeds_68 : decode cX1_readBreeds 68 = .ok (.dup, 1) := by decide +kernel
theorem dX1_readBreeds_69 : decode cX1_readBreeds 69 = .ok (.getfield 18, 3) := by decide +kernel
theorem dX1_readBreeds_72 : decode cX1_readBreeds 72 = .ok (.iload_n 2, 1) := by decide +kernel
theorem dX1_readBreeds_73 : decode cX1_readBreeds 73 = .ok (.iand, 1) := by decide +kernel
theorem dX1_readBreeds_74 : decode cX1_readBreeds 74 = .ok (.putfield 18, 3) := by decide +kernel
theorem dX1_readBreeds_77 : decode cX1_readBreeds 77 = .ok (.iconst 0, 1) := by decide +kernel
theorem dX1_readBreeds_78 : decode cX1_readBreeds 78 = .ok (.ireturn, 1) := by decide +kernel
theorem dX1_readMeasure_0 : decode cX1_readMeasure 0 = .ok (.aload_n 1, 1) := by decide +kernel
theorem dX1_readMeasure_1 : decode cX1_readMeasure 1 = .ok (.invokevirtual 88, 3) := by decide +kernel
theorem dX1_readMeasure_4 : decode cX1_readMeasure 4 = .ok (.ifCond .ne 9, 3) := by decide +kernel
theorem dX1_readMeasure_7 : decode cX1_readMeasure 7 = .ok (.aload_n 1, 1) := by decide +kernel
theorem dX1_readMeasure_8 : decode cX1_readMeasure 8 = .ok (.iconst 1, 1) := by decide +kernel
theorem dX1_readMeasure_9 : decode cX1_readMeasure 9 = .ok (.invokevirtual 54, 3) := by decide +kernel
theorem dX1_readMeasure_12 : decode cX1_readMeasure 12 = .ok (.ireturn, 1) := by decide +kernel
theorem dX1_readMeasure_13 : decode cX1_readMeasure 13 = .ok (.aload_n 1, 1) := by decide +kernel
theorem dX1_readMeasure_14 : decode cX1_readMeasure 14 = .ok (.invokevirtual 58, 3) := by decide +kernel
theorem dX1_readMeasure_17 : decode cX1_readMeasure 17 = .ok (.bipush 48, 2) := by decide +kernel
theorem dX1_readMeasure_19 : decode cX1_readMeasure 19 = .ok (.isub, 1) := by decide +kernel
theorem dX1_readMeasure_20 : decode cX1_readMeasure 20 = .ok (.istore_n 2, 1) := by decide +kernel
theorem dX1_readMeasure_21 : decode cX1_readMeasure 21 = .ok (.iload_n 2, 1) := by decide +kernel
theorem dX1_readMeasure_22 : decode cX1_readMeasure 22 = .ok (.iconst 3, 1) := by decide +kernel
theorem dX1_readMeasure_23 : decode cX1_readMeasure 23 = .ok (.if_icmp .lt 9, 3) := by decide +kernel
theorem dX1_readMeasure_26 : decode cX1_readMeasure 26 = .ok (.aload_n 1, 1) := by decide +kernel
theorem dX1_readMeasure_27 : decode cX1_readMeasure 27 = .ok (.iconst 2, 1) := by decide +kernel
theorem dX1_readMeasure_28 : decode cX1_readMeasure 28 = .ok (.invokevirtual 54, 3) := by decide +kernel
theorem dX1_readMeasure_31 : decode cX1_readMeasure 31 = .ok (.ireturn, 1) := by decide +kernel
theorem dX1_readMeasure_32 : decode cX1_readMeasure 32 = .ok (.aload_n 1, 1) := by decide +kernel
theorem dX1_readMeasure_33 : decode cX1_readMeasure 33 = .ok (.invokevirtual 91, 3) := by decide +kernel
theorem dX1_readMeasure_36 : decode cX1_readMeasure 36 = .ok (.aload_n 1, 1) := by decide +kernel
theorem dX1_readMeasure_37 : decode cX1_readMeasure 37 = .ok (.bipush 62, 2) := by decide +kernel
theorem dX1_readMeasure_39 : decode cX1_readMeasure 39 = .ok (.invokevirtual 50, 3) := by decide +kernel
theorem dX1_readMeasure_42 : decode cX1_readMeasure 42 = .ok (.ifCond .eq 13, 3) := by decide +kernel
theorem dX1_readMeasure_45 : decode cX1_readMeasure 45 = .ok (.aload_n 0, 1) := by decide +kernel
theorem dX1_readMeasure_46 : decode cX1_readMeasure 46 = .ok (.aload_n 1, 1) := by decide +kernel
theorem dX1_readMeasure_47 : decode cX1_readMeasure 47 = .ok (.iconst 1, 1) := by decide +kernel
theorem dX1_readMeasure_48 : decode cX1_readMeasure 48 = .ok (.iload_n 2, 1) := by decide +kernel
theorem dX1_readMeasure_49 : decode cX1_readMeasure 49 = .ok (.iadd, 1) := by decide +kernel
theorem dX1_readMeasure_50 : decode cX1_readMeasure 50 = .ok (.iconst 1, 1) := by decide +kernel
theorem dX1_readMeasure_51 : decode cX1_readMeasure 51 = .ok (.invokevirtual 78, 3) := by decide +kernel
theorem dX1_readMeasure_54 : decode cX1_readMeasure 54 = .ok (.ireturn, 1) := by decide +kernel
theorem dX1_readMeasure_55 : decode cX1_readMeasure 55 = .ok (.aload_n 1, 1) := by decide +kernel
theorem dX1_readMeasure_56 : decode cX1_readMeasure 56 = .ok (.bipush 60, 2) := by decide +kernel
theorem dX1_readMeasure_58 : decode cX1_readMeasure 58 = .ok (.invokevirtual 50, 3) := by decide +kernel
theorem dX1_readMeasure_61 : decode cX1_readMeasure 61 = .ok (.ifCond .eq 13, 3) := by decide +kernel
theorem dX1_readMeasure_64 : decode cX1_readMeasure 64 = .ok (.aload_n 0, 1) := by decide +kernel
theorem dX1_readMeasure_65 : decode cX1_readMeasure 65 = .ok (.aload_n 1, 1) := by decide +kernel
theorem dX1_readMeasure_66 : decode cX1_readMeasure 66 = .ok (.iconst 1, 1) := by decide +kernel
theorem dX1_readMeasure_67 : decode cX1_readMeasure 67 = .ok (.iload_n 2, 1) := by decide +kernel
theorem dX1_readMeasure_68 : decode cX1_readMeasure 68 = .ok (.iadd, 1) := by decide +kernel
theorem dX1_readMeasure_69 : decode cX1_readMeasure 69 = .ok (.iconst 1, 1) := by decide +kernel
theorem dX1_readMeasure_70 : decode cX1_readMeasure 70 = .ok (.invokevirtual 82, 3) := by decide +kernel
theorem dX1_readMeasure_73 : decode cX1_readMeasure 73 = .ok (.ireturn, 1) := by decide +kernel
theorem dX1_readMeasure_74 : decode cX1_readMeasure 74 = .ok (.aload_n 1, 1) := by decide +kernel
theorem dX1_readMeasure_75 : decode cX1_readMeasure 75 = .ok (.iconst 1, 1) := by decide +kernel
theorem dX1_readMeasure_76 : decode cX1_readMeasure 76 = .ok (.invokevirtual 54, 3) := by decide +kernel
theorem dX1_readMeasure_79 : decode cX1_readMeasure 79 = .ok (.ireturn, 1) := by decide +kernel
theorem dX1_readLeast_0 : decode cX1_readLeast 0 = .ok (.aload_n 1, 1) := by decide +kernel
theorem dX1_readLeast_1 : decode cX1_readLeast 1 = .ok (.invokevirtual 94, 3) := by decide +kernel
theorem dX1_readLeast_4 : decode cX1_readLeast 4 = .ok (.istore 4, 2) := by decide +kernel
theorem dX1_readLeast_6 : decode cX1_readLeast 6 = .ok (.iload 4, 2) := by decide +kernel
theorem dX1_readLeast_8 : decode cX1_readLeast 8 = .ok (.iconst (-1), 1) := by decide +kernel
theorem dX1_readLeast_9 : decode cX1_readLeast 9 = .ok (.if_icmp .ne 9, 3) := by decide +kernel
theorem dX1_readLeast_12 : decode cX1_readLeast 12 = .ok (.aload_n 1, 1) := by decide +kernel
theorem dX1_readLeast_13 : decode cX1_readLeast 13 = .ok (.iconst 1, 1) := by decide +kernel
theorem dX1_readLeast_14 : decode cX1_readLeast 14 = .ok (.invokevirtual 54, 3) := by decide +kernel
theorem dX1_readLeast_17 : decode cX1_readLeast 17 = .ok (.ireturn, 1) := by decide +kernel
theorem dX1_readLeast_18 : decode cX1_readLeast 18 = .ok (.aload_n 0, 1) := by decide +kernel
theorem dX1_readLeast_19 : decode cX1_readLeast 19 = .ok (.getfield 11, 3) := by decide +kernel
theorem dX1_readLeast_22 : decode cX1_readLeast 22 = .ok (.iload_n 2, 1) := by decide +kernel
theorem dX1_readLeast_23 : decode cX1_readLeast 23 = .ok (.aload_n 0, 1) := by decide +kernel
theorem dX1_readLeast_24 : decode cX1_readLeast 24 = .ok (.getfield 11, 3) := by decide +kernel
theorem dX1_readLeast_27 : decode cX1_readLeast 27 = .ok (.iload_n 2, 1) := by decide +kernel
theorem dX1_readLeast_28 : decode cX1_readLeast 28 = .ok (.iaload, 1) := by decide +kernel
theorem dX1_readLeast_29 : decode cX1_readLeast 29 = .ok (.iload 4, 2) := by decide +kernel
theorem dX1_readLeast_31 : decode cX1_readLeast 31 = .ok (.iload_n 3, 1) := by decide +kernel
theorem dX1_readLeast_32 : decode cX1_readLeast 32 = .ok (.iadd, 1) := by decide +kernel
theorem dX1_readLeast_33 : decode cX1_readLeast 33 = .ok (.invokestatic 97, 3) := by decide +kernel
theorem dX1_readLeast_36 : decode cX1_readLeast 36 = .ok (.iastore, 1) := by decide +kernel
theorem dX1_readLeast_37 : decode cX1_readLeast 37 = .ok (.iconst 0, 1) := by decide +kernel
theorem dX1_readLeast_38 : decode cX1_readLeast 38 = .ok (.ireturn, 1) := by decide +kernel
theorem dX1_readMost_0 : decode cX1_readMost 0 = .ok (.aload_n 1, 1) := by decide +kernel
theorem dX1_readMost_1 : decode cX1_readMost 1 = .ok (.invokevirtual 94, 3) := by decide +kernel
theorem dX1_readMost_4 : decode cX1_readMost 4 = .ok (.istore 4, 2) := by decide +kernel
theorem dX1_readMost_6 : decode cX1_readMost 6 = .ok (.iload 4, 2) := by decide +kernel
theorem dX1_readMost_8 : decode cX1_readMost 8 = .ok (.iconst (-1), 1) := by decide +kernel
theorem dX1_readMost_9 : decode cX1_readMost 9 = .ok (.if_icmp .ne 9, 3) := by decide +kernel
theorem dX1_readMost_12 : decode cX1_readMost 12 = .ok (.aload_n 1, 1) := by decide +kernel
theorem dX1_readMost_13 : decode cX1_readMost 13 = .ok (.iconst 1, 1) := by decide +kernel
theorem dX1_readMost_14 : decode cX1_readMost 14 = .ok (.invokevirtual 54, 3) := by decide +kernel
theorem dX1_readMost_17 : decode cX1_readMost 17 = .ok (.ireturn, 1) := by decide +kernel
theorem dX1_readMost_18 : decode cX1_readMost 18 = .ok (.aload_n 0, 1) := by decide +kernel
theorem dX1_readMost_19 : decode cX1_readMost 19 = .ok (.getfield 15, 3) := by decide +kernel
theorem dX1_readMost_22 : decode cX1_readMost 22 = .ok (.iload_n 2, 1) := by decide +kernel
theorem dX1_readMost_23 : decode cX1_readMost 23 = .ok (.aload_n 0, 1) := by decide +kernel
theorem dX1_readMost_24 : decode cX1_readMost 24 = .ok (.getfield 15, 3) := by decide +kernel
theorem dX1_readMost_27 : decode cX1_readMost 27 = .ok (.iload_n 2, 1) := by decide +kernel
theorem dX1_readMost_28 : decode cX1_readMost 28 = .ok (.iaload, 1) := by decide +kernel
theorem dX1_readMost_29 : decode cX1_readMost 29 = .ok (.iload 4, 2) := by decide +kernel
theorem dX1_readMost_31 : decode cX1_readMost 31 = .ok (.iload_n 3, 1) := by decide +kernel
theorem dX1_readMost_32 : decode cX1_readMost 32 = .ok (.isub, 1) := by decide +kernel
theorem dX1_readMost_33 : decode cX1_readMost 33 = .ok (.invokestatic 103, 3) := by decide +kernel
theorem dX1_readMost_36 : decode cX1_readMost 36 = .ok (.iastore, 1) := by decide +kernel
theorem dX1_readMost_37 : decode cX1_readMost 37 = .ok (.iconst 0, 1) := by decide +kernel
theorem dX1_readMost_38 : decode cX1_readMost 38 = .ok (.ireturn, 1) := by decide +kernel
theorem dX2_init_0 : decode cX2_init 0 = .ok (.aload_n 0, 1) := by decide +kernel
theorem dX2_init_1 : decode cX2_init 1 = .ok (.invokespecial 3, 3) := by decide +kernel
theorem dX2_init_4 : decode cX2_init 4 = .ok (.aload_n 0, 1) := by decide +kernel
theorem dX2_init_5 : decode cX2_init 5 = .ok (.bipush 8, 2) := by decide +kernel
theorem dX2_init_7 : decode cX2_init 7 = .ok (.newarray .int, 2) := by decide +kernel
theorem dX2_init_9 : decode cX2_init 9 = .ok (.putfield 9, 3) := by decide +kernel
theorem dX2_init_12 : decode cX2_init 12 = .ok (.aload_n 0, 1) := by decide +kernel
theorem dX2_init_13 : decode cX2_init 13 = .ok (.bipush 20, 2) := by decide +kernel
theorem dX2_init_15 : decode cX2_init 15 = .ok (.newarray .int, 2) := by decide +kernel
theorem dX2_init_17 : decode cX2_init 17 = .ok (.putfield 15, 3) := by decide +kernel
theorem dX2_init_20 : decode cX2_init 20 = .ok (.aload_n 0, 1) := by decide +kernel
theorem dX2_init_21 : decode cX2_init 21 = .ok (.iconst 0, 1) := by decide +kernel
theorem dX2_init_22 : decode cX2_init 22 = .ok (.putfield 18, 3) := by decide +kernel
theorem dX2_init_25 : decode cX2_init 25 = .ok (.aload_n 0, 1) := by decide +kernel
theorem dX2_init_26 : decode cX2_init 26 = .ok (.bipush 8, 2) := by decide +kernel
theorem dX2_init_28 : decode cX2_init 28 = .ok (.bipush 8, 2) := by decide +kernel
theorem dX2_init_30 : decode cX2_init 30 = .ok (.multianewarray 22 2, 4) := by decide +kernel
theorem dX2_init_34 : decode cX2_init 34 = .ok (.putfield 24, 3) := by decide +kernel
theorem dX2_init_37 : decode cX2_init 37 = .ok (.aload_n 0, 1) := by decide +kernel
theorem dX2_init_38 : decode cX2_init 38 = .ok (.bipush 8, 2) := by decide +kernel
theorem dX2_init_40 : decode cX2_init 40 = .ok (.sipush 256, 3) := by decide +kernel
theorem dX2_init_43 : decode cX2_init 43 = .ok (.multianewarray 22 2, 4) := by decide +kernel
theorem dX2_init_47 : decode cX2_init 47 = .ok (.putfield 27, 3) := by decide +kernel
theorem dX2_init_50 : decode cX2_init 50 = .ok (.aload_n 0, 1) := by decide +kernel
theorem dX2_init_51 : decode cX2_init 51 = .ok (.sipush 256, 3) := by decide +kernel
theorem dX2_init_54 : decode cX2_init 54 = .ok (.newarray .int, 2) := by decide +kernel
theorem dX2_init_56 : decode cX2_init 56 = .ok (.putfield 30, 3) := by decide +kernel
theorem dX2_init_59 : decode cX2_init 59 = .ok (.return_, 1) := by decide +kernel
theorem dX2_join_0 : decode cX2_join 0 = .ok (.aload_n 0, 1) := by decide +kernel
theorem dX2_join_1 : decode cX2_join 1 = .ok (.aload_n 1, 1) := by decide +kernel
theorem dX2_join_2 : decode cX2_join 2 = .ok (.invokevirtual 33, 3) := by decide +kernel
theorem dX2_join_5 : decode cX2_join 5 = .ok (.aload_n 0, 1) := by decide +kernel
theorem dX2_join_6 : decode cX2_join 6 = .ok (.invokevirtual 37, 3) := by decide +kernel
theorem dX2_join_9 : decode cX2_join 9 = .ok (.aload_n 0, 1) := by decide +kernel
theorem dX2_join_10 : decode cX2_join 10 = .ok (.invokevirtual 40, 3) := by decide +kernel
theorem dX2_join_13 : decode cX2_join 13 = .ok (.iconst 1, 1) := by decide +kernel
theorem dX2_join_14 : decode cX2_join 14 = .ok (.aload_n 0, 1) := by decide +kernel
theorem dX2_join_15 : decode cX2_join 15 = .ok (.getfield 18, 3) := by decide +kernel
theorem dX2_join_18 : decode cX2_join 18 = .ok (.ishl, 1) := by decide +kernel
theorem dX2_join_19 : decode cX2_join 19 = .ok (.iconst 1, 1) := by decide +kernel
theorem dX2_join_20 : decode cX2_join 20 = .ok (.isub, 1) := by decide +kernel
theorem dX2_join_21 : decode cX2_join 21 = .ok (.istore_n 2, 1) := by decide +kernel
theorem dX2_join_22 : decode cX2_join 22 = .ok (.aload_n 1, 1) := by decide +kernel
theorem dX2_join_23 : decode cX2_join 23 = .ok (.aload_n 0, 1) := by decide +kernel
theorem dX2_join_24 : decode cX2_join 24 = .ok (.getfield 30, 3) := by decide +kernel
theorem dX2_join_27 : decode cX2_join 27 = .ok (.iload_n 2, 1) := by decide +kernel
theorem dX2_join_28 : decode cX2_join 28 = .ok (.iaload, 1) := by decide +kernel
theorem dX2_join_29 : decode cX2_join 29 = .ok (.putfield 43, 3) := by decide +kernel
theorem dX2_join_32 : decode cX2_join 32 = .ok (.iconst 0, 1) := by decide +kernel
theorem dX2_join_33 : decode cX2_join 33 = .ok (.istore_n 3, 1) := by decide +kernel
theorem dX2_join_34 : decode cX2_join 34 = .ok (.iload_n 3, 1) := by decide +kernel
theorem dX2_join_35 : decode cX2_join 35 = .ok (.aload_n 0, 1) := by decide +kernel
theorem dX2_join_36 : decode cX2_join 36 = .ok (.getfield 18, 3) := by decide +kernel
theorem dX2_join_39 : decode cX2_join 39 = .ok (.if_icmp .ge 38, 3) := by decide +kernel
theorem dX2_join_42 : decode cX2_join 42 = .ok (.aload_n 0, 1) := by decide +kernel
theorem dX2_join_43 : decode cX2_join 43 = .ok (.iload_n 2, 1) := by decide +kernel
theorem dX2_join_44 : decode cX2_join 44 = .ok (.invokevirtual 48, 3) := by decide +kernel
theorem dX2_join_47 : decode cX2_join 47 = .ok (.istore 4, 2) := by decide +kernel
theorem dX2_join_49 : decode cX2_join 49 = .ok (.aload_n 1, 1) := by decide +kernel
theorem dX2_join_50 : decode cX2_join 50 = .ok (.getfield 52, 3) := by decide +kernel
theorem dX2_join_53 : decode cX2_join 53 = .ok (.iload_n 3, 1) := by decide +kernel
theorem dX2_join_54 : decode cX2_join 54 = .ok (.aload_n 0, 1) := by decide +kernel
theorem dX2_join_55 : decode cX2_join 55 = .ok (.getfield 9, 3) := by decide +kernel
theorem dX2_join_58 : decode cX2_join 58 = .ok (.iload 4, 2) := by decide +kernel
theorem dX2_join_60 : decode cX2_join 60 = .ok (.iaload, 1) := by decide +kernel
theorem dX2_join_61 : decode cX2_join 61 = .ok (.iastore, 1) := by decide +kernel
theorem dX2_join_62 : decode cX2_join 62 = .ok (.iload_n 2, 1) := by decide +kernel
theorem dX2_join_63 : decode cX2_join 63 = .ok (.iconst 1, 1) := by decide +kernel
theorem dX2_join_64 : decode cX2_join 64 = .ok (.iload 4, 2) := by decide +kernel
theorem dX2_join_66 : decode cX2_join 66 = .ok (.ishl, 1) := by decide +kernel
theorem dX2_join_67 : decode cX2_join 67 = .ok (.iconst (-1), 1) := by decide +kernel
theorem dX2_join_68 : decode cX2_join 68 = .ok (.ixor, 1) := by decide +kernel
theorem dX2_join_69 : decode cX2_join 69 = .ok (.iand, 1) := by decide +kernel
theorem dX2_join_70 : decode cX2_join 70 = .ok (.istore_n 2, 1) := by decide +kernel
theorem dX2_join_71 : decode cX2_join 71 = .ok (.iinc 3 1, 3) := by decide +kernel
theorem dX2_join_74 : decode cX2_join 74 = .ok (.goto (-40), 3) := by decide +kernel
theorem dX2_join_77 : decode cX2_join 77 = .ok (.return_, 1) := by decide +kernel
theorem dX2_findInRing_0 : decode cX2_findInRing 0 = .ok (.aload_n 0, 1) := by decide +kernel
theorem dX2_findInRing_1 : decode cX2_findInRing 1 = .ok (.aload_n 1, 1) := by decide +kernel
theorem dX2_findInRing_2 : decode cX2_findInRing 2 = .ok (.invokevirtual 33, 3) := by decide +kernel
theorem dX2_findInRing_5 : decode cX2_findInRing 5 = .ok (.iconst 0, 1) := by decide +kernel
theorem dX2_findInRing_6 : decode cX2_findInRing 6 = .ok (.istore_n 3, 1) := by decide +kernel
theorem dX2_findInRing_7 : decode cX2_findInRing 7 = .ok (.iload_n 3, 1) := by decide +kernel
theorem dX2_findInRing_8 : decode cX2_findInRing 8 = .ok (.aload_n 0, 1) := by decide +kernel
theorem dX2_findInRing_9 : decode cX2_findInRing 9 = .ok (.getfield 18, 3) := by decide +kernel
theorem dX2_findInRing_12 : decode cX2_findInRing 12 = .ok (.if_icmp .ge 102, 3) := by decide +kernel
theorem dX2_findInRing_15 : decode cX2_findInRing 15 = .ok (.iconst 0, 1) := by decide +kernel
theorem dX2_findInRing_16 : decode cX2_findInRing 16 = .ok (.istore 4, 2) := by decide +kernel
theorem dX2_findInRing_18 : decode cX2_findInRing 18 = .ok (.iload 4, 2) := by decide +kernel
theorem dX2_findInRing_20 : decode cX2_findInRing 20 = .ok (.aload_n 0, 1) := by decide +kernel
theorem dX2_findInRing_21 : decode cX2_findInRing 21 = .ok (.getfield 18, 3) := by decide +kernel
theorem dX2_findInRing_24 : decode cX2_findInRing 24 = .ok (.if_icmp .ge 84, 3) := by decide +kernel
theorem dX2_findInRing_27 : decode cX2_findInRing 27 = .ok (.iconst 0, 1) := by decide +kernel
theorem dX2_findInRing_28 : decode cX2_findInRing 28 = .ok (.istore 5, 2) := by decide +kernel
theorem dX2_findInRing_30 : decode cX2_findInRing 30 = .ok (.iload 5, 2) := by decide +kernel
theorem dX2_findInRing_32 : decode cX2_findInRing 32 = .ok (.aload_n 0, 1) := by decide +kernel
theorem dX2_findInRing_33 : decode cX2_findInRing 33 = .ok (.getfield 18, 3) := by decide +kernel
theorem dX2_findInRing_36 : decode cX2_findInRing 36 = .ok (.if_icmp .ge 66, 3) := by decide +kernel
theorem dX2_findInRing_39 : decode cX2_findInRing 39 = .ok (.aload_n 0, 1) := by decide +kernel
theorem dX2_findInRing_40 : decode cX2_findInRing 40 = .ok (.iload_n 3, 1) := by decide +kernel
theorem dX2_findInRing_41 : decode cX2_findInRing 41 = .ok (.iload 4, 2) := by decide +kernel
theorem dX2_findInRing_43 : decode cX2_findInRing 43 = .ok (.invokevirtual 55, 3) := by decide +kernel
theorem dX2_findInRing_46 : decode cX2_findInRing 46 = .ok (.ifCond .eq 56, 3) := by decide +kernel
theorem dX2_findInRing_49 : decode cX2_findInRing 49 = .ok (.aload_n 0, 1) := by decide +kernel
theorem dX2_findInRing_50 : decode cX2_findInRing 50 = .ok (.iload 4, 2) := by decide +kernel
theorem dX2_findInRing_52 : decode cX2_findInRing 52 = .ok (.iload 5, 2) := by decide +kernel
theorem dX2_findInRing_54 : decode cX2_findInRing 54 = .ok (.invokevirtual 55, 3) := by decide +kernel
theorem dX2_findInRing_57 : decode cX2_findInRing 57 = .ok (.ifCond .eq 39, 3) := by decide +kernel
theorem dX2_findInRing_60 : decode cX2_findInRing 60 = .ok (.aload_n 0, 1) := by decide +kernel
theorem dX2_findInRing_61 : decode cX2_findInRing 61 = .ok (.iload 5, 2) := by decide +kernel
theorem dX2_findInRing_63 : decode cX2_findInRing 63 = .ok (.iload_n 3, 1) := by decide +kernel
theorem dX2_findInRing_64 : decode cX2_findInRing 64 = .ok (.invokevirtual 55, 3) := by decide +kernel
theorem dX2_findInRing_67 : decode cX2_findInRing 67 = .ok (.ifCond .eq 29, 3) := by decide +kernel
theorem dX2_findInRing_70 : decode cX2_findInRing 70 = .ok (.aload_n 0, 1) := by decide +kernel
theorem dX2_findInRing_71 : decode cX2_findInRing 71 = .ok (.getfield 9, 3) := by decide +kernel
theorem dX2_findInRing_74 : decode cX2_findInRing 74 = .ok (.iload_n 2, 1) := by decide +kernel
theorem dX2_findInRing_75 : decode cX2_findInRing 75 = .ok (.ifCond .ne 7, 3) := by decide +kernel
theorem dX2_findInRing_78 : decode cX2_findInRing 78 = .ok (.iload_n 3, 1) := by decide +kernel
theorem dX2_findInRing_79 : decode cX2_findInRing 79 = .ok (.goto 15, 3) := by decide +kernel
theorem dX2_findInRing_82 : decode cX2_findInRing 82 = .ok (.iload_n 2, 1) := by decide +kernel
theorem dX2_findInRing_83 : decode cX2_findInRing 83 = .ok (.iconst 1, 1) := by decide +kernel
theorem dX2_findInRing_84 : decode cX2_findInRing 84 = .ok (.if_icmp .ne 8, 3) := by decide +kernel
theorem dX2_findInRing_87 : decode cX2_findInRing 87 = .ok (.iload 4, 2) := by decide +kernel
theorem dX2_findInRing_89 : decode cX2_findInRing 89 = .ok (.goto 5, 3) := by decide +kernel
theorem dX2_findInRing_92 : decode cX2_findInRing 92 = .ok (.iload 5, 2) := by decide +kernel
theorem dX2_findInRing_94 : decode cX2_findInRing 94 = .ok (.iaload, 1) := by decide +kernel
theorem dX2_findInRing_95 : decode cX2_findInRing 95 = .ok (.ireturn, 1) := by decide +kernel
theorem dX2_findInRing_96 : decode cX2_findInRing 96 = .ok (.iinc 5 1, 3) := by decide +kernel
theorem dX2_findInRing_99 : decode cX2_findInRing 99 = .ok (.goto (-69), 3) := by decide +kernel
theorem dX2_findInRing_102 : decode cX2_findInRing 102 = .ok (.iinc 4 1, 3) := by decide +kernel
theorem dX2_findInRing_105 : decode cX2_findInRing 105 = .ok (.goto (-87), 3) := by decide +kernel
theorem dX2_findInRing_108 : decode cX2_findInRing 108 = .ok (.iinc 3 1, 3) := by decide +kernel
theorem dX2_findInRing_111 : decode cX2_findInRing 111 = .ok (.goto (-104), 3) := by decide +kernel
theorem dX2_findInRing_114 : decode cX2_findInRing 114 = .ok (.iconst (-1), 1) := by decide +kernel
theorem dX2_findInRing_115 : decode cX2_findInRing 115 = .ok (.ireturn, 1) := by decide +kernel
theorem dX2_beats_0 : decode cX2_beats 0 = .ok (.aload_n 0, 1) := by decide +kernel
theorem dX2_beats_1 : decode cX2_beats 1 = .ok (.getfield 24, 3) := by decide +kernel
theorem dX2_beats_4 : decode cX2_beats 4 = .ok (.iload_n 1, 1) := by decide +kernel
theorem dX2_beats_5 : decode cX2_beats 5 = .ok (.aaload, 1) := by decide +kernel
theorem dX2_beats_6 : decode cX2_beats 6 = .ok (.iload_n 2, 1) := by decide +kernel
theorem dX2_beats_7 : decode cX2_beats 7 = .ok (.iaload, 1) := by decide +kernel
theorem dX2_beats_8 : decode cX2_beats 8 = .ok (.aload_n 0, 1) := by decide +kernel
theorem dX2_beats_9 : decode cX2_beats 9 = .ok (.getfield 24, 3) := by decide +kernel
theorem dX2_beats_12 : decode cX2_beats 12 = .ok (.iload_n 2, 1) := by decide +kernel
theorem dX2_beats_13 : decode cX2_beats 13 = .ok (.aaload, 1) := by decide +kernel
theorem dX2_beats_14 : decode cX2_beats 14 = .ok (.iload_n 1, 1) := by decide +kernel
theorem dX2_beats_15 : decode cX2_beats 15 = .ok (.iaload, 1) := by decide +kernel
theorem dX2_beats_16 : decode cX2_beats 16 = .ok (.if_icmp .le 7, 3) := by decide +kernel
theorem dX2_beats_19 : decode cX2_beats 19 = .ok (.iconst 1, 1) := by decide +kernel
theorem dX2_beats_20 : decode cX2_beats 20 = .ok (.goto 4, 3) := by decide +kernel
theorem dX2_beats_23 : decode cX2_beats 23 = .ok (.iconst 0, 1) := by decide +kernel
theorem dX2_beats_24 : decode cX2_beats 24 = .ok (.ireturn, 1) := by decide +kernel
theorem dX2_tally_0 : decode cX2_tally 0 = .ok (.aload_n 0, 1) := by decide +kernel
theorem dX2_tally_1 : decode cX2_tally 1 = .ok (.iconst 0, 1) := by decide +kernel
theorem dX2_tally_2 : decode cX2_tally 2 = .ok (.putfield 18, 3) := by decide +kernel
theorem dX2_tally_5 : decode cX2_tally 5 = .ok (.iconst 0, 1) := by decide +kernel
theorem dX2_tally_6 : decode cX2_tally 6 = .ok (.istore_n 2, 1) := by decide +kernel
theorem dX2_tally_7 : decode cX2_tally 7 = .ok (.iload_n 2, 1) := by decide +kernel
theorem dX2_tally_8 : decode cX2_tally 8 = .ok (.bipush 20, 2) := by decide +kernel
theorem dX2_tally_10 : decode cX2_tally 10 = .ok (.if_icmp .ge 63, 3) := by decide +kernel
theorem dX2_tally_13 : decode cX2_tally 13 = .ok (.aload_n 0, 1) := by decide +kernel
theorem dX2_tally_14 : decode cX2_tally 14 = .ok (.getfield 15, 3) := by decide +kernel
theorem dX2_tally_17 : decode cX2_tally 17 = .ok (.iload_n 2, 1) := by decide +kernel
theorem dX2_tally_18 : decode cX2_tally 18 = .ok (.iconst (-1), 1) := by decide +kernel
theorem dX2_tally_19 : decode cX2_tally 19 = .ok (.iastore, 1) := by decide +kernel
theorem dX2_tally_20 : decode cX2_tally 20 = .ok (.aload_n 1, 1) := by decide +kernel
theorem dX2_tally_21 : decode cX2_tally 21 = .ok (.iload_n 2, 1) := by decide +kernel
theorem dX2_tally_22 : decode cX2_tally 22 = .ok (.invokevirtual 59, 3) := by decide +kernel
theorem dX2_tally_25 : decode cX2_tally 25 = .ok (.ifCond .eq 42, 3) := by decide +kernel
theorem dX2_tally_28 : decode cX2_tally 28 = .ok (.aload_n 0, 1) := by decide +kernel
theorem dX2_tally_29 : decode cX2_tally 29 = .ok (.getfield 18, 3) := by decide +kernel
theorem dX2_tally_32 : decode cX2_tally 32 = .ok (.bipush 8, 2) := by decide +kernel
theorem dX2_tally_34 : decode cX2_tally 34 = .ok (.if_icmp .ge 33, 3) := by decide +kernel
theorem dX2_tally_37 : decode cX2_tally 37 = .ok (.aload_n 0, 1) := by decide +kernel
theorem dX2_tally_38 : decode cX2_tally 38 = .ok (.getfield 9, 3) := by decide +kernel
theorem dX2_tally_41 : decode cX2_tally 41 = .ok (.aload_n 0, 1) := by decide +kernel
theorem dX2_tally_42 : decode cX2_tally 42 = .ok (.getfield 18, 3) := by decide +kernel
theorem dX2_tally_45 : decode cX2_tally 45 = .ok (.iload_n 2, 1) := by decide +kernel
theorem dX2_tally_46 : decode cX2_tally 46 = .ok (.iastore, 1) := by decide +kernel
theorem dX2_tally_47 : decode cX2_tally 47 = .ok (.aload_n 0, 1) := by decide +kernel
theorem dX2_tally_48 : decode cX2_tally 48 = .ok (.getfield 15, 3) := by decide +kernel
theorem dX2_tally_51 : decode cX2_tally 51 = .ok (.iload_n 2, 1) := by decide +kernel
theorem dX2_tally_52 : decode cX2_tally 52 = .ok (.aload_n 0, 1) := by decide +kernel
theorem dX2_tally_53 : decode cX2_tally 53 = .ok (.getfield 18, 3) := by decide +kernel
theorem dX2_tally_56 : decode cX2_tally 56 = .ok (.iastore, 1) := by decide +kernel
theorem dX2_tally_57 : decode cX2_tally 57 = .ok (.aload_n 0, 1) := by decide +kernel
theorem dX2_tally_58 : decode cX2_tally 58 = .ok (.dup, 1) := by decide +kernel
theorem dX2_tally_59 : decode cX2_tally 59 = .ok (.getfield 18, 3) := by decide +kernel
theorem dX2_tally_62 : decode cX2_tally 62 = .ok (.iconst 1, 1) := by decide +kernel
theorem dX2_tally_63 : decode cX2_tally 63 = .ok (.iadd, 1) := by decide +kernel
theorem dX2_tally_64 : decode cX2_tally 64 = .ok (.putfield 18, 3) := by decide +kernel
theorem dX2_tally_67 : decode cX2_tally 67 = .ok (.iinc 2 1, 3) := by decide +kernel
theorem dX2_tally_70 : decode cX2_tally 70 = .ok (.goto (-63), 3) := by decide +kernel
theorem dX2_tally_73 : decode cX2_tally 73 = .ok (.iconst 0, 1) := by decide +kernel
theorem dX2_tally_74 : decode cX2_tally 74 = .ok (.istore_n 2, 1) := by decide +kernel
theorem dX2_tally_75 : decode cX2_tally 75 = .ok (.iload_n 2, 1) := by decide +kernel
theorem dX2_tally_76 : decode cX2_tally 76 = .ok (.aload_n 0, 1) := by decide +kernel
theorem dX2_tally_77 : decode cX2_tally 77 = .ok (.getfield 18, 3) := by decide +kernel
theorem dX2_tally_80 : decode cX2_tally 80 = .ok (.if_icmp .ge 19, 3) := by decide +kernel
theorem dX2_tally_83 : decode cX2_tally 83 = .ok (.aload_n 0, 1) := by decide +kernel
theorem dX2_tally_84 : decode cX2_tally 84 = .ok (.getfield 24, 3) := by decide +kernel
theorem dX2_tally_87 : decode cX2_tally 87 = .ok (.iload_n 2, 1) := by decide +kernel
theorem dX2_tally_88 : decode cX2_tally 88 = .ok (.aaload, 1) := by decide +kernel
theorem dX2_tally_89 : decode cX2_tally 89 = .ok (.iconst 0, 1) := by decide +kernel
theorem dX2_tally_90 : decode cX2_tally 90 = .ok (.invokestatic 63, 3) := by decide +kernel
theorem dX2_tally_93 : decode cX2_tally 93 = .ok (.iinc 2 1, 3) := by decide +kernel
theorem dX2_tally_96 : decode cX2_tally 96 = .ok (.goto (-21), 3) := by decide +kernel
theorem dX2_tally_99 : decode cX2_tally 99 = .ok (.iconst 0, 1) := by decide +kernel
theorem dX2_tally_100 : decode cX2_tally 100 = .ok (.istore_n 2, 1) := by decide +kernel
theorem dX2_tally_101 : decode cX2_tally 101 = .ok (.iload_n 2, 1) := by decide +kernel
theorem dX2_tally_102 : decode cX2_tally 102 = .ok (.bipush 6, 2) := by decide +kernel
theorem dX2_tally_104 : decode cX2_tally 104 = .ok (.if_icmp .ge 25, 3) := by decide +kernel
theorem dX2_tally_107 : decode cX2_tally 107 = .ok (.aload_n 0, 1) := by decide +kernel
theorem dX2_tally_108 : decode cX2_tally 108 = .ok (.aload_n 1, 1) := by decide +kernel
theorem dX2_tally_109 : decode cX2_tally 109 = .ok (.getfield 69, 3) := by decide +kernel
theorem dX2_tally_112 : decode cX2_tally 112 = .ok (.iload_n 2, 1) := by decide +kernel
theorem dX2_tally_113 : decode cX2_tally 113 = .ok (.aaload, 1) := by decide +kernel
theorem dX2_tally_114 : decode cX2_tally 114 = .ok (.aload_n 1, 1) := by decide +kernel
theorem dX2_tally_115 : decode cX2_tally 115 = .ok (.getfield 72, 3) := by decide +kernel
theorem dX2_tally_118 : decode cX2_tally 118 = .ok (.iload_n 2, 1) := by decide +kernel
theorem dX2_tally_119 : decode cX2_tally 119 = .ok (.iaload, 1) := by decide +kernel
theorem dX2_tally_120 : decode cX2_tally 120 = .ok (.invokevirtual 75, 3) := by decide +kernel
theorem dX2_tally_123 : decode cX2_tally 123 = .ok (.iinc 2 1, 3) := by decide +kernel
theorem dX2_tally_126 : decode cX2_tally 126 = .ok (.goto (-25), 3) := by decide +kernel
theorem dX2_tally_129 : decode cX2_tally 129 = .ok (.return_, 1) := by decide +kernel
theorem dX2_tallyOrder_0 : decode cX2_tallyOrder 0 = .ok (.iconst 0, 1) := by decide +kernel
theorem dX2_tallyOrder_1 : decode cX2_tallyOrder 1 = .ok (.istore_n 3, 1) := by decide +kernel
theorem dX2_tallyOrder_2 : decode cX2_tallyOrder 2 = .ok (.iload_n 3, 1) := by decide +kernel
theorem dX2_tallyOrder_3 : decode cX2_tallyOrder 3 = .ok (.iload_n 2, 1) := by decide +kernel
theorem dX2_tallyOrder_4 : decode cX2_tallyOrder 4 = .ok (.if_icmp .ge 73, 3) := by decide +kernel
theorem dX2_tallyOrder_7 : decode cX2_tallyOrder 7 = .ok (.aload_n 0, 1) := by decide +kernel
theorem dX2_tallyOrder_8 : decode cX2_tallyOrder 8 = .ok (.getfield 15, 3) := by decide +kernel
theorem dX2_tallyOrder_11 : decode cX2_tallyOrder 11 = .ok (.aload_n 1, 1) := by decide +kernel
theorem dX2_tallyOrder_12 : decode cX2_tallyOrder 12 = .ok (.iload_n 3, 1) := by decide +kernel
theorem dX2_tallyOrder_13 : decode cX2_tallyOrder 13 = .ok (.iaload, 1) := by decide +kernel
theorem dX2_tallyOrder_14 : decode cX2_tallyOrder 14 = .ok (.iaload, 1) := by decide +kernel
theorem dX2_tallyOrder_15 : decode cX2_tallyOrder 15 = .ok (.istore 4, 2) := by decide +kernel
theorem dX2_tallyOrder_17 : decode cX2_tallyOrder 17 = .ok (.iload_n 3, 1) := by decide +kernel
theorem dX2_tallyOrder_18 : decode cX2_tallyOrder 18 = .ok (.iconst 1, 1) := by decide +kernel
theorem dX2_tallyOrder_19 : decode cX2_tallyOrder 19 = .ok (.iadd, 1) := by decide +kernel
theorem dX2_tallyOrder_20 : decode cX2_tallyOrder 20 = .ok (.istore 5, 2) := by decide +kernel
theorem dX2_tallyOrder_22 : decode cX2_tallyOrder 22 = .ok (.iload 5, 2) := by decide +kernel
theorem dX2_tallyOrder_24 : decode cX2_tallyOrder 24 = .ok (.iload_n 2, 1) := by decide +kernel
theorem dX2_tallyOrder_25 : decode cX2_tallyOrder 25 = .ok (.if_icmp .ge 46, 3) := by decide +kernel
theorem dX2_tallyOrder_28 : decode cX2_tallyOrder 28 = .ok (.iload 4, 2) := by decide +kernel
theorem dX2_tallyOrder_30 : decode cX2_tallyOrder 30 = .ok (.iconst (-1), 1) := by decide +kernel
theorem dX2_tallyOrder_31 : decode cX2_tallyOrder 31 = .ok (.if_icmp .eq 40, 3) := by decide +kernel
theorem dX2_tallyOrder_34 : decode cX2_tallyOrder 34 = .ok (.aload_n 0, 1) := by decide +kernel
theorem dX2_tallyOrder_35 : decode cX2_tallyOrder 35 = .ok (.getfield 15, 3) := by decide +kernel
theorem dX2_tallyOrder_38 : decode cX2_tallyOrder 38 = .ok (.aload_n 1, 1) := by decide +kernel
theorem dX2_tallyOrder_39 : decode cX2_tallyOrder 39 = .ok (.iload 5, 2) := by decide +kernel
theorem dX2_tallyOrder_41 : decode cX2_tallyOrder 41 = .ok (.iaload, 1) := by decide +kernel
theorem dX2_tallyOrder_42 : decode cX2_tallyOrder 42 = .ok (.iaload, 1) := by decide +kernel
theorem dX2_tallyOrder_43 : decode cX2_tallyOrder 43 = .ok (.istore 6, 2) := by decide +kernel
theorem dX2_tallyOrder_45 : decode cX2_tallyOrder 45 = .ok (.iload 6, 2) := by decide +kernel
theorem dX2_tallyOrder_47 : decode cX2_tallyOrder 47 = .ok (.iconst (-1), 1) := by decide +kernel
theorem dX2_tallyOrder_48 : decode cX2_tallyOrder 48 = .ok (.if_icmp .eq 17, 3) := by decide +kernel
theorem dX2_tallyOrder_51 : decode cX2_tallyOrder 51 = .ok (.aload_n 0, 1) := by decide +kernel
theorem dX2_tallyOrder_52 : decode cX2_tallyOrder 52 = .ok (.getfield 24, 3) := by decide +kernel
theorem dX2_tallyOrder_55 : decode cX2_tallyOrder 55 = .ok (.iload 4, 2) := by decide +kernel
theorem dX2_tallyOrder_57 : decode cX2_tallyOrder 57 = .ok (.aaload, 1) := by decide +kernel
theorem dX2_tallyOrder_58 : decode cX2_tallyOrder 58 = .ok (.iload 6, 2) := by decide +kernel
theorem dX2_tallyOrder_60 : decode cX2_tallyOrder 60 = .ok (.dup2, 1) := by decide +kernel
theorem dX2_tallyOrder_61 : decode cX2_tallyOrder 61 = .ok (.iaload, 1) := by decide +kernel
theorem dX2_tallyOrder_62 : decode cX2_tallyOrder 62 = .ok (.iconst 1, 1) := by decide +kernel
theorem dX2_tallyOrder_63 : decode cX2_tallyOrder 63 = .ok (.iadd, 1) := by decide +kernel
theorem dX2_tallyOrder_64 : decode cX2_tallyOrder 64 = .ok (.iastore, 1) := by decide +kernel
theorem dX2_tallyOrder_65 : decode cX2_tallyOrder 65 = .ok (.iinc 5 1, 3) := by decide +kernel
theorem dX2_tallyOrder_68 : decode cX2_tallyOrder 68 = .ok (.goto (-46), 3) := by decide +kernel
theorem dX2_tallyOrder_71 : decode cX2_tallyOrder 71 = .ok (.iinc 3 1, 3) := by decide +kernel
theorem dX2_tallyOrder_74 : decode cX2_tallyOrder 74 = .ok (.goto (-72), 3) := by decide +kernel
theorem dX2_tallyOrder_77 : decode cX2_tallyOrder 77 = .ok (.return_, 1) := by decide +kernel
theorem dX2_sumLost_0 : decode cX2_sumLost 0 = .ok (.iconst 0, 1) := by decide +kernel
theorem dX2_sumLost_1 : decode cX2_sumLost 1 = .ok (.istore_n 1, 1) := by decide +kernel
theorem dX2_sumLost_2 : decode cX2_sumLost 2 = .ok (.iload_n 1, 1) := by decide +kernel
theorem dX2_sumLost_3 : decode cX2_sumLost 3 = .ok (.aload_n 0, 1) := by decide +kernel
theorem dX2_sumLost_4 : decode cX2_sumLost 4 = .ok (.getfield 18, 3) := by decide +kernel
theorem dX2_sumLost_7 : decode cX2_sumLost 7 = .ok (.if_icmp .ge 69, 3) := by decide +kernel
theorem dX2_sumLost_10 : decode cX2_sumLost 10 = .ok (.iconst 0, 1) := by decide +kernel
theorem dX2_sumLost_11 : decode cX2_sumLost 11 = .ok (.istore_n 2, 1) := by decide +kernel
theorem dX2_sumLost_12 : decode cX2_sumLost 12 = .ok (.iload_n 2, 1) := by decide +kernel
theorem dX2_sumLost_13 : decode cX2_sumLost 13 = .ok (.aload_n 0, 1) := by decide +kernel
theorem dX2_sumLost_14 : decode cX2_sumLost 14 = .ok (.getfield 18, 3) := by decide +kernel
theorem dX2_sumLost_17 : decode cX2_sumLost 17 = .ok (.if_icmp .ge 53, 3) := by decide +kernel
theorem dX2_sumLost_20 : decode cX2_sumLost 20 = .ok (.iconst 0, 1) := by decide +kernel
theorem dX2_sumLost_21 : decode cX2_sumLost 21 = .ok (.istore_n 3, 1) := by decide +kernel
theorem dX2_sumLost_22 : decode cX2_sumLost 22 = .ok (.iload_n 3, 1) := by decide +kernel
theorem dX2_sumLost_23 : decode cX2_sumLost 23 = .ok (.iconst 1, 1) := by decide +kernel
theorem dX2_sumLost_24 : decode cX2_sumLost 24 = .ok (.iload_n 2, 1) := by decide +kernel
theorem dX2_sumLost_25 : decode cX2_sumLost 25 = .ok (.ishl, 1) := by decide +kernel
theorem dX2_sumLost_26 : decode cX2_sumLost 26 = .ok (.if_icmp .ge 38, 3) := by decide +kernel
theorem dX2_sumLost_29 : decode cX2_sumLost 29 = .ok (.aload_n 0, 1) := by decide +kernel
theorem dX2_sumLost_30 : decode cX2_sumLost 30 = .ok (.getfield 27, 3) := by decide +kernel
theorem dX2_sumLost_33 : decode cX2_sumLost 33 = .ok (.iload_n 1, 1) := by decide +kernel
theorem dX2_sumLost_34 : decode cX2_sumLost 34 = .ok (.aaload, 1) := by decide +kernel
theorem dX2_sumLost_35 : decode cX2_sumLost 35 = .ok (.iload_n 3, 1) := by decide +kernel
theorem dX2_sumLost_36 : decode cX2_sumLost 36 = .ok (.iconst 1, 1) := by decide +kernel
theorem dX2_sumLost_37 : decode cX2_sumLost 37 = .ok (.iload_n 2, 1) := by decide +kernel
theorem dX2_sumLost_38 : decode cX2_sumLost 38 = .ok (.ishl, 1) := by decide +kernel
theorem dX2_sumLost_39 : decode cX2_sumLost 39 = .ok (.ior, 1) := by decide +kernel
theorem dX2_sumLost_40 : decode cX2_sumLost 40 = .ok (.aload_n 0, 1) := by decide +kernel
theorem dX2_sumLost_41 : decode cX2_sumLost 41 = .ok (.getfield 27, 3) := by decide +kernel
theorem dX2_sumLost_44 : decode cX2_sumLost 44 = .ok (.iload_n 1, 1) := by decide +kernel
theorem dX2_sumLost_45 : decode cX2_sumLost 45 = .ok (.aaload, 1) := by decide +kernel
theorem dX2_sumLost_46 : decode cX2_sumLost 46 = .ok (.iload_n 3, 1) := by decide +kernel
theorem dX2_sumLost_47 : decode cX2_sumLost 47 = .ok (.iaload, 1) := by decide +kernel
theorem dX2_sumLost_48 : decode cX2_sumLost 48 = .ok (.aload_n 0, 1) := by decide +kernel
theorem dX2_sumLost_49 : decode cX2_sumLost 49 = .ok (.getfield 24, 3) := by decide +kernel
theorem dX2_sumLost_52 : decode cX2_sumLost 52 = .ok (.iload_n 2, 1) := by decide +kernel
theorem dX2_sumLost_53 : decode cX2_sumLost 53 = .ok (.aaload, 1) := by decide +kernel
theorem dX2_sumLost_54 : decode cX2_sumLost 54 = .ok (.iload_n 1, 1) := by decide +kernel
theorem dX2_sumLost_55 : decode cX2_sumLost 55 = .ok (.iaload, 1) := by decide +kernel
theorem dX2_sumLost_56 : decode cX2_sumLost 56 = .ok (.iadd, 1) := by decide +kernel
theorem dX2_sumLost_57 : decode cX2_sumLost 57 = .ok (.iastore, 1) := by decide +kernel
theorem dX2_sumLost_58 : decode cX2_sumLost 58 = .ok (.iinc 3 1, 3) := by decide +kernel
theorem dX2_sumLost_61 : decode cX2_sumLost 61 = .ok (.goto (-39), 3) := by decide +kernel
theorem dX2_sumLost_64 : decode cX2_sumLost 64 = .ok (.iinc 2 1, 3) := by decide +kernel
theorem dX2_sumLost_67 : decode cX2_sumLost 67 = .ok (.goto (-55), 3) := by decide +kernel
theorem dX2_sumLost_70 : decode cX2_sumLost 70 = .ok (.iinc 1 1, 3) := by decide +kernel
theorem dX2_sumLost_73 : decode cX2_sumLost 73 = .ok (.goto (-71), 3) := by decide +kernel
theorem dX2_sumLost_76 : decode cX2_sumLost 76 = .ok (.return_, 1) := by decide +kernel
theorem dX2_findFewest_0 : decode cX2_findFewest 0 = .ok (.iconst 1, 1) := by decide +kernel
theorem dX2_findFewest_1 : decode cX2_findFewest 1 = .ok (.istore_n 1, 1) := by decide +kernel
theorem dX2_findFewest_2 : decode cX2_findFewest 2 = .ok (.iload_n 1, 1) := by decide +kernel
theorem dX2_findFewest_3 : decode cX2_findFewest 3 = .ok (.iconst 1, 1) := by decide +kernel
theorem dX2_findFewest_4 : decode cX2_findFewest 4 = .ok (.aload_n 0, 1) := by decide +kernel
theorem dX2_findFewest_5 : decode cX2_findFewest 5 = .ok (.getfield 18, 3) := by decide +kernel
theorem dX2_findFewest_8 : decode cX2_findFewest 8 = .ok (.ishl, 1) := by decide +kernel
theorem dX2_findFewest_9 : decode cX2_findFewest 9 = .ok (.if_icmp .ge 54, 3) := by decide +kernel
theorem dX2_findFewest_12 : decode cX2_findFewest 12 = .ok (.ldc 80, 2) := by decide +kernel
theorem dX2_findFewest_14 : decode cX2_findFewest 14 = .ok (.istore_n 2, 1) := by decide +kernel
theorem dX2_findFewest_15 : decode cX2_findFewest 15 = .ok (.iconst 0, 1) := by decide +kernel
theorem dX2_findFewest_16 : decode cX2_findFewest 16 = .ok (.istore_n 3, 1) := by decide +kernel
theorem dX2_findFewest_17 : decode cX2_findFewest 17 = .ok (.iload_n 3, 1) := by decide +kernel
theorem dX2_findFewest_18 : decode cX2_findFewest 18 = .ok (.aload_n 0, 1) := by decide +kernel
theorem dX2_findFewest_19 : decode cX2_findFewest 19 = .ok (.getfield 18, 3) := by decide +kernel
theorem dX2_findFewest_22 : decode cX2_findFewest 22 = .ok (.if_icmp .ge 28, 3) := by decide +kernel
theorem dX2_findFewest_25 : decode cX2_findFewest 25 = .ok (.iload_n 1, 1) := by decide +kernel
theorem dX2_findFewest_26 : decode cX2_findFewest 26 = .ok (.iconst 1, 1) := by decide +kernel
theorem dX2_findFewest_27 : decode cX2_findFewest 27 = .ok (.iload_n 3, 1) := by decide +kernel
theorem dX2_findFewest_28 : decode cX2_findFewest 28 = .ok (.ishl, 1) := by decide +kernel
theorem dX2_findFewest_29 : decode cX2_findFewest 29 = .ok (.iand, 1) := by decide +kernel
theorem dX2_findFewest_30 : decode cX2_findFewest 30 = .ok (.ifCond .eq 14, 3) := by decide +kernel
theorem dX2_findFewest_33 : decode cX2_findFewest 33 = .ok (.iload_n 2, 1) := by decide +kernel
theorem dX2_findFewest_34 : decode cX2_findFewest 34 = .ok (.aload_n 0, 1) := by decide +kernel
theorem dX2_findFewest_35 : decode cX2_findFewest 35 = .ok (.iload_n 1, 1) := by decide +kernel
theorem dX2_findFewest_36 : decode cX2_findFewest 36 = .ok (.iload_n 3, 1) := by decide +kernel
theorem dX2_findFewest_37 : decode cX2_findFewest 37 = .ok (.invokevirtual 81, 3) := by decide +kernel
theorem dX2_findFewest_40 : decode cX2_findFewest 40 = .ok (.invokestatic 85, 3) := by decide +kernel
theorem dX2_findFewest_43 : decode cX2_findFewest 43 = .ok (.istore_n 2, 1) := by decide +kernel
theorem dX2_findFewest_44 : decode cX2_findFewest 44 = .ok (.iinc 3 1, 3) := by decide +kernel
theorem dX2_findFewest_47 : decode cX2_findFewest 47 = .ok (.goto (-30), 3) := by decide +kernel
theorem dX2_findFewest_50 : decode cX2_findFewest 50 = .ok (.aload_n 0, 1) := by decide +kernel
theorem dX2_findFewest_51 : decode cX2_findFewest 51 = .ok (.getfield 30, 3) := by decide +kernel
theorem dX2_findFewest_54 : decode cX2_findFewest 54 = .ok (.iload_n 1, 1) := by decide +kernel
theorem dX2_findFewest_55 : decode cX2_findFewest 55 = .ok (.iload_n 2, 1) := by decide +kernel
theorem dX2_findFewest_56 : decode cX2_findFewest 56 = .ok (.iastore, 1) := by decide +kernel
theorem dX2_findFewest_57 : decode cX2_findFewest 57 = .ok (.iinc 1 1, 3) := by decide +kernel
theorem dX2_findFewest_60 : decode cX2_findFewest 60 = .ok (.goto (-58), 3) := by decide +kernel
theorem dX2_findFewest_63 : decode cX2_findFewest 63 = .ok (.return_, 1) := by decide +kernel
theorem dX2_swapsWithFirst_0 : decode cX2_swapsWithFirst 0 = .ok (.aload_n 0, 1) := by decide +kernel
theorem dX2_swapsWithFirst_1 : decode cX2_swapsWithFirst 1 = .ok (.getfield 27, 3) := by decide +kernel
theorem dX2_swapsWithFirst_4 : decode cX2_swapsWithFirst 4 = .ok (.iload_n 2, 1) := by decide +kernel
theorem dX2_swapsWithFirst_5 : decode cX2_swapsWithFirst 5 = .ok (.aaload, 1) := by decide +kernel
theorem dX2_swapsWithFirst_6 : decode cX2_swapsWithFirst 6 = .ok (.iload_n 1, 1) := by decide +kernel
theorem dX2_swapsWithFirst_7 : decode cX2_swapsWithFirst 7 = .ok (.iaload, 1) := by decide +kernel
theorem dX2_swapsWithFirst_8 : decode cX2_swapsWithFirst 8 = .ok (.aload_n 0, 1) := by decide +kernel
theorem dX2_swapsWithFirst_9 : decode cX2_swapsWithFirst 9 = .ok (.getfield 30, 3) := by decide +kernel
theorem dX2_swapsWithFirst_12 : decode cX2_swapsWithFirst 12 = .ok (.iload_n 1, 1) := by decide +kernel
theorem dX2_swapsWithFirst_13 : decode cX2_swapsWithFirst 13 = .ok (.iconst 1, 1) := by decide +kernel
theorem dX2_swapsWithFirst_14 : decode cX2_swapsWithFirst 14 = .ok (.iload_n 2, 1) := by decide +kernel
theorem dX2_swapsWithFirst_15 : decode cX2_swapsWithFirst 15 = .ok (.ishl, 1) := by decide +kernel
theorem dX2_swapsWithFirst_16 : decode cX2_swapsWithFirst 16 = .ok (.iconst (-1), 1) := by decide +kernel
theorem dX2_swapsWithFirst_17 : decode cX2_swapsWithFirst 17 = .ok (.ixor, 1) := by decide +kernel
theorem dX2_swapsWithFirst_18 : decode cX2_swapsWithFirst 18 = .ok (.iand, 1) := by decide +kernel
theorem dX2_swapsWithFirst_19 : decode cX2_swapsWithFirst 19 = .ok (.iaload, 1) := by decide +kernel
theorem dX2_swapsWithFirst_20 : decode cX2_swapsWithFirst 20 = .ok (.iadd, 1) := by decide +kernel
theorem dX2_swapsWithFirst_21 : decode cX2_swapsWithFirst 21 = .ok (.ireturn, 1) := by decide +kernel
theorem dX2_leastFirst_0 : decode cX2_leastFirst 0 = .ok (.iconst 0, 1) := by decide +kernel
theorem dX2_leastFirst_1 : decode cX2_leastFirst 1 = .ok (.istore_n 2, 1) := by decide +kernel
theorem dX2_leastFirst_2 : decode cX2_leastFirst 2 = .ok (.iload_n 2, 1) := by decide +kernel
theorem dX2_leastFirst_3 : decode cX2_leastFirst 3 = .ok (.aload_n 0, 1) := by decide +kernel
theorem dX2_leastFirst_4 : decode cX2_leastFirst 4 = .ok (.getfield 18, 3) := by decide +kernel
theorem dX2_leastFirst_7 : decode cX2_leastFirst 7 = .ok (.if_icmp .ge 34, 3) := by decide +kernel
theorem dX2_leastFirst_10 : decode cX2_leastFirst 10 = .ok (.iload_n 1, 1) := by decide +kernel
theorem dX2_leastFirst_11 : decode cX2_leastFirst 11 = .ok (.iconst 1, 1) := by decide +kernel
theorem dX2_leastFirst_12 : decode cX2_leastFirst 12 = .ok (.iload_n 2, 1) := by decide +kernel
theorem dX2_leastFirst_13 : decode cX2_leastFirst 13 = .ok (.ishl, 1) := by decide +kernel
theorem dX2_leastFirst_14 : decode cX2_leastFirst 14 = .ok (.iand, 1) := by decide +kernel
theorem dX2_leastFirst_15 : decode cX2_leastFirst 15 = .ok (.ifCond .eq 20, 3) := by decide +kernel
theorem dX2_leastFirst_18 : decode cX2_leastFirst 18 = .ok (.aload_n 0, 1) := by decide +kernel
theorem dX2_leastFirst_19 : decode cX2_leastFirst 19 = .ok (.iload_n 1, 1) := by decide +kernel
theorem dX2_leastFirst_20 : decode cX2_leastFirst 20 = .ok (.iload_n 2, 1) := by decide +kernel
theorem dX2_leastFirst_21 : decode cX2_leastFirst 21 = .ok (.invokevirtual 81, 3) := by decide +kernel
theorem dX2_leastFirst_24 : decode cX2_leastFirst 24 = .ok (.aload_n 0, 1) := by decide +kernel
theorem dX2_leastFirst_25 : decode cX2_leastFirst 25 = .ok (.getfield 30, 3) := by decide +kernel
theorem dX2_leastFirst_28 : decode cX2_leastFirst 28 = .ok (.iload_n 1, 1) := by decide +kernel
theorem dX2_leastFirst_29 : decode cX2_leastFirst 29 = .ok (.iaload, 1) := by decide +kernel
theorem dX2_leastFirst_30 : decode cX2_leastFirst 30 = .ok (.if_icmp .ne 5, 3) := by decide +kernel
theorem dX2_leastFirst_33 : decode cX2_leastFirst 33 = .ok (.iload_n 2, 1) := by decide +kernel
theorem dX2_leastFirst_34 : decode cX2_leastFirst 34 = .ok (.ireturn, 1) := by decide +kernel
theorem dX2_leastFirst_35 : decode cX2_leastFirst 35 = .ok (.iinc 2 1, 3) := by decide +kernel
theorem dX2_leastFirst_38 : decode cX2_leastFirst 38 = .ok (.goto (-36), 3) := by decide +kernel
theorem dX2_leastFirst_41 : decode cX2_leastFirst 41 = .ok (.iconst 0, 1) := by decide +kernel
theorem dX2_leastFirst_42 : decode cX2_leastFirst 42 = .ok (.ireturn, 1) := by decide +kernel
theorem dX3_init_0 : decode cX3_init 0 = .ok (.aload_n 0, 1) := by decide +kernel
theorem dX3_init_1 : decode cX3_init 1 = .ok (.invokespecial 3, 3) := by decide +kernel
theorem dX3_init_4 : decode cX3_init 4 = .ok (.aload_n 0, 1) := by decide +kernel
theorem dX3_init_5 : decode cX3_init 5 = .ok (.iconst 0, 1) := by decide +kernel
theorem dX3_init_6 : decode cX3_init 6 = .ok (.putfield 9, 3) := by decide +kernel
theorem dX3_init_9 : decode cX3_init 9 = .ok (.return_, 1) := by decide +kernel
theorem dX3_score_0 : decode cX3_score 0 = .ok (.aload_n 0, 1) := by decide +kernel
theorem dX3_score_1 : decode cX3_score 1 = .ok (.iconst 0, 1) := by decide +kernel
theorem dX3_score_2 : decode cX3_score 2 = .ok (.putfield 9, 3) := by decide +kernel
theorem dX3_score_5 : decode cX3_score 5 = .ok (.aload_n 0, 1) := by decide +kernel
theorem dX3_score_6 : decode cX3_score 6 = .ok (.aload_n 1, 1) := by decide +kernel
theorem dX3_score_7 : decode cX3_score 7 = .ok (.aload_n 2, 1) := by decide +kernel
theorem dX3_score_8 : decode cX3_score 8 = .ok (.aload_n 3, 1) := by decide +kernel
theorem dX3_score_9 : decode cX3_score 9 = .ok (.invokevirtual 15, 3) := by decide +kernel
theorem dX3_score_12 : decode cX3_score 12 = .ok (.istore 4, 2) := by decide +kernel
theorem dX3_score_14 : decode cX3_score 14 = .ok (.iload 4, 2) := by decide +kernel
theorem dX3_score_16 : decode cX3_score 16 = .ok (.ifCond .eq 9, 3) := by decide +kernel
theorem dX3_score_19 : decode cX3_score 19 = .ok (.iload 4, 2) := by decide +kernel
theorem dX3_score_21 : decode cX3_score 21 = .ok (.ineg, 1) := by decide +kernel
theorem dX3_score_22 : decode cX3_score 22 = .ok (.goto 11, 3) := by decide +kernel
theorem dX3_score_25 : decode cX3_score 25 = .ok (.aload_n 0, 1) := by decide +kernel
theorem dX3_score_26 : decode cX3_score 26 = .ok (.getfield 9, 3) := by decide +kernel
theorem dX3_score_29 : decode cX3_score 29 = .ok (.iconst 0, 1) := by decide +kernel
theorem dX3_score_30 : decode cX3_score 30 = .ok (.invokestatic 19, 3) := by decide +kernel
theorem dX3_score_33 : decode cX3_score 33 = .ok (.ireturn, 1) := by decide +kernel
theorem dX3_readPairs_0 : decode cX3_readPairs 0 = .ok (.iconst 0, 1) := by decide +kernel
theorem dX3_readPairs_1 : decode cX3_readPairs 1 = .ok (.istore 4, 2) := by decide +kernel
theorem dX3_readPairs_3 : decode cX3_readPairs 3 = .ok (.iload 4, 2) := by decide +kernel
theorem dX3_readPairs_5 : decode cX3_readPairs 5 = .ok (.bipush 80, 2) := by decide +kernel
theorem dX3_readPairs_7 : decode cX3_readPairs 7 = .ok (.if_icmp .ge 50, 3) := by decide +kernel
theorem dX3_readPairs_10 : decode cX3_readPairs 10 = .ok (.aload_n 0, 1) := by decide +kernel
theorem dX3_readPairs_11 : decode cX3_readPairs 11 = .ok (.aload_n 1, 1) := by decide +kernel
theorem dX3_readPairs_12 : decode cX3_readPairs 12 = .ok (.aload_n 2, 1) := by decide +kernel
theorem dX3_readPairs_13 : decode cX3_readPairs 13 = .ok (.aload_n 3, 1) := by decide +kernel
theorem dX3_readPairs_14 : decode cX3_readPairs 14 = .ok (.invokevirtual 25, 3) := by decide +kernel
theorem dX3_readPairs_17 : decode cX3_readPairs 17 = .ok (.istore 5, 2) := by decide +kernel
theorem dX3_readPairs_19 : decode cX3_readPairs 19 = .ok (.iload 5, 2) := by decide +kernel
theorem dX3_readPairs_21 : decode cX3_readPairs 21 = .ok (.ifCond .eq 6, 3) := by decide +kernel
theorem dX3_readPairs_24 : decode cX3_readPairs 24 = .ok (.iload 5, 2) := by decide +kernel
theorem dX3_readPairs_26 : decode cX3_readPairs 26 = .ok (.ireturn, 1) := by decide +kernel
theorem dX3_readPairs_27 : decode cX3_readPairs 27 = .ok (.aload_n 1, 1) := by decide +kernel
theorem dX3_readPairs_28 : decode cX3_readPairs 28 = .ok (.invokevirtual 28, 3) := by decide +kernel
theorem dX3_readPairs_31 : decode cX3_readPairs 31 = .ok (.ifCond .eq 5, 3) := by decide +kernel
theorem dX3_readPairs_34 : decode cX3_readPairs 34 = .ok (.iconst 0, 1) := by decide +kernel
theorem dX3_readPairs_35 : decode cX3_readPairs 35 = .ok (.ireturn, 1) := by decide +kernel
theorem dX3_readPairs_36 : decode cX3_readPairs 36 = .ok (.aload_n 1, 1) := by decide +kernel
theorem dX3_readPairs_37 : decode cX3_readPairs 37 = .ok (.bipush 59, 2) := by decide +kernel
theorem dX3_readPairs_39 : decode cX3_readPairs 39 = .ok (.invokevirtual 34, 3) := by decide +kernel
theorem dX3_readPairs_42 : decode cX3_readPairs 42 = .ok (.ifCond .ne 9, 3) := by decide +kernel
theorem dX3_readPairs_45 : decode cX3_readPairs 45 = .ok (.aload_n 1, 1) := by decide +kernel
theorem dX3_readPairs_46 : decode cX3_readPairs 46 = .ok (.iconst 1, 1) := by decide +kernel
theorem dX3_readPairs_47 : decode cX3_readPairs 47 = .ok (.invokevirtual 38, 3) := by decide +kernel
theorem dX3_readPairs_50 : decode cX3_readPairs 50 = .ok (.ireturn, 1) := by decide +kernel
theorem dX3_readPairs_51 : decode cX3_readPairs 51 = .ok (.iinc 4 1, 3) := by decide +kernel
theorem dX3_readPairs_54 : decode cX3_readPairs 54 = .ok (.goto (-51), 3) := by decide +kernel
theorem dX3_readPairs_57 : decode cX3_readPairs 57 = .ok (.aload_n 1, 1) := by decide +kernel
theorem dX3_readPairs_58 : decode cX3_readPairs 58 = .ok (.iconst 1, 1) := by decide +kernel
theorem dX3_readPairs_59 : decode cX3_readPairs 59 = .ok (.invokevirtual 38, 3) := by decide +kernel
theorem dX3_readPairs_62 : decode cX3_readPairs 62 = .ok (.ireturn, 1) := by decide +kernel
theorem dX3_readPair_0 : decode cX3_readPair 0 = .ok (.aload_n 1, 1) := by decide +kernel
theorem dX3_readPair_1 : decode cX3_readPair 1 = .ok (.invokevirtual 42, 3) := by decide +kernel
theorem dX3_readPair_4 : decode cX3_readPair 4 = .ok (.istore 4, 2) := by decide +kernel
theorem dX3_readPair_6 : decode cX3_readPair 6 = .ok (.aload_n 1, 1) := by decide +kernel
theorem dX3_readPair_7 : decode cX3_readPair 7 = .ok (.invokestatic 46, 3) := by decide +kernel
theorem dX3_readPair_10 : decode cX3_readPair 10 = .ok (.istore 5, 2) := by decide +kernel
theorem dX3_readPair_12 : decode cX3_readPair 12 = .ok (.aload_n 1, 1) := by decide +kernel
theorem dX3_readPair_13 : decode cX3_readPair 13 = .ok (.iload 5, 2) := by decide +kernel
theorem dX3_readPair_15 : decode cX3_readPair 15 = .ok (.aload_n 2, 1) := by decide +kernel
theorem dX3_readPair_16 : decode cX3_readPair 16 = .ok (.getfield 50, 3) := by decide +kernel
theorem dX3_readPair_19 : decode cX3_readPair 19 = .ok (.invokestatic 55, 3) := by decide +kernel
theorem dX3_readPair_22 : decode cX3_readPair 22 = .ok (.istore 6, 2) := by decide +kernel
theorem dX3_readPair_24 : decode cX3_readPair 24 = .ok (.iload 6, 2) := by decide +kernel
theorem dX3_readPair_26 : decode cX3_readPair 26 = .ok (.ifCond .eq 6, 3) := by decide +kernel
theorem dX3_readPair_29 : decode cX3_readPair 29 = .ok (.iload 6, 2) := by decide +kernel
theorem dX3_readPair_31 : decode cX3_readPair 31 = .ok (.ireturn, 1) := by decide +kernel
theorem dX3_readPair_32 : decode cX3_readPair 32 = .ok (.aload_n 1, 1) := by decide +kernel
theorem dX3_readPair_33 : decode cX3_readPair 33 = .ok (.invokevirtual 59, 3) := by decide +kernel
theorem dX3_readPair_36 : decode cX3_readPair 36 = .ok (.aload_n 1, 1) := by decide +kernel
theorem dX3_readPair_37 : decode cX3_readPair 37 = .ok (.bipush 62, 2) := by decide +kernel
theorem dX3_readPair_39 : decode cX3_readPair 39 = .ok (.invokevirtual 34, 3) := by decide +kernel
theorem dX3_readPair_42 : decode cX3_readPair 42 = .ok (.ifCond .ne 9, 3) := by decide +kernel
theorem dX3_readPair_45 : decode cX3_readPair 45 = .ok (.aload_n 1, 1) := by decide +kernel
theorem dX3_readPair_46 : decode cX3_readPair 46 = .ok (.iconst 1, 1) := by decide +kernel
theorem dX3_readPair_47 : decode cX3_readPair 47 = .ok (.invokevirtual 38, 3) := by decide +kernel
theorem dX3_readPair_50 : decode cX3_readPair 50 = .ok (.ireturn, 1) := by decide +kernel
theorem dX3_readPair_51 : decode cX3_readPair 51 = .ok (.aload_n 1, 1) := by decide +kernel
theorem dX3_readPair_52 : decode cX3_readPair 52 = .ok (.invokestatic 46, 3) := by decide +kernel
theorem dX3_readPair_55 : decode cX3_readPair 55 = .ok (.istore 7, 2) := by decide +kernel
theorem dX3_readPair_57 : decode cX3_readPair 57 = .ok (.aload_n 1, 1) := by decide +kernel
theorem dX3_readPair_58 : decode cX3_readPair 58 = .ok (.iload 7, 2) := by decide +kernel
theorem dX3_readPair_60 : decode cX3_readPair 60 = .ok (.aload_n 2, 1) := by decide +kernel
theorem dX3_readPair_61 : decode cX3_readPair 61 = .ok (.getfield 50, 3) := by decide +kernel
theorem dX3_readPair_64 : decode cX3_readPair 64 = .ok (.invokestatic 55, 3) := by decide +kernel
theorem dX3_readPair_67 : decode cX3_readPair 67 = .ok (.istore 6, 2) := by decide +kernel
theorem dX3_readPair_69 : decode cX3_readPair 69 = .ok (.iload 6, 2) := by decide +kernel
theorem dX3_readPair_71 : decode cX3_readPair 71 = .ok (.ifCond .eq 6, 3) := by decide +kernel
theorem dX3_readPair_74 : decode cX3_readPair 74 = .ok (.iload 6, 2) := by decide +kernel
theorem dX3_readPair_76 : decode cX3_readPair 76 = .ok (.ireturn, 1) := by decide +kernel
theorem dX3_readPair_77 : decode cX3_readPair 77 = .ok (.iload 7, 2) := by decide +kernel
theorem dX3_readPair_79 : decode cX3_readPair 79 = .ok (.iload 5, 2) := by decide +kernel
theorem dX3_readPair_81 : decode cX3_readPair 81 = .ok (.if_icmp .ne 9, 3) := by decide +kernel
theorem dX3_readPair_84 : decode cX3_readPair 84 = .ok (.aload_n 1, 1) := by decide +kernel
theorem dX3_readPair_85 : decode cX3_readPair 85 = .ok (.iconst 2, 1) := by decide +kernel
theorem dX3_readPair_86 : decode cX3_readPair 86 = .ok (.invokevirtual 38, 3) := by decide +kernel
theorem dX3_readPair_89 : decode cX3_readPair 89 = .ok (.ireturn, 1) := by decide +kernel
theorem dX3_readPair_90 : decode cX3_readPair 90 = .ok (.aload_n 1, 1) := by decide +kernel
theorem dX3_readPair_91 : decode cX3_readPair 91 = .ok (.invokevirtual 59, 3) := by decide +kernel
theorem dX3_readPair_94 : decode cX3_readPair 94 = .ok (.iload 5, 2) := by decide +kernel
theorem dX3_readPair_96 : decode cX3_readPair 96 = .ok (.iload 7, 2) := by decide +kernel
theorem dX3_readPair_98 : decode cX3_readPair 98 = .ok (.if_icmp .le 11, 3) := by decide +kernel
theorem dX3_readPair_101 : decode cX3_readPair 101 = .ok (.aload_n 1, 1) := by decide +kernel
theorem dX3_readPair_102 : decode cX3_readPair 102 = .ok (.iconst 3, 1) := by decide +kernel
theorem dX3_readPair_103 : decode cX3_readPair 103 = .ok (.iload 4, 2) := by decide +kernel
theorem dX3_readPair_105 : decode cX3_readPair 105 = .ok (.invokevirtual 62, 3) := by decide +kernel
theorem dX3_readPair_108 : decode cX3_readPair 108 = .ok (.ireturn, 1) := by decide +kernel
theorem dX3_readPair_109 : decode cX3_readPair 109 = .ok (.aload_n 1, 1) := by decide +kernel
theorem dX3_readPair_110 : decode cX3_readPair 110 = .ok (.bipush 58, 2) := by decide +kernel
theorem dX3_readPair_112 : decode cX3_readPair 112 = .ok (.invokevirtual 34, 3) := by decide +kernel
theorem dX3_readPair_115 : decode cX3_readPair 115 = .ok (.ifCond .ne 9, 3) := by decide +kernel
theorem dX3_readPair_118 : decode cX3_readPair 118 = .ok (.aload_n 1, 1) := by decide +kernel
theorem dX3_readPair_119 : decode cX3_readPair 119 = .ok (.iconst 1, 1) := by decide +kernel
theorem dX3_readPair_120 : decode cX3_readPair 120 = .ok (.invokevirtual 38, 3) := by decide +kernel
theorem dX3_readPair_123 : decode cX3_readPair 123 = .ok (.ireturn, 1) := by decide +kernel
theorem dX3_readPair_124 : decode cX3_readPair 124 = .ok (.aload_n 0, 1) := by decide +kernel
theorem dX3_readPair_125 : decode cX3_readPair 125 = .ok (.aload_n 1, 1) := by decide +kernel
theorem dX3_readPair_126 : decode cX3_readPair 126 = .ok (.aload_n 3, 1) := by decide +kernel
theorem dX3_readPair_127 : decode cX3_readPair 127 = .ok (.aload_n 2, 1) := by decide +kernel
theorem dX3_readPair_128 : decode cX3_readPair 128 = .ok (.getfield 65, 3) := by decide +kernel
theorem dX3_readPair_131 : decode cX3_readPair 131 = .ok (.iload 5, 2) := by decide +kernel
theorem dX3_readPair_133 : decode cX3_readPair 133 = .ok (.iconst 1, 1) := by decide +kernel
theorem dX3_readPair_134 : decode cX3_readPair 134 = .ok (.isub, 1) := by decide +kernel
theorem dX3_readPair_135 : decode cX3_readPair 135 = .ok (.iaload, 1) := by decide +kernel
theorem dX3_readPair_136 : decode cX3_readPair 136 = .ok (.aaload, 1) := by decide +kernel
theorem dX3_readPair_137 : decode cX3_readPair 137 = .ok (.aload_n 3, 1) := by decide +kernel
theorem dX3_readPair_138 : decode cX3_readPair 138 = .ok (.aload_n 2, 1) := by decide +kernel
theorem dX3_readPair_139 : decode cX3_readPair 139 = .ok (.getfield 65, 3) := by decide +kernel
theorem dX3_readPair_142 : decode cX3_readPair 142 = .ok (.iload 7, 2) := by decide +kernel
theorem dX3_readPair_144 : decode cX3_readPair 144 = .ok (.iconst 1, 1) := by decide +kernel
theorem dX3_readPair_145 : decode cX3_readPair 145 = .ok (.isub, 1) := by decide +kernel
theorem dX3_readPair_146 : decode cX3_readPair 146 = .ok (.iaload, 1) := by decide +kernel
theorem dX3_readPair_147 : decode cX3_readPair 147 = .ok (.aaload, 1) := by decide +kernel
theorem dX3_readPair_148 : decode cX3_readPair 148 = .ok (.invokevirtual 69, 3) := by decide +kernel
theorem dX3_readPair_151 : decode cX3_readPair 151 = .ok (.ireturn, 1) := by decide +kernel
theorem dX3_placeNamed_0 : decode cX3_placeNamed 0 = .ok (.aload_n 0, 1) := by decide +kernel
theorem dX3_placeNamed_1 : decode cX3_placeNamed 1 = .ok (.invokevirtual 73, 3) := by decide +kernel
theorem dX3_placeNamed_4 : decode cX3_placeNamed 4 = .ok (.bipush 97, 2) := by decide +kernel
theorem dX3_placeNamed_6 : decode cX3_placeNamed 6 = .ok (.isub, 1) := by decide +kernel
theorem dX3_placeNamed_7 : decode cX3_placeNamed 7 = .ok (.iconst 1, 1) := by decide +kernel
theorem dX3_placeNamed_8 : decode cX3_placeNamed 8 = .ok (.iadd, 1) := by decide +kernel
theorem dX3_placeNamed_9 : decode cX3_placeNamed 9 = .ok (.ireturn, 1) := by decide +kernel
theorem dX3_faultOfPlace_0 : decode cX3_faultOfPlace 0 = .ok (.iload_n 1, 1) := by decide +kernel
theorem dX3_faultOfPlace_1 : decode cX3_faultOfPlace 1 = .ok (.iconst 1, 1) := by decide +kernel
theorem dX3_faultOfPlace_2 : decode cX3_faultOfPlace 2 = .ok (.if_icmp .lt 9, 3) := by decide +kernel
theorem dX3_faultOfPlace_5 : decode cX3_faultOfPlace 5 = .ok (.iload_n 1, 1) := by decide +kernel
theorem dX3_faultOfPlace_6 : decode cX3_faultOfPlace 6 = .ok (.bipush 8, 2) := by decide +kernel
theorem dX3_faultOfPlace_8 : decode cX3_faultOfPlace 8 = .ok (.if_icmp .le 9, 3) := by decide +kernel
theorem dX3_faultOfPlace_11 : decode cX3_faultOfPlace 11 = .ok (.aload_n 0, 1) := by decide +kernel
theorem dX3_faultOfPlace_12 : decode cX3_faultOfPlace 12 = .ok (.iconst 1, 1) := by decide +kernel
theorem dX3_faultOfPlace_13 : decode cX3_faultOfPlace 13 = .ok (.invokevirtual 38, 3) := by decide +kernel
theorem dX3_faultOfPlace_16 : decode cX3_faultOfPlace 16 = .ok (.ireturn, 1) := by decide +kernel
theorem dX3_faultOfPlace_17 : decode cX3_faultOfPlace 17 = .ok (.iload_n 1, 1) := by decide +kernel
theorem dX3_faultOfPlace_18 : decode cX3_faultOfPlace 18 = .ok (.iload_n 2, 1) := by decide +kernel
theorem dX3_faultOfPlace_19 : decode cX3_faultOfPlace 19 = .ok (.if_icmp .le 11, 3) := by decide +kernel
theorem dX3_faultOfPlace_22 : decode cX3_faultOfPlace 22 = .ok (.aload_n 0, 1) := by decide +kernel
theorem dX3_faultOfPlace_23 : decode cX3_faultOfPlace 23 = .ok (.iconst 2, 1) := by decide +kernel
theorem dX3_faultOfPlace_24 : decode cX3_faultOfPlace 24 = .ok (.invokevirtual 38, 3) := by decide +kernel
theorem dX3_faultOfPlace_27 : decode cX3_faultOfPlace 27 = .ok (.goto 4, 3) := by decide +kernel
theorem dX3_faultOfPlace_30 : decode cX3_faultOfPlace 30 = .ok (.iconst 0, 1) := by decide +kernel
theorem dX3_faultOfPlace_31 : decode cX3_faultOfPlace 31 = .ok (.ireturn, 1) := by decide +kernel
theorem dX3_readTerms_0 : decode cX3_readTerms 0 = .ok (.iconst 0, 1) := by decide +kernel
theorem dX3_readTerms_1 : decode cX3_readTerms 1 = .ok (.istore 4, 2) := by decide +kernel
theorem dX3_readTerms_3 : decode cX3_readTerms 3 = .ok (.iload 4, 2) := by decide +kernel
theorem dX3_readTerms_5 : decode cX3_readTerms 5 = .ok (.iconst 4, 1) := by decide +kernel
theorem dX3_readTerms_6 : decode cX3_readTerms 6 = .ok (.if_icmp .ge 104, 3) := by decide +kernel
theorem dX3_readTerms_9 : decode cX3_readTerms 9 = .ok (.iload 4, 2) := by decide +kernel
theorem dX3_readTerms_11 : decode cX3_readTerms 11 = .ok (.ifCond .eq 10, 3) := by decide +kernel
theorem dX3_readTerms_14 : decode cX3_readTerms 14 = .ok (.aload_n 1, 1) := by decide +kernel
theorem dX3_readTerms_15 : decode cX3_readTerms 15 = .ok (.invokestatic 76, 3) := by decide +kernel
theorem dX3_readTerms_18 : decode cX3_readTerms 18 = .ok (.ifCond .eq 92, 3) := by decide +kernel
theorem dX3_readTerms_21 : decode cX3_readTerms 21 = .ok (.aload_n 1, 1) := by decide +kernel
theorem dX3_readTerms_22 : decode cX3_readTerms 22 = .ok (.bipush 45, 2) := by decide +kernel
theorem dX3_readTerms_24 : decode cX3_readTerms 24 = .ok (.invokevirtual 34, 3) := by decide +kernel
theorem dX3_readTerms_27 : decode cX3_readTerms 27 = .ok (.istore 5, 2) := by decide +kernel
theorem dX3_readTerms_29 : decode cX3_readTerms 29 = .ok (.aload_n 1, 1) := by decide +kernel
theorem dX3_readTerms_30 : decode cX3_readTerms 30 = .ok (.invokestatic 80, 3) := by decide +kernel
theorem dX3_readTerms_33 : decode cX3_readTerms 33 = .ok (.ifCond .ne 9, 3) := by decide +kernel
theorem dX3_readTerms_36 : decode cX3_readTerms 36 = .ok (.aload_n 1, 1) := by decide +kernel
theorem dX3_readTerms_37 : decode cX3_readTerms 37 = .ok (.iconst 1, 1) := by decide +kernel
theorem dX3_readTerms_38 : decode cX3_readTerms 38 = .ok (.invokevirtual 38, 3) := by decide +kernel
theorem dX3_readTerms_41 : decode cX3_readTerms 41 = .ok (.ireturn, 1) := by decide +kernel
theorem dX3_readTerms_42 : decode cX3_readTerms 42 = .ok (.aload_n 1, 1) := by decide +kernel
theorem dX3_readTerms_43 : decode cX3_readTerms 43 = .ok (.invokevirtual 73, 3) := by decide +kernel
theorem dX3_readTerms_46 : decode cX3_readTerms 46 = .ok (.bipush 48, 2) := by decide +kernel
theorem dX3_readTerms_48 : decode cX3_readTerms 48 = .ok (.isub, 1) := by decide +kernel
theorem dX3_readTerms_49 : decode cX3_readTerms 49 = .ok (.istore 6, 2) := by decide +kernel
theorem dX3_readTerms_51 : decode cX3_readTerms 51 = .ok (.aload_n 1, 1) := by decide +kernel
theorem dX3_readTerms_52 : decode cX3_readTerms 52 = .ok (.invokevirtual 59, 3) := by decide +kernel
theorem dX3_readTerms_55 : decode cX3_readTerms 55 = .ok (.aload_n 2, 1) := by decide +kernel
theorem dX3_readTerms_56 : decode cX3_readTerms 56 = .ok (.getfield 83, 3) := by decide +kernel
theorem dX3_readTerms_59 : decode cX3_readTerms 59 = .ok (.iload 6, 2) := by decide +kernel
theorem dX3_readTerms_61 : decode cX3_readTerms 61 = .ok (.iaload, 1) := by decide +kernel
theorem dX3_readTerms_62 : decode cX3_readTerms 62 = .ok (.aload_n 3, 1) := by decide +kernel
theorem dX3_readTerms_63 : decode cX3_readTerms 63 = .ok (.getfield 83, 3) := by decide +kernel
theorem dX3_readTerms_66 : decode cX3_readTerms 66 = .ok (.iload 6, 2) := by decide +kernel
theorem dX3_readTerms_68 : decode cX3_readTerms 68 = .ok (.iaload, 1) := by decide +kernel
theorem dX3_readTerms_69 : decode cX3_readTerms 69 = .ok (.isub, 1) := by decide +kernel
theorem dX3_readTerms_70 : decode cX3_readTerms 70 = .ok (.istore 7, 2) := by decide +kernel
theorem dX3_readTerms_72 : decode cX3_readTerms 72 = .ok (.aload_n 0, 1) := by decide +kernel
theorem dX3_readTerms_73 : decode cX3_readTerms 73 = .ok (.dup, 1) := by decide +kernel
theorem dX3_readTerms_74 : decode cX3_readTerms 74 = .ok (.getfield 9, 3) := by decide +kernel
theorem dX3_readTerms_77 : decode cX3_readTerms 77 = .ok (.iload 5, 2) := by decide +kernel
theorem dX3_readTerms_79 : decode cX3_readTerms 79 = .ok (.ifCond .eq 11, 3) := by decide +kernel
theorem dX3_readTerms_82 : decode cX3_readTerms 82 = .ok (.iload 7, 2) := by decide +kernel
theorem dX3_readTerms_84 : decode cX3_readTerms 84 = .ok (.ifCond .ge 15, 3) := by decide +kernel
theorem dX3_readTerms_87 : decode cX3_readTerms 87 = .ok (.goto 8, 3) := by decide +kernel
theorem dX3_readTerms_90 : decode cX3_readTerms 90 = .ok (.iload 7, 2) := by decide +kernel
theorem dX3_readTerms_92 : decode cX3_readTerms 92 = .ok (.ifCond .le 7, 3) := by decide +kernel
theorem dX3_readTerms_95 : decode cX3_readTerms 95 = .ok (.iconst 2, 1) := by decide +kernel
theorem dX3_readTerms_96 : decode cX3_readTerms 96 = .ok (.goto 4, 3) := by decide +kernel
theorem dX3_readTerms_99 : decode cX3_readTerms 99 = .ok (.iconst (-1), 1) := by decide +kernel
theorem dX3_readTerms_100 : decode cX3_readTerms 100 = .ok (.iadd, 1) := by decide +kernel
theorem dX3_readTerms_101 : decode cX3_readTerms 101 = .ok (.putfield 9, 3) := by decide +kernel
theorem dX3_readTerms_104 : decode cX3_readTerms 104 = .ok (.iinc 4 1, 3) := by decide +kernel
theorem dX3_readTerms_107 : decode cX3_readTerms 107 = .ok (.goto (-104), 3) := by decide +kernel
theorem dX3_readTerms_110 : decode cX3_readTerms 110 = .ok (.iconst 0, 1) := by decide +kernel
theorem dX3_readTerms_111 : decode cX3_readTerms 111 = .ok (.ireturn, 1) := by decide +kernel
theorem dX3_isAtTerm_0 : decode cX3_isAtTerm 0 = .ok (.aload_n 0, 1) := by decide +kernel
theorem dX3_isAtTerm_1 : decode cX3_isAtTerm 1 = .ok (.invokevirtual 73, 3) := by decide +kernel
theorem dX3_isAtTerm_4 : decode cX3_isAtTerm 4 = .ok (.bipush 45, 2) := by decide +kernel
theorem dX3_isAtTerm_6 : decode cX3_isAtTerm 6 = .ok (.if_icmp .eq 10, 3) := by decide +kernel
theorem dX3_isAtTerm_9 : decode cX3_isAtTerm 9 = .ok (.aload_n 0, 1) := by decide +kernel
theorem dX3_isAtTerm_10 : decode cX3_isAtTerm 10 = .ok (.invokestatic 80, 3) := by decide +kernel
theorem dX3_isAtTerm_13 : decode cX3_isAtTerm 13 = .ok (.ifCond .eq 7, 3) := by decide +kernel
theorem dX3_isAtTerm_16 : decode cX3_isAtTerm 16 = .ok (.iconst 1, 1) := by decide +kernel
theorem dX3_isAtTerm_17 : decode cX3_isAtTerm 17 = .ok (.goto 4, 3) := by decide +kernel
theorem dX3_isAtTerm_20 : decode cX3_isAtTerm 20 = .ok (.iconst 0, 1) := by decide +kernel
theorem dX3_isAtTerm_21 : decode cX3_isAtTerm 21 = .ok (.ireturn, 1) := by decide +kernel
theorem dX3_isAtMeasure_0 : decode cX3_isAtMeasure 0 = .ok (.aload_n 0, 1) := by decide +kernel
theorem dX3_isAtMeasure_1 : decode cX3_isAtMeasure 1 = .ok (.invokevirtual 73, 3) := by decide +kernel
theorem dX3_isAtMeasure_4 : decode cX3_isAtMeasure 4 = .ok (.bipush 48, 2) := by decide +kernel
theorem dX3_isAtMeasure_6 : decode cX3_isAtMeasure 6 = .ok (.isub, 1) := by decide +kernel
theorem dX3_isAtMeasure_7 : decode cX3_isAtMeasure 7 = .ok (.iconst 3, 1) := by decide +kernel
theorem dX3_isAtMeasure_8 : decode cX3_isAtMeasure 8 = .ok (.invokestatic 88, 3) := by decide +kernel
theorem dX3_isAtMeasure_11 : decode cX3_isAtMeasure 11 = .ok (.ireturn, 1) := by decide +kernel
theorem dX4_init_0 : decode cX4_init 0 = .ok (.aload_n 0, 1) := by decide +kernel
theorem dX4_init_1 : decode cX4_init 1 = .ok (.invokespecial 3, 3) := by decide +kernel
theorem dX4_init_4 : decode cX4_init 4 = .ok (.aload_n 0, 1) := by decide +kernel
theorem dX4_init_5 : decode cX4_init 5 = .ok (.iconst 0, 1) := by decide +kernel
theorem dX4_init_6 : decode cX4_init 6 = .ok (.putfield 9, 3) := by decide +kernel
theorem dX4_init_9 : decode cX4_init 9 = .ok (.aload_n 0, 1) := by decide +kernel
theorem dX4_init_10 : decode cX4_init 10 = .ok (.iconst 0, 1) := by decide +kernel
theorem dX4_init_11 : decode cX4_init 11 = .ok (.putfield 15, 3) := by decide +kernel
theorem dX4_init_14 : decode cX4_init 14 = .ok (.aload_n 0, 1) := by decide +kernel
theorem dX4_init_15 : decode cX4_init 15 = .ok (.iconst 0, 1) := by decide +kernel
theorem dX4_init_16 : decode cX4_init 16 = .ok (.putfield 18, 3) := by decide +kernel
theorem dX4_init_19 : decode cX4_init 19 = .ok (.aload_n 0, 1) := by decide +kernel
theorem dX4_init_20 : decode cX4_init 20 = .ok (.new 21, 3) := by decide +kernel
theorem dX4_init_23 : decode cX4_init 23 = .ok (.dup, 1) := by decide +kernel
theorem dX4_init_24 : decode cX4_init 24 = .ok (.invokespecial 23, 3) := by decide +kernel
theorem dX4_init_27 : decode cX4_init 27 = .ok (.putfield 24, 3) := by decide +kernel
theorem dX4_init_30 : decode cX4_init 30 = .ok (.aload_n 0, 1) := by decide +kernel
theorem dX4_init_31 : decode cX4_init 31 = .ok (.bipush 6, 2) := by decide +kernel
theorem dX4_init_33 : decode cX4_init 33 = .ok (.bipush 8, 2) := by decide +kernel
theorem dX4_init_35 : decode cX4_init 35 = .ok (.multianewarray 28 2, 4) := by decide +kernel
theorem dX4_init_39 : decode cX4_init 39 = .ok (.putfield 30, 3) := by decide +kernel
theorem dX4_init_42 : decode cX4_init 42 = .ok (.aload_n 0, 1) := by decide +kernel
theorem dX4_init_43 : decode cX4_init 43 = .ok (.bipush 6, 2) := by decide +kernel
theorem dX4_init_45 : decode cX4_init 45 = .ok (.newarray .int, 2) := by decide +kernel
theorem dX4_init_47 : decode cX4_init 47 = .ok (.putfield 33, 3) := by decide +kernel
theorem dX4_init_50 : decode cX4_init 50 = .ok (.aload_n 0, 1) := by decide +kernel
theorem dX4_init_51 : decode cX4_init 51 = .ok (.bipush 8, 2) := by decide +kernel
theorem dX4_init_53 : decode cX4_init 53 = .ok (.newarray .int, 2) := by decide +kernel
theorem dX4_init_55 : decode cX4_init 55 = .ok (.putfield 37, 3) := by decide +kernel
theorem dX4_init_58 : decode cX4_init 58 = .ok (.aload_n 0, 1) := by decide +kernel
theorem dX4_init_59 : decode cX4_init 59 = .ok (.iconst 0, 1) := by decide +kernel
theorem dX4_init_60 : decode cX4_init 60 = .ok (.putfield 40, 3) := by decide +kernel
theorem dX4_init_63 : decode cX4_init 63 = .ok (.aload_n 0, 1) := by decide +kernel
theorem dX4_init_64 : decode cX4_init 64 = .ok (.iconst 3, 1) := by decide +kernel
theorem dX4_init_65 : decode cX4_init 65 = .ok (.newarray .int, 2) := by decide +kernel
theorem dX4_init_67 : decode cX4_init 67 = .ok (.putfield 43, 3) := by decide +kernel
theorem dX4_init_70 : decode cX4_init 70 = .ok (.aload_n 0, 1) := by decide +kernel
theorem dX4_init_71 : decode cX4_init 71 = .ok (.getfield 43, 3) := by decide +kernel
theorem dX4_init_74 : decode cX4_init 74 = .ok (.iconst 3, 1) := by decide +kernel
theorem dX4_init_75 : decode cX4_init 75 = .ok (.invokestatic 46, 3) := by decide +kernel
theorem dX4_init_78 : decode cX4_init 78 = .ok (.return_, 1) := by decide +kernel
theorem dX4_swapText_0 : decode cX4_swapText 0 = .ok (.aload_n 0, 1) := by decide +kernel
theorem dX4_swapText_1 : decode cX4_swapText 1 = .ok (.getfield 24, 3) := by decide +kernel
theorem dX4_swapText_4 : decode cX4_swapText 4 = .ok (.astore_n 2, 1) := by decide +kernel
theorem dX4_swapText_5 : decode cX4_swapText 5 = .ok (.aload_n 0, 1) := by decide +kernel
theorem dX4_swapText_6 : decode cX4_swapText 6 = .ok (.aload_n 1, 1) := by decide +kernel
theorem dX4_swapText_7 : decode cX4_swapText 7 = .ok (.putfield 24, 3) := by decide +kernel
theorem dX4_swapText_10 : decode cX4_swapText 10 = .ok (.aload_n 2, 1) := by decide +kernel
theorem dX4_swapText_11 : decode cX4_swapText 11 = .ok (.areturn, 1) := by decide +kernel
theorem dX4_admits_0 : decode cX4_admits 0 = .ok (.aload_n 0, 1) := by decide +kernel
theorem dX4_admits_1 : decode cX4_admits 1 = .ok (.getfield 24, 3) := by decide +kernel
theorem dX4_admits_4 : decode cX4_admits 4 = .ok (.aload_n 1, 1) := by decide +kernel
theorem dX4_admits_5 : decode cX4_admits 5 = .ok (.invokevirtual 52, 3) := by decide +kernel
theorem dX4_admits_8 : decode cX4_admits 8 = .ok (.ireturn, 1) := by decide +kernel
theorem dX4_holds_0 : decode cX4_holds 0 = .ok (.aload_n 0, 1) := by decide +kernel
theorem dX4_holds_1 : decode cX4_holds 1 = .ok (.getfield 9, 3) := by decide +kernel
theorem dX4_holds_4 : decode cX4_holds 4 = .ok (.iconst 1, 1) := by decide +kernel
theorem dX4_holds_5 : decode cX4_holds 5 = .ok (.iload_n 1, 1) := by decide +kernel
theorem dX4_holds_6 : decode cX4_holds 6 = .ok (.ishl, 1) := by decide +kernel
theorem dX4_holds_7 : decode cX4_holds 7 = .ok (.iand, 1) := by decide +kernel
theorem dX4_holds_8 : decode cX4_holds 8 = .ok (.ifCond .eq 7, 3) := by decide +kernel
theorem dX4_holds_11 : decode cX4_holds 11 = .ok (.iconst 1, 1) := by decide +kernel
theorem dX4_holds_12 : decode cX4_holds 12 = .ok (.goto 4, 3) := by decide +kernel
theorem dX4_holds_15 : decode cX4_holds 15 = .ok (.iconst 0, 1) := by decide +kernel
theorem dX4_holds_16 : decode cX4_holds 16 = .ok (.ireturn, 1) := by decide +kernel
theorem dX4_canTake_0 : decode cX4_canTake 0 = .ok (.aload_n 0, 1) := by decide +kernel
theorem dX4_canTake_1 : decode cX4_canTake 1 = .ok (.getfield 15, 3) := by decide +kernel
theorem dX4_canTake_4 : decode cX4_canTake 4 = .ok (.bipush 8, 2) := by decide +kernel
theorem dX4_canTake_6 : decode cX4_canTake 6 = .ok (.if_icmp .ge 23, 3) := by decide +kernel
theorem dX4_canTake_9 : decode cX4_canTake 9 = .ok (.aload_n 0, 1) := by decide +kernel
theorem dX4_canTake_10 : decode cX4_canTake 10 = .ok (.getfield 9, 3) := by decide +kernel
theorem dX4_canTake_13 : decode cX4_canTake 13 = .ok (.aload_n 0, 1) := by decide +kernel
theorem dX4_canTake_14 : decode cX4_canTake 14 = .ok (.getfield 18, 3) := by decide +kernel
theorem dX4_canTake_17 : decode cX4_canTake 17 = .ok (.ior, 1) := by decide +kernel
theorem dX4_canTake_18 : decode cX4_canTake 18 = .ok (.iconst 1, 1) := by decide +kernel
theorem dX4_canTake_19 : decode cX4_canTake 19 = .ok (.iload_n 1, 1) := by decide +kernel
theorem dX4_canTake_20 : decode cX4_canTake 20 = .ok (.ishl, 1) := by decide +kernel
theorem dX4_canTake_21 : decode cX4_canTake 21 = .ok (.iand, 1) := by decide +kernel
theorem dX4_canTake_22 : decode cX4_canTake 22 = .ok (.ifCond .ne 7, 3) := by decide +kernel
theorem dX4_canTake_25 : decode cX4_canTake 25 = .ok (.iconst 1, 1) := by decide +kernel
theorem dX4_canTake_26 : decode cX4_canTake 26 = .ok (.goto 4, 3) := by decide +kernel
theorem dX4_canTake_29 : decode cX4_canTake 29 = .ok (.iconst 0, 1) := by decide +kernel
theorem dX4_canTake_30 : decode cX4_canTake 30 = .ok (.ireturn, 1) := by decide +kernel
theorem dX4_take_0 : decode cX4_take 0 = .ok (.aload_n 0, 1) := by decide +kernel
theorem dX4_take_1 : decode cX4_take 1 = .ok (.dup, 1) := by decide +kernel
theorem dX4_take_2 : decode cX4_take 2 = .ok (.getfield 9, 3) := by decide +kernel
theorem dX4_take_5 : decode cX4_take 5 = .ok (.iconst 1, 1) := by decide +kernel
theorem dX4_take_6 : decode cX4_take 6 = .ok (.iload_n 1, 1) := by decide +kernel
theorem dX4_take_7 : decode cX4_take 7 = .ok (.ishl, 1) := by decide +kernel
theorem dX4_take_8 : decode cX4_take 8 = .ok (.ior, 1) := by decide +kernel
theorem dX4_take_9 : decode cX4_take 9 = .ok (.putfield 9, 3) := by decide +kernel
theorem dX4_take_12 : decode cX4_take 12 = .ok (.aload_n 0, 1) := by decide +kernel
theorem dX4_take_13 : decode cX4_take 13 = .ok (.dup, 1) := by decide +kernel
theorem dX4_take_14 : decode cX4_take 14 = .ok (.getfield 15, 3) := by decide +kernel
theorem dX4_take_17 : decode cX4_take 17 = .ok (.iconst 1, 1) := by decide +kernel
theorem dX4_take_18 : decode cX4_take 18 = .ok (.iadd, 1) := by decide +kernel
theorem dX4_take_19 : decode cX4_take 19 = .ok (.putfield 15, 3) := by decide +kernel
theorem dX4_take_22 : decode cX4_take 22 = .ok (.aload_n 0, 1) := by decide +kernel
theorem dX4_take_23 : decode cX4_take 23 = .ok (.getfield 33, 3) := by decide +kernel
theorem dX4_take_26 : decode cX4_take 26 = .ok (.iconst 0, 1) := by decide +kernel
theorem dX4_take_27 : decode cX4_take 27 = .ok (.invokestatic 46, 3) := by decide +kernel
theorem dX4_take_30 : decode cX4_take 30 = .ok (.return_, 1) := by decide +kernel
theorem dX4_putOut_0 : decode cX4_putOut 0 = .ok (.aload_n 0, 1) := by decide +kernel
theorem dX4_putOut_1 : decode cX4_putOut 1 = .ok (.dup, 1) := by decide +kernel
theorem dX4_putOut_2 : decode cX4_putOut 2 = .ok (.getfield 9, 3) := by decide +kernel
theorem dX4_putOut_5 : decode cX4_putOut 5 = .ok (.iconst 1, 1) := by decide +kernel
theorem dX4_putOut_6 : decode cX4_putOut 6 = .ok (.iload_n 1, 1) := by decide +kernel
theorem dX4_putOut_7 : decode cX4_putOut 7 = .ok (.ishl, 1) := by decide +kernel
theorem dX4_putOut_8 : decode cX4_putOut 8 = .ok (.iconst (-1), 1) := by decide +kernel
theorem dX4_putOut_9 : decode cX4_putOut 9 = .ok (.ixor, 1) := by decide +kernel
theorem dX4_putOut_10 : decode cX4_putOut 10 = .ok (.iand, 1) := by decide +kernel
theorem dX4_putOut_11 : decode cX4_putOut 11 = .ok (.putfield 9, 3) := by decide +kernel
theorem dX4_putOut_14 : decode cX4_putOut 14 = .ok (.aload_n 0, 1) := by decide +kernel
theorem dX4_putOut_15 : decode cX4_putOut 15 = .ok (.dup, 1) := by decide +kernel
theorem dX4_putOut_16 : decode cX4_putOut 16 = .ok (.getfield 18, 3) := by decide +kernel
theorem dX4_putOut_19 : decode cX4_putOut 19 = .ok (.iconst 1, 1) := by decide +kernel
theorem dX4_putOut_20 : decode cX4_putOut 20 = .ok (.iload_n 1, 1) := by decide +kernel
theorem dX4_putOut_21 : decode cX4_putOut 21 = .ok (.ishl, 1) := by decide +kernel
theorem dX4_putOut_22 : decode cX4_putOut 22 = .ok (.ior, 1) := by decide +kernel
theorem dX4_putOut_23 : decode cX4_putOut 23 = .ok (.putfield 18, 3) := by decide +kernel
theorem dX4_putOut_26 : decode cX4_putOut 26 = .ok (.aload_n 0, 1) := by decide +kernel
theorem dX4_putOut_27 : decode cX4_putOut 27 = .ok (.dup, 1) := by decide +kernel
theorem dX4_putOut_28 : decode cX4_putOut 28 = .ok (.getfield 15, 3) := by decide +kernel
theorem dX4_putOut_31 : decode cX4_putOut 31 = .ok (.iconst 1, 1) := by decide +kernel
theorem dX4_putOut_32 : decode cX4_putOut 32 = .ok (.isub, 1) := by decide +kernel
theorem dX4_putOut_33 : decode cX4_putOut 33 = .ok (.putfield 15, 3) := by decide +kernel
theorem dX4_putOut_36 : decode cX4_putOut 36 = .ok (.return_, 1) := by decide +kernel
theorem dX4_keepOrder_0 : decode cX4_keepOrder 0 = .ok (.iconst 0, 1) := by decide +kernel
theorem dX4_keepOrder_1 : decode cX4_keepOrder 1 = .ok (.istore_n 3, 1) := by decide +kernel
theorem dX4_keepOrder_2 : decode cX4_keepOrder 2 = .ok (.iload_n 3, 1) := by decide +kernel
theorem dX4_keepOrder_3 : decode cX4_keepOrder 3 = .ok (.aload_n 0, 1) := by decide +kernel
theorem dX4_keepOrder_4 : decode cX4_keepOrder 4 = .ok (.getfield 15, 3) := by decide +kernel
theorem dX4_keepOrder_7 : decode cX4_keepOrder 7 = .ok (.if_icmp .ge 22, 3) := by decide +kernel
theorem dX4_keepOrder_10 : decode cX4_keepOrder 10 = .ok (.aload_n 0, 1) := by decide +kernel
theorem dX4_keepOrder_11 : decode cX4_keepOrder 11 = .ok (.getfield 30, 3) := by decide +kernel
theorem dX4_keepOrder_14 : decode cX4_keepOrder 14 = .ok (.iload_n 1, 1) := by decide +kernel
theorem dX4_keepOrder_15 : decode cX4_keepOrder 15 = .ok (.aaload, 1) := by decide +kernel
theorem dX4_keepOrder_16 : decode cX4_keepOrder 16 = .ok (.iload_n 3, 1) := by decide +kernel
theorem dX4_keepOrder_17 : decode cX4_keepOrder 17 = .ok (.aload_n 2, 1) := by decide +kernel
theorem dX4_keepOrder_18 : decode cX4_keepOrder 18 = .ok (.iload_n 3, 1) := by decide +kernel
theorem dX4_keepOrder_19 : decode cX4_keepOrder 19 = .ok (.invokevirtual 56, 3) := by decide +kernel
theorem dX4_keepOrder_22 : decode cX4_keepOrder 22 = .ok (.iastore, 1) := by decide +kernel
theorem dX4_keepOrder_23 : decode cX4_keepOrder 23 = .ok (.iinc 3 1, 3) := by decide +kernel
theorem dX4_keepOrder_26 : decode cX4_keepOrder 26 = .ok (.goto (-24), 3) := by decide +kernel
theorem dX4_keepOrder_29 : decode cX4_keepOrder 29 = .ok (.aload_n 0, 1) := by decide +kernel
theorem dX4_keepOrder_30 : decode cX4_keepOrder 30 = .ok (.getfield 33, 3) := by decide +kernel
theorem dX4_keepOrder_33 : decode cX4_keepOrder 33 = .ok (.iload_n 1, 1) := by decide +kernel
theorem dX4_keepOrder_34 : decode cX4_keepOrder 34 = .ok (.aload_n 0, 1) := by decide +kernel
theorem dX4_keepOrder_35 : decode cX4_keepOrder 35 = .ok (.getfield 15, 3) := by decide +kernel
theorem dX4_keepOrder_38 : decode cX4_keepOrder 38 = .ok (.iastore, 1) := by decide +kernel
theorem dX4_keepOrder_39 : decode cX4_keepOrder 39 = .ok (.return_, 1) := by decide +kernel
theorem dX4_countOrders_0 : decode cX4_countOrders 0 = .ok (.iconst 0, 1) := by decide +kernel
theorem dX4_countOrders_1 : decode cX4_countOrders 1 = .ok (.istore_n 1, 1) := by decide +kernel
theorem dX4_countOrders_2 : decode cX4_countOrders 2 = .ok (.iconst 0, 1) := by decide +kernel
theorem dX4_countOrders_3 : decode cX4_countOrders 3 = .ok (.istore_n 2, 1) := by decide +kernel
theorem dX4_countOrders_4 : decode cX4_countOrders 4 = .ok (.iload_n 2, 1) := by decide +kernel
theorem dX4_countOrders_5 : decode cX4_countOrders 5 = .ok (.bipush 6, 2) := by decide +kernel
theorem dX4_countOrders_7 : decode cX4_countOrders 7 = .ok (.if_icmp .ge 21, 3) := by decide +kernel
theorem dX4_countOrders_10 : decode cX4_countOrders 10 = .ok (.aload_n 0, 1) := by decide +kernel
theorem dX4_countOrders_11 : decode cX4_countOrders 11 = .ok (.getfield 33, 3) := by decide +kernel
theorem dX4_countOrders_14 : decode cX4_countOrders 14 = .ok (.iload_n 2, 1) := by decide +kernel
theorem dX4_countOrders_15 : decode cX4_countOrders 15 = .ok (.iaload, 1) := by decide +kernel
theorem dX4_countOrders_16 : decode cX4_countOrders 16 = .ok (.ifCond .le 6, 3) := by decide +kernel
theorem dX4_countOrders_19 : decode cX4_countOrders 19 = .ok (.iinc 1 1, 3) := by decide +kernel
theorem dX4_countOrders_22 : decode cX4_countOrders 22 = .ok (.iinc 2 1, 3) := by decide +kernel
theorem dX4_countOrders_25 : decode cX4_countOrders 25 = .ok (.goto (-21), 3) := by decide +kernel
theorem dX4_countOrders_28 : decode cX4_countOrders 28 = .ok (.iload_n 1, 1) := by decide +kernel
theorem dX4_countOrders_29 : decode cX4_countOrders 29 = .ok (.ireturn, 1) := by decide +kernel
theorem dX4_placeOf_0 : decode cX4_placeOf 0 = .ok (.iconst 0, 1) := by decide +kernel
theorem dX4_placeOf_1 : decode cX4_placeOf 1 = .ok (.istore_n 2, 1) := by decide +kernel
theorem dX4_placeOf_2 : decode cX4_placeOf 2 = .ok (.iload_n 2, 1) := by decide +kernel
theorem dX4_placeOf_3 : decode cX4_placeOf 3 = .ok (.aload_n 0, 1) := by decide +kernel
theorem dX4_placeOf_4 : decode cX4_placeOf 4 = .ok (.getfield 15, 3) := by decide +kernel
theorem dX4_placeOf_7 : decode cX4_placeOf 7 = .ok (.if_icmp .ge 23, 3) := by decide +kernel
theorem dX4_placeOf_10 : decode cX4_placeOf 10 = .ok (.aload_n 0, 1) := by decide +kernel
theorem dX4_placeOf_11 : decode cX4_placeOf 11 = .ok (.getfield 37, 3) := by decide +kernel
theorem dX4_placeOf_14 : decode cX4_placeOf 14 = .ok (.iload_n 2, 1) := by decide +kernel
theorem dX4_placeOf_15 : decode cX4_placeOf 15 = .ok (.iaload, 1) := by decide +kernel
theorem dX4_placeOf_16 : decode cX4_placeOf 16 = .ok (.iload_n 1, 1) := by decide +kernel
theorem dX4_placeOf_17 : decode cX4_placeOf 17 = .ok (.if_icmp .ne 7, 3) := by decide +kernel
theorem dX4_placeOf_20 : decode cX4_placeOf 20 = .ok (.iload_n 2, 1) := by decide +kernel
theorem dX4_placeOf_21 : decode cX4_placeOf 21 = .ok (.iconst 1, 1) := by decide +kernel
theorem dX4_placeOf_22 : decode cX4_placeOf 22 = .ok (.iadd, 1) := by decide +kernel
theorem dX4_placeOf_23 : decode cX4_placeOf 23 = .ok (.ireturn, 1) := by decide +kernel
theorem dX4_placeOf_24 : decode cX4_placeOf 24 = .ok (.iinc 2 1, 3) := by decide +kernel
theorem dX4_placeOf_27 : decode cX4_placeOf 27 = .ok (.goto (-25), 3) := by decide +kernel
theorem dX4_placeOf_30 : decode cX4_placeOf 30 = .ok (.iconst (-1), 1) := by decide +kernel
theorem dX4_placeOf_31 : decode cX4_placeOf 31 = .ok (.ireturn, 1) := by decide +kernel
theorem dX4_cardLength_0 : decode cX4_cardLength 0 = .ok (.aload_n 0, 1) := by decide +kernel
theorem dX4_cardLength_1 : decode cX4_cardLength 1 = .ok (.getfield 15, 3) := by decide +kernel
theorem dX4_cardLength_4 : decode cX4_cardLength 4 = .ok (.iconst 4, 1) := by decide +kernel
theorem dX4_cardLength_5 : decode cX4_cardLength 5 = .ok (.invokestatic 62, 3) := by decide +kernel
theorem dX4_cardLength_8 : decode cX4_cardLength 8 = .ok (.ireturn, 1) := by decide +kernel
theorem dX4_cardBeasts_0 : decode cX4_cardBeasts 0 = .ok (.iconst 0, 1) := by decide +kernel
theorem dX4_cardBeasts_1 : decode cX4_cardBeasts 1 = .ok (.istore_n 1, 1) := by decide +kernel
theorem dX4_cardBeasts_2 : decode cX4_cardBeasts 2 = .ok (.iconst 0, 1) := by decide +kernel
theorem dX4_cardBeasts_3 : decode cX4_cardBeasts 3 = .ok (.istore_n 2, 1) := by decide +kernel
theorem dX4_cardBeasts_4 : decode cX4_cardBeasts 4 = .ok (.iload_n 2, 1) := by decide +kernel
theorem dX4_cardBeasts_5 : decode cX4_cardBeasts 5 = .ok (.aload_n 0, 1) := by decide +kernel
theorem dX4_cardBeasts_6 : decode cX4_cardBeasts 6 = .ok (.invokevirtual 68, 3) := by decide +kernel
theorem dX4_cardBeasts_9 : decode cX4_cardBeasts 9 = .ok (.if_icmp .ge 20, 3) := by decide +kernel
theorem dX4_cardBeasts_12 : decode cX4_cardBeasts 12 = .ok (.iload_n 1, 1) := by decide +kernel
theorem dX4_cardBeasts_13 : decode cX4_cardBeasts 13 = .ok (.iconst 1, 1) := by decide +kernel
theorem dX4_cardBeasts_14 : decode cX4_cardBeasts 14 = .ok (.aload_n 0, 1) := by decide +kernel
theorem dX4_cardBeasts_15 : decode cX4_cardBeasts 15 = .ok (.getfield 37, 3) := by decide +kernel
theorem dX4_cardBeasts_18 : decode cX4_cardBeasts 18 = .ok (.iload_n 2, 1) := by decide +kernel
theorem dX4_cardBeasts_19 : decode cX4_cardBeasts 19 = .ok (.iaload, 1) := by decide +kernel
theorem dX4_cardBeasts_20 : decode cX4_cardBeasts 20 = .ok (.ishl, 1) := by decide +kernel
theorem dX4_cardBeasts_21 : decode cX4_cardBeasts 21 = .ok (.ior, 1) := by decide +kernel
theorem dX4_cardBeasts_22 : decode cX4_cardBeasts 22 = .ok (.istore_n 1, 1) := by decide +kernel
theorem dX4_cardBeasts_23 : decode cX4_cardBeasts 23 = .ok (.iinc 2 1, 3) := by decide +kernel
theorem dX4_cardBeasts_26 : decode cX4_cardBeasts 26 = .ok (.goto (-22), 3) := by decide +kernel
theorem dX4_cardBeasts_29 : decode cX4_cardBeasts 29 = .ok (.iload_n 1, 1) := by decide +kernel
theorem dX4_cardBeasts_30 : decode cX4_cardBeasts 30 = .ok (.ireturn, 1) := by decide +kernel
theorem dX4_scoreCard_0 : decode cX4_scoreCard 0 = .ok (.bipush 50, 2) := by decide +kernel
theorem dX4_scoreCard_2 : decode cX4_scoreCard 2 = .ok (.istore_n 2, 1) := by decide +kernel
theorem dX4_scoreCard_3 : decode cX4_scoreCard 3 = .ok (.iconst 0, 1) := by decide +kernel
theorem dX4_scoreCard_4 : decode cX4_scoreCard 4 = .ok (.istore_n 3, 1) := by decide +kernel
theorem dX4_scoreCard_5 : decode cX4_scoreCard 5 = .ok (.iload_n 3, 1) := by decide +kernel
theorem dX4_scoreCard_6 : decode cX4_scoreCard 6 = .ok (.aload_n 0, 1) := by decide +kernel
theorem dX4_scoreCard_7 : decode cX4_scoreCard 7 = .ok (.invokevirtual 68, 3) := by decide +kernel
theorem dX4_scoreCard_10 : decode cX4_scoreCard 10 = .ok (.if_icmp .ge 55, 3) := by decide +kernel
theorem dX4_scoreCard_13 : decode cX4_scoreCard 13 = .ok (.iload_n 3, 1) := by decide +kernel
theorem dX4_scoreCard_14 : decode cX4_scoreCard 14 = .ok (.iconst 1, 1) := by decide +kernel
theorem dX4_scoreCard_15 : decode cX4_scoreCard 15 = .ok (.iadd, 1) := by decide +kernel
theorem dX4_scoreCard_16 : decode cX4_scoreCard 16 = .ok (.istore 4, 2) := by decide +kernel
theorem dX4_scoreCard_18 : decode cX4_scoreCard 18 = .ok (.iload 4, 2) := by decide +kernel
theorem dX4_scoreCard_20 : decode cX4_scoreCard 20 = .ok (.aload_n 0, 1) := by decide +kernel
theorem dX4_scoreCard_21 : decode cX4_scoreCard 21 = .ok (.invokevirtual 68, 3) := by decide +kernel
theorem dX4_scoreCard_24 : decode cX4_scoreCard 24 = .ok (.if_icmp .ge 35, 3) := by decide +kernel
theorem dX4_scoreCard_27 : decode cX4_scoreCard 27 = .ok (.iload_n 2, 1) := by decide +kernel
theorem dX4_scoreCard_28 : decode cX4_scoreCard 28 = .ok (.aload_n 0, 1) := by decide +kernel
theorem dX4_scoreCard_29 : decode cX4_scoreCard 29 = .ok (.aload_n 0, 1) := by decide +kernel
theorem dX4_scoreCard_30 : decode cX4_scoreCard 30 = .ok (.aload_n 1, 1) := by decide +kernel
theorem dX4_scoreCard_31 : decode cX4_scoreCard 31 = .ok (.iload 4, 2) := by decide +kernel
theorem dX4_scoreCard_33 : decode cX4_scoreCard 33 = .ok (.invokevirtual 56, 3) := by decide +kernel
theorem dX4_scoreCard_36 : decode cX4_scoreCard 36 = .ok (.invokevirtual 72, 3) := by decide +kernel
theorem dX4_scoreCard_39 : decode cX4_scoreCard 39 = .ok (.aload_n 0, 1) := by decide +kernel
theorem dX4_scoreCard_40 : decode cX4_scoreCard 40 = .ok (.aload_n 1, 1) := by decide +kernel
theorem dX4_scoreCard_41 : decode cX4_scoreCard 41 = .ok (.iload_n 3, 1) := by decide +kernel
theorem dX4_scoreCard_42 : decode cX4_scoreCard 42 = .ok (.invokevirtual 56, 3) := by decide +kernel
theorem dX4_scoreCard_45 : decode cX4_scoreCard 45 = .ok (.invokevirtual 72, 3) := by decide +kernel
theorem dX4_scoreCard_48 : decode cX4_scoreCard 48 = .ok (.invokevirtual 75, 3) := by decide +kernel
theorem dX4_scoreCard_51 : decode cX4_scoreCard 51 = .ok (.isub, 1) := by decide +kernel
theorem dX4_scoreCard_52 : decode cX4_scoreCard 52 = .ok (.istore_n 2, 1) := by decide +kernel
theorem dX4_scoreCard_53 : decode cX4_scoreCard 53 = .ok (.iinc 4 1, 3) := by decide +kernel
theorem dX4_scoreCard_56 : decode cX4_scoreCard 56 = .ok (.goto (-38), 3) := by decide +kernel
theorem dX4_scoreCard_59 : decode cX4_scoreCard 59 = .ok (.iinc 3 1, 3) := by decide +kernel
theorem dX4_scoreCard_62 : decode cX4_scoreCard 62 = .ok (.goto (-57), 3) := by decide +kernel
theorem dX4_scoreCard_65 : decode cX4_scoreCard 65 = .ok (.iload_n 2, 1) := by decide +kernel
theorem dX4_scoreCard_66 : decode cX4_scoreCard 66 = .ok (.iconst 0, 1) := by decide +kernel
theorem dX4_scoreCard_67 : decode cX4_scoreCard 67 = .ok (.invokestatic 78, 3) := by decide +kernel
theorem dX4_scoreCard_70 : decode cX4_scoreCard 70 = .ok (.ireturn, 1) := by decide +kernel
theorem dX4_cutsBetween_0 : decode cX4_cutsBetween 0 = .ok (.iconst 0, 1) := by decide +kernel
theorem dX4_cutsBetween_1 : decode cX4_cutsBetween 1 = .ok (.istore_n 3, 1) := by decide +kernel
theorem dX4_cutsBetween_2 : decode cX4_cutsBetween 2 = .ok (.iload_n 1, 1) := by decide +kernel
theorem dX4_cutsBetween_3 : decode cX4_cutsBetween 3 = .ok (.iconst 1, 1) := by decide +kernel
theorem dX4_cutsBetween_4 : decode cX4_cutsBetween 4 = .ok (.invokestatic 78, 3) := by decide +kernel
theorem dX4_cutsBetween_7 : decode cX4_cutsBetween 7 = .ok (.istore 4, 2) := by decide +kernel
theorem dX4_cutsBetween_9 : decode cX4_cutsBetween 9 = .ok (.iload 4, 2) := by decide +kernel
theorem dX4_cutsBetween_11 : decode cX4_cutsBetween 11 = .ok (.iload_n 2, 1) := by decide +kernel
theorem dX4_cutsBetween_12 : decode cX4_cutsBetween 12 = .ok (.if_icmp .ge 27, 3) := by decide +kernel
theorem dX4_cutsBetween_15 : decode cX4_cutsBetween 15 = .ok (.iload 4, 2) := by decide +kernel
theorem dX4_cutsBetween_17 : decode cX4_cutsBetween 17 = .ok (.iconst 3, 1) := by decide +kernel
theorem dX4_cutsBetween_18 : decode cX4_cutsBetween 18 = .ok (.if_icmp .gt 21, 3) := by decide +kernel
theorem dX4_cutsBetween_21 : decode cX4_cutsBetween 21 = .ok (.iload_n 3, 1) := by decide +kernel
theorem dX4_cutsBetween_22 : decode cX4_cutsBetween 22 = .ok (.aload_n 0, 1) := by decide +kernel
theorem dX4_cutsBetween_23 : decode cX4_cutsBetween 23 = .ok (.getfield 43, 3) := by decide +kernel
theorem dX4_cutsBetween_26 : decode cX4_cutsBetween 26 = .ok (.iload 4, 2) := by decide +kernel
theorem dX4_cutsBetween_28 : decode cX4_cutsBetween 28 = .ok (.iconst 1, 1) := by decide +kernel
theorem dX4_cutsBetween_29 : decode cX4_cutsBetween 29 = .ok (.isub, 1) := by decide +kernel
theorem dX4_cutsBetween_30 : decode cX4_cutsBetween 30 = .ok (.iaload, 1) := by decide +kernel
theorem dX4_cutsBetween_31 : decode cX4_cutsBetween 31 = .ok (.iadd, 1) := by decide +kernel
theorem dX4_cutsBetween_32 : decode cX4_cutsBetween 32 = .ok (.istore_n 3, 1) := by decide +kernel
theorem dX4_cutsBetween_33 : decode cX4_cutsBetween 33 = .ok (.iinc 4 1, 3) := by decide +kernel
theorem dX4_cutsBetween_36 : decode cX4_cutsBetween 36 = .ok (.goto (-27), 3) := by decide +kernel
theorem dX4_cutsBetween_39 : decode cX4_cutsBetween 39 = .ok (.iload_n 3, 1) := by decide +kernel
theorem dX4_cutsBetween_40 : decode cX4_cutsBetween 40 = .ok (.ireturn, 1) := by decide +kernel
theorem dX5_init_0 : decode cX5_init 0 = .ok (.aload_n 0, 1) := by decide +kernel
theorem dX5_init_1 : decode cX5_init 1 = .ok (.invokespecial 3, 3) := by decide +kernel
theorem dX5_init_4 : decode cX5_init 4 = .ok (.aload_n 0, 1) := by decide +kernel
theorem dX5_init_5 : decode cX5_init 5 = .ok (.bipush 80, 2) := by decide +kernel
theorem dX5_init_7 : decode cX5_init 7 = .ok (.newarray .int, 2) := by decide +kernel
theorem dX5_init_9 : decode cX5_init 9 = .ok (.putfield 9, 3) := by decide +kernel
theorem dX5_init_12 : decode cX5_init 12 = .ok (.aload_n 0, 1) := by decide +kernel
theorem dX5_init_13 : decode cX5_init 13 = .ok (.iconst 0, 1) := by decide +kernel
theorem dX5_init_14 : decode cX5_init 14 = .ok (.putfield 15, 3) := by decide +kernel
theorem dX5_init_17 : decode cX5_init 17 = .ok (.aload_n 0, 1) := by decide +kernel
theorem dX5_init_18 : decode cX5_init 18 = .ok (.iconst 0, 1) := by decide +kernel
theorem dX5_init_19 : decode cX5_init 19 = .ok (.putfield 19, 3) := by decide +kernel
theorem dX5_init_22 : decode cX5_init 22 = .ok (.aload_n 0, 1) := by decide +kernel
theorem dX5_init_23 : decode cX5_init 23 = .ok (.iconst 0, 1) := by decide +kernel
theorem dX5_init_24 : decode cX5_init 24 = .ok (.putfield 22, 3) := by decide +kernel
theorem dX5_init_27 : decode cX5_init 27 = .ok (.return_, 1) := by decide +kernel
theorem dX5_length_0 : decode cX5_length 0 = .ok (.aload_n 0, 1) := by decide +kernel
theorem dX5_length_1 : decode cX5_length 1 = .ok (.getfield 15, 3) := by decide +kernel
theorem dX5_length_4 : decode cX5_length 4 = .ok (.ireturn, 1) := by decide +kernel
theorem dX5_hasRoom_0 : decode cX5_hasRoom 0 = .ok (.aload_n 0, 1) := by decide +kernel
theorem dX5_hasRoom_1 : decode cX5_hasRoom 1 = .ok (.getfield 15, 3) := by decide +kernel
theorem dX5_hasRoom_4 : decode cX5_hasRoom 4 = .ok (.bipush 20, 2) := by decide +kernel
theorem dX5_hasRoom_6 : decode cX5_hasRoom 6 = .ok (.iadd, 1) := by decide +kernel
theorem dX5_hasRoom_7 : decode cX5_hasRoom 7 = .ok (.bipush 80, 2) := by decide +kernel
theorem dX5_hasRoom_9 : decode cX5_hasRoom 9 = .ok (.if_icmp .gt 7, 3) := by decide +kernel
theorem dX5_hasRoom_12 : decode cX5_hasRoom 12 = .ok (.iconst 1, 1) := by decide +kernel
theorem dX5_hasRoom_13 : decode cX5_hasRoom 13 = .ok (.goto 4, 3) := by decide +kernel
theorem dX5_hasRoom_16 : decode cX5_hasRoom 16 = .ok (.iconst 0, 1) := by decide +kernel
theorem dX5_hasRoom_17 : decode cX5_hasRoom 17 = .ok (.ireturn, 1) := by decide +kernel
theorem dX5_has_0 : decode cX5_has 0 = .ok (.iload_n 1, 1) := by decide +kernel
theorem dX5_has_1 : decode cX5_has 1 = .ok (.ifCond .lt 15, 3) := by decide +kernel
theorem dX5_has_4 : decode cX5_has 4 = .ok (.iload_n 1, 1) := by decide +kernel
theorem dX5_has_5 : decode cX5_has 5 = .ok (.aload_n 0, 1) := by decide +kernel
theorem dX5_has_6 : decode cX5_has 6 = .ok (.getfield 15, 3) := by decide +kernel
theorem dX5_has_9 : decode cX5_has 9 = .ok (.if_icmp .gt 7, 3) := by decide +kernel
theorem dX5_has_12 : decode cX5_has 12 = .ok (.iconst 1, 1) := by decide +kernel
theorem dX5_has_13 : decode cX5_has 13 = .ok (.goto 4, 3) := by decide +kernel
theorem dX5_has_16 : decode cX5_has 16 = .ok (.iconst 0, 1) := by decide +kernel
theorem dX5_has_17 : decode cX5_has 17 = .ok (.ireturn, 1) := by decide +kernel
theorem dX5_append_0 : decode cX5_append 0 = .ok (.bipush 24, 2) := by decide +kernel
theorem dX5_append_2 : decode cX5_append 2 = .ok (.istore_n 2, 1) := by decide +kernel
theorem dX5_append_3 : decode cX5_append 3 = .ok (.iload_n 2, 1) := by decide +kernel
theorem dX5_append_4 : decode cX5_append 4 = .ok (.ifCond .lt 44, 3) := by decide +kernel
theorem dX5_append_7 : decode cX5_append 7 = .ok (.aload_n 0, 1) := by decide +kernel
theorem dX5_append_8 : decode cX5_append 8 = .ok (.getfield 15, 3) := by decide +kernel
theorem dX5_append_11 : decode cX5_append 11 = .ok (.bipush 80, 2) := by decide +kernel
theorem dX5_append_13 : decode cX5_append 13 = .ok (.if_icmp .ge 35, 3) := by decide +kernel
theorem dX5_append_16 : decode cX5_append 16 = .ok (.aload_n 0, 1) := by decide +kernel
theorem dX5_append_17 : decode cX5_append 17 = .ok (.getfield 9, 3) := by decide +kernel
theorem dX5_append_20 : decode cX5_append 20 = .ok (.aload_n 0, 1) := by decide +kernel
theorem dX5_append_21 : decode cX5_append 21 = .ok (.getfield 15, 3) := by decide +kernel
theorem dX5_append_24 : decode cX5_append 24 = .ok (.iload_n 1, 1) := by decide +kernel
theorem dX5_append_25 : decode cX5_append 25 = .ok (.iload_n 2, 1) := by decide +kernel
theorem dX5_append_26 : decode cX5_append 26 = .ok (.iushr, 1) := by decide +kernel
theorem dX5_append_27 : decode cX5_append 27 = .ok (.sipush 255, 3) := by decide +kernel
theorem dX5_append_30 : decode cX5_append 30 = .ok (.iand, 1) := by decide +kernel
theorem dX5_append_31 : decode cX5_append 31 = .ok (.iastore, 1) := by decide +kernel
theorem dX5_append_32 : decode cX5_append 32 = .ok (.aload_n 0, 1) := by decide +kernel
theorem dX5_append_33 : decode cX5_append 33 = .ok (.dup, 1) := by decide +kernel
theorem dX5_append_34 : decode cX5_append 34 = .ok (.getfield 15, 3) := by decide +kernel
theorem dX5_append_37 : decode cX5_append 37 = .ok (.iconst 1, 1) := by decide +kernel
theorem dX5_append_38 : decode cX5_append 38 = .ok (.iadd, 1) := by decide +kernel
theorem dX5_append_39 : decode cX5_append 39 = .ok (.putfield 15, 3) := by decide +kernel
theorem dX5_append_42 : decode cX5_append 42 = .ok (.iinc 2 (-8), 3) := by decide +kernel
theorem dX5_append_45 : decode cX5_append 45 = .ok (.goto (-42), 3) := by decide +kernel
theorem dX5_append_48 : decode cX5_append 48 = .ok (.return_, 1) := by decide +kernel
theorem dX5_clear_0 : decode cX5_clear 0 = .ok (.aload_n 0, 1) := by decide +kernel
theorem dX5_clear_1 : decode cX5_clear 1 = .ok (.iconst 0, 1) := by decide +kernel
theorem dX5_clear_2 : decode cX5_clear 2 = .ok (.putfield 15, 3) := by decide +kernel
theorem dX5_clear_5 : decode cX5_clear 5 = .ok (.aload_n 0, 1) := by decide +kernel
theorem dX5_clear_6 : decode cX5_clear 6 = .ok (.iconst 0, 1) := by decide +kernel
theorem dX5_clear_7 : decode cX5_clear 7 = .ok (.invokevirtual 25, 3) := by decide +kernel
theorem dX5_clear_10 : decode cX5_clear 10 = .ok (.return_, 1) := by decide +kernel
theorem dX5_byteAt_0 : decode cX5_byteAt 0 = .ok (.iload_n 1, 1) := by decide +kernel
theorem dX5_byteAt_1 : decode cX5_byteAt 1 = .ok (.aload_n 0, 1) := by decide +kernel
theorem dX5_byteAt_2 : decode cX5_byteAt 2 = .ok (.getfield 15, 3) := by decide +kernel
theorem dX5_byteAt_5 : decode cX5_byteAt 5 = .ok (.invokestatic 29, 3) := by decide +kernel
theorem dX5_byteAt_8 : decode cX5_byteAt 8 = .ok (.ifCond .eq 12, 3) := by decide +kernel
theorem dX5_byteAt_11 : decode cX5_byteAt 11 = .ok (.aload_n 0, 1) := by decide +kernel
theorem dX5_byteAt_12 : decode cX5_byteAt 12 = .ok (.getfield 9, 3) := by decide +kernel
theorem dX5_byteAt_15 : decode cX5_byteAt 15 = .ok (.iload_n 1, 1) := by decide +kernel
theorem dX5_byteAt_16 : decode cX5_byteAt 16 = .ok (.iaload, 1) := by decide +kernel
theorem dX5_byteAt_17 : decode cX5_byteAt 17 = .ok (.goto 4, 3) := by decide +kernel
theorem dX5_byteAt_20 : decode cX5_byteAt 20 = .ok (.iconst (-1), 1) := by decide +kernel
theorem dX5_byteAt_21 : decode cX5_byteAt 21 = .ok (.ireturn, 1) := by decide +kernel
theorem dX5_namesEachOf_0 : decode cX5_namesEachOf 0 = .ok (.iload_n 1, 1) := by decide +kernel
theorem dX5_namesEachOf_1 : decode cX5_namesEachOf 1 = .ok (.istore_n 2, 1) := by decide +kernel
theorem dX5_namesEachOf_2 : decode cX5_namesEachOf 2 = .ok (.iload_n 1, 1) := by decide +kernel
theorem dX5_namesEachOf_3 : decode cX5_namesEachOf 3 = .ok (.invokestatic 33, 3) := by decide +kernel
theorem dX5_namesEachOf_6 : decode cX5_namesEachOf 6 = .ok (.istore_n 3, 1) := by decide +kernel
theorem dX5_namesEachOf_7 : decode cX5_namesEachOf 7 = .ok (.iconst 0, 1) := by decide +kernel
theorem dX5_namesEachOf_8 : decode cX5_namesEachOf 8 = .ok (.istore 4, 2) := by decide +kernel
theorem dX5_namesEachOf_10 : decode cX5_namesEachOf 10 = .ok (.iload 4, 2) := by decide +kernel
theorem dX5_namesEachOf_12 : decode cX5_namesEachOf 12 = .ok (.iload_n 3, 1) := by decide +kernel
theorem dX5_namesEachOf_13 : decode cX5_namesEachOf 13 = .ok (.if_icmp .ge 47, 3) := by decide +kernel
theorem dX5_namesEachOf_16 : decode cX5_namesEachOf 16 = .ok (.aload_n 0, 1) := by decide +kernel
theorem dX5_namesEachOf_17 : decode cX5_namesEachOf 17 = .ok (.iload 4, 2) := by decide +kernel
theorem dX5_namesEachOf_19 : decode cX5_namesEachOf 19 = .ok (.invokevirtual 39, 3) := by decide +kernel
theorem dX5_namesEachOf_22 : decode cX5_namesEachOf 22 = .ok (.istore 5, 2) := by decide +kernel
theorem dX5_namesEachOf_24 : decode cX5_namesEachOf 24 = .ok (.iload 5, 2) := by decide +kernel
theorem dX5_namesEachOf_26 : decode cX5_namesEachOf 26 = .ok (.bipush 20, 2) := by decide +kernel
theorem dX5_namesEachOf_28 : decode cX5_namesEachOf 28 = .ok (.invokestatic 29, 3) := by decide +kernel
theorem dX5_namesEachOf_31 : decode cX5_namesEachOf 31 = .ok (.ifCond .eq 12, 3) := by decide +kernel
theorem dX5_namesEachOf_34 : decode cX5_namesEachOf 34 = .ok (.iload_n 2, 1) := by decide +kernel
theorem dX5_namesEachOf_35 : decode cX5_namesEachOf 35 = .ok (.iconst 1, 1) := by decide +kernel
theorem dX5_namesEachOf_36 : decode cX5_namesEachOf 36 = .ok (.iload 5, 2) := by decide +kernel
theorem dX5_namesEachOf_38 : decode cX5_namesEachOf 38 = .ok (.ishl, 1) := by decide +kernel
theorem dX5_namesEachOf_39 : decode cX5_namesEachOf 39 = .ok (.iand, 1) := by decide +kernel
theorem dX5_namesEachOf_40 : decode cX5_namesEachOf 40 = .ok (.ifCond .ne 5, 3) := by decide +kernel
theorem dX5_namesEachOf_43 : decode cX5_namesEachOf 43 = .ok (.iconst 0, 1) := by decide +kernel
theorem dX5_namesEachOf_44 : decode cX5_namesEachOf 44 = .ok (.ireturn, 1) := by decide +kernel
theorem dX5_namesEachOf_45 : decode cX5_namesEachOf 45 = .ok (.iload_n 2, 1) := by decide +kernel
theorem dX5_namesEachOf_46 : decode cX5_namesEachOf 46 = .ok (.iconst 1, 1) := by decide +kernel
theorem dX5_namesEachOf_47 : decode cX5_namesEachOf 47 = .ok (.iload 5, 2) := by decide +kernel
theorem dX5_namesEachOf_49 : decode cX5_namesEachOf 49 = .ok (.ishl, 1) := by decide +kernel
theorem dX5_namesEachOf_50 : decode cX5_namesEachOf 50 = .ok (.iconst (-1), 1) := by decide +kernel
theorem dX5_namesEachOf_51 : decode cX5_namesEachOf 51 = .ok (.ixor, 1) := by decide +kernel
theorem dX5_namesEachOf_52 : decode cX5_namesEachOf 52 = .ok (.iand, 1) := by decide +kernel
theorem dX5_namesEachOf_53 : decode cX5_namesEachOf 53 = .ok (.istore_n 2, 1) := by decide +kernel
theorem dX5_namesEachOf_54 : decode cX5_namesEachOf 54 = .ok (.iinc 4 1, 3) := by decide +kernel
theorem dX5_namesEachOf_57 : decode cX5_namesEachOf 57 = .ok (.goto (-47), 3) := by decide +kernel
theorem dX5_namesEachOf_60 : decode cX5_namesEachOf 60 = .ok (.iconst 1, 1) := by decide +kernel
theorem dX5_namesEachOf_61 : decode cX5_namesEachOf 61 = .ok (.ireturn, 1) := by decide +kernel
theorem dX5_startReading_0 : decode cX5_startReading 0 = .ok (.aload_n 0, 1) := by decide +kernel
theorem dX5_startReading_1 : decode cX5_startReading 1 = .ok (.iconst 0, 1) := by decide +kernel
theorem dX5_startReading_2 : decode cX5_startReading 2 = .ok (.putfield 22, 3) := by decide +kernel
theorem dX5_startReading_5 : decode cX5_startReading 5 = .ok (.aload_n 0, 1) := by decide +kernel
theorem dX5_startReading_6 : decode cX5_startReading 6 = .ok (.aload_n 0, 1) := by decide +kernel
theorem dX5_startReading_7 : decode cX5_startReading 7 = .ok (.iload_n 1, 1) := by decide +kernel
theorem dX5_startReading_8 : decode cX5_startReading 8 = .ok (.invokevirtual 42, 3) := by decide +kernel
theorem dX5_startReading_11 : decode cX5_startReading 11 = .ok (.ifCond .eq 7, 3) := by decide +kernel
theorem dX5_startReading_14 : decode cX5_startReading 14 = .ok (.iload_n 1, 1) := by decide +kernel
theorem dX5_startReading_15 : decode cX5_startReading 15 = .ok (.goto 4, 3) := by decide +kernel
theorem dX5_startReading_18 : decode cX5_startReading 18 = .ok (.iconst 0, 1) := by decide +kernel
theorem dX5_startReading_19 : decode cX5_startReading 19 = .ok (.putfield 19, 3) := by decide +kernel
theorem dX5_startReading_22 : decode cX5_startReading 22 = .ok (.return_, 1) := by decide +kernel
theorem dX5_place_0 : decode cX5_place 0 = .ok (.aload_n 0, 1) := by decide +kernel
theorem dX5_place_1 : decode cX5_place 1 = .ok (.getfield 22, 3) := by decide +kernel
theorem dX5_place_4 : decode cX5_place 4 = .ok (.ireturn, 1) := by decide +kernel
theorem dX5_isAtEnd_0 : decode cX5_isAtEnd 0 = .ok (.aload_n 0, 1) := by decide +kernel
theorem dX5_isAtEnd_1 : decode cX5_isAtEnd 1 = .ok (.getfield 22, 3) := by decide +kernel
theorem dX5_isAtEnd_4 : decode cX5_isAtEnd 4 = .ok (.aload_n 0, 1) := by decide +kernel
theorem dX5_isAtEnd_5 : decode cX5_isAtEnd 5 = .ok (.getfield 19, 3) := by decide +kernel
theorem dX5_isAtEnd_8 : decode cX5_isAtEnd 8 = .ok (.if_icmp .lt 7, 3) := by decide +kernel
theorem dX5_isAtEnd_11 : decode cX5_isAtEnd 11 = .ok (.iconst 1, 1) := by decide +kernel
theorem dX5_isAtEnd_12 : decode cX5_isAtEnd 12 = .ok (.goto 4, 3) := by decide +kernel
theorem dX5_isAtEnd_15 : decode cX5_isAtEnd 15 = .ok (.iconst 0, 1) := by decide +kernel
theorem dX5_isAtEnd_16 : decode cX5_isAtEnd 16 = .ok (.ireturn, 1) := by decide +kernel
theorem dX5_peek_0 : decode cX5_peek 0 = .ok (.aload_n 0, 1) := by decide +kernel
theorem dX5_peek_1 : decode cX5_peek 1 = .ok (.getfield 22, 3) := by decide +kernel
theorem dX5_peek_4 : decode cX5_peek 4 = .ok (.aload_n 0, 1) := by decide +kernel
theorem dX5_peek_5 : decode cX5_peek 5 = .ok (.getfield 19, 3) := by decide +kernel
theorem dX5_peek_8 : decode cX5_peek 8 = .ok (.if_icmp .ge 15, 3) := by decide +kernel
theorem dX5_peek_11 : decode cX5_peek 11 = .ok (.aload_n 0, 1) := by decide +kernel
theorem dX5_peek_12 : decode cX5_peek 12 = .ok (.getfield 9, 3) := by decide +kernel
theorem dX5_peek_15 : decode cX5_peek 15 = .ok (.aload_n 0, 1) := by decide +kernel
theorem dX5_peek_16 : decode cX5_peek 16 = .ok (.getfield 22, 3) := by decide +kernel
theorem dX5_peek_19 : decode cX5_peek 19 = .ok (.iaload, 1) := by decide +kernel
theorem dX5_peek_20 : decode cX5_peek 20 = .ok (.goto 4, 3) := by decide +kernel
theorem dX5_peek_23 : decode cX5_peek 23 = .ok (.iconst (-1), 1) := by decide +kernel
theorem dX5_peek_24 : decode cX5_peek 24 = .ok (.ireturn, 1) := by decide +kernel
theorem dX5_skip_0 : decode cX5_skip 0 = .ok (.aload_n 0, 1) := by decide +kernel
theorem dX5_skip_1 : decode cX5_skip 1 = .ok (.getfield 22, 3) := by decide +kernel
theorem dX5_skip_4 : decode cX5_skip 4 = .ok (.aload_n 0, 1) := by decide +kernel
theorem dX5_skip_5 : decode cX5_skip 5 = .ok (.getfield 19, 3) := by decide +kernel
theorem dX5_skip_8 : decode cX5_skip 8 = .ok (.if_icmp .ge 13, 3) := by decide +kernel
theorem dX5_skip_11 : decode cX5_skip 11 = .ok (.aload_n 0, 1) := by decide +kernel
theorem dX5_skip_12 : decode cX5_skip 12 = .ok (.dup, 1) := by decide +kernel
theorem dX5_skip_13 : decode cX5_skip 13 = .ok (.getfield 22, 3) := by decide +kernel
theorem dX5_skip_16 : decode cX5_skip 16 = .ok (.iconst 1, 1) := by decide +kernel
theorem dX5_skip_17 : decode cX5_skip 17 = .ok (.iadd, 1) := by decide +kernel
theorem dX5_skip_18 : decode cX5_skip 18 = .ok (.putfield 22, 3) := by decide +kernel
theorem dX5_skip_21 : decode cX5_skip 21 = .ok (.return_, 1) := by decide +kernel
theorem dX5_skipIf_0 : decode cX5_skipIf 0 = .ok (.aload_n 0, 1) := by decide +kernel
theorem dX5_skipIf_1 : decode cX5_skipIf 1 = .ok (.invokevirtual 46, 3) := by decide +kernel
theorem dX5_skipIf_4 : decode cX5_skipIf 4 = .ok (.iload_n 1, 1) := by decide +kernel
theorem dX5_skipIf_5 : decode cX5_skipIf 5 = .ok (.if_icmp .ne 7, 3) := by decide +kernel
theorem dX5_skipIf_8 : decode cX5_skipIf 8 = .ok (.iconst 1, 1) := by decide +kernel
theorem dX5_skipIf_9 : decode cX5_skipIf 9 = .ok (.goto 4, 3) := by decide +kernel
theorem dX5_skipIf_12 : decode cX5_skipIf 12 = .ok (.iconst 0, 1) := by decide +kernel
theorem dX5_skipIf_13 : decode cX5_skipIf 13 = .ok (.istore_n 2, 1) := by decide +kernel
theorem dX5_skipIf_14 : decode cX5_skipIf 14 = .ok (.iload_n 2, 1) := by decide +kernel
theorem dX5_skipIf_15 : decode cX5_skipIf 15 = .ok (.ifCond .eq 7, 3) := by decide +kernel
theorem dX5_skipIf_18 : decode cX5_skipIf 18 = .ok (.aload_n 0, 1) := by decide +kernel
theorem dX5_skipIf_19 : decode cX5_skipIf 19 = .ok (.invokevirtual 50, 3) := by decide +kernel
theorem dX5_skipIf_22 : decode cX5_skipIf 22 = .ok (.iload_n 2, 1) := by decide +kernel
theorem dX5_skipIf_23 : decode cX5_skipIf 23 = .ok (.ireturn, 1) := by decide +kernel
theorem dX5_isAtDigit_0 : decode cX5_isAtDigit 0 = .ok (.aload_n 0, 1) := by decide +kernel
theorem dX5_isAtDigit_1 : decode cX5_isAtDigit 1 = .ok (.invokevirtual 46, 3) := by decide +kernel
theorem dX5_isAtDigit_4 : decode cX5_isAtDigit 4 = .ok (.bipush 48, 2) := by decide +kernel
theorem dX5_isAtDigit_6 : decode cX5_isAtDigit 6 = .ok (.if_icmp .lt 16, 3) := by decide +kernel
theorem dX5_isAtDigit_9 : decode cX5_isAtDigit 9 = .ok (.aload_n 0, 1) := by decide +kernel
theorem dX5_isAtDigit_10 : decode cX5_isAtDigit 10 = .ok (.invokevirtual 46, 3) := by decide +kernel
theorem dX5_isAtDigit_13 : decode cX5_isAtDigit 13 = .ok (.bipush 57, 2) := by decide +kernel
theorem dX5_isAtDigit_15 : decode cX5_isAtDigit 15 = .ok (.if_icmp .gt 7, 3) := by decide +kernel
theorem dX5_isAtDigit_18 : decode cX5_isAtDigit 18 = .ok (.iconst 1, 1) := by decide +kernel
theorem dX5_isAtDigit_19 : decode cX5_isAtDigit 19 = .ok (.goto 4, 3) := by decide +kernel
theorem dX5_isAtDigit_22 : decode cX5_isAtDigit 22 = .ok (.iconst 0, 1) := by decide +kernel
theorem dX5_isAtDigit_23 : decode cX5_isAtDigit 23 = .ok (.ireturn, 1) := by decide +kernel
theorem dX5_readNumber_0 : decode cX5_readNumber 0 = .ok (.aload_n 0, 1) := by decide +kernel
theorem dX5_readNumber_1 : decode cX5_readNumber 1 = .ok (.invokevirtual 53, 3) := by decide +kernel
theorem dX5_readNumber_4 : decode cX5_readNumber 4 = .ok (.ifCond .ne 5, 3) := by decide +kernel
theorem dX5_readNumber_7 : decode cX5_readNumber 7 = .ok (.iconst (-1), 1) := by decide +kernel
theorem dX5_readNumber_8 : decode cX5_readNumber 8 = .ok (.ireturn, 1) := by decide +kernel
theorem dX5_readNumber_9 : decode cX5_readNumber 9 = .ok (.iconst 0, 1) := by decide +kernel
theorem dX5_readNumber_10 : decode cX5_readNumber 10 = .ok (.istore_n 1, 1) := by decide +kernel
theorem dX5_readNumber_11 : decode cX5_readNumber 11 = .ok (.iconst 0, 1) := by decide +kernel
theorem dX5_readNumber_12 : decode cX5_readNumber 12 = .ok (.istore_n 2, 1) := by decide +kernel
theorem dX5_readNumber_13 : decode cX5_readNumber 13 = .ok (.iload_n 2, 1) := by decide +kernel
theorem dX5_readNumber_14 : decode cX5_readNumber 14 = .ok (.iconst 4, 1) := by decide +kernel
theorem dX5_readNumber_15 : decode cX5_readNumber 15 = .ok (.if_icmp .ge 33, 3) := by decide +kernel
theorem dX5_readNumber_18 : decode cX5_readNumber 18 = .ok (.aload_n 0, 1) := by decide +kernel
theorem dX5_readNumber_19 : decode cX5_readNumber 19 = .ok (.invokevirtual 53, 3) := by decide +kernel
theorem dX5_readNumber_22 : decode cX5_readNumber 22 = .ok (.ifCond .eq 26, 3) := by decide +kernel
theorem dX5_readNumber_25 : decode cX5_readNumber 25 = .ok (.iload_n 1, 1) := by decide +kernel
theorem dX5_readNumber_26 : decode cX5_readNumber 26 = .ok (.bipush 10, 2) := by decide +kernel
theorem dX5_readNumber_28 : decode cX5_readNumber 28 = .ok (.imul, 1) := by decide +kernel
theorem dX5_readNumber_29 : decode cX5_readNumber 29 = .ok (.aload_n 0, 1) := by decide +kernel
theorem dX5_readNumber_30 : decode cX5_readNumber 30 = .ok (.invokevirtual 46, 3) := by decide +kernel
theorem dX5_readNumber_33 : decode cX5_readNumber 33 = .ok (.iadd, 1) := by decide +kernel
theorem dX5_readNumber_34 : decode cX5_readNumber 34 = .ok (.bipush 48, 2) := by decide +kernel
theorem dX5_readNumber_36 : decode cX5_readNumber 36 = .ok (.isub, 1) := by decide +kernel
theorem dX5_readNumber_37 : decode cX5_readNumber 37 = .ok (.istore_n 1, 1) := by decide +kernel
theorem dX5_readNumber_38 : decode cX5_readNumber 38 = .ok (.aload_n 0, 1) := by decide +kernel
theorem dX5_readNumber_39 : decode cX5_readNumber 39 = .ok (.invokevirtual 50, 3) := by decide +kernel
theorem dX5_readNumber_42 : decode cX5_readNumber 42 = .ok (.iinc 2 1, 3) := by decide +kernel
theorem dX5_readNumber_45 : decode cX5_readNumber 45 = .ok (.goto (-32), 3) := by decide +kernel
theorem dX5_readNumber_48 : decode cX5_readNumber 48 = .ok (.iload_n 1, 1) := by decide +kernel
end
section
theorem dX5_readNumber_49 : decode cX5_readNumber 49 = .ok (.ireturn, 1) := by decide +kernel
theorem dX5_faultHere_0 : decode cX5_faultHere 0 = .ok (.aload_n 0, 1) := by decide +kernel
theorem dX5_faultHere_1 : decode cX5_faultHere 1 = .ok (.iload_n 1, 1) := by decide +kernel
theorem dX5_faultHere_2 : decode cX5_faultHere 2 = .ok (.aload_n 0, 1) := by decide +kernel
theorem dX5_faultHere_3 : decode cX5_faultHere 3 = .ok (.getfield 22, 3) := by decide +kernel
theorem dX5_faultHere_6 : decode cX5_faultHere 6 = .ok (.invokevirtual 57, 3) := by decide +kernel
theorem dX5_faultHere_9 : decode cX5_faultHere 9 = .ok (.ireturn, 1) := by decide +kernel
theorem dX5_faultAt_0 : decode cX5_faultAt 0 = .ok (.bipush 100, 2) := by decide +kernel
theorem dX5_faultAt_2 : decode cX5_faultAt 2 = .ok (.iload_n 1, 1) := by decide +kernel
theorem dX5_faultAt_3 : decode cX5_faultAt 3 = .ok (.imul, 1) := by decide +kernel
theorem dX5_faultAt_4 : decode cX5_faultAt 4 = .ok (.iload_n 2, 1) := by decide +kernel
theorem dX5_faultAt_5 : decode cX5_faultAt 5 = .ok (.iadd, 1) := by decide +kernel
theorem dX5_faultAt_6 : decode cX5_faultAt 6 = .ok (.ireturn, 1) := by decide +kernel
theorem dX6_init_0 : decode cX6_init 0 = .ok (.aload_n 0, 1) := by decide +kernel
theorem dX6_init_1 : decode cX6_init 1 = .ok (.invokespecial 3, 3) := by decide +kernel
theorem dX6_init_4 : decode cX6_init 4 = .ok (.aload_n 0, 1) := by decide +kernel
theorem dX6_init_5 : decode cX6_init 5 = .ok (.bipush 6, 2) := by decide +kernel
theorem dX6_init_7 : decode cX6_init 7 = .ok (.newarray .int, 2) := by decide +kernel
theorem dX6_init_9 : decode cX6_init 9 = .ok (.putfield 9, 3) := by decide +kernel
theorem dX6_init_12 : decode cX6_init 12 = .ok (.aload_n 0, 1) := by decide +kernel
theorem dX6_init_13 : decode cX6_init 13 = .ok (.bipush 6, 2) := by decide +kernel
theorem dX6_init_15 : decode cX6_init 15 = .ok (.newarray .int, 2) := by decide +kernel
theorem dX6_init_17 : decode cX6_init 17 = .ok (.putfield 15, 3) := by decide +kernel
theorem dX6_init_20 : decode cX6_init 20 = .ok (.aload_n 0, 1) := by decide +kernel
theorem dX6_init_21 : decode cX6_init 21 = .ok (.bipush 6, 2) := by decide +kernel
theorem dX6_init_23 : decode cX6_init 23 = .ok (.newarray .int, 2) := by decide +kernel
theorem dX6_init_25 : decode cX6_init 25 = .ok (.putfield 18, 3) := by decide +kernel
theorem dX6_init_28 : decode cX6_init 28 = .ok (.aload_n 0, 1) := by decide +kernel
theorem dX6_init_29 : decode cX6_init 29 = .ok (.bipush 6, 2) := by decide +kernel
theorem dX6_init_31 : decode cX6_init 31 = .ok (.newarray .int, 2) := by decide +kernel
theorem dX6_init_33 : decode cX6_init 33 = .ok (.putfield 21, 3) := by decide +kernel
theorem dX6_init_36 : decode cX6_init 36 = .ok (.return_, 1) := by decide +kernel
theorem dX6_plan_0 : decode cX6_plan 0 = .ok (.iconst 0, 1) := by decide +kernel
theorem dX6_plan_1 : decode cX6_plan 1 = .ok (.istore 4, 2) := by decide +kernel
theorem dX6_plan_3 : decode cX6_plan 3 = .ok (.iload 4, 2) := by decide +kernel
theorem dX6_plan_5 : decode cX6_plan 5 = .ok (.bipush 6, 2) := by decide +kernel
theorem dX6_plan_7 : decode cX6_plan 7 = .ok (.if_icmp .ge 48, 3) := by decide +kernel
theorem dX6_plan_10 : decode cX6_plan 10 = .ok (.aload_n 0, 1) := by decide +kernel
theorem dX6_plan_11 : decode cX6_plan 11 = .ok (.getfield 9, 3) := by decide +kernel
theorem dX6_plan_14 : decode cX6_plan 14 = .ok (.iload 4, 2) := by decide +kernel
theorem dX6_plan_16 : decode cX6_plan 16 = .ok (.aload_n 1, 1) := by decide +kernel
theorem dX6_plan_17 : decode cX6_plan 17 = .ok (.iload 4, 2) := by decide +kernel
theorem dX6_plan_19 : decode cX6_plan 19 = .ok (.aaload, 1) := by decide +kernel
theorem dX6_plan_20 : decode cX6_plan 20 = .ok (.aload_n 2, 1) := by decide +kernel
theorem dX6_plan_21 : decode cX6_plan 21 = .ok (.invokestatic 24, 3) := by decide +kernel
theorem dX6_plan_24 : decode cX6_plan 24 = .ok (.iastore, 1) := by decide +kernel
theorem dX6_plan_25 : decode cX6_plan 25 = .ok (.aload_n 0, 1) := by decide +kernel
theorem dX6_plan_26 : decode cX6_plan 26 = .ok (.getfield 15, 3) := by decide +kernel
theorem dX6_plan_29 : decode cX6_plan 29 = .ok (.iload 4, 2) := by decide +kernel
theorem dX6_plan_31 : decode cX6_plan 31 = .ok (.iconst (-1), 1) := by decide +kernel
theorem dX6_plan_32 : decode cX6_plan 32 = .ok (.iastore, 1) := by decide +kernel
theorem dX6_plan_33 : decode cX6_plan 33 = .ok (.aload_n 0, 1) := by decide +kernel
theorem dX6_plan_34 : decode cX6_plan 34 = .ok (.getfield 18, 3) := by decide +kernel
theorem dX6_plan_37 : decode cX6_plan 37 = .ok (.iload 4, 2) := by decide +kernel
theorem dX6_plan_39 : decode cX6_plan 39 = .ok (.iconst 0, 1) := by decide +kernel
theorem dX6_plan_40 : decode cX6_plan 40 = .ok (.iastore, 1) := by decide +kernel
theorem dX6_plan_41 : decode cX6_plan 41 = .ok (.aload_n 0, 1) := by decide +kernel
theorem dX6_plan_42 : decode cX6_plan 42 = .ok (.getfield 21, 3) := by decide +kernel
theorem dX6_plan_45 : decode cX6_plan 45 = .ok (.iload 4, 2) := by decide +kernel
theorem dX6_plan_47 : decode cX6_plan 47 = .ok (.iconst 0, 1) := by decide +kernel
theorem dX6_plan_48 : decode cX6_plan 48 = .ok (.iastore, 1) := by decide +kernel
theorem dX6_plan_49 : decode cX6_plan 49 = .ok (.iinc 4 1, 3) := by decide +kernel
theorem dX6_plan_52 : decode cX6_plan 52 = .ok (.goto (-49), 3) := by decide +kernel
theorem dX6_plan_55 : decode cX6_plan 55 = .ok (.iconst 0, 1) := by decide +kernel
theorem dX6_plan_56 : decode cX6_plan 56 = .ok (.istore 4, 2) := by decide +kernel
theorem dX6_plan_58 : decode cX6_plan 58 = .ok (.iconst 0, 1) := by decide +kernel
theorem dX6_plan_59 : decode cX6_plan 59 = .ok (.istore 5, 2) := by decide +kernel
theorem dX6_plan_61 : decode cX6_plan 61 = .ok (.iload 5, 2) := by decide +kernel
theorem dX6_plan_63 : decode cX6_plan 63 = .ok (.bipush 6, 2) := by decide +kernel
theorem dX6_plan_65 : decode cX6_plan 65 = .ok (.if_icmp .ge 24, 3) := by decide +kernel
theorem dX6_plan_68 : decode cX6_plan 68 = .ok (.iload 4, 2) := by decide +kernel
theorem dX6_plan_70 : decode cX6_plan 70 = .ok (.ifCond .ne 19, 3) := by decide +kernel
theorem dX6_plan_73 : decode cX6_plan 73 = .ok (.aload_n 0, 1) := by decide +kernel
theorem dX6_plan_74 : decode cX6_plan 74 = .ok (.iconst 0, 1) := by decide +kernel
theorem dX6_plan_75 : decode cX6_plan 75 = .ok (.iload 5, 2) := by decide +kernel
theorem dX6_plan_77 : decode cX6_plan 77 = .ok (.iload_n 3, 1) := by decide +kernel
theorem dX6_plan_78 : decode cX6_plan 78 = .ok (.invokestatic 28, 3) := by decide +kernel
theorem dX6_plan_81 : decode cX6_plan 81 = .ok (.istore 4, 2) := by decide +kernel
theorem dX6_plan_83 : decode cX6_plan 83 = .ok (.iinc 5 1, 3) := by decide +kernel
theorem dX6_plan_86 : decode cX6_plan 86 = .ok (.goto (-25), 3) := by decide +kernel
theorem dX6_plan_89 : decode cX6_plan 89 = .ok (.return_, 1) := by decide +kernel
theorem dX6_lastHour_0 : decode cX6_lastHour 0 = .ok (.iconst (-1), 1) := by decide +kernel
theorem dX6_lastHour_1 : decode cX6_lastHour 1 = .ok (.istore_n 1, 1) := by decide +kernel
theorem dX6_lastHour_2 : decode cX6_lastHour 2 = .ok (.iconst 0, 1) := by decide +kernel
theorem dX6_lastHour_3 : decode cX6_lastHour 3 = .ok (.istore_n 2, 1) := by decide +kernel
theorem dX6_lastHour_4 : decode cX6_lastHour 4 = .ok (.iload_n 2, 1) := by decide +kernel
theorem dX6_lastHour_5 : decode cX6_lastHour 5 = .ok (.bipush 6, 2) := by decide +kernel
theorem dX6_lastHour_7 : decode cX6_lastHour 7 = .ok (.if_icmp .ge 20, 3) := by decide +kernel
theorem dX6_lastHour_10 : decode cX6_lastHour 10 = .ok (.iload_n 1, 1) := by decide +kernel
theorem dX6_lastHour_11 : decode cX6_lastHour 11 = .ok (.aload_n 0, 1) := by decide +kernel
theorem dX6_lastHour_12 : decode cX6_lastHour 12 = .ok (.getfield 15, 3) := by decide +kernel
theorem dX6_lastHour_15 : decode cX6_lastHour 15 = .ok (.iload_n 2, 1) := by decide +kernel
theorem dX6_lastHour_16 : decode cX6_lastHour 16 = .ok (.iaload, 1) := by decide +kernel
theorem dX6_lastHour_17 : decode cX6_lastHour 17 = .ok (.invokestatic 32, 3) := by decide +kernel
theorem dX6_lastHour_20 : decode cX6_lastHour 20 = .ok (.istore_n 1, 1) := by decide +kernel
theorem dX6_lastHour_21 : decode cX6_lastHour 21 = .ok (.iinc 2 1, 3) := by decide +kernel
theorem dX6_lastHour_24 : decode cX6_lastHour 24 = .ok (.goto (-20), 3) := by decide +kernel
theorem dX6_lastHour_27 : decode cX6_lastHour 27 = .ok (.iload_n 1, 1) := by decide +kernel
theorem dX6_lastHour_28 : decode cX6_lastHour 28 = .ok (.ireturn, 1) := by decide +kernel
theorem dX6_handlersOf_0 : decode cX6_handlersOf 0 = .ok (.iconst 0, 1) := by decide +kernel
theorem dX6_handlersOf_1 : decode cX6_handlersOf 1 = .ok (.istore_n 2, 1) := by decide +kernel
theorem dX6_handlersOf_2 : decode cX6_handlersOf 2 = .ok (.iconst 0, 1) := by decide +kernel
theorem dX6_handlersOf_3 : decode cX6_handlersOf 3 = .ok (.istore_n 3, 1) := by decide +kernel
theorem dX6_handlersOf_4 : decode cX6_handlersOf 4 = .ok (.iload_n 3, 1) := by decide +kernel
theorem dX6_handlersOf_5 : decode cX6_handlersOf 5 = .ok (.aload_n 0, 1) := by decide +kernel
theorem dX6_handlersOf_6 : decode cX6_handlersOf 6 = .ok (.getfield 38, 3) := by decide +kernel
theorem dX6_handlersOf_9 : decode cX6_handlersOf 9 = .ok (.if_icmp .ge 25, 3) := by decide +kernel
theorem dX6_handlersOf_12 : decode cX6_handlersOf 12 = .ok (.iload_n 2, 1) := by decide +kernel
theorem dX6_handlersOf_13 : decode cX6_handlersOf 13 = .ok (.iconst 1, 1) := by decide +kernel
theorem dX6_handlersOf_14 : decode cX6_handlersOf 14 = .ok (.aload_n 1, 1) := by decide +kernel
theorem dX6_handlersOf_15 : decode cX6_handlersOf 15 = .ok (.aload_n 0, 1) := by decide +kernel
theorem dX6_handlersOf_16 : decode cX6_handlersOf 16 = .ok (.getfield 44, 3) := by decide +kernel
theorem dX6_handlersOf_19 : decode cX6_handlersOf 19 = .ok (.iload_n 3, 1) := by decide +kernel
theorem dX6_handlersOf_20 : decode cX6_handlersOf 20 = .ok (.iaload, 1) := by decide +kernel
theorem dX6_handlersOf_21 : decode cX6_handlersOf 21 = .ok (.aaload, 1) := by decide +kernel
theorem dX6_handlersOf_22 : decode cX6_handlersOf 22 = .ok (.getfield 47, 3) := by decide +kernel
theorem dX6_handlersOf_25 : decode cX6_handlersOf 25 = .ok (.ishl, 1) := by decide +kernel
theorem dX6_handlersOf_26 : decode cX6_handlersOf 26 = .ok (.ior, 1) := by decide +kernel
theorem dX6_handlersOf_27 : decode cX6_handlersOf 27 = .ok (.istore_n 2, 1) := by decide +kernel
theorem dX6_handlersOf_28 : decode cX6_handlersOf 28 = .ok (.iinc 3 1, 3) := by decide +kernel
theorem dX6_handlersOf_31 : decode cX6_handlersOf 31 = .ok (.goto (-27), 3) := by decide +kernel
theorem dX6_handlersOf_34 : decode cX6_handlersOf 34 = .ok (.iload_n 2, 1) := by decide +kernel
theorem dX6_handlersOf_35 : decode cX6_handlersOf 35 = .ok (.ireturn, 1) := by decide +kernel
theorem dX6_fitFrom_0 : decode cX6_fitFrom 0 = .ok (.iload_n 1, 1) := by decide +kernel
theorem dX6_fitFrom_1 : decode cX6_fitFrom 1 = .ok (.bipush 6, 2) := by decide +kernel
theorem dX6_fitFrom_3 : decode cX6_fitFrom 3 = .ok (.if_icmp .lt 5, 3) := by decide +kernel
theorem dX6_fitFrom_6 : decode cX6_fitFrom 6 = .ok (.iconst 1, 1) := by decide +kernel
theorem dX6_fitFrom_7 : decode cX6_fitFrom 7 = .ok (.ireturn, 1) := by decide +kernel
theorem dX6_fitFrom_8 : decode cX6_fitFrom 8 = .ok (.aload_n 0, 1) := by decide +kernel
theorem dX6_fitFrom_9 : decode cX6_fitFrom 9 = .ok (.getfield 9, 3) := by decide +kernel
theorem dX6_fitFrom_12 : decode cX6_fitFrom 12 = .ok (.iload_n 1, 1) := by decide +kernel
theorem dX6_fitFrom_13 : decode cX6_fitFrom 13 = .ok (.iaload, 1) := by decide +kernel
theorem dX6_fitFrom_14 : decode cX6_fitFrom 14 = .ok (.istore 4, 2) := by decide +kernel
theorem dX6_fitFrom_16 : decode cX6_fitFrom 16 = .ok (.iload 4, 2) := by decide +kernel
theorem dX6_fitFrom_18 : decode cX6_fitFrom 18 = .ok (.ifCond .ne 13, 3) := by decide +kernel
theorem dX6_fitFrom_21 : decode cX6_fitFrom 21 = .ok (.aload_n 0, 1) := by decide +kernel
theorem dX6_fitFrom_22 : decode cX6_fitFrom 22 = .ok (.iload_n 1, 1) := by decide +kernel
theorem dX6_fitFrom_23 : decode cX6_fitFrom 23 = .ok (.iconst 1, 1) := by decide +kernel
theorem dX6_fitFrom_24 : decode cX6_fitFrom 24 = .ok (.iadd, 1) := by decide +kernel
theorem dX6_fitFrom_25 : decode cX6_fitFrom 25 = .ok (.iload_n 2, 1) := by decide +kernel
theorem dX6_fitFrom_26 : decode cX6_fitFrom 26 = .ok (.iload_n 3, 1) := by decide +kernel
theorem dX6_fitFrom_27 : decode cX6_fitFrom 27 = .ok (.invokestatic 28, 3) := by decide +kernel
theorem dX6_fitFrom_30 : decode cX6_fitFrom 30 = .ok (.ireturn, 1) := by decide +kernel
theorem dX6_fitFrom_31 : decode cX6_fitFrom 31 = .ok (.iconst 0, 1) := by decide +kernel
theorem dX6_fitFrom_32 : decode cX6_fitFrom 32 = .ok (.istore 5, 2) := by decide +kernel
theorem dX6_fitFrom_34 : decode cX6_fitFrom 34 = .ok (.iload 5, 2) := by decide +kernel
theorem dX6_fitFrom_36 : decode cX6_fitFrom 36 = .ok (.iload_n 2, 1) := by decide +kernel
theorem dX6_fitFrom_37 : decode cX6_fitFrom 37 = .ok (.if_icmp .gt 103, 3) := by decide +kernel
theorem dX6_fitFrom_40 : decode cX6_fitFrom 40 = .ok (.aload_n 0, 1) := by decide +kernel
theorem dX6_fitFrom_41 : decode cX6_fitFrom 41 = .ok (.getfield 21, 3) := by decide +kernel
theorem dX6_fitFrom_44 : decode cX6_fitFrom 44 = .ok (.iload 5, 2) := by decide +kernel
theorem dX6_fitFrom_46 : decode cX6_fitFrom 46 = .ok (.iaload, 1) := by decide +kernel
theorem dX6_fitFrom_47 : decode cX6_fitFrom 47 = .ok (.iload_n 3, 1) := by decide +kernel
theorem dX6_fitFrom_48 : decode cX6_fitFrom 48 = .ok (.if_icmp .ge 86, 3) := by decide +kernel
theorem dX6_fitFrom_51 : decode cX6_fitFrom 51 = .ok (.aload_n 0, 1) := by decide +kernel
theorem dX6_fitFrom_52 : decode cX6_fitFrom 52 = .ok (.getfield 18, 3) := by decide +kernel
theorem dX6_fitFrom_55 : decode cX6_fitFrom 55 = .ok (.iload 5, 2) := by decide +kernel
theorem dX6_fitFrom_57 : decode cX6_fitFrom 57 = .ok (.iaload, 1) := by decide +kernel
theorem dX6_fitFrom_58 : decode cX6_fitFrom 58 = .ok (.iload 4, 2) := by decide +kernel
theorem dX6_fitFrom_60 : decode cX6_fitFrom 60 = .ok (.iand, 1) := by decide +kernel
theorem dX6_fitFrom_61 : decode cX6_fitFrom 61 = .ok (.ifCond .ne 73, 3) := by decide +kernel
theorem dX6_fitFrom_64 : decode cX6_fitFrom 64 = .ok (.aload_n 0, 1) := by decide +kernel
theorem dX6_fitFrom_65 : decode cX6_fitFrom 65 = .ok (.getfield 15, 3) := by decide +kernel
theorem dX6_fitFrom_68 : decode cX6_fitFrom 68 = .ok (.iload_n 1, 1) := by decide +kernel
theorem dX6_fitFrom_69 : decode cX6_fitFrom 69 = .ok (.iload 5, 2) := by decide +kernel
theorem dX6_fitFrom_71 : decode cX6_fitFrom 71 = .ok (.iastore, 1) := by decide +kernel
theorem dX6_fitFrom_72 : decode cX6_fitFrom 72 = .ok (.aload_n 0, 1) := by decide +kernel
theorem dX6_fitFrom_73 : decode cX6_fitFrom 73 = .ok (.getfield 21, 3) := by decide +kernel
theorem dX6_fitFrom_76 : decode cX6_fitFrom 76 = .ok (.iload 5, 2) := by decide +kernel
theorem dX6_fitFrom_78 : decode cX6_fitFrom 78 = .ok (.dup2, 1) := by decide +kernel
theorem dX6_fitFrom_79 : decode cX6_fitFrom 79 = .ok (.iaload, 1) := by decide +kernel
theorem dX6_fitFrom_80 : decode cX6_fitFrom 80 = .ok (.iconst 1, 1) := by decide +kernel
theorem dX6_fitFrom_81 : decode cX6_fitFrom 81 = .ok (.iadd, 1) := by decide +kernel
theorem dX6_fitFrom_82 : decode cX6_fitFrom 82 = .ok (.iastore, 1) := by decide +kernel
theorem dX6_fitFrom_83 : decode cX6_fitFrom 83 = .ok (.aload_n 0, 1) := by decide +kernel
theorem dX6_fitFrom_84 : decode cX6_fitFrom 84 = .ok (.getfield 18, 3) := by decide +kernel
theorem dX6_fitFrom_87 : decode cX6_fitFrom 87 = .ok (.iload 5, 2) := by decide +kernel
theorem dX6_fitFrom_89 : decode cX6_fitFrom 89 = .ok (.dup2, 1) := by decide +kernel
theorem dX6_fitFrom_90 : decode cX6_fitFrom 90 = .ok (.iaload, 1) := by decide +kernel
theorem dX6_fitFrom_91 : decode cX6_fitFrom 91 = .ok (.iload 4, 2) := by decide +kernel
theorem dX6_fitFrom_93 : decode cX6_fitFrom 93 = .ok (.ior, 1) := by decide +kernel
theorem dX6_fitFrom_94 : decode cX6_fitFrom 94 = .ok (.iastore, 1) := by decide +kernel
theorem dX6_fitFrom_95 : decode cX6_fitFrom 95 = .ok (.aload_n 0, 1) := by decide +kernel
theorem dX6_fitFrom_96 : decode cX6_fitFrom 96 = .ok (.iload_n 1, 1) := by decide +kernel
theorem dX6_fitFrom_97 : decode cX6_fitFrom 97 = .ok (.iconst 1, 1) := by decide +kernel
theorem dX6_fitFrom_98 : decode cX6_fitFrom 98 = .ok (.iadd, 1) := by decide +kernel
theorem dX6_fitFrom_99 : decode cX6_fitFrom 99 = .ok (.iload_n 2, 1) := by decide +kernel
theorem dX6_fitFrom_100 : decode cX6_fitFrom 100 = .ok (.iload_n 3, 1) := by decide +kernel
theorem dX6_fitFrom_101 : decode cX6_fitFrom 101 = .ok (.invokestatic 28, 3) := by decide +kernel
theorem dX6_fitFrom_104 : decode cX6_fitFrom 104 = .ok (.ifCond .eq 5, 3) := by decide +kernel
theorem dX6_fitFrom_107 : decode cX6_fitFrom 107 = .ok (.iconst 1, 1) := by decide +kernel
theorem dX6_fitFrom_108 : decode cX6_fitFrom 108 = .ok (.ireturn, 1) := by decide +kernel
theorem dX6_fitFrom_109 : decode cX6_fitFrom 109 = .ok (.aload_n 0, 1) := by decide +kernel
theorem dX6_fitFrom_110 : decode cX6_fitFrom 110 = .ok (.getfield 21, 3) := by decide +kernel
theorem dX6_fitFrom_113 : decode cX6_fitFrom 113 = .ok (.iload 5, 2) := by decide +kernel
theorem dX6_fitFrom_115 : decode cX6_fitFrom 115 = .ok (.dup2, 1) := by decide +kernel
theorem dX6_fitFrom_116 : decode cX6_fitFrom 116 = .ok (.iaload, 1) := by decide +kernel
theorem dX6_fitFrom_117 : decode cX6_fitFrom 117 = .ok (.iconst 1, 1) := by decide +kernel
theorem dX6_fitFrom_118 : decode cX6_fitFrom 118 = .ok (.isub, 1) := by decide +kernel
theorem dX6_fitFrom_119 : decode cX6_fitFrom 119 = .ok (.iastore, 1) := by decide +kernel
theorem dX6_fitFrom_120 : decode cX6_fitFrom 120 = .ok (.aload_n 0, 1) := by decide +kernel
theorem dX6_fitFrom_121 : decode cX6_fitFrom 121 = .ok (.getfield 18, 3) := by decide +kernel
theorem dX6_fitFrom_124 : decode cX6_fitFrom 124 = .ok (.iload 5, 2) := by decide +kernel
theorem dX6_fitFrom_126 : decode cX6_fitFrom 126 = .ok (.dup2, 1) := by decide +kernel
theorem dX6_fitFrom_127 : decode cX6_fitFrom 127 = .ok (.iaload, 1) := by decide +kernel
theorem dX6_fitFrom_128 : decode cX6_fitFrom 128 = .ok (.iload 4, 2) := by decide +kernel
theorem dX6_fitFrom_130 : decode cX6_fitFrom 130 = .ok (.iconst (-1), 1) := by decide +kernel
theorem dX6_fitFrom_131 : decode cX6_fitFrom 131 = .ok (.ixor, 1) := by decide +kernel
theorem dX6_fitFrom_132 : decode cX6_fitFrom 132 = .ok (.iand, 1) := by decide +kernel
theorem dX6_fitFrom_133 : decode cX6_fitFrom 133 = .ok (.iastore, 1) := by decide +kernel
theorem dX6_fitFrom_134 : decode cX6_fitFrom 134 = .ok (.iinc 5 1, 3) := by decide +kernel
theorem dX6_fitFrom_137 : decode cX6_fitFrom 137 = .ok (.goto (-103), 3) := by decide +kernel
theorem dX6_fitFrom_140 : decode cX6_fitFrom 140 = .ok (.iconst 0, 1) := by decide +kernel
theorem dX6_fitFrom_141 : decode cX6_fitFrom 141 = .ok (.ireturn, 1) := by decide +kernel
theorem dX7_init_0 : decode cX7_init 0 = .ok (.aload_n 0, 1) := by decide +kernel
theorem dX7_init_1 : decode cX7_init 1 = .ok (.invokespecial 1, 3) := by decide +kernel
theorem dX7_init_4 : decode cX7_init 4 = .ok (.aload_n 0, 1) := by decide +kernel
theorem dX7_init_5 : decode cX7_init 5 = .ok (.new 7, 3) := by decide +kernel
theorem dX7_init_8 : decode cX7_init 8 = .ok (.dup, 1) := by decide +kernel
theorem dX7_init_9 : decode cX7_init 9 = .ok (.invokespecial 9, 3) := by decide +kernel
theorem dX7_init_12 : decode cX7_init 12 = .ok (.putfield 10, 3) := by decide +kernel
theorem dX7_init_15 : decode cX7_init 15 = .ok (.aload_n 0, 1) := by decide +kernel
theorem dX7_init_16 : decode cX7_init 16 = .ok (.bipush 20, 2) := by decide +kernel
theorem dX7_init_18 : decode cX7_init 18 = .ok (.anewarray 16, 3) := by decide +kernel
theorem dX7_init_21 : decode cX7_init 21 = .ok (.putfield 18, 3) := by decide +kernel
theorem dX7_init_24 : decode cX7_init 24 = .ok (.aload_n 0, 1) := by decide +kernel
theorem dX7_init_25 : decode cX7_init 25 = .ok (.bipush 6, 2) := by decide +kernel
theorem dX7_init_27 : decode cX7_init 27 = .ok (.anewarray 22, 3) := by decide +kernel
theorem dX7_init_30 : decode cX7_init 30 = .ok (.putfield 24, 3) := by decide +kernel
theorem dX7_init_33 : decode cX7_init 33 = .ok (.aload_n 0, 1) := by decide +kernel
theorem dX7_init_34 : decode cX7_init 34 = .ok (.bipush 6, 2) := by decide +kernel
theorem dX7_init_36 : decode cX7_init 36 = .ok (.newarray .int, 2) := by decide +kernel
theorem dX7_init_38 : decode cX7_init 38 = .ok (.putfield 28, 3) := by decide +kernel
theorem dX7_init_41 : decode cX7_init 41 = .ok (.aload_n 0, 1) := by decide +kernel
theorem dX7_init_42 : decode cX7_init 42 = .ok (.new 32, 3) := by decide +kernel
theorem dX7_init_45 : decode cX7_init 45 = .ok (.dup, 1) := by decide +kernel
theorem dX7_init_46 : decode cX7_init 46 = .ok (.invokespecial 34, 3) := by decide +kernel
theorem dX7_init_49 : decode cX7_init 49 = .ok (.putfield 35, 3) := by decide +kernel
theorem dX7_init_52 : decode cX7_init 52 = .ok (.aload_n 0, 1) := by decide +kernel
theorem dX7_init_53 : decode cX7_init 53 = .ok (.new 39, 3) := by decide +kernel
theorem dX7_init_56 : decode cX7_init 56 = .ok (.dup, 1) := by decide +kernel
theorem dX7_init_57 : decode cX7_init 57 = .ok (.invokespecial 41, 3) := by decide +kernel
theorem dX7_init_60 : decode cX7_init 60 = .ok (.putfield 42, 3) := by decide +kernel
theorem dX7_init_63 : decode cX7_init 63 = .ok (.aload_n 0, 1) := by decide +kernel
theorem dX7_init_64 : decode cX7_init 64 = .ok (.new 46, 3) := by decide +kernel
theorem dX7_init_67 : decode cX7_init 67 = .ok (.dup, 1) := by decide +kernel
theorem dX7_init_68 : decode cX7_init 68 = .ok (.invokespecial 48, 3) := by decide +kernel
theorem dX7_init_71 : decode cX7_init 71 = .ok (.putfield 49, 3) := by decide +kernel
theorem dX7_init_74 : decode cX7_init 74 = .ok (.aload_n 0, 1) := by decide +kernel
theorem dX7_init_75 : decode cX7_init 75 = .ok (.new 53, 3) := by decide +kernel
theorem dX7_init_78 : decode cX7_init 78 = .ok (.dup, 1) := by decide +kernel
theorem dX7_init_79 : decode cX7_init 79 = .ok (.invokespecial 55, 3) := by decide +kernel
theorem dX7_init_82 : decode cX7_init 82 = .ok (.putfield 56, 3) := by decide +kernel
theorem dX7_init_85 : decode cX7_init 85 = .ok (.aload_n 0, 1) := by decide +kernel
theorem dX7_init_86 : decode cX7_init 86 = .ok (.iconst 0, 1) := by decide +kernel
theorem dX7_init_87 : decode cX7_init 87 = .ok (.putfield 60, 3) := by decide +kernel
theorem dX7_init_90 : decode cX7_init 90 = .ok (.aload_n 0, 1) := by decide +kernel
theorem dX7_init_91 : decode cX7_init 91 = .ok (.iconst 2, 1) := by decide +kernel
theorem dX7_init_92 : decode cX7_init 92 = .ok (.putfield 64, 3) := by decide +kernel
theorem dX7_init_95 : decode cX7_init 95 = .ok (.iconst 0, 1) := by decide +kernel
theorem dX7_init_96 : decode cX7_init 96 = .ok (.istore_n 1, 1) := by decide +kernel
theorem dX7_init_97 : decode cX7_init 97 = .ok (.iload_n 1, 1) := by decide +kernel
theorem dX7_init_98 : decode cX7_init 98 = .ok (.bipush 6, 2) := by decide +kernel
theorem dX7_init_100 : decode cX7_init 100 = .ok (.if_icmp .ge 22, 3) := by decide +kernel
theorem dX7_init_103 : decode cX7_init 103 = .ok (.aload_n 0, 1) := by decide +kernel
theorem dX7_init_104 : decode cX7_init 104 = .ok (.getfield 24, 3) := by decide +kernel
theorem dX7_init_107 : decode cX7_init 107 = .ok (.iload_n 1, 1) := by decide +kernel
theorem dX7_init_108 : decode cX7_init 108 = .ok (.new 22, 3) := by decide +kernel
theorem dX7_init_111 : decode cX7_init 111 = .ok (.dup, 1) := by decide +kernel
theorem dX7_init_112 : decode cX7_init 112 = .ok (.invokespecial 67, 3) := by decide +kernel
theorem dX7_init_115 : decode cX7_init 115 = .ok (.aastore, 1) := by decide +kernel
theorem dX7_init_116 : decode cX7_init 116 = .ok (.iinc 1 1, 3) := by decide +kernel
theorem dX7_init_119 : decode cX7_init 119 = .ok (.goto (-22), 3) := by decide +kernel
theorem dX7_init_122 : decode cX7_init 122 = .ok (.return_, 1) := by decide +kernel
theorem dX7_feed_0 : decode cX7_feed 0 = .ok (.aload_n 0, 1) := by decide +kernel
theorem dX7_feed_1 : decode cX7_feed 1 = .ok (.getfield 10, 3) := by decide +kernel
theorem dX7_feed_4 : decode cX7_feed 4 = .ok (.invokevirtual 68, 3) := by decide +kernel
theorem dX7_feed_7 : decode cX7_feed 7 = .ok (.ifCond .ne 5, 3) := by decide +kernel
theorem dX7_feed_10 : decode cX7_feed 10 = .ok (.iconst (-1), 1) := by decide +kernel
theorem dX7_feed_11 : decode cX7_feed 11 = .ok (.ireturn, 1) := by decide +kernel
theorem dX7_feed_12 : decode cX7_feed 12 = .ok (.aload_n 0, 1) := by decide +kernel
theorem dX7_feed_13 : decode cX7_feed 13 = .ok (.getfield 10, 3) := by decide +kernel
theorem dX7_feed_16 : decode cX7_feed 16 = .ok (.iload_n 1, 1) := by decide +kernel
theorem dX7_feed_17 : decode cX7_feed 17 = .ok (.invokevirtual 72, 3) := by decide +kernel
theorem dX7_feed_20 : decode cX7_feed 20 = .ok (.aload_n 0, 1) := by decide +kernel
theorem dX7_feed_21 : decode cX7_feed 21 = .ok (.getfield 10, 3) := by decide +kernel
theorem dX7_feed_24 : decode cX7_feed 24 = .ok (.iload_n 2, 1) := by decide +kernel
theorem dX7_feed_25 : decode cX7_feed 25 = .ok (.invokevirtual 72, 3) := by decide +kernel
theorem dX7_feed_28 : decode cX7_feed 28 = .ok (.aload_n 0, 1) := by decide +kernel
theorem dX7_feed_29 : decode cX7_feed 29 = .ok (.getfield 10, 3) := by decide +kernel
theorem dX7_feed_32 : decode cX7_feed 32 = .ok (.iload_n 3, 1) := by decide +kernel
theorem dX7_feed_33 : decode cX7_feed 33 = .ok (.invokevirtual 72, 3) := by decide +kernel
theorem dX7_feed_36 : decode cX7_feed 36 = .ok (.aload_n 0, 1) := by decide +kernel
theorem dX7_feed_37 : decode cX7_feed 37 = .ok (.getfield 10, 3) := by decide +kernel
theorem dX7_feed_40 : decode cX7_feed 40 = .ok (.iload 4, 2) := by decide +kernel
theorem dX7_feed_42 : decode cX7_feed 42 = .ok (.invokevirtual 72, 3) := by decide +kernel
theorem dX7_feed_45 : decode cX7_feed 45 = .ok (.aload_n 0, 1) := by decide +kernel
theorem dX7_feed_46 : decode cX7_feed 46 = .ok (.getfield 10, 3) := by decide +kernel
theorem dX7_feed_49 : decode cX7_feed 49 = .ok (.iload 5, 2) := by decide +kernel
theorem dX7_feed_51 : decode cX7_feed 51 = .ok (.invokevirtual 72, 3) := by decide +kernel
theorem dX7_feed_54 : decode cX7_feed 54 = .ok (.aload_n 0, 1) := by decide +kernel
theorem dX7_feed_55 : decode cX7_feed 55 = .ok (.getfield 10, 3) := by decide +kernel
theorem dX7_feed_58 : decode cX7_feed 58 = .ok (.invokevirtual 76, 3) := by decide +kernel
theorem dX7_feed_61 : decode cX7_feed 61 = .ok (.ireturn, 1) := by decide +kernel
theorem dX7_text_0 : decode cX7_text 0 = .ok (.aload_n 0, 1) := by decide +kernel
theorem dX7_text_1 : decode cX7_text 1 = .ok (.iload_n 1, 1) := by decide +kernel
theorem dX7_text_2 : decode cX7_text 2 = .ok (.invokevirtual 80, 3) := by decide +kernel
theorem dX7_text_5 : decode cX7_text 5 = .ok (.astore_n 3, 1) := by decide +kernel
theorem dX7_text_6 : decode cX7_text 6 = .ok (.aload_n 3, 1) := by decide +kernel
theorem dX7_text_7 : decode cX7_text 7 = .ok (.ifnull 14, 3) := by decide +kernel
theorem dX7_text_10 : decode cX7_text 10 = .ok (.aload_n 0, 1) := by decide +kernel
theorem dX7_text_11 : decode cX7_text 11 = .ok (.getfield 10, 3) := by decide +kernel
theorem dX7_text_14 : decode cX7_text 14 = .ok (.iload_n 2, 1) := by decide +kernel
theorem dX7_text_15 : decode cX7_text 15 = .ok (.invokevirtual 84, 3) := by decide +kernel
theorem dX7_text_18 : decode cX7_text 18 = .ok (.ifCond .ne 5, 3) := by decide +kernel
theorem dX7_text_21 : decode cX7_text 21 = .ok (.iconst (-1), 1) := by decide +kernel
theorem dX7_text_22 : decode cX7_text 22 = .ok (.ireturn, 1) := by decide +kernel
theorem dX7_text_23 : decode cX7_text 23 = .ok (.aload_n 0, 1) := by decide +kernel
theorem dX7_text_24 : decode cX7_text 24 = .ok (.getfield 10, 3) := by decide +kernel
theorem dX7_text_27 : decode cX7_text 27 = .ok (.iload_n 2, 1) := by decide +kernel
theorem dX7_text_28 : decode cX7_text 28 = .ok (.invokevirtual 88, 3) := by decide +kernel
theorem dX7_text_31 : decode cX7_text 31 = .ok (.aload_n 0, 1) := by decide +kernel
theorem dX7_text_32 : decode cX7_text 32 = .ok (.getfield 56, 3) := by decide +kernel
theorem dX7_text_35 : decode cX7_text 35 = .ok (.aload_n 0, 1) := by decide +kernel
theorem dX7_text_36 : decode cX7_text 36 = .ok (.getfield 10, 3) := by decide +kernel
theorem dX7_text_39 : decode cX7_text 39 = .ok (.invokevirtual 91, 3) := by decide +kernel
theorem dX7_text_42 : decode cX7_text 42 = .ok (.istore 4, 2) := by decide +kernel
theorem dX7_text_44 : decode cX7_text 44 = .ok (.aload_n 0, 1) := by decide +kernel
theorem dX7_text_45 : decode cX7_text 45 = .ok (.getfield 10, 3) := by decide +kernel
theorem dX7_text_48 : decode cX7_text 48 = .ok (.invokevirtual 95, 3) := by decide +kernel
theorem dX7_text_51 : decode cX7_text 51 = .ok (.iload 4, 2) := by decide +kernel
theorem dX7_text_53 : decode cX7_text 53 = .ok (.ifCond .ne 15, 3) := by decide +kernel
theorem dX7_text_56 : decode cX7_text 56 = .ok (.aload_n 0, 1) := by decide +kernel
theorem dX7_text_57 : decode cX7_text 57 = .ok (.aload_n 3, 1) := by decide +kernel
theorem dX7_text_58 : decode cX7_text 58 = .ok (.aload_n 0, 1) := by decide +kernel
theorem dX7_text_59 : decode cX7_text 59 = .ok (.getfield 56, 3) := by decide +kernel
theorem dX7_text_62 : decode cX7_text 62 = .ok (.invokevirtual 98, 3) := by decide +kernel
theorem dX7_text_65 : decode cX7_text 65 = .ok (.putfield 56, 3) := by decide +kernel
theorem dX7_text_68 : decode cX7_text 68 = .ok (.iload 4, 2) := by decide +kernel
theorem dX7_text_70 : decode cX7_text 70 = .ok (.ireturn, 1) := by decide +kernel
theorem dX7_beast_0 : decode cX7_beast 0 = .ok (.iload_n 1, 1) := by decide +kernel
theorem dX7_beast_1 : decode cX7_beast 1 = .ok (.iconst 4, 1) := by decide +kernel
theorem dX7_beast_2 : decode cX7_beast 2 = .ok (.invokestatic 102, 3) := by decide +kernel
theorem dX7_beast_5 : decode cX7_beast 5 = .ok (.ifCond .eq 41, 3) := by decide +kernel
theorem dX7_beast_8 : decode cX7_beast 8 = .ok (.iload_n 2, 1) := by decide +kernel
theorem dX7_beast_9 : decode cX7_beast 9 = .ok (.sipush 201, 3) := by decide +kernel
theorem dX7_beast_12 : decode cX7_beast 12 = .ok (.invokestatic 102, 3) := by decide +kernel
theorem dX7_beast_15 : decode cX7_beast 15 = .ok (.ifCond .eq 31, 3) := by decide +kernel
theorem dX7_beast_18 : decode cX7_beast 18 = .ok (.iload_n 3, 1) := by decide +kernel
theorem dX7_beast_19 : decode cX7_beast 19 = .ok (.bipush 10, 2) := by decide +kernel
theorem dX7_beast_21 : decode cX7_beast 21 = .ok (.invokestatic 102, 3) := by decide +kernel
theorem dX7_beast_24 : decode cX7_beast 24 = .ok (.ifCond .eq 22, 3) := by decide +kernel
theorem dX7_beast_27 : decode cX7_beast 27 = .ok (.iload 4, 2) := by decide +kernel
theorem dX7_beast_29 : decode cX7_beast 29 = .ok (.bipush 10, 2) := by decide +kernel
theorem dX7_beast_31 : decode cX7_beast 31 = .ok (.invokestatic 102, 3) := by decide +kernel
theorem dX7_beast_34 : decode cX7_beast 34 = .ok (.ifCond .eq 12, 3) := by decide +kernel
theorem dX7_beast_37 : decode cX7_beast 37 = .ok (.aload_n 0, 1) := by decide +kernel
theorem dX7_beast_38 : decode cX7_beast 38 = .ok (.getfield 60, 3) := by decide +kernel
theorem dX7_beast_41 : decode cX7_beast 41 = .ok (.bipush 20, 2) := by decide +kernel
theorem dX7_beast_43 : decode cX7_beast 43 = .ok (.if_icmp .lt 5, 3) := by decide +kernel
theorem dX7_beast_46 : decode cX7_beast 46 = .ok (.iconst (-1), 1) := by decide +kernel
theorem dX7_beast_47 : decode cX7_beast 47 = .ok (.ireturn, 1) := by decide +kernel
theorem dX7_beast_48 : decode cX7_beast 48 = .ok (.aload_n 0, 1) := by decide +kernel
theorem dX7_beast_49 : decode cX7_beast 49 = .ok (.getfield 18, 3) := by decide +kernel
theorem dX7_beast_52 : decode cX7_beast 52 = .ok (.aload_n 0, 1) := by decide +kernel
theorem dX7_beast_53 : decode cX7_beast 53 = .ok (.getfield 60, 3) := by decide +kernel
theorem dX7_beast_56 : decode cX7_beast 56 = .ok (.new 16, 3) := by decide +kernel
theorem dX7_beast_59 : decode cX7_beast 59 = .ok (.dup, 1) := by decide +kernel
theorem dX7_beast_60 : decode cX7_beast 60 = .ok (.iload_n 1, 1) := by decide +kernel
theorem dX7_beast_61 : decode cX7_beast 61 = .ok (.iload_n 2, 1) := by decide +kernel
theorem dX7_beast_62 : decode cX7_beast 62 = .ok (.iload_n 3, 1) := by decide +kernel
theorem dX7_beast_63 : decode cX7_beast 63 = .ok (.iload 4, 2) := by decide +kernel
theorem dX7_beast_65 : decode cX7_beast 65 = .ok (.invokespecial 106, 3) := by decide +kernel
theorem dX7_beast_68 : decode cX7_beast 68 = .ok (.aastore, 1) := by decide +kernel
theorem dX7_beast_69 : decode cX7_beast 69 = .ok (.aload_n 0, 1) := by decide +kernel
theorem dX7_beast_70 : decode cX7_beast 70 = .ok (.dup, 1) := by decide +kernel
theorem dX7_beast_71 : decode cX7_beast 71 = .ok (.getfield 60, 3) := by decide +kernel
theorem dX7_beast_74 : decode cX7_beast 74 = .ok (.iconst 1, 1) := by decide +kernel
theorem dX7_beast_75 : decode cX7_beast 75 = .ok (.iadd, 1) := by decide +kernel
theorem dX7_beast_76 : decode cX7_beast 76 = .ok (.putfield 60, 3) := by decide +kernel
theorem dX7_beast_79 : decode cX7_beast 79 = .ok (.aload_n 0, 1) := by decide +kernel
theorem dX7_beast_80 : decode cX7_beast 80 = .ok (.getfield 60, 3) := by decide +kernel
theorem dX7_beast_83 : decode cX7_beast 83 = .ok (.iconst 1, 1) := by decide +kernel
theorem dX7_beast_84 : decode cX7_beast 84 = .ok (.isub, 1) := by decide +kernel
theorem dX7_beast_85 : decode cX7_beast 85 = .ok (.ireturn, 1) := by decide +kernel
theorem dX7_measure_0 : decode cX7_measure 0 = .ok (.aload_n 0, 1) := by decide +kernel
theorem dX7_measure_1 : decode cX7_measure 1 = .ok (.iload_n 1, 1) := by decide +kernel
theorem dX7_measure_2 : decode cX7_measure 2 = .ok (.invokevirtual 109, 3) := by decide +kernel
theorem dX7_measure_5 : decode cX7_measure 5 = .ok (.astore 4, 2) := by decide +kernel
theorem dX7_measure_7 : decode cX7_measure 7 = .ok (.aload 4, 2) := by decide +kernel
theorem dX7_measure_9 : decode cX7_measure 9 = .ok (.ifnull 20, 3) := by decide +kernel
theorem dX7_measure_12 : decode cX7_measure 12 = .ok (.iload_n 2, 1) := by decide +kernel
theorem dX7_measure_13 : decode cX7_measure 13 = .ok (.iconst 3, 1) := by decide +kernel
theorem dX7_measure_14 : decode cX7_measure 14 = .ok (.invokestatic 102, 3) := by decide +kernel
theorem dX7_measure_17 : decode cX7_measure 17 = .ok (.ifCond .eq 12, 3) := by decide +kernel
theorem dX7_measure_20 : decode cX7_measure 20 = .ok (.iload_n 3, 1) := by decide +kernel
theorem dX7_measure_21 : decode cX7_measure 21 = .ok (.bipush 100, 2) := by decide +kernel
theorem dX7_measure_23 : decode cX7_measure 23 = .ok (.invokestatic 102, 3) := by decide +kernel
theorem dX7_measure_26 : decode cX7_measure 26 = .ok (.ifCond .ne 5, 3) := by decide +kernel
theorem dX7_measure_29 : decode cX7_measure 29 = .ok (.iconst 0, 1) := by decide +kernel
theorem dX7_measure_30 : decode cX7_measure 30 = .ok (.ireturn, 1) := by decide +kernel
theorem dX7_measure_31 : decode cX7_measure 31 = .ok (.aload 4, 2) := by decide +kernel
theorem dX7_measure_33 : decode cX7_measure 33 = .ok (.getfield 113, 3) := by decide +kernel
theorem dX7_measure_36 : decode cX7_measure 36 = .ok (.iload_n 2, 1) := by decide +kernel
theorem dX7_measure_37 : decode cX7_measure 37 = .ok (.iload_n 3, 1) := by decide +kernel
theorem dX7_measure_38 : decode cX7_measure 38 = .ok (.iastore, 1) := by decide +kernel
theorem dX7_measure_39 : decode cX7_measure 39 = .ok (.iconst 1, 1) := by decide +kernel
theorem dX7_measure_40 : decode cX7_measure 40 = .ok (.ireturn, 1) := by decide +kernel
theorem dX7_lets_0 : decode cX7_lets 0 = .ok (.aload_n 0, 1) := by decide +kernel
theorem dX7_lets_1 : decode cX7_lets 1 = .ok (.iload_n 1, 1) := by decide +kernel
theorem dX7_lets_2 : decode cX7_lets 2 = .ok (.invokevirtual 80, 3) := by decide +kernel
theorem dX7_lets_5 : decode cX7_lets 5 = .ok (.astore_n 3, 1) := by decide +kernel
theorem dX7_lets_6 : decode cX7_lets 6 = .ok (.aload_n 0, 1) := by decide +kernel
theorem dX7_lets_7 : decode cX7_lets 7 = .ok (.iload_n 2, 1) := by decide +kernel
theorem dX7_lets_8 : decode cX7_lets 8 = .ok (.invokevirtual 109, 3) := by decide +kernel
theorem dX7_lets_11 : decode cX7_lets 11 = .ok (.astore 4, 2) := by decide +kernel
theorem dX7_lets_13 : decode cX7_lets 13 = .ok (.aload_n 3, 1) := by decide +kernel
theorem dX7_lets_14 : decode cX7_lets 14 = .ok (.ifnull 8, 3) := by decide +kernel
theorem dX7_lets_17 : decode cX7_lets 17 = .ok (.aload 4, 2) := by decide +kernel
theorem dX7_lets_19 : decode cX7_lets 19 = .ok (.ifnonnull 5, 3) := by decide +kernel
theorem dX7_lets_22 : decode cX7_lets 22 = .ok (.iconst (-1), 1) := by decide +kernel
theorem dX7_lets_23 : decode cX7_lets 23 = .ok (.ireturn, 1) := by decide +kernel
theorem dX7_lets_24 : decode cX7_lets 24 = .ok (.aload_n 3, 1) := by decide +kernel
theorem dX7_lets_25 : decode cX7_lets 25 = .ok (.aload 4, 2) := by decide +kernel
theorem dX7_lets_27 : decode cX7_lets 27 = .ok (.invokevirtual 116, 3) := by decide +kernel
theorem dX7_lets_30 : decode cX7_lets 30 = .ok (.ifCond .eq 7, 3) := by decide +kernel
theorem dX7_lets_33 : decode cX7_lets 33 = .ok (.iconst 1, 1) := by decide +kernel
theorem dX7_lets_34 : decode cX7_lets 34 = .ok (.goto 4, 3) := by decide +kernel
theorem dX7_lets_37 : decode cX7_lets 37 = .ok (.iconst 0, 1) := by decide +kernel
theorem dX7_lets_38 : decode cX7_lets 38 = .ok (.ireturn, 1) := by decide +kernel
theorem dX7_enter_0 : decode cX7_enter 0 = .ok (.aload_n 0, 1) := by decide +kernel
theorem dX7_enter_1 : decode cX7_enter 1 = .ok (.iload_n 1, 1) := by decide +kernel
theorem dX7_enter_2 : decode cX7_enter 2 = .ok (.iload_n 2, 1) := by decide +kernel
theorem dX7_enter_3 : decode cX7_enter 3 = .ok (.invokevirtual 120, 3) := by decide +kernel
theorem dX7_enter_6 : decode cX7_enter 6 = .ok (.iconst 1, 1) := by decide +kernel
theorem dX7_enter_7 : decode cX7_enter 7 = .ok (.if_icmp .eq 5, 3) := by decide +kernel
theorem dX7_enter_10 : decode cX7_enter 10 = .ok (.iconst 0, 1) := by decide +kernel
theorem dX7_enter_11 : decode cX7_enter 11 = .ok (.ireturn, 1) := by decide +kernel
theorem dX7_enter_12 : decode cX7_enter 12 = .ok (.aload_n 0, 1) := by decide +kernel
theorem dX7_enter_13 : decode cX7_enter 13 = .ok (.getfield 24, 3) := by decide +kernel
theorem dX7_enter_16 : decode cX7_enter 16 = .ok (.iload_n 1, 1) := by decide +kernel
theorem dX7_enter_17 : decode cX7_enter 17 = .ok (.aaload, 1) := by decide +kernel
theorem dX7_enter_18 : decode cX7_enter 18 = .ok (.astore_n 3, 1) := by decide +kernel
theorem dX7_enter_19 : decode cX7_enter 19 = .ok (.aload_n 3, 1) := by decide +kernel
theorem dX7_enter_20 : decode cX7_enter 20 = .ok (.iload_n 2, 1) := by decide +kernel
theorem dX7_enter_21 : decode cX7_enter 21 = .ok (.invokevirtual 124, 3) := by decide +kernel
theorem dX7_enter_24 : decode cX7_enter 24 = .ok (.ifCond .ne 5, 3) := by decide +kernel
theorem dX7_enter_27 : decode cX7_enter 27 = .ok (.iconst 0, 1) := by decide +kernel
theorem dX7_enter_28 : decode cX7_enter 28 = .ok (.ireturn, 1) := by decide +kernel
theorem dX7_enter_29 : decode cX7_enter 29 = .ok (.aload_n 3, 1) := by decide +kernel
theorem dX7_enter_30 : decode cX7_enter 30 = .ok (.iload_n 2, 1) := by decide +kernel
theorem dX7_enter_31 : decode cX7_enter 31 = .ok (.invokevirtual 127, 3) := by decide +kernel
theorem dX7_enter_34 : decode cX7_enter 34 = .ok (.aload_n 0, 1) := by decide +kernel
theorem dX7_enter_35 : decode cX7_enter 35 = .ok (.getfield 35, 3) := by decide +kernel
theorem dX7_enter_38 : decode cX7_enter 38 = .ok (.aload_n 3, 1) := by decide +kernel
theorem dX7_enter_39 : decode cX7_enter 39 = .ok (.invokevirtual 130, 3) := by decide +kernel
theorem dX7_enter_42 : decode cX7_enter 42 = .ok (.iconst 1, 1) := by decide +kernel
theorem dX7_enter_43 : decode cX7_enter 43 = .ok (.ireturn, 1) := by decide +kernel
theorem dX7_protest_0 : decode cX7_protest 0 = .ok (.aload_n 0, 1) := by decide +kernel
theorem dX7_protest_1 : decode cX7_protest 1 = .ok (.iload_n 1, 1) := by decide +kernel
theorem dX7_protest_2 : decode cX7_protest 2 = .ok (.invokevirtual 80, 3) := by decide +kernel
theorem dX7_protest_5 : decode cX7_protest 5 = .ok (.astore_n 3, 1) := by decide +kernel
theorem dX7_protest_6 : decode cX7_protest 6 = .ok (.aload_n 3, 1) := by decide +kernel
theorem dX7_protest_7 : decode cX7_protest 7 = .ok (.ifnull 19, 3) := by decide +kernel
theorem dX7_protest_10 : decode cX7_protest 10 = .ok (.aload_n 0, 1) := by decide +kernel
theorem dX7_protest_11 : decode cX7_protest 11 = .ok (.iload_n 2, 1) := by decide +kernel
theorem dX7_protest_12 : decode cX7_protest 12 = .ok (.invokevirtual 109, 3) := by decide +kernel
theorem dX7_protest_15 : decode cX7_protest 15 = .ok (.ifnull 11, 3) := by decide +kernel
theorem dX7_protest_18 : decode cX7_protest 18 = .ok (.aload_n 3, 1) := by decide +kernel
theorem dX7_protest_19 : decode cX7_protest 19 = .ok (.iload_n 2, 1) := by decide +kernel
theorem dX7_protest_20 : decode cX7_protest 20 = .ok (.invokevirtual 134, 3) := by decide +kernel
theorem dX7_protest_23 : decode cX7_protest 23 = .ok (.ifCond .ne 5, 3) := by decide +kernel
theorem dX7_protest_26 : decode cX7_protest 26 = .ok (.iconst 0, 1) := by decide +kernel
theorem dX7_protest_27 : decode cX7_protest 27 = .ok (.ireturn, 1) := by decide +kernel
theorem dX7_protest_28 : decode cX7_protest 28 = .ok (.aload_n 3, 1) := by decide +kernel
theorem dX7_protest_29 : decode cX7_protest 29 = .ok (.iload_n 2, 1) := by decide +kernel
theorem dX7_protest_30 : decode cX7_protest 30 = .ok (.invokevirtual 137, 3) := by decide +kernel
theorem dX7_protest_33 : decode cX7_protest 33 = .ok (.aload_n 0, 1) := by decide +kernel
theorem dX7_protest_34 : decode cX7_protest 34 = .ok (.getfield 35, 3) := by decide +kernel
theorem dX7_protest_37 : decode cX7_protest 37 = .ok (.aload_n 3, 1) := by decide +kernel
theorem dX7_protest_38 : decode cX7_protest 38 = .ok (.invokevirtual 130, 3) := by decide +kernel
theorem dX7_protest_41 : decode cX7_protest 41 = .ok (.iconst 1, 1) := by decide +kernel
theorem dX7_protest_42 : decode cX7_protest 42 = .ok (.ireturn, 1) := by decide +kernel
theorem dX7_bar_0 : decode cX7_bar 0 = .ok (.iload_n 1, 1) := by decide +kernel
theorem dX7_bar_1 : decode cX7_bar 1 = .ok (.bipush 6, 2) := by decide +kernel
theorem dX7_bar_3 : decode cX7_bar 3 = .ok (.invokestatic 102, 3) := by decide +kernel
theorem dX7_bar_6 : decode cX7_bar 6 = .ok (.ifCond .eq 24, 3) := by decide +kernel
theorem dX7_bar_9 : decode cX7_bar 9 = .ok (.aload_n 0, 1) := by decide +kernel
theorem dX7_bar_10 : decode cX7_bar 10 = .ok (.iload_n 2, 1) := by decide +kernel
theorem dX7_bar_11 : decode cX7_bar 11 = .ok (.invokevirtual 109, 3) := by decide +kernel
theorem dX7_bar_14 : decode cX7_bar 14 = .ok (.ifnull 16, 3) := by decide +kernel
theorem dX7_bar_17 : decode cX7_bar 17 = .ok (.aload_n 0, 1) := by decide +kernel
theorem dX7_bar_18 : decode cX7_bar 18 = .ok (.getfield 28, 3) := by decide +kernel
theorem dX7_bar_21 : decode cX7_bar 21 = .ok (.iload_n 1, 1) := by decide +kernel
theorem dX7_bar_22 : decode cX7_bar 22 = .ok (.iaload, 1) := by decide +kernel
theorem dX7_bar_23 : decode cX7_bar 23 = .ok (.iconst 1, 1) := by decide +kernel
theorem dX7_bar_24 : decode cX7_bar 24 = .ok (.iload_n 2, 1) := by decide +kernel
theorem dX7_bar_25 : decode cX7_bar 25 = .ok (.ishl, 1) := by decide +kernel
theorem dX7_bar_26 : decode cX7_bar 26 = .ok (.iand, 1) := by decide +kernel
theorem dX7_bar_27 : decode cX7_bar 27 = .ok (.ifCond .eq 5, 3) := by decide +kernel
theorem dX7_bar_30 : decode cX7_bar 30 = .ok (.iconst 0, 1) := by decide +kernel
theorem dX7_bar_31 : decode cX7_bar 31 = .ok (.ireturn, 1) := by decide +kernel
theorem dX7_bar_32 : decode cX7_bar 32 = .ok (.aload_n 0, 1) := by decide +kernel
theorem dX7_bar_33 : decode cX7_bar 33 = .ok (.getfield 28, 3) := by decide +kernel
theorem dX7_bar_36 : decode cX7_bar 36 = .ok (.iload_n 1, 1) := by decide +kernel
theorem dX7_bar_37 : decode cX7_bar 37 = .ok (.dup2, 1) := by decide +kernel
theorem dX7_bar_38 : decode cX7_bar 38 = .ok (.iaload, 1) := by decide +kernel
theorem dX7_bar_39 : decode cX7_bar 39 = .ok (.iconst 1, 1) := by decide +kernel
theorem dX7_bar_40 : decode cX7_bar 40 = .ok (.iload_n 2, 1) := by decide +kernel
theorem dX7_bar_41 : decode cX7_bar 41 = .ok (.ishl, 1) := by decide +kernel
theorem dX7_bar_42 : decode cX7_bar 42 = .ok (.ior, 1) := by decide +kernel
theorem dX7_bar_43 : decode cX7_bar 43 = .ok (.iastore, 1) := by decide +kernel
theorem dX7_bar_44 : decode cX7_bar 44 = .ok (.iconst 1, 1) := by decide +kernel
theorem dX7_bar_45 : decode cX7_bar 45 = .ok (.ireturn, 1) := by decide +kernel
theorem dX7_order_0 : decode cX7_order 0 = .ok (.aload_n 0, 1) := by decide +kernel
theorem dX7_order_1 : decode cX7_order 1 = .ok (.iload_n 2, 1) := by decide +kernel
theorem dX7_order_2 : decode cX7_order 2 = .ok (.invokevirtual 80, 3) := by decide +kernel
theorem dX7_order_5 : decode cX7_order 5 = .ok (.astore_n 3, 1) := by decide +kernel
theorem dX7_order_6 : decode cX7_order 6 = .ok (.iload_n 1, 1) := by decide +kernel
theorem dX7_order_7 : decode cX7_order 7 = .ok (.bipush 6, 2) := by decide +kernel
theorem dX7_order_9 : decode cX7_order 9 = .ok (.invokestatic 102, 3) := by decide +kernel
theorem dX7_order_12 : decode cX7_order 12 = .ok (.ifCond .eq 28, 3) := by decide +kernel
theorem dX7_order_15 : decode cX7_order 15 = .ok (.aload_n 3, 1) := by decide +kernel
theorem dX7_order_16 : decode cX7_order 16 = .ok (.ifnull 24, 3) := by decide +kernel
theorem dX7_order_19 : decode cX7_order 19 = .ok (.aload_n 3, 1) := by decide +kernel
theorem dX7_order_20 : decode cX7_order 20 = .ok (.getfield 140, 3) := by decide +kernel
theorem dX7_order_23 : decode cX7_order 23 = .ok (.ifCond .eq 17, 3) := by decide +kernel
theorem dX7_order_26 : decode cX7_order 26 = .ok (.aload_n 0, 1) := by decide +kernel
theorem dX7_order_27 : decode cX7_order 27 = .ok (.getfield 10, 3) := by decide +kernel
theorem dX7_order_30 : decode cX7_order 30 = .ok (.aload_n 3, 1) := by decide +kernel
theorem dX7_order_31 : decode cX7_order 31 = .ok (.getfield 140, 3) := by decide +kernel
theorem dX7_order_34 : decode cX7_order 34 = .ok (.invokevirtual 84, 3) := by decide +kernel
theorem dX7_order_37 : decode cX7_order 37 = .ok (.ifCond .ne 5, 3) := by decide +kernel
theorem dX7_order_40 : decode cX7_order 40 = .ok (.iconst 0, 1) := by decide +kernel
theorem dX7_order_41 : decode cX7_order 41 = .ok (.ireturn, 1) := by decide +kernel
theorem dX7_order_42 : decode cX7_order 42 = .ok (.aload_n 0, 1) := by decide +kernel
theorem dX7_order_43 : decode cX7_order 43 = .ok (.getfield 28, 3) := by decide +kernel
theorem dX7_order_46 : decode cX7_order 46 = .ok (.iload_n 1, 1) := by decide +kernel
theorem dX7_order_47 : decode cX7_order 47 = .ok (.iaload, 1) := by decide +kernel
theorem dX7_order_48 : decode cX7_order 48 = .ok (.aload_n 3, 1) := by decide +kernel
theorem dX7_order_49 : decode cX7_order 49 = .ok (.getfield 143, 3) := by decide +kernel
theorem dX7_order_52 : decode cX7_order 52 = .ok (.iand, 1) := by decide +kernel
theorem dX7_order_53 : decode cX7_order 53 = .ok (.ifCond .ne 21, 3) := by decide +kernel
theorem dX7_order_56 : decode cX7_order 56 = .ok (.aload_n 0, 1) := by decide +kernel
theorem dX7_order_57 : decode cX7_order 57 = .ok (.getfield 10, 3) := by decide +kernel
theorem dX7_order_60 : decode cX7_order 60 = .ok (.aload_n 3, 1) := by decide +kernel
theorem dX7_order_61 : decode cX7_order 61 = .ok (.getfield 143, 3) := by decide +kernel
theorem dX7_order_64 : decode cX7_order 64 = .ok (.invokevirtual 146, 3) := by decide +kernel
theorem dX7_order_67 : decode cX7_order 67 = .ok (.ifCond .eq 7, 3) := by decide +kernel
theorem dX7_order_70 : decode cX7_order 70 = .ok (.iconst 1, 1) := by decide +kernel
theorem dX7_order_71 : decode cX7_order 71 = .ok (.goto 4, 3) := by decide +kernel
theorem dX7_order_74 : decode cX7_order 74 = .ok (.iconst 0, 1) := by decide +kernel
theorem dX7_order_75 : decode cX7_order 75 = .ok (.istore 4, 2) := by decide +kernel
theorem dX7_order_77 : decode cX7_order 77 = .ok (.iload 4, 2) := by decide +kernel
theorem dX7_order_79 : decode cX7_order 79 = .ok (.ifCond .eq 20, 3) := by decide +kernel
theorem dX7_order_82 : decode cX7_order 82 = .ok (.aload_n 3, 1) := by decide +kernel
theorem dX7_order_83 : decode cX7_order 83 = .ok (.iload_n 1, 1) := by decide +kernel
theorem dX7_order_84 : decode cX7_order 84 = .ok (.aload_n 0, 1) := by decide +kernel
theorem dX7_order_85 : decode cX7_order 85 = .ok (.getfield 10, 3) := by decide +kernel
theorem dX7_order_88 : decode cX7_order 88 = .ok (.invokevirtual 149, 3) := by decide +kernel
theorem dX7_order_91 : decode cX7_order 91 = .ok (.aload_n 0, 1) := by decide +kernel
theorem dX7_order_92 : decode cX7_order 92 = .ok (.getfield 35, 3) := by decide +kernel
theorem dX7_order_95 : decode cX7_order 95 = .ok (.aload_n 3, 1) := by decide +kernel
theorem dX7_order_96 : decode cX7_order 96 = .ok (.invokevirtual 130, 3) := by decide +kernel
theorem dX7_order_99 : decode cX7_order 99 = .ok (.aload_n 0, 1) := by decide +kernel
theorem dX7_order_100 : decode cX7_order 100 = .ok (.getfield 10, 3) := by decide +kernel
theorem dX7_order_103 : decode cX7_order 103 = .ok (.invokevirtual 95, 3) := by decide +kernel
theorem dX7_order_106 : decode cX7_order 106 = .ok (.iload 4, 2) := by decide +kernel
theorem dX7_order_108 : decode cX7_order 108 = .ok (.ireturn, 1) := by decide +kernel
theorem dX7_placed_0 : decode cX7_placed 0 = .ok (.aload_n 0, 1) := by decide +kernel
theorem dX7_placed_1 : decode cX7_placed 1 = .ok (.iload_n 1, 1) := by decide +kernel
theorem dX7_placed_2 : decode cX7_placed 2 = .ok (.invokevirtual 80, 3) := by decide +kernel
theorem dX7_placed_5 : decode cX7_placed 5 = .ok (.astore_n 3, 1) := by decide +kernel
theorem dX7_placed_6 : decode cX7_placed 6 = .ok (.aload_n 3, 1) := by decide +kernel
theorem dX7_placed_7 : decode cX7_placed 7 = .ok (.ifnull 16, 3) := by decide +kernel
theorem dX7_placed_10 : decode cX7_placed 10 = .ok (.iload_n 2, 1) := by decide +kernel
theorem dX7_placed_11 : decode cX7_placed 11 = .ok (.iconst 1, 1) := by decide +kernel
theorem dX7_placed_12 : decode cX7_placed 12 = .ok (.if_icmp .lt 11, 3) := by decide +kernel
theorem dX7_placed_15 : decode cX7_placed 15 = .ok (.iload_n 2, 1) := by decide +kernel
theorem dX7_placed_16 : decode cX7_placed 16 = .ok (.aload_n 3, 1) := by decide +kernel
theorem dX7_placed_17 : decode cX7_placed 17 = .ok (.getfield 140, 3) := by decide +kernel
theorem dX7_placed_20 : decode cX7_placed 20 = .ok (.if_icmp .le 5, 3) := by decide +kernel
theorem dX7_placed_23 : decode cX7_placed 23 = .ok (.iconst (-1), 1) := by decide +kernel
theorem dX7_placed_24 : decode cX7_placed 24 = .ok (.ireturn, 1) := by decide +kernel
theorem dX7_placed_25 : decode cX7_placed 25 = .ok (.aload_n 3, 1) := by decide +kernel
theorem dX7_placed_26 : decode cX7_placed 26 = .ok (.getfield 153, 3) := by decide +kernel
theorem dX7_placed_29 : decode cX7_placed 29 = .ok (.iload_n 2, 1) := by decide +kernel
theorem dX7_placed_30 : decode cX7_placed 30 = .ok (.iconst 1, 1) := by decide +kernel
theorem dX7_placed_31 : decode cX7_placed 31 = .ok (.isub, 1) := by decide +kernel
theorem dX7_placed_32 : decode cX7_placed 32 = .ok (.iaload, 1) := by decide +kernel
theorem dX7_placed_33 : decode cX7_placed 33 = .ok (.ireturn, 1) := by decide +kernel
theorem dX7_swaps_0 : decode cX7_swaps 0 = .ok (.aload_n 0, 1) := by decide +kernel
theorem dX7_swaps_1 : decode cX7_swaps 1 = .ok (.iload_n 1, 1) := by decide +kernel
theorem dX7_swaps_2 : decode cX7_swaps 2 = .ok (.invokevirtual 80, 3) := by decide +kernel
theorem dX7_swaps_5 : decode cX7_swaps 5 = .ok (.astore_n 2, 1) := by decide +kernel
theorem dX7_swaps_6 : decode cX7_swaps 6 = .ok (.aload_n 2, 1) := by decide +kernel
theorem dX7_swaps_7 : decode cX7_swaps 7 = .ok (.ifnonnull 7, 3) := by decide +kernel
theorem dX7_swaps_10 : decode cX7_swaps 10 = .ok (.iconst (-1), 1) := by decide +kernel
theorem dX7_swaps_11 : decode cX7_swaps 11 = .ok (.goto 7, 3) := by decide +kernel
theorem dX7_swaps_14 : decode cX7_swaps 14 = .ok (.aload_n 2, 1) := by decide +kernel
theorem dX7_swaps_15 : decode cX7_swaps 15 = .ok (.getfield 156, 3) := by decide +kernel
theorem dX7_swaps_18 : decode cX7_swaps 18 = .ok (.ireturn, 1) := by decide +kernel
theorem dX7_ring_0 : decode cX7_ring 0 = .ok (.aload_n 0, 1) := by decide +kernel
theorem dX7_ring_1 : decode cX7_ring 1 = .ok (.iload_n 1, 1) := by decide +kernel
theorem dX7_ring_2 : decode cX7_ring 2 = .ok (.invokevirtual 80, 3) := by decide +kernel
theorem dX7_ring_5 : decode cX7_ring 5 = .ok (.astore_n 3, 1) := by decide +kernel
theorem dX7_ring_6 : decode cX7_ring 6 = .ok (.aload_n 3, 1) := by decide +kernel
theorem dX7_ring_7 : decode cX7_ring 7 = .ok (.ifnull 11, 3) := by decide +kernel
theorem dX7_ring_10 : decode cX7_ring 10 = .ok (.iload_n 2, 1) := by decide +kernel
theorem dX7_ring_11 : decode cX7_ring 11 = .ok (.iconst 3, 1) := by decide +kernel
theorem dX7_ring_12 : decode cX7_ring 12 = .ok (.invokestatic 102, 3) := by decide +kernel
theorem dX7_ring_15 : decode cX7_ring 15 = .ok (.ifCond .ne 5, 3) := by decide +kernel
theorem dX7_ring_18 : decode cX7_ring 18 = .ok (.iconst (-1), 1) := by decide +kernel
theorem dX7_ring_19 : decode cX7_ring 19 = .ok (.ireturn, 1) := by decide +kernel
theorem dX7_ring_20 : decode cX7_ring 20 = .ok (.aload_n 0, 1) := by decide +kernel
theorem dX7_ring_21 : decode cX7_ring 21 = .ok (.getfield 35, 3) := by decide +kernel
theorem dX7_ring_24 : decode cX7_ring 24 = .ok (.aload_n 3, 1) := by decide +kernel
theorem dX7_ring_25 : decode cX7_ring 25 = .ok (.iload_n 2, 1) := by decide +kernel
theorem dX7_ring_26 : decode cX7_ring 26 = .ok (.invokevirtual 159, 3) := by decide +kernel
theorem dX7_ring_29 : decode cX7_ring 29 = .ok (.ireturn, 1) := by decide +kernel
theorem dX7_cut_0 : decode cX7_cut 0 = .ok (.aload_n 0, 1) := by decide +kernel
theorem dX7_cut_1 : decode cX7_cut 1 = .ok (.iload_n 1, 1) := by decide +kernel
theorem dX7_cut_2 : decode cX7_cut 2 = .ok (.invokevirtual 80, 3) := by decide +kernel
theorem dX7_cut_5 : decode cX7_cut 5 = .ok (.astore 4, 2) := by decide +kernel
theorem dX7_cut_7 : decode cX7_cut 7 = .ok (.aload 4, 2) := by decide +kernel
theorem dX7_cut_9 : decode cX7_cut 9 = .ok (.ifnull 22, 3) := by decide +kernel
theorem dX7_cut_12 : decode cX7_cut 12 = .ok (.iload_n 2, 1) := by decide +kernel
theorem dX7_cut_13 : decode cX7_cut 13 = .ok (.iconst 1, 1) := by decide +kernel
theorem dX7_cut_14 : decode cX7_cut 14 = .ok (.if_icmp .lt 17, 3) := by decide +kernel
theorem dX7_cut_17 : decode cX7_cut 17 = .ok (.iload_n 2, 1) := by decide +kernel
theorem dX7_cut_18 : decode cX7_cut 18 = .ok (.iconst 3, 1) := by decide +kernel
theorem dX7_cut_19 : decode cX7_cut 19 = .ok (.if_icmp .gt 12, 3) := by decide +kernel
theorem dX7_cut_22 : decode cX7_cut 22 = .ok (.iload_n 3, 1) := by decide +kernel
theorem dX7_cut_23 : decode cX7_cut 23 = .ok (.bipush 16, 2) := by decide +kernel
theorem dX7_cut_25 : decode cX7_cut 25 = .ok (.invokestatic 102, 3) := by decide +kernel
theorem dX7_cut_28 : decode cX7_cut 28 = .ok (.ifCond .ne 5, 3) := by decide +kernel
theorem dX7_cut_31 : decode cX7_cut 31 = .ok (.iconst 0, 1) := by decide +kernel
theorem dX7_cut_32 : decode cX7_cut 32 = .ok (.ireturn, 1) := by decide +kernel
theorem dX7_cut_33 : decode cX7_cut 33 = .ok (.aload 4, 2) := by decide +kernel
theorem dX7_cut_35 : decode cX7_cut 35 = .ok (.getfield 163, 3) := by decide +kernel
theorem dX7_cut_38 : decode cX7_cut 38 = .ok (.iload_n 2, 1) := by decide +kernel
theorem dX7_cut_39 : decode cX7_cut 39 = .ok (.iconst 1, 1) := by decide +kernel
theorem dX7_cut_40 : decode cX7_cut 40 = .ok (.isub, 1) := by decide +kernel
theorem dX7_cut_41 : decode cX7_cut 41 = .ok (.iload_n 3, 1) := by decide +kernel
theorem dX7_cut_42 : decode cX7_cut 42 = .ok (.iastore, 1) := by decide +kernel
theorem dX7_cut_43 : decode cX7_cut 43 = .ok (.iconst 1, 1) := by decide +kernel
theorem dX7_cut_44 : decode cX7_cut 44 = .ok (.ireturn, 1) := by decide +kernel
theorem dX7_card_0 : decode cX7_card 0 = .ok (.aload_n 0, 1) := by decide +kernel
theorem dX7_card_1 : decode cX7_card 1 = .ok (.iload_n 1, 1) := by decide +kernel
theorem dX7_card_2 : decode cX7_card 2 = .ok (.invokevirtual 80, 3) := by decide +kernel
theorem dX7_card_5 : decode cX7_card 5 = .ok (.astore_n 2, 1) := by decide +kernel
theorem dX7_card_6 : decode cX7_card 6 = .ok (.aload_n 2, 1) := by decide +kernel
theorem dX7_card_7 : decode cX7_card 7 = .ok (.ifnull 25, 3) := by decide +kernel
theorem dX7_card_10 : decode cX7_card 10 = .ok (.aload_n 2, 1) := by decide +kernel
theorem dX7_card_11 : decode cX7_card 11 = .ok (.getfield 140, 3) := by decide +kernel
theorem dX7_card_14 : decode cX7_card 14 = .ok (.iconst 2, 1) := by decide +kernel
theorem dX7_card_15 : decode cX7_card 15 = .ok (.if_icmp .lt 17, 3) := by decide +kernel
theorem dX7_card_18 : decode cX7_card 18 = .ok (.aload_n 0, 1) := by decide +kernel
theorem dX7_card_19 : decode cX7_card 19 = .ok (.getfield 10, 3) := by decide +kernel
theorem dX7_card_22 : decode cX7_card 22 = .ok (.aload_n 2, 1) := by decide +kernel
theorem dX7_card_23 : decode cX7_card 23 = .ok (.invokevirtual 166, 3) := by decide +kernel
theorem dX7_card_26 : decode cX7_card 26 = .ok (.invokevirtual 84, 3) := by decide +kernel
theorem dX7_card_29 : decode cX7_card 29 = .ok (.ifCond .ne 5, 3) := by decide +kernel
theorem dX7_card_32 : decode cX7_card 32 = .ok (.iconst (-1), 1) := by decide +kernel
theorem dX7_card_33 : decode cX7_card 33 = .ok (.ireturn, 1) := by decide +kernel
theorem dX7_card_34 : decode cX7_card 34 = .ok (.aload_n 0, 1) := by decide +kernel
theorem dX7_card_35 : decode cX7_card 35 = .ok (.getfield 10, 3) := by decide +kernel
theorem dX7_card_38 : decode cX7_card 38 = .ok (.aload_n 2, 1) := by decide +kernel
theorem dX7_card_39 : decode cX7_card 39 = .ok (.invokevirtual 169, 3) := by decide +kernel
theorem dX7_card_42 : decode cX7_card 42 = .ok (.invokevirtual 146, 3) := by decide +kernel
theorem dX7_card_45 : decode cX7_card 45 = .ok (.ifCond .eq 14, 3) := by decide +kernel
theorem dX7_card_48 : decode cX7_card 48 = .ok (.aload_n 2, 1) := by decide +kernel
theorem dX7_card_49 : decode cX7_card 49 = .ok (.aload_n 0, 1) := by decide +kernel
theorem dX7_card_50 : decode cX7_card 50 = .ok (.getfield 10, 3) := by decide +kernel
theorem dX7_card_53 : decode cX7_card 53 = .ok (.invokevirtual 172, 3) := by decide +kernel
theorem dX7_card_56 : decode cX7_card 56 = .ok (.goto 4, 3) := by decide +kernel
theorem dX7_card_59 : decode cX7_card 59 = .ok (.iconst (-1), 1) := by decide +kernel
theorem dX7_card_60 : decode cX7_card 60 = .ok (.istore_n 3, 1) := by decide +kernel
theorem dX7_card_61 : decode cX7_card 61 = .ok (.aload_n 0, 1) := by decide +kernel
theorem dX7_card_62 : decode cX7_card 62 = .ok (.getfield 10, 3) := by decide +kernel
theorem dX7_card_65 : decode cX7_card 65 = .ok (.invokevirtual 95, 3) := by decide +kernel
theorem dX7_card_68 : decode cX7_card 68 = .ok (.iload_n 3, 1) := by decide +kernel
theorem dX7_card_69 : decode cX7_card 69 = .ok (.ireturn, 1) := by decide +kernel
theorem dX7_reasons_0 : decode cX7_reasons 0 = .ok (.aload_n 0, 1) := by decide +kernel
theorem dX7_reasons_1 : decode cX7_reasons 1 = .ok (.iload_n 1, 1) := by decide +kernel
theorem dX7_reasons_2 : decode cX7_reasons 2 = .ok (.invokevirtual 80, 3) := by decide +kernel
theorem dX7_reasons_5 : decode cX7_reasons 5 = .ok (.astore_n 3, 1) := by decide +kernel
theorem dX7_reasons_6 : decode cX7_reasons 6 = .ok (.aload_n 3, 1) := by decide +kernel
theorem dX7_reasons_7 : decode cX7_reasons 7 = .ok (.ifnull 14, 3) := by decide +kernel
theorem dX7_reasons_10 : decode cX7_reasons 10 = .ok (.aload_n 0, 1) := by decide +kernel
theorem dX7_reasons_11 : decode cX7_reasons 11 = .ok (.getfield 10, 3) := by decide +kernel
theorem dX7_reasons_14 : decode cX7_reasons 14 = .ok (.iload_n 2, 1) := by decide +kernel
theorem dX7_reasons_15 : decode cX7_reasons 15 = .ok (.invokevirtual 84, 3) := by decide +kernel
theorem dX7_reasons_18 : decode cX7_reasons 18 = .ok (.ifCond .ne 5, 3) := by decide +kernel
theorem dX7_reasons_21 : decode cX7_reasons 21 = .ok (.iconst (-1), 1) := by decide +kernel
theorem dX7_reasons_22 : decode cX7_reasons 22 = .ok (.ireturn, 1) := by decide +kernel
theorem dX7_reasons_23 : decode cX7_reasons 23 = .ok (.aload_n 0, 1) := by decide +kernel
theorem dX7_reasons_24 : decode cX7_reasons 24 = .ok (.getfield 10, 3) := by decide +kernel
theorem dX7_reasons_27 : decode cX7_reasons 27 = .ok (.iload_n 2, 1) := by decide +kernel
theorem dX7_reasons_28 : decode cX7_reasons 28 = .ok (.invokevirtual 88, 3) := by decide +kernel
theorem dX7_reasons_31 : decode cX7_reasons 31 = .ok (.aload_n 0, 1) := by decide +kernel
theorem dX7_reasons_32 : decode cX7_reasons 32 = .ok (.getfield 49, 3) := by decide +kernel
theorem dX7_reasons_35 : decode cX7_reasons 35 = .ok (.aload_n 0, 1) := by decide +kernel
theorem dX7_reasons_36 : decode cX7_reasons 36 = .ok (.getfield 10, 3) := by decide +kernel
theorem dX7_reasons_39 : decode cX7_reasons 39 = .ok (.aload_n 3, 1) := by decide +kernel
theorem dX7_reasons_40 : decode cX7_reasons 40 = .ok (.aload_n 0, 1) := by decide +kernel
theorem dX7_reasons_41 : decode cX7_reasons 41 = .ok (.getfield 18, 3) := by decide +kernel
theorem dX7_reasons_44 : decode cX7_reasons 44 = .ok (.invokevirtual 175, 3) := by decide +kernel
theorem dX7_reasons_47 : decode cX7_reasons 47 = .ok (.istore 4, 2) := by decide +kernel
theorem dX7_reasons_49 : decode cX7_reasons 49 = .ok (.aload_n 0, 1) := by decide +kernel
theorem dX7_reasons_50 : decode cX7_reasons 50 = .ok (.getfield 10, 3) := by decide +kernel
theorem dX7_reasons_53 : decode cX7_reasons 53 = .ok (.invokevirtual 95, 3) := by decide +kernel
theorem dX7_reasons_56 : decode cX7_reasons 56 = .ok (.iload 4, 2) := by decide +kernel
theorem dX7_reasons_58 : decode cX7_reasons 58 = .ok (.ireturn, 1) := by decide +kernel
theorem dX7_sand_0 : decode cX7_sand 0 = .ok (.iload_n 1, 1) := by decide +kernel
theorem dX7_sand_1 : decode cX7_sand 1 = .ok (.iconst 1, 1) := by decide +kernel
theorem dX7_sand_2 : decode cX7_sand 2 = .ok (.if_icmp .lt 8, 3) := by decide +kernel
theorem dX7_sand_5 : decode cX7_sand 5 = .ok (.iload_n 1, 1) := by decide +kernel
theorem dX7_sand_6 : decode cX7_sand 6 = .ok (.iconst 3, 1) := by decide +kernel
theorem dX7_sand_7 : decode cX7_sand 7 = .ok (.if_icmp .le 5, 3) := by decide +kernel
theorem dX7_sand_10 : decode cX7_sand 10 = .ok (.iconst 0, 1) := by decide +kernel
theorem dX7_sand_11 : decode cX7_sand 11 = .ok (.ireturn, 1) := by decide +kernel
theorem dX7_sand_12 : decode cX7_sand 12 = .ok (.aload_n 0, 1) := by decide +kernel
theorem dX7_sand_13 : decode cX7_sand 13 = .ok (.iload_n 1, 1) := by decide +kernel
theorem dX7_sand_14 : decode cX7_sand 14 = .ok (.putfield 64, 3) := by decide +kernel
theorem dX7_sand_17 : decode cX7_sand 17 = .ok (.iconst 1, 1) := by decide +kernel
theorem dX7_sand_18 : decode cX7_sand 18 = .ok (.ireturn, 1) := by decide +kernel
theorem dX7_hour_0 : decode cX7_hour 0 = .ok (.iload_n 1, 1) := by decide +kernel
theorem dX7_hour_1 : decode cX7_hour 1 = .ok (.bipush 6, 2) := by decide +kernel
theorem dX7_hour_3 : decode cX7_hour 3 = .ok (.invokestatic 102, 3) := by decide +kernel
theorem dX7_hour_6 : decode cX7_hour 6 = .ok (.ifCond .ne 5, 3) := by decide +kernel
theorem dX7_hour_9 : decode cX7_hour 9 = .ok (.iconst (-1), 1) := by decide +kernel
theorem dX7_hour_10 : decode cX7_hour 10 = .ok (.ireturn, 1) := by decide +kernel
theorem dX7_hour_11 : decode cX7_hour 11 = .ok (.aload_n 0, 1) := by decide +kernel
theorem dX7_hour_12 : decode cX7_hour 12 = .ok (.getfield 42, 3) := by decide +kernel
theorem dX7_hour_15 : decode cX7_hour 15 = .ok (.aload_n 0, 1) := by decide +kernel
theorem dX7_hour_16 : decode cX7_hour 16 = .ok (.getfield 24, 3) := by decide +kernel
theorem dX7_hour_19 : decode cX7_hour 19 = .ok (.aload_n 0, 1) := by decide +kernel
theorem dX7_hour_20 : decode cX7_hour 20 = .ok (.getfield 18, 3) := by decide +kernel
theorem dX7_hour_23 : decode cX7_hour 23 = .ok (.aload_n 0, 1) := by decide +kernel
theorem dX7_hour_24 : decode cX7_hour 24 = .ok (.getfield 64, 3) := by decide +kernel
theorem dX7_hour_27 : decode cX7_hour 27 = .ok (.invokevirtual 179, 3) := by decide +kernel
theorem dX7_hour_30 : decode cX7_hour 30 = .ok (.aload_n 0, 1) := by decide +kernel
theorem dX7_hour_31 : decode cX7_hour 31 = .ok (.getfield 42, 3) := by decide +kernel
theorem dX7_hour_34 : decode cX7_hour 34 = .ok (.getfield 183, 3) := by decide +kernel
theorem dX7_hour_37 : decode cX7_hour 37 = .ok (.iload_n 1, 1) := by decide +kernel
theorem dX7_hour_38 : decode cX7_hour 38 = .ok (.iaload, 1) := by decide +kernel
theorem dX7_hour_39 : decode cX7_hour 39 = .ok (.ireturn, 1) := by decide +kernel
theorem dX7_team_0 : decode cX7_team 0 = .ok (.iload_n 1, 1) := by decide +kernel
theorem dX7_team_1 : decode cX7_team 1 = .ok (.bipush 10, 2) := by decide +kernel
theorem dX7_team_3 : decode cX7_team 3 = .ok (.invokestatic 102, 3) := by decide +kernel
theorem dX7_team_6 : decode cX7_team 6 = .ok (.ifCond .ne 5, 3) := by decide +kernel
theorem dX7_team_9 : decode cX7_team 9 = .ok (.iconst (-1), 1) := by decide +kernel
theorem dX7_team_10 : decode cX7_team 10 = .ok (.ireturn, 1) := by decide +kernel
theorem dX7_team_11 : decode cX7_team 11 = .ok (.iconst 0, 1) := by decide +kernel
theorem dX7_team_12 : decode cX7_team 12 = .ok (.istore_n 2, 1) := by decide +kernel
theorem dX7_team_13 : decode cX7_team 13 = .ok (.iconst 0, 1) := by decide +kernel
theorem dX7_team_14 : decode cX7_team 14 = .ok (.istore_n 3, 1) := by decide +kernel
theorem dX7_team_15 : decode cX7_team 15 = .ok (.iconst 1, 1) := by decide +kernel
theorem dX7_team_16 : decode cX7_team 16 = .ok (.istore 4, 2) := by decide +kernel
theorem dX7_team_18 : decode cX7_team 18 = .ok (.iload 4, 2) := by decide +kernel
theorem dX7_team_20 : decode cX7_team 20 = .ok (.bipush 8, 2) := by decide +kernel
theorem dX7_team_22 : decode cX7_team 22 = .ok (.if_icmp .gt 65, 3) := by decide +kernel
theorem dX7_team_25 : decode cX7_team 25 = .ok (.iconst 0, 1) := by decide +kernel
theorem dX7_team_26 : decode cX7_team 26 = .ok (.istore 5, 2) := by decide +kernel
theorem dX7_team_28 : decode cX7_team 28 = .ok (.iload 5, 2) := by decide +kernel
theorem dX7_team_30 : decode cX7_team 30 = .ok (.aload_n 0, 1) := by decide +kernel
theorem dX7_team_31 : decode cX7_team 31 = .ok (.getfield 60, 3) := by decide +kernel
theorem dX7_team_34 : decode cX7_team 34 = .ok (.if_icmp .ge 47, 3) := by decide +kernel
theorem dX7_team_37 : decode cX7_team 37 = .ok (.iload_n 2, 1) := by decide +kernel
theorem dX7_team_38 : decode cX7_team 38 = .ok (.iconst 3, 1) := by decide +kernel
theorem dX7_team_39 : decode cX7_team 39 = .ok (.if_icmp .ge 42, 3) := by decide +kernel
theorem dX7_team_42 : decode cX7_team 42 = .ok (.aload_n 0, 1) := by decide +kernel
theorem dX7_team_43 : decode cX7_team 43 = .ok (.getfield 18, 3) := by decide +kernel
theorem dX7_team_46 : decode cX7_team 46 = .ok (.iload 5, 2) := by decide +kernel
theorem dX7_team_48 : decode cX7_team 48 = .ok (.aaload, 1) := by decide +kernel
theorem dX7_team_49 : decode cX7_team 49 = .ok (.getfield 186, 3) := by decide +kernel
theorem dX7_team_52 : decode cX7_team 52 = .ok (.iload_n 1, 1) := by decide +kernel
theorem dX7_team_53 : decode cX7_team 53 = .ok (.if_icmp .ne 22, 3) := by decide +kernel
theorem dX7_team_56 : decode cX7_team 56 = .ok (.aload_n 0, 1) := by decide +kernel
theorem dX7_team_57 : decode cX7_team 57 = .ok (.iload 5, 2) := by decide +kernel
theorem dX7_team_59 : decode cX7_team 59 = .ok (.invokevirtual 189, 3) := by decide +kernel
theorem dX7_team_62 : decode cX7_team 62 = .ok (.iload 4, 2) := by decide +kernel
theorem dX7_team_64 : decode cX7_team 64 = .ok (.if_icmp .ne 11, 3) := by decide +kernel
theorem dX7_team_67 : decode cX7_team 67 = .ok (.iinc 2 1, 3) := by decide +kernel
theorem dX7_team_70 : decode cX7_team 70 = .ok (.iload_n 3, 1) := by decide +kernel
theorem dX7_team_71 : decode cX7_team 71 = .ok (.iload 4, 2) := by decide +kernel
theorem dX7_team_73 : decode cX7_team 73 = .ok (.iadd, 1) := by decide +kernel
theorem dX7_team_74 : decode cX7_team 74 = .ok (.istore_n 3, 1) := by decide +kernel
theorem dX7_team_75 : decode cX7_team 75 = .ok (.iinc 5 1, 3) := by decide +kernel
theorem dX7_team_78 : decode cX7_team 78 = .ok (.goto (-50), 3) := by decide +kernel
theorem dX7_team_81 : decode cX7_team 81 = .ok (.iinc 4 1, 3) := by decide +kernel
theorem dX7_team_84 : decode cX7_team 84 = .ok (.goto (-66), 3) := by decide +kernel
theorem dX7_team_87 : decode cX7_team 87 = .ok (.iload_n 2, 1) := by decide +kernel
theorem dX7_team_88 : decode cX7_team 88 = .ok (.iconst 3, 1) := by decide +kernel
theorem dX7_team_89 : decode cX7_team 89 = .ok (.if_icmp .ne 7, 3) := by decide +kernel
theorem dX7_team_92 : decode cX7_team 92 = .ok (.iload_n 3, 1) := by decide +kernel
theorem dX7_team_93 : decode cX7_team 93 = .ok (.goto 4, 3) := by decide +kernel
theorem dX7_team_96 : decode cX7_team 96 = .ok (.iconst (-1), 1) := by decide +kernel
theorem dX7_team_97 : decode cX7_team 97 = .ok (.ireturn, 1) := by decide +kernel
theorem dX7_price_0 : decode cX7_price 0 = .ok (.aload_n 0, 1) := by decide +kernel
theorem dX7_price_1 : decode cX7_price 1 = .ok (.iload_n 1, 1) := by decide +kernel
theorem dX7_price_2 : decode cX7_price 2 = .ok (.invokevirtual 109, 3) := by decide +kernel
theorem dX7_price_5 : decode cX7_price 5 = .ok (.ifnonnull 5, 3) := by decide +kernel
theorem dX7_price_8 : decode cX7_price 8 = .ok (.iconst (-1), 1) := by decide +kernel
theorem dX7_price_9 : decode cX7_price 9 = .ok (.ireturn, 1) := by decide +kernel
theorem dX7_price_10 : decode cX7_price 10 = .ok (.bipush 100, 2) := by decide +kernel
theorem dX7_price_12 : decode cX7_price 12 = .ok (.istore_n 2, 1) := by decide +kernel
theorem dX7_price_13 : decode cX7_price 13 = .ok (.iconst 0, 1) := by decide +kernel
theorem dX7_price_14 : decode cX7_price 14 = .ok (.istore_n 3, 1) := by decide +kernel
theorem dX7_price_15 : decode cX7_price 15 = .ok (.iload_n 3, 1) := by decide +kernel
theorem dX7_price_16 : decode cX7_price 16 = .ok (.bipush 6, 2) := by decide +kernel
theorem dX7_price_18 : decode cX7_price 18 = .ok (.if_icmp .ge 34, 3) := by decide +kernel
theorem dX7_price_21 : decode cX7_price 21 = .ok (.aload_n 0, 1) := by decide +kernel
theorem dX7_price_22 : decode cX7_price 22 = .ok (.getfield 24, 3) := by decide +kernel
theorem dX7_price_25 : decode cX7_price 25 = .ok (.iload_n 3, 1) := by decide +kernel
theorem dX7_price_26 : decode cX7_price 26 = .ok (.aaload, 1) := by decide +kernel
theorem dX7_price_27 : decode cX7_price 27 = .ok (.iload_n 1, 1) := by decide +kernel
theorem dX7_price_28 : decode cX7_price 28 = .ok (.invokevirtual 193, 3) := by decide +kernel
theorem dX7_price_31 : decode cX7_price 31 = .ok (.istore 4, 2) := by decide +kernel
theorem dX7_price_33 : decode cX7_price 33 = .ok (.iload 4, 2) := by decide +kernel
theorem dX7_price_35 : decode cX7_price 35 = .ok (.ifCond .le 11, 3) := by decide +kernel
theorem dX7_price_38 : decode cX7_price 38 = .ok (.iload_n 2, 1) := by decide +kernel
theorem dX7_price_39 : decode cX7_price 39 = .ok (.bipush 50, 2) := by decide +kernel
theorem dX7_price_41 : decode cX7_price 41 = .ok (.iload 4, 2) := by decide +kernel
theorem dX7_price_43 : decode cX7_price 43 = .ok (.idiv, 1) := by decide +kernel
theorem dX7_price_44 : decode cX7_price 44 = .ok (.iadd, 1) := by decide +kernel
theorem dX7_price_45 : decode cX7_price 45 = .ok (.istore_n 2, 1) := by decide +kernel
theorem dX7_price_46 : decode cX7_price 46 = .ok (.iinc 3 1, 3) := by decide +kernel
theorem dX7_price_49 : decode cX7_price 49 = .ok (.goto (-34), 3) := by decide +kernel
theorem dX7_price_52 : decode cX7_price 52 = .ok (.iload_n 2, 1) := by decide +kernel
theorem dX7_price_53 : decode cX7_price 53 = .ok (.ireturn, 1) := by decide +kernel
theorem dX7_look_0 : decode cX7_look 0 = .ok (.aload_n 0, 1) := by decide +kernel
theorem dX7_look_1 : decode cX7_look 1 = .ok (.iload_n 1, 1) := by decide +kernel
theorem dX7_look_2 : decode cX7_look 2 = .ok (.invokevirtual 109, 3) := by decide +kernel
theorem dX7_look_5 : decode cX7_look 5 = .ok (.astore_n 3, 1) := by decide +kernel
theorem dX7_look_6 : decode cX7_look 6 = .ok (.aload_n 3, 1) := by decide +kernel
theorem dX7_look_7 : decode cX7_look 7 = .ok (.ifnonnull 5, 3) := by decide +kernel
theorem dX7_look_10 : decode cX7_look 10 = .ok (.iconst (-1), 1) := by decide +kernel
theorem dX7_look_11 : decode cX7_look 11 = .ok (.ireturn, 1) := by decide +kernel
theorem dX7_look_12 : decode cX7_look 12 = .ok (.iload_n 2, 1) := by decide +kernel
theorem dX7_look_13 : decode cX7_look 13 = .ok (.iconst 4, 1) := by decide +kernel
theorem dX7_look_14 : decode cX7_look 14 = .ok (.if_icmp .lt 18, 3) := by decide +kernel
theorem dX7_look_17 : decode cX7_look 17 = .ok (.iload_n 2, 1) := by decide +kernel
theorem dX7_look_18 : decode cX7_look 18 = .ok (.bipush 7, 2) := by decide +kernel
theorem dX7_look_20 : decode cX7_look 20 = .ok (.if_icmp .ge 12, 3) := by decide +kernel
theorem dX7_look_23 : decode cX7_look 23 = .ok (.aload_n 3, 1) := by decide +kernel
theorem dX7_look_24 : decode cX7_look 24 = .ok (.getfield 113, 3) := by decide +kernel
theorem dX7_look_27 : decode cX7_look 27 = .ok (.iload_n 2, 1) := by decide +kernel
theorem dX7_look_28 : decode cX7_look 28 = .ok (.iconst 4, 1) := by decide +kernel
theorem dX7_look_29 : decode cX7_look 29 = .ok (.isub, 1) := by decide +kernel
theorem dX7_look_30 : decode cX7_look 30 = .ok (.iaload, 1) := by decide +kernel
theorem dX7_look_31 : decode cX7_look 31 = .ok (.ireturn, 1) := by decide +kernel
theorem dX7_look_32 : decode cX7_look 32 = .ok (.iload_n 2, 1) := by decide +kernel
theorem dX7_look_33 : decode cX7_look 33 = .ok (.bipush 10, 2) := by decide +kernel
theorem dX7_look_35 : decode cX7_look 35 = .ok (.if_icmp .lt 23, 3) := by decide +kernel
theorem dX7_look_38 : decode cX7_look 38 = .ok (.iload_n 2, 1) := by decide +kernel
theorem dX7_look_39 : decode cX7_look 39 = .ok (.bipush 16, 2) := by decide +kernel
theorem dX7_look_41 : decode cX7_look 41 = .ok (.if_icmp .ge 17, 3) := by decide +kernel
theorem dX7_look_44 : decode cX7_look 44 = .ok (.aload_n 0, 1) := by decide +kernel
theorem dX7_look_45 : decode cX7_look 45 = .ok (.getfield 24, 3) := by decide +kernel
theorem dX7_look_48 : decode cX7_look 48 = .ok (.iload_n 2, 1) := by decide +kernel
theorem dX7_look_49 : decode cX7_look 49 = .ok (.bipush 10, 2) := by decide +kernel
theorem dX7_look_51 : decode cX7_look 51 = .ok (.isub, 1) := by decide +kernel
theorem dX7_look_52 : decode cX7_look 52 = .ok (.aaload, 1) := by decide +kernel
theorem dX7_look_53 : decode cX7_look 53 = .ok (.iload_n 1, 1) := by decide +kernel
theorem dX7_look_54 : decode cX7_look 54 = .ok (.invokevirtual 193, 3) := by decide +kernel
theorem dX7_look_57 : decode cX7_look 57 = .ok (.ireturn, 1) := by decide +kernel
theorem dX7_look_58 : decode cX7_look 58 = .ok (.iload_n 2, 1) := by decide +kernel
theorem dX7_look_59 : decode cX7_look 59 = .ok (.tableswitch 71 0 7 #[45, 50, 55, 60, 71, 71, 71, 65], 45) := by decide +kernel
theorem dX7_look_104 : decode cX7_look 104 = .ok (.aload_n 3, 1) := by decide +kernel
theorem dX7_look_105 : decode cX7_look 105 = .ok (.getfield 196, 3) := by decide +kernel
theorem dX7_look_108 : decode cX7_look 108 = .ok (.ireturn, 1) := by decide +kernel
theorem dX7_look_109 : decode cX7_look 109 = .ok (.aload_n 3, 1) := by decide +kernel
theorem dX7_look_110 : decode cX7_look 110 = .ok (.getfield 199, 3) := by decide +kernel
theorem dX7_look_113 : decode cX7_look 113 = .ok (.ireturn, 1) := by decide +kernel
theorem dX7_look_114 : decode cX7_look 114 = .ok (.aload_n 3, 1) := by decide +kernel
theorem dX7_look_115 : decode cX7_look 115 = .ok (.getfield 186, 3) := by decide +kernel
theorem dX7_look_118 : decode cX7_look 118 = .ok (.ireturn, 1) := by decide +kernel
theorem dX7_look_119 : decode cX7_look 119 = .ok (.aload_n 3, 1) := by decide +kernel
theorem dX7_look_120 : decode cX7_look 120 = .ok (.getfield 202, 3) := by decide +kernel
theorem dX7_look_123 : decode cX7_look 123 = .ok (.ireturn, 1) := by decide +kernel
theorem dX7_look_124 : decode cX7_look 124 = .ok (.aload_n 0, 1) := by decide +kernel
theorem dX7_look_125 : decode cX7_look 125 = .ok (.iload_n 1, 1) := by decide +kernel
theorem dX7_look_126 : decode cX7_look 126 = .ok (.invokevirtual 205, 3) := by decide +kernel
theorem dX7_look_129 : decode cX7_look 129 = .ok (.ireturn, 1) := by decide +kernel
theorem dX7_look_130 : decode cX7_look 130 = .ok (.iconst (-1), 1) := by decide +kernel
theorem dX7_look_131 : decode cX7_look 131 = .ok (.ireturn, 1) := by decide +kernel
theorem dX7_count_0 : decode cX7_count 0 = .ok (.iload_n 1, 1) := by decide +kernel
theorem dX7_count_1 : decode cX7_count 1 = .ok (.bipush 10, 2) := by decide +kernel
theorem dX7_count_3 : decode cX7_count 3 = .ok (.if_icmp .lt 22, 3) := by decide +kernel
theorem dX7_count_6 : decode cX7_count 6 = .ok (.iload_n 1, 1) := by decide +kernel
theorem dX7_count_7 : decode cX7_count 7 = .ok (.bipush 16, 2) := by decide +kernel
theorem dX7_count_9 : decode cX7_count 9 = .ok (.if_icmp .ge 16, 3) := by decide +kernel
theorem dX7_count_12 : decode cX7_count 12 = .ok (.aload_n 0, 1) := by decide +kernel
theorem dX7_count_13 : decode cX7_count 13 = .ok (.getfield 24, 3) := by decide +kernel
theorem dX7_count_16 : decode cX7_count 16 = .ok (.iload_n 1, 1) := by decide +kernel
theorem dX7_count_17 : decode cX7_count 17 = .ok (.bipush 10, 2) := by decide +kernel
theorem dX7_count_19 : decode cX7_count 19 = .ok (.isub, 1) := by decide +kernel
theorem dX7_count_20 : decode cX7_count 20 = .ok (.aaload, 1) := by decide +kernel
theorem dX7_count_21 : decode cX7_count 21 = .ok (.getfield 140, 3) := by decide +kernel
theorem dX7_count_24 : decode cX7_count 24 = .ok (.ireturn, 1) := by decide +kernel
theorem dX7_count_25 : decode cX7_count 25 = .ok (.iload_n 1, 1) := by decide +kernel
theorem dX7_count_26 : decode cX7_count 26 = .ok (.bipush 20, 2) := by decide +kernel
theorem dX7_count_28 : decode cX7_count 28 = .ok (.if_icmp .lt 22, 3) := by decide +kernel
theorem dX7_count_31 : decode cX7_count 31 = .ok (.iload_n 1, 1) := by decide +kernel
theorem dX7_count_32 : decode cX7_count 32 = .ok (.bipush 26, 2) := by decide +kernel
theorem dX7_count_34 : decode cX7_count 34 = .ok (.if_icmp .ge 16, 3) := by decide +kernel
theorem dX7_count_37 : decode cX7_count 37 = .ok (.aload_n 0, 1) := by decide +kernel
theorem dX7_count_38 : decode cX7_count 38 = .ok (.getfield 24, 3) := by decide +kernel
theorem dX7_count_41 : decode cX7_count 41 = .ok (.iload_n 1, 1) := by decide +kernel
theorem dX7_count_42 : decode cX7_count 42 = .ok (.bipush 20, 2) := by decide +kernel
theorem dX7_count_44 : decode cX7_count 44 = .ok (.isub, 1) := by decide +kernel
theorem dX7_count_45 : decode cX7_count 45 = .ok (.aaload, 1) := by decide +kernel
theorem dX7_count_46 : decode cX7_count 46 = .ok (.invokevirtual 208, 3) := by decide +kernel
theorem dX7_count_49 : decode cX7_count 49 = .ok (.ireturn, 1) := by decide +kernel
theorem dX7_count_50 : decode cX7_count 50 = .ok (.iload_n 1, 1) := by decide +kernel
theorem dX7_count_51 : decode cX7_count 51 = .ok (.tableswitch 74 0 3 #[29, 34, 39, 47], 29) := by decide +kernel
theorem dX7_count_80 : decode cX7_count 80 = .ok (.aload_n 0, 1) := by decide +kernel
theorem dX7_count_81 : decode cX7_count 81 = .ok (.getfield 60, 3) := by decide +kernel
theorem dX7_count_84 : decode cX7_count 84 = .ok (.ireturn, 1) := by decide +kernel
theorem dX7_count_85 : decode cX7_count 85 = .ok (.aload_n 0, 1) := by decide +kernel
theorem dX7_count_86 : decode cX7_count 86 = .ok (.getfield 64, 3) := by decide +kernel
theorem dX7_count_89 : decode cX7_count 89 = .ok (.ireturn, 1) := by decide +kernel
theorem dX7_count_90 : decode cX7_count 90 = .ok (.aload_n 0, 1) := by decide +kernel
theorem dX7_count_91 : decode cX7_count 91 = .ok (.getfield 10, 3) := by decide +kernel
theorem dX7_count_94 : decode cX7_count 94 = .ok (.invokevirtual 76, 3) := by decide +kernel
theorem dX7_count_97 : decode cX7_count 97 = .ok (.ireturn, 1) := by decide +kernel
theorem dX7_count_98 : decode cX7_count 98 = .ok (.aload_n 0, 1) := by decide +kernel
theorem dX7_count_99 : decode cX7_count 99 = .ok (.getfield 42, 3) := by decide +kernel
theorem dX7_count_102 : decode cX7_count 102 = .ok (.aload_n 0, 1) := by decide +kernel
theorem dX7_count_103 : decode cX7_count 103 = .ok (.getfield 24, 3) := by decide +kernel
theorem dX7_count_106 : decode cX7_count 106 = .ok (.aload_n 0, 1) := by decide +kernel
theorem dX7_count_107 : decode cX7_count 107 = .ok (.getfield 18, 3) := by decide +kernel
theorem dX7_count_110 : decode cX7_count 110 = .ok (.aload_n 0, 1) := by decide +kernel
theorem dX7_count_111 : decode cX7_count 111 = .ok (.getfield 64, 3) := by decide +kernel
theorem dX7_count_114 : decode cX7_count 114 = .ok (.invokevirtual 179, 3) := by decide +kernel
theorem dX7_count_117 : decode cX7_count 117 = .ok (.aload_n 0, 1) := by decide +kernel
theorem dX7_count_118 : decode cX7_count 118 = .ok (.getfield 42, 3) := by decide +kernel
theorem dX7_count_121 : decode cX7_count 121 = .ok (.invokevirtual 211, 3) := by decide +kernel
theorem dX7_count_124 : decode cX7_count 124 = .ok (.ireturn, 1) := by decide +kernel
theorem dX7_count_125 : decode cX7_count 125 = .ok (.iconst (-1), 1) := by decide +kernel
theorem dX7_count_126 : decode cX7_count 126 = .ok (.ireturn, 1) := by decide +kernel
theorem dX7_isBelow_0 : decode cX7_isBelow 0 = .ok (.iload_n 0, 1) := by decide +kernel
theorem dX7_isBelow_1 : decode cX7_isBelow 1 = .ok (.ifCond .lt 12, 3) := by decide +kernel
theorem dX7_isBelow_4 : decode cX7_isBelow 4 = .ok (.iload_n 0, 1) := by decide +kernel
theorem dX7_isBelow_5 : decode cX7_isBelow 5 = .ok (.iload_n 1, 1) := by decide +kernel
theorem dX7_isBelow_6 : decode cX7_isBelow 6 = .ok (.if_icmp .ge 7, 3) := by decide +kernel
theorem dX7_isBelow_9 : decode cX7_isBelow 9 = .ok (.iconst 1, 1) := by decide +kernel
theorem dX7_isBelow_10 : decode cX7_isBelow 10 = .ok (.goto 4, 3) := by decide +kernel
theorem dX7_isBelow_13 : decode cX7_isBelow 13 = .ok (.iconst 0, 1) := by decide +kernel
theorem dX7_isBelow_14 : decode cX7_isBelow 14 = .ok (.ireturn, 1) := by decide +kernel
theorem dX7_classAt_0 : decode cX7_classAt 0 = .ok (.iload_n 1, 1) := by decide +kernel
theorem dX7_classAt_1 : decode cX7_classAt 1 = .ok (.bipush 6, 2) := by decide +kernel
theorem dX7_classAt_3 : decode cX7_classAt 3 = .ok (.invokestatic 102, 3) := by decide +kernel
theorem dX7_classAt_6 : decode cX7_classAt 6 = .ok (.ifCond .eq 12, 3) := by decide +kernel
theorem dX7_classAt_9 : decode cX7_classAt 9 = .ok (.aload_n 0, 1) := by decide +kernel
theorem dX7_classAt_10 : decode cX7_classAt 10 = .ok (.getfield 24, 3) := by decide +kernel
theorem dX7_classAt_13 : decode cX7_classAt 13 = .ok (.iload_n 1, 1) := by decide +kernel
theorem dX7_classAt_14 : decode cX7_classAt 14 = .ok (.aaload, 1) := by decide +kernel
theorem dX7_classAt_15 : decode cX7_classAt 15 = .ok (.goto 4, 3) := by decide +kernel
theorem dX7_classAt_18 : decode cX7_classAt 18 = .ok (.aconst_null, 1) := by decide +kernel
theorem dX7_classAt_19 : decode cX7_classAt 19 = .ok (.areturn, 1) := by decide +kernel
theorem dX7_beastAt_0 : decode cX7_beastAt 0 = .ok (.iload_n 1, 1) := by decide +kernel
theorem dX7_beastAt_1 : decode cX7_beastAt 1 = .ok (.aload_n 0, 1) := by decide +kernel
theorem dX7_beastAt_2 : decode cX7_beastAt 2 = .ok (.getfield 60, 3) := by decide +kernel
theorem dX7_beastAt_5 : decode cX7_beastAt 5 = .ok (.invokestatic 102, 3) := by decide +kernel
theorem dX7_beastAt_8 : decode cX7_beastAt 8 = .ok (.ifCond .eq 12, 3) := by decide +kernel
theorem dX7_beastAt_11 : decode cX7_beastAt 11 = .ok (.aload_n 0, 1) := by decide +kernel
theorem dX7_beastAt_12 : decode cX7_beastAt 12 = .ok (.getfield 18, 3) := by decide +kernel
theorem dX7_beastAt_15 : decode cX7_beastAt 15 = .ok (.iload_n 1, 1) := by decide +kernel
theorem dX7_beastAt_16 : decode cX7_beastAt 16 = .ok (.aaload, 1) := by decide +kernel
theorem dX7_beastAt_17 : decode cX7_beastAt 17 = .ok (.goto 4, 3) := by decide +kernel
theorem dX7_beastAt_20 : decode cX7_beastAt 20 = .ok (.aconst_null, 1) := by decide +kernel
theorem dX7_beastAt_21 : decode cX7_beastAt 21 = .ok (.areturn, 1) := by decide +kernel
theorem dX7_leastPlace_0 : decode cX7_leastPlace 0 = .ok (.iconst (-1), 1) := by decide +kernel
theorem dX7_leastPlace_1 : decode cX7_leastPlace 1 = .ok (.istore_n 2, 1) := by decide +kernel
theorem dX7_leastPlace_2 : decode cX7_leastPlace 2 = .ok (.iconst 0, 1) := by decide +kernel
theorem dX7_leastPlace_3 : decode cX7_leastPlace 3 = .ok (.istore_n 3, 1) := by decide +kernel
theorem dX7_leastPlace_4 : decode cX7_leastPlace 4 = .ok (.iload_n 3, 1) := by decide +kernel
theorem dX7_leastPlace_5 : decode cX7_leastPlace 5 = .ok (.bipush 6, 2) := by decide +kernel
theorem dX7_leastPlace_7 : decode cX7_leastPlace 7 = .ok (.if_icmp .ge 41, 3) := by decide +kernel
theorem dX7_leastPlace_10 : decode cX7_leastPlace 10 = .ok (.aload_n 0, 1) := by decide +kernel
theorem dX7_leastPlace_11 : decode cX7_leastPlace 11 = .ok (.getfield 24, 3) := by decide +kernel
theorem dX7_leastPlace_14 : decode cX7_leastPlace 14 = .ok (.iload_n 3, 1) := by decide +kernel
theorem dX7_leastPlace_15 : decode cX7_leastPlace 15 = .ok (.aaload, 1) := by decide +kernel
theorem dX7_leastPlace_16 : decode cX7_leastPlace 16 = .ok (.iload_n 1, 1) := by decide +kernel
theorem dX7_leastPlace_17 : decode cX7_leastPlace 17 = .ok (.invokevirtual 193, 3) := by decide +kernel
theorem dX7_leastPlace_20 : decode cX7_leastPlace 20 = .ok (.istore 4, 2) := by decide +kernel
theorem dX7_leastPlace_22 : decode cX7_leastPlace 22 = .ok (.iload 4, 2) := by decide +kernel
theorem dX7_leastPlace_24 : decode cX7_leastPlace 24 = .ok (.iconst (-1), 1) := by decide +kernel
theorem dX7_leastPlace_25 : decode cX7_leastPlace 25 = .ok (.if_icmp .eq 17, 3) := by decide +kernel
theorem dX7_leastPlace_28 : decode cX7_leastPlace 28 = .ok (.iload_n 2, 1) := by decide +kernel
theorem dX7_leastPlace_29 : decode cX7_leastPlace 29 = .ok (.iconst (-1), 1) := by decide +kernel
theorem dX7_leastPlace_30 : decode cX7_leastPlace 30 = .ok (.if_icmp .eq 9, 3) := by decide +kernel
theorem dX7_leastPlace_33 : decode cX7_leastPlace 33 = .ok (.iload 4, 2) := by decide +kernel
theorem dX7_leastPlace_35 : decode cX7_leastPlace 35 = .ok (.iload_n 2, 1) := by decide +kernel
theorem dX7_leastPlace_36 : decode cX7_leastPlace 36 = .ok (.if_icmp .ge 6, 3) := by decide +kernel
theorem dX7_leastPlace_39 : decode cX7_leastPlace 39 = .ok (.iload 4, 2) := by decide +kernel
theorem dX7_leastPlace_41 : decode cX7_leastPlace 41 = .ok (.istore_n 2, 1) := by decide +kernel
theorem dX7_leastPlace_42 : decode cX7_leastPlace 42 = .ok (.iinc 3 1, 3) := by decide +kernel
theorem dX7_leastPlace_45 : decode cX7_leastPlace 45 = .ok (.goto (-41), 3) := by decide +kernel
theorem dX7_leastPlace_48 : decode cX7_leastPlace 48 = .ok (.iload_n 2, 1) := by decide +kernel
theorem dX7_leastPlace_49 : decode cX7_leastPlace 49 = .ok (.ireturn, 1) := by decide +kernel
theorem dX7_classesOf_0 : decode cX7_classesOf 0 = .ok (.iconst 0, 1) := by decide +kernel
theorem dX7_classesOf_1 : decode cX7_classesOf 1 = .ok (.istore_n 2, 1) := by decide +kernel
theorem dX7_classesOf_2 : decode cX7_classesOf 2 = .ok (.iconst 0, 1) := by decide +kernel
theorem dX7_classesOf_3 : decode cX7_classesOf 3 = .ok (.istore_n 3, 1) := by decide +kernel
theorem dX7_classesOf_4 : decode cX7_classesOf 4 = .ok (.iload_n 3, 1) := by decide +kernel
theorem dX7_classesOf_5 : decode cX7_classesOf 5 = .ok (.bipush 6, 2) := by decide +kernel
theorem dX7_classesOf_7 : decode cX7_classesOf 7 = .ok (.if_icmp .ge 25, 3) := by decide +kernel
theorem dX7_classesOf_10 : decode cX7_classesOf 10 = .ok (.aload_n 0, 1) := by decide +kernel
theorem dX7_classesOf_11 : decode cX7_classesOf 11 = .ok (.getfield 24, 3) := by decide +kernel
theorem dX7_classesOf_14 : decode cX7_classesOf 14 = .ok (.iload_n 3, 1) := by decide +kernel
theorem dX7_classesOf_15 : decode cX7_classesOf 15 = .ok (.aaload, 1) := by decide +kernel
theorem dX7_classesOf_16 : decode cX7_classesOf 16 = .ok (.iload_n 1, 1) := by decide +kernel
theorem dX7_classesOf_17 : decode cX7_classesOf 17 = .ok (.invokevirtual 134, 3) := by decide +kernel
theorem dX7_classesOf_20 : decode cX7_classesOf 20 = .ok (.ifCond .eq 6, 3) := by decide +kernel
theorem dX7_classesOf_23 : decode cX7_classesOf 23 = .ok (.iinc 2 1, 3) := by decide +kernel
theorem dX7_classesOf_26 : decode cX7_classesOf 26 = .ok (.iinc 3 1, 3) := by decide +kernel
theorem dX7_classesOf_29 : decode cX7_classesOf 29 = .ok (.goto (-25), 3) := by decide +kernel
theorem dX7_classesOf_32 : decode cX7_classesOf 32 = .ok (.iload_n 2, 1) := by decide +kernel
theorem dX7_classesOf_33 : decode cX7_classesOf 33 = .ok (.ireturn, 1) := by decide +kernel
theorem dX8_init_0 : decode cX8_init 0 = .ok (.aload_n 0, 1) := by decide +kernel
theorem dX8_init_1 : decode cX8_init 1 = .ok (.invokespecial 1, 3) := by decide +kernel
theorem dX8_init_4 : decode cX8_init 4 = .ok (.aload_n 0, 1) := by decide +kernel
theorem dX8_init_5 : decode cX8_init 5 = .ok (.bipush 80, 2) := by decide +kernel
theorem dX8_init_7 : decode cX8_init 7 = .ok (.newarray .byte, 2) := by decide +kernel
theorem dX8_init_9 : decode cX8_init 9 = .ok (.putfield 7, 3) := by decide +kernel
theorem dX8_init_12 : decode cX8_init 12 = .ok (.aload_n 0, 1) := by decide +kernel
theorem dX8_init_13 : decode cX8_init 13 = .ok (.iconst 2, 1) := by decide +kernel
theorem dX8_init_14 : decode cX8_init 14 = .ok (.putfield 13, 3) := by decide +kernel
theorem dX8_init_17 : decode cX8_init 17 = .ok (.aload_n 0, 1) := by decide +kernel
theorem dX8_init_18 : decode cX8_init 18 = .ok (.bipush 20, 2) := by decide +kernel
theorem dX8_init_20 : decode cX8_init 20 = .ok (.newarray .int, 2) := by decide +kernel
theorem dX8_init_22 : decode cX8_init 22 = .ok (.putfield 17, 3) := by decide +kernel
theorem dX8_init_25 : decode cX8_init 25 = .ok (.aload_n 0, 1) := by decide +kernel
theorem dX8_init_26 : decode cX8_init 26 = .ok (.bipush 20, 2) := by decide +kernel
theorem dX8_init_28 : decode cX8_init 28 = .ok (.newarray .int, 2) := by decide +kernel
theorem dX8_init_30 : decode cX8_init 30 = .ok (.putfield 21, 3) := by decide +kernel
theorem dX8_init_33 : decode cX8_init 33 = .ok (.aload_n 0, 1) := by decide +kernel
theorem dX8_init_34 : decode cX8_init 34 = .ok (.bipush 20, 2) := by decide +kernel
theorem dX8_init_36 : decode cX8_init 36 = .ok (.newarray .int, 2) := by decide +kernel
theorem dX8_init_38 : decode cX8_init 38 = .ok (.putfield 24, 3) := by decide +kernel
theorem dX8_init_41 : decode cX8_init 41 = .ok (.aload_n 0, 1) := by decide +kernel
theorem dX8_init_42 : decode cX8_init 42 = .ok (.bipush 20, 2) := by decide +kernel
theorem dX8_init_44 : decode cX8_init 44 = .ok (.newarray .int, 2) := by decide +kernel
theorem dX8_init_46 : decode cX8_init 46 = .ok (.putfield 27, 3) := by decide +kernel
theorem dX8_init_49 : decode cX8_init 49 = .ok (.aload_n 0, 1) := by decide +kernel
theorem dX8_init_50 : decode cX8_init 50 = .ok (.bipush 60, 2) := by decide +kernel
theorem dX8_init_52 : decode cX8_init 52 = .ok (.newarray .int, 2) := by decide +kernel
theorem dX8_init_54 : decode cX8_init 54 = .ok (.putfield 30, 3) := by decide +kernel
theorem dX8_init_57 : decode cX8_init 57 = .ok (.aload_n 0, 1) := by decide +kernel
theorem dX8_init_58 : decode cX8_init 58 = .ok (.bipush 6, 2) := by decide +kernel
theorem dX8_init_60 : decode cX8_init 60 = .ok (.newarray .int, 2) := by decide +kernel
theorem dX8_init_62 : decode cX8_init 62 = .ok (.putfield 33, 3) := by decide +kernel
theorem dX8_init_65 : decode cX8_init 65 = .ok (.aload_n 0, 1) := by decide +kernel
theorem dX8_init_66 : decode cX8_init 66 = .ok (.bipush 48, 2) := by decide +kernel
theorem dX8_init_68 : decode cX8_init 68 = .ok (.newarray .int, 2) := by decide +kernel
theorem dX8_init_70 : decode cX8_init 70 = .ok (.putfield 36, 3) := by decide +kernel
theorem dX8_init_73 : decode cX8_init 73 = .ok (.aload_n 0, 1) := by decide +kernel
theorem dX8_init_74 : decode cX8_init 74 = .ok (.bipush 48, 2) := by decide +kernel
theorem dX8_init_76 : decode cX8_init 76 = .ok (.newarray .int, 2) := by decide +kernel
theorem dX8_init_78 : decode cX8_init 78 = .ok (.putfield 39, 3) := by decide +kernel
theorem dX8_init_81 : decode cX8_init 81 = .ok (.aload_n 0, 1) := by decide +kernel
theorem dX8_init_82 : decode cX8_init 82 = .ok (.bipush 8, 2) := by decide +kernel
theorem dX8_init_84 : decode cX8_init 84 = .ok (.newarray .int, 2) := by decide +kernel
theorem dX8_init_86 : decode cX8_init 86 = .ok (.putfield 42, 3) := by decide +kernel
theorem dX8_init_89 : decode cX8_init 89 = .ok (.aload_n 0, 1) := by decide +kernel
theorem dX8_init_90 : decode cX8_init 90 = .ok (.bipush 8, 2) := by decide +kernel
theorem dX8_init_92 : decode cX8_init 92 = .ok (.newarray .int, 2) := by decide +kernel
theorem dX8_init_94 : decode cX8_init 94 = .ok (.putfield 45, 3) := by decide +kernel
theorem dX8_init_97 : decode cX8_init 97 = .ok (.aload_n 0, 1) := by decide +kernel
theorem dX8_init_98 : decode cX8_init 98 = .ok (.bipush 6, 2) := by decide +kernel
theorem dX8_init_100 : decode cX8_init 100 = .ok (.newarray .int, 2) := by decide +kernel
theorem dX8_init_102 : decode cX8_init 102 = .ok (.putfield 48, 3) := by decide +kernel
theorem dX8_init_105 : decode cX8_init 105 = .ok (.aload_n 0, 1) := by decide +kernel
theorem dX8_init_106 : decode cX8_init 106 = .ok (.bipush 6, 2) := by decide +kernel
theorem dX8_init_108 : decode cX8_init 108 = .ok (.newarray .int, 2) := by decide +kernel
theorem dX8_init_110 : decode cX8_init 110 = .ok (.putfield 51, 3) := by decide +kernel
theorem dX8_init_113 : decode cX8_init 113 = .ok (.aload_n 0, 1) := by decide +kernel
theorem dX8_init_114 : decode cX8_init 114 = .ok (.bipush 6, 2) := by decide +kernel
theorem dX8_init_116 : decode cX8_init 116 = .ok (.newarray .int, 2) := by decide +kernel
theorem dX8_init_118 : decode cX8_init 118 = .ok (.putfield 54, 3) := by decide +kernel
theorem dX8_init_121 : decode cX8_init 121 = .ok (.aload_n 0, 1) := by decide +kernel
theorem dX8_init_122 : decode cX8_init 122 = .ok (.bipush 36, 2) := by decide +kernel
theorem dX8_init_124 : decode cX8_init 124 = .ok (.newarray .int, 2) := by decide +kernel
theorem dX8_init_126 : decode cX8_init 126 = .ok (.putfield 57, 3) := by decide +kernel
theorem dX8_init_129 : decode cX8_init 129 = .ok (.aload_n 0, 1) := by decide +kernel
theorem dX8_init_130 : decode cX8_init 130 = .ok (.sipush 288, 3) := by decide +kernel
theorem dX8_init_133 : decode cX8_init 133 = .ok (.newarray .int, 2) := by decide +kernel
theorem dX8_init_135 : decode cX8_init 135 = .ok (.putfield 60, 3) := by decide +kernel
theorem dX8_init_138 : decode cX8_init 138 = .ok (.aload_n 0, 1) := by decide +kernel
theorem dX8_init_139 : decode cX8_init 139 = .ok (.bipush 18, 2) := by decide +kernel
theorem dX8_init_141 : decode cX8_init 141 = .ok (.newarray .int, 2) := by decide +kernel
theorem dX8_init_143 : decode cX8_init 143 = .ok (.putfield 63, 3) := by decide +kernel
theorem dX8_init_146 : decode cX8_init 146 = .ok (.aload_n 0, 1) := by decide +kernel
theorem dX8_init_147 : decode cX8_init 147 = .ok (.bipush 8, 2) := by decide +kernel
theorem dX8_init_149 : decode cX8_init 149 = .ok (.newarray .int, 2) := by decide +kernel
theorem dX8_init_151 : decode cX8_init 151 = .ok (.putfield 66, 3) := by decide +kernel
theorem dX8_init_154 : decode cX8_init 154 = .ok (.aload_n 0, 1) := by decide +kernel
theorem dX8_init_155 : decode cX8_init 155 = .ok (.bipush 64, 2) := by decide +kernel
theorem dX8_init_157 : decode cX8_init 157 = .ok (.newarray .int, 2) := by decide +kernel
theorem dX8_init_159 : decode cX8_init 159 = .ok (.putfield 69, 3) := by decide +kernel
theorem dX8_init_162 : decode cX8_init 162 = .ok (.aload_n 0, 1) := by decide +kernel
theorem dX8_init_163 : decode cX8_init 163 = .ok (.sipush 256, 3) := by decide +kernel
theorem dX8_init_166 : decode cX8_init 166 = .ok (.newarray .int, 2) := by decide +kernel
theorem dX8_init_168 : decode cX8_init 168 = .ok (.putfield 72, 3) := by decide +kernel
theorem dX8_init_171 : decode cX8_init 171 = .ok (.aload_n 0, 1) := by decide +kernel
theorem dX8_init_172 : decode cX8_init 172 = .ok (.bipush 8, 2) := by decide +kernel
theorem dX8_init_174 : decode cX8_init 174 = .ok (.newarray .int, 2) := by decide +kernel
theorem dX8_init_176 : decode cX8_init 176 = .ok (.putfield 75, 3) := by decide +kernel
theorem dX8_init_179 : decode cX8_init 179 = .ok (.aload_n 0, 1) := by decide +kernel
theorem dX8_init_180 : decode cX8_init 180 = .ok (.bipush 6, 2) := by decide +kernel
theorem dX8_init_182 : decode cX8_init 182 = .ok (.newarray .int, 2) := by decide +kernel
theorem dX8_init_184 : decode cX8_init 184 = .ok (.putfield 78, 3) := by decide +kernel
theorem dX8_init_187 : decode cX8_init 187 = .ok (.aload_n 0, 1) := by decide +kernel
theorem dX8_init_188 : decode cX8_init 188 = .ok (.bipush 6, 2) := by decide +kernel
theorem dX8_init_190 : decode cX8_init 190 = .ok (.newarray .int, 2) := by decide +kernel
theorem dX8_init_192 : decode cX8_init 192 = .ok (.putfield 81, 3) := by decide +kernel
theorem dX8_init_195 : decode cX8_init 195 = .ok (.aload_n 0, 1) := by decide +kernel
theorem dX8_init_196 : decode cX8_init 196 = .ok (.bipush 20, 2) := by decide +kernel
theorem dX8_init_198 : decode cX8_init 198 = .ok (.newarray .int, 2) := by decide +kernel
theorem dX8_init_200 : decode cX8_init 200 = .ok (.putfield 84, 3) := by decide +kernel
theorem dX8_init_203 : decode cX8_init 203 = .ok (.iconst 0, 1) := by decide +kernel
theorem dX8_init_204 : decode cX8_init 204 = .ok (.istore_n 1, 1) := by decide +kernel
theorem dX8_init_205 : decode cX8_init 205 = .ok (.iload_n 1, 1) := by decide +kernel
theorem dX8_init_206 : decode cX8_init 206 = .ok (.bipush 18, 2) := by decide +kernel
theorem dX8_init_208 : decode cX8_init 208 = .ok (.if_icmp .ge 16, 3) := by decide +kernel
theorem dX8_init_211 : decode cX8_init 211 = .ok (.aload_n 0, 1) := by decide +kernel
theorem dX8_init_212 : decode cX8_init 212 = .ok (.getfield 63, 3) := by decide +kernel
theorem dX8_init_215 : decode cX8_init 215 = .ok (.iload_n 1, 1) := by decide +kernel
theorem dX8_init_216 : decode cX8_init 216 = .ok (.iconst 3, 1) := by decide +kernel
theorem dX8_init_217 : decode cX8_init 217 = .ok (.iastore, 1) := by decide +kernel
theorem dX8_init_218 : decode cX8_init 218 = .ok (.iinc 1 1, 3) := by decide +kernel
theorem dX8_init_221 : decode cX8_init 221 = .ok (.goto (-16), 3) := by decide +kernel
theorem dX8_init_224 : decode cX8_init 224 = .ok (.return_, 1) := by decide +kernel
theorem dX8_lies_0 : decode cX8_lies 0 = .ok (.iload_n 0, 1) := by decide +kernel
theorem dX8_lies_1 : decode cX8_lies 1 = .ok (.iload_n 1, 1) := by decide +kernel
theorem dX8_lies_2 : decode cX8_lies 2 = .ok (.if_icmp .lt 12, 3) := by decide +kernel
theorem dX8_lies_5 : decode cX8_lies 5 = .ok (.iload_n 0, 1) := by decide +kernel
theorem dX8_lies_6 : decode cX8_lies 6 = .ok (.iload_n 2, 1) := by decide +kernel
theorem dX8_lies_7 : decode cX8_lies 7 = .ok (.if_icmp .gt 7, 3) := by decide +kernel
theorem dX8_lies_10 : decode cX8_lies 10 = .ok (.iconst 1, 1) := by decide +kernel
theorem dX8_lies_11 : decode cX8_lies 11 = .ok (.goto 4, 3) := by decide +kernel
theorem dX8_lies_14 : decode cX8_lies 14 = .ok (.iconst 0, 1) := by decide +kernel
theorem dX8_lies_15 : decode cX8_lies 15 = .ok (.ireturn, 1) := by decide +kernel
theorem dX8_isClass_0 : decode cX8_isClass 0 = .ok (.iload_n 0, 1) := by decide +kernel
theorem dX8_isClass_1 : decode cX8_isClass 1 = .ok (.iconst 0, 1) := by decide +kernel
theorem dX8_isClass_2 : decode cX8_isClass 2 = .ok (.iconst 5, 1) := by decide +kernel
theorem dX8_isClass_3 : decode cX8_isClass 3 = .ok (.invokestatic 87, 3) := by decide +kernel
theorem dX8_isClass_6 : decode cX8_isClass 6 = .ok (.ireturn, 1) := by decide +kernel
theorem dX8_isBeast_0 : decode cX8_isBeast 0 = .ok (.iload_n 1, 1) := by decide +kernel
theorem dX8_isBeast_1 : decode cX8_isBeast 1 = .ok (.iconst 0, 1) := by decide +kernel
theorem dX8_isBeast_2 : decode cX8_isBeast 2 = .ok (.aload_n 0, 1) := by decide +kernel
theorem dX8_isBeast_3 : decode cX8_isBeast 3 = .ok (.getfield 91, 3) := by decide +kernel
theorem dX8_isBeast_6 : decode cX8_isBeast 6 = .ok (.iconst 1, 1) := by decide +kernel
theorem dX8_isBeast_7 : decode cX8_isBeast 7 = .ok (.isub, 1) := by decide +kernel
theorem dX8_isBeast_8 : decode cX8_isBeast 8 = .ok (.invokestatic 87, 3) := by decide +kernel
theorem dX8_isBeast_11 : decode cX8_isBeast 11 = .ok (.ireturn, 1) := by decide +kernel
theorem dX8_has_0 : decode cX8_has 0 = .ok (.iload_n 0, 1) := by decide +kernel
theorem dX8_has_1 : decode cX8_has 1 = .ok (.iload_n 1, 1) := by decide +kernel
theorem dX8_has_2 : decode cX8_has 2 = .ok (.ishr, 1) := by decide +kernel
theorem dX8_has_3 : decode cX8_has 3 = .ok (.iconst 1, 1) := by decide +kernel
theorem dX8_has_4 : decode cX8_has 4 = .ok (.iand, 1) := by decide +kernel
theorem dX8_has_5 : decode cX8_has 5 = .ok (.iconst 1, 1) := by decide +kernel
theorem dX8_has_6 : decode cX8_has 6 = .ok (.if_icmp .ne 7, 3) := by decide +kernel
theorem dX8_has_9 : decode cX8_has 9 = .ok (.iconst 1, 1) := by decide +kernel
theorem dX8_has_10 : decode cX8_has 10 = .ok (.goto 4, 3) := by decide +kernel
theorem dX8_has_13 : decode cX8_has 13 = .ok (.iconst 0, 1) := by decide +kernel
theorem dX8_has_14 : decode cX8_has 14 = .ok (.ireturn, 1) := by decide +kernel
theorem dX8_sizeOf_0 : decode cX8_sizeOf 0 = .ok (.iconst 0, 1) := by decide +kernel
theorem dX8_sizeOf_1 : decode cX8_sizeOf 1 = .ok (.istore_n 1, 1) := by decide +kernel
theorem dX8_sizeOf_2 : decode cX8_sizeOf 2 = .ok (.iload_n 0, 1) := by decide +kernel
theorem dX8_sizeOf_3 : decode cX8_sizeOf 3 = .ok (.istore_n 2, 1) := by decide +kernel
theorem dX8_sizeOf_4 : decode cX8_sizeOf 4 = .ok (.iload_n 2, 1) := by decide +kernel
theorem dX8_sizeOf_5 : decode cX8_sizeOf 5 = .ok (.ifCond .eq 15, 3) := by decide +kernel
theorem dX8_sizeOf_8 : decode cX8_sizeOf 8 = .ok (.iinc 1 1, 3) := by decide +kernel
theorem dX8_sizeOf_11 : decode cX8_sizeOf 11 = .ok (.iload_n 2, 1) := by decide +kernel
theorem dX8_sizeOf_12 : decode cX8_sizeOf 12 = .ok (.iload_n 2, 1) := by decide +kernel
theorem dX8_sizeOf_13 : decode cX8_sizeOf 13 = .ok (.iconst 1, 1) := by decide +kernel
theorem dX8_sizeOf_14 : decode cX8_sizeOf 14 = .ok (.isub, 1) := by decide +kernel
theorem dX8_sizeOf_15 : decode cX8_sizeOf 15 = .ok (.iand, 1) := by decide +kernel
theorem dX8_sizeOf_16 : decode cX8_sizeOf 16 = .ok (.istore_n 2, 1) := by decide +kernel
theorem dX8_sizeOf_17 : decode cX8_sizeOf 17 = .ok (.goto (-13), 3) := by decide +kernel
theorem dX8_sizeOf_20 : decode cX8_sizeOf 20 = .ok (.iload_n 1, 1) := by decide +kernel
theorem dX8_sizeOf_21 : decode cX8_sizeOf 21 = .ok (.ireturn, 1) := by decide +kernel
theorem dX8_push_0 : decode cX8_push 0 = .ok (.bipush 24, 2) := by decide +kernel
theorem dX8_push_2 : decode cX8_push 2 = .ok (.istore_n 2, 1) := by decide +kernel
theorem dX8_push_3 : decode cX8_push 3 = .ok (.iload_n 2, 1) := by decide +kernel
theorem dX8_push_4 : decode cX8_push 4 = .ok (.ifCond .lt 32, 3) := by decide +kernel
theorem dX8_push_7 : decode cX8_push 7 = .ok (.aload_n 0, 1) := by decide +kernel
theorem dX8_push_8 : decode cX8_push 8 = .ok (.getfield 7, 3) := by decide +kernel
theorem dX8_push_11 : decode cX8_push 11 = .ok (.aload_n 0, 1) := by decide +kernel
theorem dX8_push_12 : decode cX8_push 12 = .ok (.getfield 94, 3) := by decide +kernel
theorem dX8_push_15 : decode cX8_push 15 = .ok (.iload_n 1, 1) := by decide +kernel
theorem dX8_push_16 : decode cX8_push 16 = .ok (.iload_n 2, 1) := by decide +kernel
theorem dX8_push_17 : decode cX8_push 17 = .ok (.ishr, 1) := by decide +kernel
theorem dX8_push_18 : decode cX8_push 18 = .ok (.i2b, 1) := by decide +kernel
theorem dX8_push_19 : decode cX8_push 19 = .ok (.bastore, 1) := by decide +kernel
theorem dX8_push_20 : decode cX8_push 20 = .ok (.aload_n 0, 1) := by decide +kernel
theorem dX8_push_21 : decode cX8_push 21 = .ok (.dup, 1) := by decide +kernel
theorem dX8_push_22 : decode cX8_push 22 = .ok (.getfield 94, 3) := by decide +kernel
theorem dX8_push_25 : decode cX8_push 25 = .ok (.iconst 1, 1) := by decide +kernel
theorem dX8_push_26 : decode cX8_push 26 = .ok (.iadd, 1) := by decide +kernel
theorem dX8_push_27 : decode cX8_push 27 = .ok (.putfield 94, 3) := by decide +kernel
theorem dX8_push_30 : decode cX8_push 30 = .ok (.iinc 2 (-8), 3) := by decide +kernel
theorem dX8_push_33 : decode cX8_push 33 = .ok (.goto (-30), 3) := by decide +kernel
theorem dX8_push_36 : decode cX8_push 36 = .ok (.return_, 1) := by decide +kernel
theorem dX8_feed_0 : decode cX8_feed 0 = .ok (.aload_n 0, 1) := by decide +kernel
theorem dX8_feed_1 : decode cX8_feed 1 = .ok (.getfield 94, 3) := by decide +kernel
theorem dX8_feed_4 : decode cX8_feed 4 = .ok (.bipush 20, 2) := by decide +kernel
theorem dX8_feed_6 : decode cX8_feed 6 = .ok (.iadd, 1) := by decide +kernel
theorem dX8_feed_7 : decode cX8_feed 7 = .ok (.bipush 80, 2) := by decide +kernel
theorem dX8_feed_9 : decode cX8_feed 9 = .ok (.if_icmp .le 5, 3) := by decide +kernel
theorem dX8_feed_12 : decode cX8_feed 12 = .ok (.iconst (-1), 1) := by decide +kernel
theorem dX8_feed_13 : decode cX8_feed 13 = .ok (.ireturn, 1) := by decide +kernel
theorem dX8_feed_14 : decode cX8_feed 14 = .ok (.aload_n 0, 1) := by decide +kernel
theorem dX8_feed_15 : decode cX8_feed 15 = .ok (.iload_n 1, 1) := by decide +kernel
theorem dX8_feed_16 : decode cX8_feed 16 = .ok (.invokevirtual 97, 3) := by decide +kernel
theorem dX8_feed_19 : decode cX8_feed 19 = .ok (.aload_n 0, 1) := by decide +kernel
theorem dX8_feed_20 : decode cX8_feed 20 = .ok (.iload_n 2, 1) := by decide +kernel
theorem dX8_feed_21 : decode cX8_feed 21 = .ok (.invokevirtual 97, 3) := by decide +kernel
theorem dX8_feed_24 : decode cX8_feed 24 = .ok (.aload_n 0, 1) := by decide +kernel
theorem dX8_feed_25 : decode cX8_feed 25 = .ok (.iload_n 3, 1) := by decide +kernel
theorem dX8_feed_26 : decode cX8_feed 26 = .ok (.invokevirtual 97, 3) := by decide +kernel
theorem dX8_feed_29 : decode cX8_feed 29 = .ok (.aload_n 0, 1) := by decide +kernel
theorem dX8_feed_30 : decode cX8_feed 30 = .ok (.iload 4, 2) := by decide +kernel
theorem dX8_feed_32 : decode cX8_feed 32 = .ok (.invokevirtual 97, 3) := by decide +kernel
theorem dX8_feed_35 : decode cX8_feed 35 = .ok (.aload_n 0, 1) := by decide +kernel
theorem dX8_feed_36 : decode cX8_feed 36 = .ok (.iload 5, 2) := by decide +kernel
theorem dX8_feed_38 : decode cX8_feed 38 = .ok (.invokevirtual 97, 3) := by decide +kernel
theorem dX8_feed_41 : decode cX8_feed 41 = .ok (.aload_n 0, 1) := by decide +kernel
theorem dX8_feed_42 : decode cX8_feed 42 = .ok (.getfield 94, 3) := by decide +kernel
theorem dX8_feed_45 : decode cX8_feed 45 = .ok (.ireturn, 1) := by decide +kernel
theorem dX8_here_0 : decode cX8_here 0 = .ok (.aload_n 0, 1) := by decide +kernel
theorem dX8_here_1 : decode cX8_here 1 = .ok (.getfield 101, 3) := by decide +kernel
theorem dX8_here_4 : decode cX8_here 4 = .ok (.aload_n 0, 1) := by decide +kernel
theorem dX8_here_5 : decode cX8_here 5 = .ok (.getfield 104, 3) := by decide +kernel
theorem dX8_here_8 : decode cX8_here 8 = .ok (.if_icmp .ge 19, 3) := by decide +kernel
theorem dX8_here_11 : decode cX8_here 11 = .ok (.aload_n 0, 1) := by decide +kernel
theorem dX8_here_12 : decode cX8_here 12 = .ok (.getfield 7, 3) := by decide +kernel
theorem dX8_here_15 : decode cX8_here 15 = .ok (.aload_n 0, 1) := by decide +kernel
theorem dX8_here_16 : decode cX8_here 16 = .ok (.getfield 101, 3) := by decide +kernel
theorem dX8_here_19 : decode cX8_here 19 = .ok (.baload, 1) := by decide +kernel
theorem dX8_here_20 : decode cX8_here 20 = .ok (.sipush 255, 3) := by decide +kernel
theorem dX8_here_23 : decode cX8_here 23 = .ok (.iand, 1) := by decide +kernel
theorem dX8_here_24 : decode cX8_here 24 = .ok (.goto 4, 3) := by decide +kernel
theorem dX8_here_27 : decode cX8_here 27 = .ok (.iconst 0, 1) := by decide +kernel
theorem dX8_here_28 : decode cX8_here 28 = .ok (.ireturn, 1) := by decide +kernel
theorem dX8_fails_0 : decode cX8_fails 0 = .ok (.aload_n 0, 1) := by decide +kernel
theorem dX8_fails_1 : decode cX8_fails 1 = .ok (.getfield 107, 3) := by decide +kernel
theorem dX8_fails_4 : decode cX8_fails 4 = .ok (.ifCond .le 4, 3) := by decide +kernel
theorem dX8_fails_7 : decode cX8_fails 7 = .ok (.return_, 1) := by decide +kernel
theorem dX8_fails_8 : decode cX8_fails 8 = .ok (.aload_n 0, 1) := by decide +kernel
theorem dX8_fails_9 : decode cX8_fails 9 = .ok (.iload_n 1, 1) := by decide +kernel
theorem dX8_fails_10 : decode cX8_fails 10 = .ok (.putfield 107, 3) := by decide +kernel
theorem dX8_fails_13 : decode cX8_fails 13 = .ok (.aload_n 0, 1) := by decide +kernel
theorem dX8_fails_14 : decode cX8_fails 14 = .ok (.iload_n 2, 1) := by decide +kernel
theorem dX8_fails_15 : decode cX8_fails 15 = .ok (.putfield 110, 3) := by decide +kernel
theorem dX8_fails_18 : decode cX8_fails 18 = .ok (.return_, 1) := by decide +kernel
theorem dX8_begins_0 : decode cX8_begins 0 = .ok (.aload_n 0, 1) := by decide +kernel
theorem dX8_begins_1 : decode cX8_begins 1 = .ok (.iconst 0, 1) := by decide +kernel
theorem dX8_begins_2 : decode cX8_begins 2 = .ok (.putfield 94, 3) := by decide +kernel
theorem dX8_begins_5 : decode cX8_begins 5 = .ok (.aload_n 0, 1) := by decide +kernel
theorem dX8_begins_6 : decode cX8_begins 6 = .ok (.iload_n 1, 1) := by decide +kernel
theorem dX8_begins_7 : decode cX8_begins 7 = .ok (.putfield 104, 3) := by decide +kernel
theorem dX8_begins_10 : decode cX8_begins 10 = .ok (.aload_n 0, 1) := by decide +kernel
theorem dX8_begins_11 : decode cX8_begins 11 = .ok (.iconst 0, 1) := by decide +kernel
theorem dX8_begins_12 : decode cX8_begins 12 = .ok (.putfield 101, 3) := by decide +kernel
theorem dX8_begins_15 : decode cX8_begins 15 = .ok (.aload_n 0, 1) := by decide +kernel
theorem dX8_begins_16 : decode cX8_begins 16 = .ok (.iconst 0, 1) := by decide +kernel
theorem dX8_begins_17 : decode cX8_begins 17 = .ok (.putfield 107, 3) := by decide +kernel
theorem dX8_begins_20 : decode cX8_begins 20 = .ok (.aload_n 0, 1) := by decide +kernel
theorem dX8_begins_21 : decode cX8_begins 21 = .ok (.iconst (-1), 1) := by decide +kernel
theorem dX8_begins_22 : decode cX8_begins 22 = .ok (.putfield 110, 3) := by decide +kernel
theorem dX8_begins_25 : decode cX8_begins 25 = .ok (.return_, 1) := by decide +kernel
theorem dX8_seesDigit_0 : decode cX8_seesDigit 0 = .ok (.aload_n 0, 1) := by decide +kernel
theorem dX8_seesDigit_1 : decode cX8_seesDigit 1 = .ok (.invokevirtual 113, 3) := by decide +kernel
theorem dX8_seesDigit_4 : decode cX8_seesDigit 4 = .ok (.bipush 48, 2) := by decide +kernel
theorem dX8_seesDigit_6 : decode cX8_seesDigit 6 = .ok (.bipush 57, 2) := by decide +kernel
theorem dX8_seesDigit_8 : decode cX8_seesDigit 8 = .ok (.invokestatic 87, 3) := by decide +kernel
theorem dX8_seesDigit_11 : decode cX8_seesDigit 11 = .ok (.ireturn, 1) := by decide +kernel
theorem dX8_readNumber_0 : decode cX8_readNumber 0 = .ok (.aload_n 0, 1) := by decide +kernel
theorem dX8_readNumber_1 : decode cX8_readNumber 1 = .ok (.getfield 101, 3) := by decide +kernel
theorem dX8_readNumber_4 : decode cX8_readNumber 4 = .ok (.istore_n 1, 1) := by decide +kernel
theorem dX8_readNumber_5 : decode cX8_readNumber 5 = .ok (.iconst 0, 1) := by decide +kernel
theorem dX8_readNumber_6 : decode cX8_readNumber 6 = .ok (.istore_n 2, 1) := by decide +kernel
theorem dX8_readNumber_7 : decode cX8_readNumber 7 = .ok (.aload_n 0, 1) := by decide +kernel
theorem dX8_readNumber_8 : decode cX8_readNumber 8 = .ok (.invokevirtual 117, 3) := by decide +kernel
theorem dX8_readNumber_11 : decode cX8_readNumber 11 = .ok (.ifCond .ne 12, 3) := by decide +kernel
theorem dX8_readNumber_14 : decode cX8_readNumber 14 = .ok (.aload_n 0, 1) := by decide +kernel
theorem dX8_readNumber_15 : decode cX8_readNumber 15 = .ok (.iconst 1, 1) := by decide +kernel
theorem dX8_readNumber_16 : decode cX8_readNumber 16 = .ok (.aload_n 0, 1) := by decide +kernel
theorem dX8_readNumber_17 : decode cX8_readNumber 17 = .ok (.getfield 101, 3) := by decide +kernel
theorem dX8_readNumber_20 : decode cX8_readNumber 20 = .ok (.invokevirtual 121, 3) := by decide +kernel
theorem dX8_readNumber_23 : decode cX8_readNumber 23 = .ok (.aload_n 0, 1) := by decide +kernel
theorem dX8_readNumber_24 : decode cX8_readNumber 24 = .ok (.getfield 107, 3) := by decide +kernel
theorem dX8_readNumber_27 : decode cX8_readNumber 27 = .ok (.ifCond .ne 55, 3) := by decide +kernel
theorem dX8_readNumber_30 : decode cX8_readNumber 30 = .ok (.aload_n 0, 1) := by decide +kernel
theorem dX8_readNumber_31 : decode cX8_readNumber 31 = .ok (.invokevirtual 117, 3) := by decide +kernel
theorem dX8_readNumber_34 : decode cX8_readNumber 34 = .ok (.ifCond .eq 48, 3) := by decide +kernel
theorem dX8_readNumber_37 : decode cX8_readNumber 37 = .ok (.aload_n 0, 1) := by decide +kernel
theorem dX8_readNumber_38 : decode cX8_readNumber 38 = .ok (.getfield 101, 3) := by decide +kernel
theorem dX8_readNumber_41 : decode cX8_readNumber 41 = .ok (.iload_n 1, 1) := by decide +kernel
theorem dX8_readNumber_42 : decode cX8_readNumber 42 = .ok (.iconst 4, 1) := by decide +kernel
theorem dX8_readNumber_43 : decode cX8_readNumber 43 = .ok (.iadd, 1) := by decide +kernel
theorem dX8_readNumber_44 : decode cX8_readNumber 44 = .ok (.if_icmp .ne 12, 3) := by decide +kernel
theorem dX8_readNumber_47 : decode cX8_readNumber 47 = .ok (.aload_n 0, 1) := by decide +kernel
theorem dX8_readNumber_48 : decode cX8_readNumber 48 = .ok (.iconst 1, 1) := by decide +kernel
theorem dX8_readNumber_49 : decode cX8_readNumber 49 = .ok (.aload_n 0, 1) := by decide +kernel
theorem dX8_readNumber_50 : decode cX8_readNumber 50 = .ok (.getfield 101, 3) := by decide +kernel
theorem dX8_readNumber_53 : decode cX8_readNumber 53 = .ok (.invokevirtual 121, 3) := by decide +kernel
theorem dX8_readNumber_56 : decode cX8_readNumber 56 = .ok (.bipush 10, 2) := by decide +kernel
theorem dX8_readNumber_58 : decode cX8_readNumber 58 = .ok (.iload_n 2, 1) := by decide +kernel
theorem dX8_readNumber_59 : decode cX8_readNumber 59 = .ok (.imul, 1) := by decide +kernel
theorem dX8_readNumber_60 : decode cX8_readNumber 60 = .ok (.aload_n 0, 1) := by decide +kernel
theorem dX8_readNumber_61 : decode cX8_readNumber 61 = .ok (.invokevirtual 113, 3) := by decide +kernel
theorem dX8_readNumber_64 : decode cX8_readNumber 64 = .ok (.iadd, 1) := by decide +kernel
theorem dX8_readNumber_65 : decode cX8_readNumber 65 = .ok (.bipush 48, 2) := by decide +kernel
theorem dX8_readNumber_67 : decode cX8_readNumber 67 = .ok (.isub, 1) := by decide +kernel
theorem dX8_readNumber_68 : decode cX8_readNumber 68 = .ok (.istore_n 2, 1) := by decide +kernel
theorem dX8_readNumber_69 : decode cX8_readNumber 69 = .ok (.aload_n 0, 1) := by decide +kernel
theorem dX8_readNumber_70 : decode cX8_readNumber 70 = .ok (.dup, 1) := by decide +kernel
theorem dX8_readNumber_71 : decode cX8_readNumber 71 = .ok (.getfield 101, 3) := by decide +kernel
theorem dX8_readNumber_74 : decode cX8_readNumber 74 = .ok (.iconst 1, 1) := by decide +kernel
theorem dX8_readNumber_75 : decode cX8_readNumber 75 = .ok (.iadd, 1) := by decide +kernel
theorem dX8_readNumber_76 : decode cX8_readNumber 76 = .ok (.putfield 101, 3) := by decide +kernel
theorem dX8_readNumber_79 : decode cX8_readNumber 79 = .ok (.goto (-56), 3) := by decide +kernel
theorem dX8_readNumber_82 : decode cX8_readNumber 82 = .ok (.iload_n 2, 1) := by decide +kernel
theorem dX8_readNumber_83 : decode cX8_readNumber 83 = .ok (.ireturn, 1) := by decide +kernel
theorem dX8_keeps_0 : decode cX8_keeps 0 = .ok (.aload_n 0, 1) := by decide +kernel
theorem dX8_keeps_1 : decode cX8_keeps 1 = .ok (.getfield 107, 3) := by decide +kernel
theorem dX8_keeps_4 : decode cX8_keeps 4 = .ok (.ifCond .le 4, 3) := by decide +kernel
theorem dX8_keeps_7 : decode cX8_keeps 7 = .ok (.return_, 1) := by decide +kernel
theorem dX8_keeps_8 : decode cX8_keeps 8 = .ok (.aload_n 0, 1) := by decide +kernel
theorem dX8_keeps_9 : decode cX8_keeps 9 = .ok (.getfield 42, 3) := by decide +kernel
theorem dX8_keeps_12 : decode cX8_keeps 12 = .ok (.aload_n 0, 1) := by decide +kernel
theorem dX8_keeps_13 : decode cX8_keeps 13 = .ok (.getfield 125, 3) := by decide +kernel
theorem dX8_keeps_16 : decode cX8_keeps 16 = .ok (.iload_n 1, 1) := by decide +kernel
theorem dX8_keeps_17 : decode cX8_keeps 17 = .ok (.iastore, 1) := by decide +kernel
theorem dX8_keeps_18 : decode cX8_keeps 18 = .ok (.aload_n 0, 1) := by decide +kernel
theorem dX8_keeps_19 : decode cX8_keeps 19 = .ok (.getfield 45, 3) := by decide +kernel
theorem dX8_keeps_22 : decode cX8_keeps 22 = .ok (.aload_n 0, 1) := by decide +kernel
theorem dX8_keeps_23 : decode cX8_keeps 23 = .ok (.getfield 125, 3) := by decide +kernel
theorem dX8_keeps_26 : decode cX8_keeps 26 = .ok (.iload_n 2, 1) := by decide +kernel
theorem dX8_keeps_27 : decode cX8_keeps 27 = .ok (.iastore, 1) := by decide +kernel
theorem dX8_keeps_28 : decode cX8_keeps 28 = .ok (.aload_n 0, 1) := by decide +kernel
theorem dX8_keeps_29 : decode cX8_keeps 29 = .ok (.dup, 1) := by decide +kernel
theorem dX8_keeps_30 : decode cX8_keeps 30 = .ok (.getfield 125, 3) := by decide +kernel
theorem dX8_keeps_33 : decode cX8_keeps 33 = .ok (.iconst 1, 1) := by decide +kernel
theorem dX8_keeps_34 : decode cX8_keeps 34 = .ok (.iadd, 1) := by decide +kernel
theorem dX8_keeps_35 : decode cX8_keeps 35 = .ok (.putfield 125, 3) := by decide +kernel
theorem dX8_keeps_38 : decode cX8_keeps 38 = .ok (.return_, 1) := by decide +kernel
theorem dX8_breeds_0 : decode cX8_breeds 0 = .ok (.aload_n 0, 1) := by decide +kernel
theorem dX8_breeds_1 : decode cX8_breeds 1 = .ok (.getfield 101, 3) := by decide +kernel
theorem dX8_breeds_4 : decode cX8_breeds 4 = .ok (.istore_n 1, 1) := by decide +kernel
theorem dX8_breeds_5 : decode cX8_breeds 5 = .ok (.iconst 0, 1) := by decide +kernel
theorem dX8_breeds_6 : decode cX8_breeds 6 = .ok (.istore_n 2, 1) := by decide +kernel
theorem dX8_breeds_7 : decode cX8_breeds 7 = .ok (.aload_n 0, 1) := by decide +kernel
theorem dX8_breeds_8 : decode cX8_breeds 8 = .ok (.invokevirtual 117, 3) := by decide +kernel
theorem dX8_breeds_11 : decode cX8_breeds 11 = .ok (.ifCond .ne 12, 3) := by decide +kernel
theorem dX8_breeds_14 : decode cX8_breeds 14 = .ok (.aload_n 0, 1) := by decide +kernel
theorem dX8_breeds_15 : decode cX8_breeds 15 = .ok (.iconst 1, 1) := by decide +kernel
theorem dX8_breeds_16 : decode cX8_breeds 16 = .ok (.aload_n 0, 1) := by decide +kernel
theorem dX8_breeds_17 : decode cX8_breeds 17 = .ok (.getfield 101, 3) := by decide +kernel
theorem dX8_breeds_20 : decode cX8_breeds 20 = .ok (.invokevirtual 121, 3) := by decide +kernel
theorem dX8_breeds_23 : decode cX8_breeds 23 = .ok (.aload_n 0, 1) := by decide +kernel
theorem dX8_breeds_24 : decode cX8_breeds 24 = .ok (.getfield 107, 3) := by decide +kernel
theorem dX8_breeds_27 : decode cX8_breeds 27 = .ok (.ifCond .ne 70, 3) := by decide +kernel
theorem dX8_breeds_30 : decode cX8_breeds 30 = .ok (.aload_n 0, 1) := by decide +kernel
theorem dX8_breeds_31 : decode cX8_breeds 31 = .ok (.invokevirtual 117, 3) := by decide +kernel
theorem dX8_breeds_34 : decode cX8_breeds 34 = .ok (.ifCond .eq 63, 3) := by decide +kernel
theorem dX8_breeds_37 : decode cX8_breeds 37 = .ok (.aload_n 0, 1) := by decide +kernel
theorem dX8_breeds_38 : decode cX8_breeds 38 = .ok (.invokevirtual 113, 3) := by decide +kernel
theorem dX8_breeds_41 : decode cX8_breeds 41 = .ok (.bipush 48, 2) := by decide +kernel
theorem dX8_breeds_43 : decode cX8_breeds 43 = .ok (.isub, 1) := by decide +kernel
theorem dX8_breeds_44 : decode cX8_breeds 44 = .ok (.istore_n 3, 1) := by decide +kernel
theorem dX8_breeds_45 : decode cX8_breeds 45 = .ok (.aload_n 0, 1) := by decide +kernel
theorem dX8_breeds_46 : decode cX8_breeds 46 = .ok (.getfield 101, 3) := by decide +kernel
theorem dX8_breeds_49 : decode cX8_breeds 49 = .ok (.iload_n 1, 1) := by decide +kernel
theorem dX8_breeds_50 : decode cX8_breeds 50 = .ok (.iconst 4, 1) := by decide +kernel
theorem dX8_breeds_51 : decode cX8_breeds 51 = .ok (.iadd, 1) := by decide +kernel
theorem dX8_breeds_52 : decode cX8_breeds 52 = .ok (.if_icmp .ne 12, 3) := by decide +kernel
theorem dX8_breeds_55 : decode cX8_breeds 55 = .ok (.aload_n 0, 1) := by decide +kernel
theorem dX8_breeds_56 : decode cX8_breeds 56 = .ok (.iconst 1, 1) := by decide +kernel
theorem dX8_breeds_57 : decode cX8_breeds 57 = .ok (.aload_n 0, 1) := by decide +kernel
theorem dX8_breeds_58 : decode cX8_breeds 58 = .ok (.getfield 101, 3) := by decide +kernel
theorem dX8_breeds_61 : decode cX8_breeds 61 = .ok (.invokevirtual 121, 3) := by decide +kernel
theorem dX8_breeds_64 : decode cX8_breeds 64 = .ok (.iload_n 3, 1) := by decide +kernel
theorem dX8_breeds_65 : decode cX8_breeds 65 = .ok (.iconst 3, 1) := by decide +kernel
theorem dX8_breeds_66 : decode cX8_breeds 66 = .ok (.if_icmp .le 12, 3) := by decide +kernel
theorem dX8_breeds_69 : decode cX8_breeds 69 = .ok (.aload_n 0, 1) := by decide +kernel
theorem dX8_breeds_70 : decode cX8_breeds 70 = .ok (.iconst 2, 1) := by decide +kernel
theorem dX8_breeds_71 : decode cX8_breeds 71 = .ok (.aload_n 0, 1) := by decide +kernel
theorem dX8_breeds_72 : decode cX8_breeds 72 = .ok (.getfield 101, 3) := by decide +kernel
theorem dX8_breeds_75 : decode cX8_breeds 75 = .ok (.invokevirtual 121, 3) := by decide +kernel
theorem dX8_breeds_78 : decode cX8_breeds 78 = .ok (.iload_n 2, 1) := by decide +kernel
theorem dX8_breeds_79 : decode cX8_breeds 79 = .ok (.iconst 1, 1) := by decide +kernel
theorem dX8_breeds_80 : decode cX8_breeds 80 = .ok (.iload_n 3, 1) := by decide +kernel
theorem dX8_breeds_81 : decode cX8_breeds 81 = .ok (.ishl, 1) := by decide +kernel
theorem dX8_breeds_82 : decode cX8_breeds 82 = .ok (.ior, 1) := by decide +kernel
theorem dX8_breeds_83 : decode cX8_breeds 83 = .ok (.istore_n 2, 1) := by decide +kernel
theorem dX8_breeds_84 : decode cX8_breeds 84 = .ok (.aload_n 0, 1) := by decide +kernel
theorem dX8_breeds_85 : decode cX8_breeds 85 = .ok (.dup, 1) := by decide +kernel
theorem dX8_breeds_86 : decode cX8_breeds 86 = .ok (.getfield 101, 3) := by decide +kernel
theorem dX8_breeds_89 : decode cX8_breeds 89 = .ok (.iconst 1, 1) := by decide +kernel
theorem dX8_breeds_90 : decode cX8_breeds 90 = .ok (.iadd, 1) := by decide +kernel
theorem dX8_breeds_91 : decode cX8_breeds 91 = .ok (.putfield 101, 3) := by decide +kernel
theorem dX8_breeds_94 : decode cX8_breeds 94 = .ok (.goto (-71), 3) := by decide +kernel
theorem dX8_breeds_97 : decode cX8_breeds 97 = .ok (.aload_n 0, 1) := by decide +kernel
theorem dX8_breeds_98 : decode cX8_breeds 98 = .ok (.iconst 0, 1) := by decide +kernel
theorem dX8_breeds_99 : decode cX8_breeds 99 = .ok (.iload_n 2, 1) := by decide +kernel
theorem dX8_breeds_100 : decode cX8_breeds 100 = .ok (.invokevirtual 128, 3) := by decide +kernel
theorem dX8_breeds_103 : decode cX8_breeds 103 = .ok (.return_, 1) := by decide +kernel
theorem dX8_measures_0 : decode cX8_measures 0 = .ok (.aload_n 0, 1) := by decide +kernel
theorem dX8_measures_1 : decode cX8_measures 1 = .ok (.invokevirtual 113, 3) := by decide +kernel
theorem dX8_measures_4 : decode cX8_measures 4 = .ok (.bipush 48, 2) := by decide +kernel
theorem dX8_measures_6 : decode cX8_measures 6 = .ok (.isub, 1) := by decide +kernel
theorem dX8_measures_7 : decode cX8_measures 7 = .ok (.istore_n 1, 1) := by decide +kernel
theorem dX8_measures_8 : decode cX8_measures 8 = .ok (.aload_n 0, 1) := by decide +kernel
theorem dX8_measures_9 : decode cX8_measures 9 = .ok (.invokevirtual 117, 3) := by decide +kernel
theorem dX8_measures_12 : decode cX8_measures 12 = .ok (.ifCond .ne 15, 3) := by decide +kernel
theorem dX8_measures_15 : decode cX8_measures 15 = .ok (.aload_n 0, 1) := by decide +kernel
theorem dX8_measures_16 : decode cX8_measures 16 = .ok (.iconst 1, 1) := by decide +kernel
theorem dX8_measures_17 : decode cX8_measures 17 = .ok (.aload_n 0, 1) := by decide +kernel
theorem dX8_measures_18 : decode cX8_measures 18 = .ok (.getfield 101, 3) := by decide +kernel
theorem dX8_measures_21 : decode cX8_measures 21 = .ok (.invokevirtual 121, 3) := by decide +kernel
theorem dX8_measures_24 : decode cX8_measures 24 = .ok (.goto 17, 3) := by decide +kernel
theorem dX8_measures_27 : decode cX8_measures 27 = .ok (.iload_n 1, 1) := by decide +kernel
theorem dX8_measures_28 : decode cX8_measures 28 = .ok (.iconst 2, 1) := by decide +kernel
theorem dX8_measures_29 : decode cX8_measures 29 = .ok (.if_icmp .le 12, 3) := by decide +kernel
theorem dX8_measures_32 : decode cX8_measures 32 = .ok (.aload_n 0, 1) := by decide +kernel
theorem dX8_measures_33 : decode cX8_measures 33 = .ok (.iconst 2, 1) := by decide +kernel
theorem dX8_measures_34 : decode cX8_measures 34 = .ok (.aload_n 0, 1) := by decide +kernel
theorem dX8_measures_35 : decode cX8_measures 35 = .ok (.getfield 101, 3) := by decide +kernel
theorem dX8_measures_38 : decode cX8_measures 38 = .ok (.invokevirtual 121, 3) := by decide +kernel
theorem dX8_measures_41 : decode cX8_measures 41 = .ok (.aload_n 0, 1) := by decide +kernel
theorem dX8_measures_42 : decode cX8_measures 42 = .ok (.dup, 1) := by decide +kernel
theorem dX8_measures_43 : decode cX8_measures 43 = .ok (.getfield 101, 3) := by decide +kernel
theorem dX8_measures_46 : decode cX8_measures 46 = .ok (.iconst 1, 1) := by decide +kernel
theorem dX8_measures_47 : decode cX8_measures 47 = .ok (.iadd, 1) := by decide +kernel
theorem dX8_measures_48 : decode cX8_measures 48 = .ok (.putfield 101, 3) := by decide +kernel
theorem dX8_measures_51 : decode cX8_measures 51 = .ok (.aload_n 0, 1) := by decide +kernel
theorem dX8_measures_52 : decode cX8_measures 52 = .ok (.invokevirtual 113, 3) := by decide +kernel
theorem dX8_measures_55 : decode cX8_measures 55 = .ok (.istore_n 2, 1) := by decide +kernel
theorem dX8_measures_56 : decode cX8_measures 56 = .ok (.iload_n 2, 1) := by decide +kernel
theorem dX8_measures_57 : decode cX8_measures 57 = .ok (.bipush 62, 2) := by decide +kernel
theorem dX8_measures_59 : decode cX8_measures 59 = .ok (.if_icmp .eq 18, 3) := by decide +kernel
theorem dX8_measures_62 : decode cX8_measures 62 = .ok (.iload_n 2, 1) := by decide +kernel
theorem dX8_measures_63 : decode cX8_measures 63 = .ok (.bipush 60, 2) := by decide +kernel
theorem dX8_measures_65 : decode cX8_measures 65 = .ok (.if_icmp .eq 12, 3) := by decide +kernel
theorem dX8_measures_68 : decode cX8_measures 68 = .ok (.aload_n 0, 1) := by decide +kernel
theorem dX8_measures_69 : decode cX8_measures 69 = .ok (.iconst 1, 1) := by decide +kernel
theorem dX8_measures_70 : decode cX8_measures 70 = .ok (.aload_n 0, 1) := by decide +kernel
theorem dX8_measures_71 : decode cX8_measures 71 = .ok (.getfield 101, 3) := by decide +kernel
theorem dX8_measures_74 : decode cX8_measures 74 = .ok (.invokevirtual 121, 3) := by decide +kernel
theorem dX8_measures_77 : decode cX8_measures 77 = .ok (.aload_n 0, 1) := by decide +kernel
theorem dX8_measures_78 : decode cX8_measures 78 = .ok (.dup, 1) := by decide +kernel
theorem dX8_measures_79 : decode cX8_measures 79 = .ok (.getfield 101, 3) := by decide +kernel
theorem dX8_measures_82 : decode cX8_measures 82 = .ok (.iconst 1, 1) := by decide +kernel
theorem dX8_measures_83 : decode cX8_measures 83 = .ok (.iadd, 1) := by decide +kernel
theorem dX8_measures_84 : decode cX8_measures 84 = .ok (.putfield 101, 3) := by decide +kernel
theorem dX8_measures_87 : decode cX8_measures 87 = .ok (.aload_n 0, 1) := by decide +kernel
theorem dX8_measures_88 : decode cX8_measures 88 = .ok (.getfield 107, 3) := by decide +kernel
theorem dX8_measures_91 : decode cX8_measures 91 = .ok (.ifCond .ne 10, 3) := by decide +kernel
theorem dX8_measures_94 : decode cX8_measures 94 = .ok (.aload_n 0, 1) := by decide +kernel
theorem dX8_measures_95 : decode cX8_measures 95 = .ok (.invokevirtual 131, 3) := by decide +kernel
theorem dX8_measures_98 : decode cX8_measures 98 = .ok (.goto 4, 3) := by decide +kernel
theorem dX8_measures_101 : decode cX8_measures 101 = .ok (.iconst 0, 1) := by decide +kernel
theorem dX8_measures_102 : decode cX8_measures 102 = .ok (.istore_n 3, 1) := by decide +kernel
theorem dX8_measures_103 : decode cX8_measures 103 = .ok (.aload_n 0, 1) := by decide +kernel
theorem dX8_measures_104 : decode cX8_measures 104 = .ok (.iload_n 2, 1) := by decide +kernel
theorem dX8_measures_105 : decode cX8_measures 105 = .ok (.bipush 62, 2) := by decide +kernel
theorem dX8_measures_107 : decode cX8_measures 107 = .ok (.if_icmp .ne 7, 3) := by decide +kernel
theorem dX8_measures_110 : decode cX8_measures 110 = .ok (.iconst 3, 1) := by decide +kernel
theorem dX8_measures_111 : decode cX8_measures 111 = .ok (.goto 5, 3) := by decide +kernel
theorem dX8_measures_114 : decode cX8_measures 114 = .ok (.bipush 6, 2) := by decide +kernel
theorem dX8_measures_116 : decode cX8_measures 116 = .ok (.iload_n 1, 1) := by decide +kernel
theorem dX8_measures_117 : decode cX8_measures 117 = .ok (.iadd, 1) := by decide +kernel
theorem dX8_measures_118 : decode cX8_measures 118 = .ok (.iload_n 3, 1) := by decide +kernel
theorem dX8_measures_119 : decode cX8_measures 119 = .ok (.invokevirtual 128, 3) := by decide +kernel
theorem dX8_measures_122 : decode cX8_measures 122 = .ok (.return_, 1) := by decide +kernel
theorem dX8_clause_0 : decode cX8_clause 0 = .ok (.aload_n 0, 1) := by decide +kernel
theorem dX8_clause_1 : decode cX8_clause 1 = .ok (.invokevirtual 113, 3) := by decide +kernel
theorem dX8_clause_4 : decode cX8_clause 4 = .ok (.istore_n 1, 1) := by decide +kernel
theorem dX8_clause_5 : decode cX8_clause 5 = .ok (.iload_n 1, 1) := by decide +kernel
theorem dX8_clause_6 : decode cX8_clause 6 = .ok (.bipush 98, 2) := by decide +kernel
theorem dX8_clause_8 : decode cX8_clause 8 = .ok (.if_icmp .eq 33, 3) := by decide +kernel
theorem dX8_clause_11 : decode cX8_clause 11 = .ok (.iload_n 1, 1) := by decide +kernel
theorem dX8_clause_12 : decode cX8_clause 12 = .ok (.bipush 102, 2) := by decide +kernel
theorem dX8_clause_14 : decode cX8_clause 14 = .ok (.if_icmp .eq 27, 3) := by decide +kernel
theorem dX8_clause_17 : decode cX8_clause 17 = .ok (.iload_n 1, 1) := by decide +kernel
theorem dX8_clause_18 : decode cX8_clause 18 = .ok (.bipush 116, 2) := by decide +kernel
theorem dX8_clause_20 : decode cX8_clause 20 = .ok (.if_icmp .eq 21, 3) := by decide +kernel
theorem dX8_clause_23 : decode cX8_clause 23 = .ok (.iload_n 1, 1) := by decide +kernel
theorem dX8_clause_24 : decode cX8_clause 24 = .ok (.bipush 109, 2) := by decide +kernel
theorem dX8_clause_26 : decode cX8_clause 26 = .ok (.if_icmp .eq 15, 3) := by decide +kernel
theorem dX8_clause_29 : decode cX8_clause 29 = .ok (.aload_n 0, 1) := by decide +kernel
theorem dX8_clause_30 : decode cX8_clause 30 = .ok (.iconst 1, 1) := by decide +kernel
end
section
theorem dX8_clause_31 : decode cX8_clause 31 = .ok (.aload_n 0, 1) := by decide +kernel
theorem dX8_clause_32 : decode cX8_clause 32 = .ok (.getfield 101, 3) := by decide +kernel
theorem dX8_clause_35 : decode cX8_clause 35 = .ok (.invokevirtual 121, 3) := by decide +kernel
theorem dX8_clause_38 : decode cX8_clause 38 = .ok (.goto 21, 3) := by decide +kernel
theorem dX8_clause_41 : decode cX8_clause 41 = .ok (.aload_n 0, 1) := by decide +kernel
theorem dX8_clause_42 : decode cX8_clause 42 = .ok (.getfield 125, 3) := by decide +kernel
theorem dX8_clause_45 : decode cX8_clause 45 = .ok (.bipush 8, 2) := by decide +kernel
theorem dX8_clause_47 : decode cX8_clause 47 = .ok (.if_icmp .ne 12, 3) := by decide +kernel
theorem dX8_clause_50 : decode cX8_clause 50 = .ok (.aload_n 0, 1) := by decide +kernel
theorem dX8_clause_51 : decode cX8_clause 51 = .ok (.iconst 3, 1) := by decide +kernel
theorem dX8_clause_52 : decode cX8_clause 52 = .ok (.aload_n 0, 1) := by decide +kernel
theorem dX8_clause_53 : decode cX8_clause 53 = .ok (.getfield 101, 3) := by decide +kernel
theorem dX8_clause_56 : decode cX8_clause 56 = .ok (.invokevirtual 121, 3) := by decide +kernel
theorem dX8_clause_59 : decode cX8_clause 59 = .ok (.aload_n 0, 1) := by decide +kernel
theorem dX8_clause_60 : decode cX8_clause 60 = .ok (.getfield 107, 3) := by decide +kernel
theorem dX8_clause_63 : decode cX8_clause 63 = .ok (.ifCond .le 4, 3) := by decide +kernel
theorem dX8_clause_66 : decode cX8_clause 66 = .ok (.return_, 1) := by decide +kernel
theorem dX8_clause_67 : decode cX8_clause 67 = .ok (.aload_n 0, 1) := by decide +kernel
theorem dX8_clause_68 : decode cX8_clause 68 = .ok (.dup, 1) := by decide +kernel
theorem dX8_clause_69 : decode cX8_clause 69 = .ok (.getfield 101, 3) := by decide +kernel
theorem dX8_clause_72 : decode cX8_clause 72 = .ok (.iconst 1, 1) := by decide +kernel
theorem dX8_clause_73 : decode cX8_clause 73 = .ok (.iadd, 1) := by decide +kernel
theorem dX8_clause_74 : decode cX8_clause 74 = .ok (.putfield 101, 3) := by decide +kernel
theorem dX8_clause_77 : decode cX8_clause 77 = .ok (.iload_n 1, 1) := by decide +kernel
theorem dX8_clause_78 : decode cX8_clause 78 = .ok (.bipush 98, 2) := by decide +kernel
theorem dX8_clause_80 : decode cX8_clause 80 = .ok (.if_icmp .ne 10, 3) := by decide +kernel
theorem dX8_clause_83 : decode cX8_clause 83 = .ok (.aload_n 0, 1) := by decide +kernel
theorem dX8_clause_84 : decode cX8_clause 84 = .ok (.invokevirtual 133, 3) := by decide +kernel
theorem dX8_clause_87 : decode cX8_clause 87 = .ok (.goto 35, 3) := by decide +kernel
theorem dX8_clause_90 : decode cX8_clause 90 = .ok (.iload_n 1, 1) := by decide +kernel
theorem dX8_clause_91 : decode cX8_clause 91 = .ok (.bipush 109, 2) := by decide +kernel
theorem dX8_clause_93 : decode cX8_clause 93 = .ok (.if_icmp .ne 10, 3) := by decide +kernel
theorem dX8_clause_96 : decode cX8_clause 96 = .ok (.aload_n 0, 1) := by decide +kernel
theorem dX8_clause_97 : decode cX8_clause 97 = .ok (.invokevirtual 136, 3) := by decide +kernel
theorem dX8_clause_100 : decode cX8_clause 100 = .ok (.goto 22, 3) := by decide +kernel
theorem dX8_clause_103 : decode cX8_clause 103 = .ok (.aload_n 0, 1) := by decide +kernel
theorem dX8_clause_104 : decode cX8_clause 104 = .ok (.iload_n 1, 1) := by decide +kernel
theorem dX8_clause_105 : decode cX8_clause 105 = .ok (.bipush 102, 2) := by decide +kernel
theorem dX8_clause_107 : decode cX8_clause 107 = .ok (.if_icmp .ne 7, 3) := by decide +kernel
theorem dX8_clause_110 : decode cX8_clause 110 = .ok (.iconst 1, 1) := by decide +kernel
theorem dX8_clause_111 : decode cX8_clause 111 = .ok (.goto 4, 3) := by decide +kernel
theorem dX8_clause_114 : decode cX8_clause 114 = .ok (.iconst 2, 1) := by decide +kernel
theorem dX8_clause_115 : decode cX8_clause 115 = .ok (.aload_n 0, 1) := by decide +kernel
theorem dX8_clause_116 : decode cX8_clause 116 = .ok (.invokevirtual 131, 3) := by decide +kernel
theorem dX8_clause_119 : decode cX8_clause 119 = .ok (.invokevirtual 128, 3) := by decide +kernel
theorem dX8_clause_122 : decode cX8_clause 122 = .ok (.return_, 1) := by decide +kernel
theorem dX8_text_0 : decode cX8_text 0 = .ok (.iload_n 1, 1) := by decide +kernel
theorem dX8_text_1 : decode cX8_text 1 = .ok (.invokestatic 139, 3) := by decide +kernel
theorem dX8_text_4 : decode cX8_text 4 = .ok (.ifCond .eq 15, 3) := by decide +kernel
theorem dX8_text_7 : decode cX8_text 7 = .ok (.iload_n 2, 1) := by decide +kernel
theorem dX8_text_8 : decode cX8_text 8 = .ok (.ifCond .lt 11, 3) := by decide +kernel
theorem dX8_text_11 : decode cX8_text 11 = .ok (.iload_n 2, 1) := by decide +kernel
theorem dX8_text_12 : decode cX8_text 12 = .ok (.aload_n 0, 1) := by decide +kernel
theorem dX8_text_13 : decode cX8_text 13 = .ok (.getfield 94, 3) := by decide +kernel
theorem dX8_text_16 : decode cX8_text 16 = .ok (.if_icmp .le 5, 3) := by decide +kernel
theorem dX8_text_19 : decode cX8_text 19 = .ok (.iconst (-1), 1) := by decide +kernel
theorem dX8_text_20 : decode cX8_text 20 = .ok (.ireturn, 1) := by decide +kernel
theorem dX8_text_21 : decode cX8_text 21 = .ok (.aload_n 0, 1) := by decide +kernel
theorem dX8_text_22 : decode cX8_text 22 = .ok (.iload_n 2, 1) := by decide +kernel
theorem dX8_text_23 : decode cX8_text 23 = .ok (.invokevirtual 143, 3) := by decide +kernel
theorem dX8_text_26 : decode cX8_text 26 = .ok (.aload_n 0, 1) := by decide +kernel
theorem dX8_text_27 : decode cX8_text 27 = .ok (.iconst 0, 1) := by decide +kernel
theorem dX8_text_28 : decode cX8_text 28 = .ok (.putfield 125, 3) := by decide +kernel
theorem dX8_text_31 : decode cX8_text 31 = .ok (.iload_n 2, 1) := by decide +kernel
theorem dX8_text_32 : decode cX8_text 32 = .ok (.ifCond .le 7, 3) := by decide +kernel
theorem dX8_text_35 : decode cX8_text 35 = .ok (.iconst 1, 1) := by decide +kernel
theorem dX8_text_36 : decode cX8_text 36 = .ok (.goto 4, 3) := by decide +kernel
theorem dX8_text_39 : decode cX8_text 39 = .ok (.iconst 0, 1) := by decide +kernel
theorem dX8_text_40 : decode cX8_text 40 = .ok (.istore_n 3, 1) := by decide +kernel
theorem dX8_text_41 : decode cX8_text 41 = .ok (.iload_n 3, 1) := by decide +kernel
theorem dX8_text_42 : decode cX8_text 42 = .ok (.ifCond .eq 73, 3) := by decide +kernel
theorem dX8_text_45 : decode cX8_text 45 = .ok (.aload_n 0, 1) := by decide +kernel
theorem dX8_text_46 : decode cX8_text 46 = .ok (.getfield 107, 3) := by decide +kernel
theorem dX8_text_49 : decode cX8_text 49 = .ok (.ifCond .ne 66, 3) := by decide +kernel
theorem dX8_text_52 : decode cX8_text 52 = .ok (.aload_n 0, 1) := by decide +kernel
theorem dX8_text_53 : decode cX8_text 53 = .ok (.invokevirtual 146, 3) := by decide +kernel
theorem dX8_text_56 : decode cX8_text 56 = .ok (.aload_n 0, 1) := by decide +kernel
theorem dX8_text_57 : decode cX8_text 57 = .ok (.getfield 107, 3) := by decide +kernel
theorem dX8_text_60 : decode cX8_text 60 = .ok (.ifCond .ne 18, 3) := by decide +kernel
theorem dX8_text_63 : decode cX8_text 63 = .ok (.aload_n 0, 1) := by decide +kernel
theorem dX8_text_64 : decode cX8_text 64 = .ok (.getfield 101, 3) := by decide +kernel
theorem dX8_text_67 : decode cX8_text 67 = .ok (.aload_n 0, 1) := by decide +kernel
theorem dX8_text_68 : decode cX8_text 68 = .ok (.getfield 104, 3) := by decide +kernel
theorem dX8_text_71 : decode cX8_text 71 = .ok (.if_icmp .ge 7, 3) := by decide +kernel
theorem dX8_text_74 : decode cX8_text 74 = .ok (.iconst 1, 1) := by decide +kernel
theorem dX8_text_75 : decode cX8_text 75 = .ok (.goto 4, 3) := by decide +kernel
theorem dX8_text_78 : decode cX8_text 78 = .ok (.iconst 0, 1) := by decide +kernel
theorem dX8_text_79 : decode cX8_text 79 = .ok (.istore_n 3, 1) := by decide +kernel
theorem dX8_text_80 : decode cX8_text 80 = .ok (.iload_n 3, 1) := by decide +kernel
theorem dX8_text_81 : decode cX8_text 81 = .ok (.ifCond .eq 21, 3) := by decide +kernel
theorem dX8_text_84 : decode cX8_text 84 = .ok (.aload_n 0, 1) := by decide +kernel
theorem dX8_text_85 : decode cX8_text 85 = .ok (.invokevirtual 113, 3) := by decide +kernel
theorem dX8_text_88 : decode cX8_text 88 = .ok (.bipush 59, 2) := by decide +kernel
theorem dX8_text_90 : decode cX8_text 90 = .ok (.if_icmp .eq 12, 3) := by decide +kernel
theorem dX8_text_93 : decode cX8_text 93 = .ok (.aload_n 0, 1) := by decide +kernel
theorem dX8_text_94 : decode cX8_text 94 = .ok (.iconst 1, 1) := by decide +kernel
theorem dX8_text_95 : decode cX8_text 95 = .ok (.aload_n 0, 1) := by decide +kernel
theorem dX8_text_96 : decode cX8_text 96 = .ok (.getfield 101, 3) := by decide +kernel
theorem dX8_text_99 : decode cX8_text 99 = .ok (.invokevirtual 121, 3) := by decide +kernel
theorem dX8_text_102 : decode cX8_text 102 = .ok (.aload_n 0, 1) := by decide +kernel
theorem dX8_text_103 : decode cX8_text 103 = .ok (.dup, 1) := by decide +kernel
theorem dX8_text_104 : decode cX8_text 104 = .ok (.getfield 101, 3) := by decide +kernel
theorem dX8_text_107 : decode cX8_text 107 = .ok (.iconst 1, 1) := by decide +kernel
theorem dX8_text_108 : decode cX8_text 108 = .ok (.iadd, 1) := by decide +kernel
theorem dX8_text_109 : decode cX8_text 109 = .ok (.putfield 101, 3) := by decide +kernel
theorem dX8_text_112 : decode cX8_text 112 = .ok (.goto (-71), 3) := by decide +kernel
theorem dX8_text_115 : decode cX8_text 115 = .ok (.aload_n 0, 1) := by decide +kernel
theorem dX8_text_116 : decode cX8_text 116 = .ok (.getfield 107, 3) := by decide +kernel
theorem dX8_text_119 : decode cX8_text 119 = .ok (.ifCond .le 16, 3) := by decide +kernel
theorem dX8_text_122 : decode cX8_text 122 = .ok (.bipush 100, 2) := by decide +kernel
theorem dX8_text_124 : decode cX8_text 124 = .ok (.aload_n 0, 1) := by decide +kernel
theorem dX8_text_125 : decode cX8_text 125 = .ok (.getfield 107, 3) := by decide +kernel
theorem dX8_text_128 : decode cX8_text 128 = .ok (.imul, 1) := by decide +kernel
theorem dX8_text_129 : decode cX8_text 129 = .ok (.aload_n 0, 1) := by decide +kernel
theorem dX8_text_130 : decode cX8_text 130 = .ok (.getfield 110, 3) := by decide +kernel
theorem dX8_text_133 : decode cX8_text 133 = .ok (.iadd, 1) := by decide +kernel
theorem dX8_text_134 : decode cX8_text 134 = .ok (.ireturn, 1) := by decide +kernel
theorem dX8_text_135 : decode cX8_text 135 = .ok (.aload_n 0, 1) := by decide +kernel
theorem dX8_text_136 : decode cX8_text 136 = .ok (.getfield 33, 3) := by decide +kernel
theorem dX8_text_139 : decode cX8_text 139 = .ok (.iload_n 1, 1) := by decide +kernel
theorem dX8_text_140 : decode cX8_text 140 = .ok (.aload_n 0, 1) := by decide +kernel
theorem dX8_text_141 : decode cX8_text 141 = .ok (.getfield 125, 3) := by decide +kernel
theorem dX8_text_144 : decode cX8_text 144 = .ok (.iastore, 1) := by decide +kernel
theorem dX8_text_145 : decode cX8_text 145 = .ok (.iconst 0, 1) := by decide +kernel
theorem dX8_text_146 : decode cX8_text 146 = .ok (.istore 4, 2) := by decide +kernel
theorem dX8_text_148 : decode cX8_text 148 = .ok (.iload 4, 2) := by decide +kernel
theorem dX8_text_150 : decode cX8_text 150 = .ok (.aload_n 0, 1) := by decide +kernel
theorem dX8_text_151 : decode cX8_text 151 = .ok (.getfield 125, 3) := by decide +kernel
theorem dX8_text_154 : decode cX8_text 154 = .ok (.if_icmp .ge 47, 3) := by decide +kernel
theorem dX8_text_157 : decode cX8_text 157 = .ok (.aload_n 0, 1) := by decide +kernel
theorem dX8_text_158 : decode cX8_text 158 = .ok (.getfield 36, 3) := by decide +kernel
theorem dX8_text_161 : decode cX8_text 161 = .ok (.bipush 8, 2) := by decide +kernel
theorem dX8_text_163 : decode cX8_text 163 = .ok (.iload_n 1, 1) := by decide +kernel
theorem dX8_text_164 : decode cX8_text 164 = .ok (.imul, 1) := by decide +kernel
theorem dX8_text_165 : decode cX8_text 165 = .ok (.iload 4, 2) := by decide +kernel
theorem dX8_text_167 : decode cX8_text 167 = .ok (.iadd, 1) := by decide +kernel
theorem dX8_text_168 : decode cX8_text 168 = .ok (.aload_n 0, 1) := by decide +kernel
theorem dX8_text_169 : decode cX8_text 169 = .ok (.getfield 42, 3) := by decide +kernel
theorem dX8_text_172 : decode cX8_text 172 = .ok (.iload 4, 2) := by decide +kernel
theorem dX8_text_174 : decode cX8_text 174 = .ok (.iaload, 1) := by decide +kernel
theorem dX8_text_175 : decode cX8_text 175 = .ok (.iastore, 1) := by decide +kernel
theorem dX8_text_176 : decode cX8_text 176 = .ok (.aload_n 0, 1) := by decide +kernel
theorem dX8_text_177 : decode cX8_text 177 = .ok (.getfield 39, 3) := by decide +kernel
theorem dX8_text_180 : decode cX8_text 180 = .ok (.bipush 8, 2) := by decide +kernel
theorem dX8_text_182 : decode cX8_text 182 = .ok (.iload_n 1, 1) := by decide +kernel
theorem dX8_text_183 : decode cX8_text 183 = .ok (.imul, 1) := by decide +kernel
theorem dX8_text_184 : decode cX8_text 184 = .ok (.iload 4, 2) := by decide +kernel
theorem dX8_text_186 : decode cX8_text 186 = .ok (.iadd, 1) := by decide +kernel
theorem dX8_text_187 : decode cX8_text 187 = .ok (.aload_n 0, 1) := by decide +kernel
theorem dX8_text_188 : decode cX8_text 188 = .ok (.getfield 45, 3) := by decide +kernel
theorem dX8_text_191 : decode cX8_text 191 = .ok (.iload 4, 2) := by decide +kernel
theorem dX8_text_193 : decode cX8_text 193 = .ok (.iaload, 1) := by decide +kernel
theorem dX8_text_194 : decode cX8_text 194 = .ok (.iastore, 1) := by decide +kernel
theorem dX8_text_195 : decode cX8_text 195 = .ok (.iinc 4 1, 3) := by decide +kernel
theorem dX8_text_198 : decode cX8_text 198 = .ok (.goto (-50), 3) := by decide +kernel
theorem dX8_text_201 : decode cX8_text 201 = .ok (.iconst 0, 1) := by decide +kernel
theorem dX8_text_202 : decode cX8_text 202 = .ok (.ireturn, 1) := by decide +kernel
theorem dX8_beast_0 : decode cX8_beast 0 = .ok (.iload_n 1, 1) := by decide +kernel
theorem dX8_beast_1 : decode cX8_beast 1 = .ok (.iconst 0, 1) := by decide +kernel
theorem dX8_beast_2 : decode cX8_beast 2 = .ok (.iconst 3, 1) := by decide +kernel
theorem dX8_beast_3 : decode cX8_beast 3 = .ok (.invokestatic 87, 3) := by decide +kernel
theorem dX8_beast_6 : decode cX8_beast 6 = .ok (.ifCond .eq 44, 3) := by decide +kernel
theorem dX8_beast_9 : decode cX8_beast 9 = .ok (.iload_n 2, 1) := by decide +kernel
theorem dX8_beast_10 : decode cX8_beast 10 = .ok (.iconst 0, 1) := by decide +kernel
theorem dX8_beast_11 : decode cX8_beast 11 = .ok (.sipush 200, 3) := by decide +kernel
theorem dX8_beast_14 : decode cX8_beast 14 = .ok (.invokestatic 87, 3) := by decide +kernel
theorem dX8_beast_17 : decode cX8_beast 17 = .ok (.ifCond .eq 33, 3) := by decide +kernel
theorem dX8_beast_20 : decode cX8_beast 20 = .ok (.iload_n 3, 1) := by decide +kernel
theorem dX8_beast_21 : decode cX8_beast 21 = .ok (.iconst 0, 1) := by decide +kernel
theorem dX8_beast_22 : decode cX8_beast 22 = .ok (.bipush 9, 2) := by decide +kernel
theorem dX8_beast_24 : decode cX8_beast 24 = .ok (.invokestatic 87, 3) := by decide +kernel
theorem dX8_beast_27 : decode cX8_beast 27 = .ok (.ifCond .eq 23, 3) := by decide +kernel
theorem dX8_beast_30 : decode cX8_beast 30 = .ok (.iload 4, 2) := by decide +kernel
theorem dX8_beast_32 : decode cX8_beast 32 = .ok (.iconst 0, 1) := by decide +kernel
theorem dX8_beast_33 : decode cX8_beast 33 = .ok (.bipush 9, 2) := by decide +kernel
theorem dX8_beast_35 : decode cX8_beast 35 = .ok (.invokestatic 87, 3) := by decide +kernel
theorem dX8_beast_38 : decode cX8_beast 38 = .ok (.ifCond .eq 12, 3) := by decide +kernel
theorem dX8_beast_41 : decode cX8_beast 41 = .ok (.aload_n 0, 1) := by decide +kernel
theorem dX8_beast_42 : decode cX8_beast 42 = .ok (.getfield 91, 3) := by decide +kernel
theorem dX8_beast_45 : decode cX8_beast 45 = .ok (.bipush 20, 2) := by decide +kernel
theorem dX8_beast_47 : decode cX8_beast 47 = .ok (.if_icmp .ne 5, 3) := by decide +kernel
theorem dX8_beast_50 : decode cX8_beast 50 = .ok (.iconst (-1), 1) := by decide +kernel
theorem dX8_beast_51 : decode cX8_beast 51 = .ok (.ireturn, 1) := by decide +kernel
theorem dX8_beast_52 : decode cX8_beast 52 = .ok (.aload_n 0, 1) := by decide +kernel
theorem dX8_beast_53 : decode cX8_beast 53 = .ok (.getfield 17, 3) := by decide +kernel
theorem dX8_beast_56 : decode cX8_beast 56 = .ok (.aload_n 0, 1) := by decide +kernel
theorem dX8_beast_57 : decode cX8_beast 57 = .ok (.getfield 91, 3) := by decide +kernel
theorem dX8_beast_60 : decode cX8_beast 60 = .ok (.iload_n 1, 1) := by decide +kernel
theorem dX8_beast_61 : decode cX8_beast 61 = .ok (.iastore, 1) := by decide +kernel
theorem dX8_beast_62 : decode cX8_beast 62 = .ok (.aload_n 0, 1) := by decide +kernel
theorem dX8_beast_63 : decode cX8_beast 63 = .ok (.getfield 21, 3) := by decide +kernel
theorem dX8_beast_66 : decode cX8_beast 66 = .ok (.aload_n 0, 1) := by decide +kernel
theorem dX8_beast_67 : decode cX8_beast 67 = .ok (.getfield 91, 3) := by decide +kernel
theorem dX8_beast_70 : decode cX8_beast 70 = .ok (.iload_n 2, 1) := by decide +kernel
theorem dX8_beast_71 : decode cX8_beast 71 = .ok (.iastore, 1) := by decide +kernel
theorem dX8_beast_72 : decode cX8_beast 72 = .ok (.aload_n 0, 1) := by decide +kernel
theorem dX8_beast_73 : decode cX8_beast 73 = .ok (.getfield 24, 3) := by decide +kernel
theorem dX8_beast_76 : decode cX8_beast 76 = .ok (.aload_n 0, 1) := by decide +kernel
theorem dX8_beast_77 : decode cX8_beast 77 = .ok (.getfield 91, 3) := by decide +kernel
theorem dX8_beast_80 : decode cX8_beast 80 = .ok (.iload_n 3, 1) := by decide +kernel
theorem dX8_beast_81 : decode cX8_beast 81 = .ok (.iastore, 1) := by decide +kernel
theorem dX8_beast_82 : decode cX8_beast 82 = .ok (.aload_n 0, 1) := by decide +kernel
theorem dX8_beast_83 : decode cX8_beast 83 = .ok (.getfield 27, 3) := by decide +kernel
theorem dX8_beast_86 : decode cX8_beast 86 = .ok (.aload_n 0, 1) := by decide +kernel
theorem dX8_beast_87 : decode cX8_beast 87 = .ok (.getfield 91, 3) := by decide +kernel
theorem dX8_beast_90 : decode cX8_beast 90 = .ok (.iload 4, 2) := by decide +kernel
theorem dX8_beast_92 : decode cX8_beast 92 = .ok (.iastore, 1) := by decide +kernel
theorem dX8_beast_93 : decode cX8_beast 93 = .ok (.aload_n 0, 1) := by decide +kernel
theorem dX8_beast_94 : decode cX8_beast 94 = .ok (.dup, 1) := by decide +kernel
theorem dX8_beast_95 : decode cX8_beast 95 = .ok (.getfield 91, 3) := by decide +kernel
theorem dX8_beast_98 : decode cX8_beast 98 = .ok (.iconst 1, 1) := by decide +kernel
theorem dX8_beast_99 : decode cX8_beast 99 = .ok (.iadd, 1) := by decide +kernel
theorem dX8_beast_100 : decode cX8_beast 100 = .ok (.putfield 91, 3) := by decide +kernel
theorem dX8_beast_103 : decode cX8_beast 103 = .ok (.aload_n 0, 1) := by decide +kernel
theorem dX8_beast_104 : decode cX8_beast 104 = .ok (.getfield 91, 3) := by decide +kernel
theorem dX8_beast_107 : decode cX8_beast 107 = .ok (.iconst 1, 1) := by decide +kernel
theorem dX8_beast_108 : decode cX8_beast 108 = .ok (.isub, 1) := by decide +kernel
theorem dX8_beast_109 : decode cX8_beast 109 = .ok (.ireturn, 1) := by decide +kernel
theorem dX8_measure_0 : decode cX8_measure 0 = .ok (.aload_n 0, 1) := by decide +kernel
theorem dX8_measure_1 : decode cX8_measure 1 = .ok (.iload_n 1, 1) := by decide +kernel
theorem dX8_measure_2 : decode cX8_measure 2 = .ok (.invokevirtual 149, 3) := by decide +kernel
theorem dX8_measure_5 : decode cX8_measure 5 = .ok (.ifCond .eq 22, 3) := by decide +kernel
theorem dX8_measure_8 : decode cX8_measure 8 = .ok (.iload_n 2, 1) := by decide +kernel
theorem dX8_measure_9 : decode cX8_measure 9 = .ok (.iconst 0, 1) := by decide +kernel
theorem dX8_measure_10 : decode cX8_measure 10 = .ok (.iconst 2, 1) := by decide +kernel
theorem dX8_measure_11 : decode cX8_measure 11 = .ok (.invokestatic 87, 3) := by decide +kernel
theorem dX8_measure_14 : decode cX8_measure 14 = .ok (.ifCond .eq 13, 3) := by decide +kernel
theorem dX8_measure_17 : decode cX8_measure 17 = .ok (.iload_n 3, 1) := by decide +kernel
theorem dX8_measure_18 : decode cX8_measure 18 = .ok (.iconst 0, 1) := by decide +kernel
theorem dX8_measure_19 : decode cX8_measure 19 = .ok (.bipush 99, 2) := by decide +kernel
theorem dX8_measure_21 : decode cX8_measure 21 = .ok (.invokestatic 87, 3) := by decide +kernel
theorem dX8_measure_24 : decode cX8_measure 24 = .ok (.ifCond .ne 5, 3) := by decide +kernel
theorem dX8_measure_27 : decode cX8_measure 27 = .ok (.iconst 0, 1) := by decide +kernel
theorem dX8_measure_28 : decode cX8_measure 28 = .ok (.ireturn, 1) := by decide +kernel
theorem dX8_measure_29 : decode cX8_measure 29 = .ok (.aload_n 0, 1) := by decide +kernel
theorem dX8_measure_30 : decode cX8_measure 30 = .ok (.getfield 30, 3) := by decide +kernel
theorem dX8_measure_33 : decode cX8_measure 33 = .ok (.iconst 3, 1) := by decide +kernel
theorem dX8_measure_34 : decode cX8_measure 34 = .ok (.iload_n 1, 1) := by decide +kernel
theorem dX8_measure_35 : decode cX8_measure 35 = .ok (.imul, 1) := by decide +kernel
theorem dX8_measure_36 : decode cX8_measure 36 = .ok (.iload_n 2, 1) := by decide +kernel
theorem dX8_measure_37 : decode cX8_measure 37 = .ok (.iadd, 1) := by decide +kernel
theorem dX8_measure_38 : decode cX8_measure 38 = .ok (.iload_n 3, 1) := by decide +kernel
theorem dX8_measure_39 : decode cX8_measure 39 = .ok (.iastore, 1) := by decide +kernel
theorem dX8_measure_40 : decode cX8_measure 40 = .ok (.iconst 1, 1) := by decide +kernel
theorem dX8_measure_41 : decode cX8_measure 41 = .ok (.ireturn, 1) := by decide +kernel
theorem dX8_holds_0 : decode cX8_holds 0 = .ok (.iload_n 1, 1) := by decide +kernel
theorem dX8_holds_1 : decode cX8_holds 1 = .ok (.ifCond .ne 14, 3) := by decide +kernel
theorem dX8_holds_4 : decode cX8_holds 4 = .ok (.iload_n 2, 1) := by decide +kernel
theorem dX8_holds_5 : decode cX8_holds 5 = .ok (.aload_n 0, 1) := by decide +kernel
theorem dX8_holds_6 : decode cX8_holds 6 = .ok (.getfield 17, 3) := by decide +kernel
theorem dX8_holds_9 : decode cX8_holds 9 = .ok (.iload_n 3, 1) := by decide +kernel
theorem dX8_holds_10 : decode cX8_holds 10 = .ok (.iaload, 1) := by decide +kernel
theorem dX8_holds_11 : decode cX8_holds 11 = .ok (.invokestatic 152, 3) := by decide +kernel
theorem dX8_holds_14 : decode cX8_holds 14 = .ok (.ireturn, 1) := by decide +kernel
theorem dX8_holds_15 : decode cX8_holds 15 = .ok (.iload_n 1, 1) := by decide +kernel
theorem dX8_holds_16 : decode cX8_holds 16 = .ok (.iconst 1, 1) := by decide +kernel
theorem dX8_holds_17 : decode cX8_holds 17 = .ok (.if_icmp .ne 19, 3) := by decide +kernel
theorem dX8_holds_20 : decode cX8_holds 20 = .ok (.aload_n 0, 1) := by decide +kernel
theorem dX8_holds_21 : decode cX8_holds 21 = .ok (.getfield 21, 3) := by decide +kernel
theorem dX8_holds_24 : decode cX8_holds 24 = .ok (.iload_n 3, 1) := by decide +kernel
theorem dX8_holds_25 : decode cX8_holds 25 = .ok (.iaload, 1) := by decide +kernel
theorem dX8_holds_26 : decode cX8_holds 26 = .ok (.iload_n 2, 1) := by decide +kernel
theorem dX8_holds_27 : decode cX8_holds 27 = .ok (.if_icmp .lt 7, 3) := by decide +kernel
theorem dX8_holds_30 : decode cX8_holds 30 = .ok (.iconst 1, 1) := by decide +kernel
theorem dX8_holds_31 : decode cX8_holds 31 = .ok (.goto 4, 3) := by decide +kernel
theorem dX8_holds_34 : decode cX8_holds 34 = .ok (.iconst 0, 1) := by decide +kernel
theorem dX8_holds_35 : decode cX8_holds 35 = .ok (.ireturn, 1) := by decide +kernel
theorem dX8_holds_36 : decode cX8_holds 36 = .ok (.iload_n 1, 1) := by decide +kernel
theorem dX8_holds_37 : decode cX8_holds 37 = .ok (.iconst 2, 1) := by decide +kernel
theorem dX8_holds_38 : decode cX8_holds 38 = .ok (.if_icmp .ne 19, 3) := by decide +kernel
theorem dX8_holds_41 : decode cX8_holds 41 = .ok (.aload_n 0, 1) := by decide +kernel
theorem dX8_holds_42 : decode cX8_holds 42 = .ok (.getfield 21, 3) := by decide +kernel
theorem dX8_holds_45 : decode cX8_holds 45 = .ok (.iload_n 3, 1) := by decide +kernel
theorem dX8_holds_46 : decode cX8_holds 46 = .ok (.iaload, 1) := by decide +kernel
theorem dX8_holds_47 : decode cX8_holds 47 = .ok (.iload_n 2, 1) := by decide +kernel
theorem dX8_holds_48 : decode cX8_holds 48 = .ok (.if_icmp .gt 7, 3) := by decide +kernel
theorem dX8_holds_51 : decode cX8_holds 51 = .ok (.iconst 1, 1) := by decide +kernel
theorem dX8_holds_52 : decode cX8_holds 52 = .ok (.goto 4, 3) := by decide +kernel
theorem dX8_holds_55 : decode cX8_holds 55 = .ok (.iconst 0, 1) := by decide +kernel
theorem dX8_holds_56 : decode cX8_holds 56 = .ok (.ireturn, 1) := by decide +kernel
theorem dX8_holds_57 : decode cX8_holds 57 = .ok (.iload_n 1, 1) := by decide +kernel
theorem dX8_holds_58 : decode cX8_holds 58 = .ok (.bipush 6, 2) := by decide +kernel
theorem dX8_holds_60 : decode cX8_holds 60 = .ok (.if_icmp .ge 27, 3) := by decide +kernel
theorem dX8_holds_63 : decode cX8_holds 63 = .ok (.aload_n 0, 1) := by decide +kernel
theorem dX8_holds_64 : decode cX8_holds 64 = .ok (.getfield 30, 3) := by decide +kernel
theorem dX8_holds_67 : decode cX8_holds 67 = .ok (.iconst 3, 1) := by decide +kernel
theorem dX8_holds_68 : decode cX8_holds 68 = .ok (.iload_n 3, 1) := by decide +kernel
theorem dX8_holds_69 : decode cX8_holds 69 = .ok (.imul, 1) := by decide +kernel
theorem dX8_holds_70 : decode cX8_holds 70 = .ok (.iload_n 1, 1) := by decide +kernel
theorem dX8_holds_71 : decode cX8_holds 71 = .ok (.iadd, 1) := by decide +kernel
theorem dX8_holds_72 : decode cX8_holds 72 = .ok (.iconst 3, 1) := by decide +kernel
theorem dX8_holds_73 : decode cX8_holds 73 = .ok (.isub, 1) := by decide +kernel
theorem dX8_holds_74 : decode cX8_holds 74 = .ok (.iaload, 1) := by decide +kernel
theorem dX8_holds_75 : decode cX8_holds 75 = .ok (.iload_n 2, 1) := by decide +kernel
theorem dX8_holds_76 : decode cX8_holds 76 = .ok (.if_icmp .le 7, 3) := by decide +kernel
theorem dX8_holds_79 : decode cX8_holds 79 = .ok (.iconst 1, 1) := by decide +kernel
theorem dX8_holds_80 : decode cX8_holds 80 = .ok (.goto 29, 3) := by decide +kernel
theorem dX8_holds_83 : decode cX8_holds 83 = .ok (.iconst 0, 1) := by decide +kernel
theorem dX8_holds_84 : decode cX8_holds 84 = .ok (.goto 25, 3) := by decide +kernel
theorem dX8_holds_87 : decode cX8_holds 87 = .ok (.aload_n 0, 1) := by decide +kernel
theorem dX8_holds_88 : decode cX8_holds 88 = .ok (.getfield 30, 3) := by decide +kernel
theorem dX8_holds_91 : decode cX8_holds 91 = .ok (.iconst 3, 1) := by decide +kernel
theorem dX8_holds_92 : decode cX8_holds 92 = .ok (.iload_n 3, 1) := by decide +kernel
theorem dX8_holds_93 : decode cX8_holds 93 = .ok (.imul, 1) := by decide +kernel
theorem dX8_holds_94 : decode cX8_holds 94 = .ok (.iload_n 1, 1) := by decide +kernel
theorem dX8_holds_95 : decode cX8_holds 95 = .ok (.iadd, 1) := by decide +kernel
theorem dX8_holds_96 : decode cX8_holds 96 = .ok (.bipush 6, 2) := by decide +kernel
theorem dX8_holds_98 : decode cX8_holds 98 = .ok (.isub, 1) := by decide +kernel
theorem dX8_holds_99 : decode cX8_holds 99 = .ok (.iaload, 1) := by decide +kernel
theorem dX8_holds_100 : decode cX8_holds 100 = .ok (.iload_n 2, 1) := by decide +kernel
theorem dX8_holds_101 : decode cX8_holds 101 = .ok (.if_icmp .ge 7, 3) := by decide +kernel
theorem dX8_holds_104 : decode cX8_holds 104 = .ok (.iconst 1, 1) := by decide +kernel
theorem dX8_holds_105 : decode cX8_holds 105 = .ok (.goto 4, 3) := by decide +kernel
theorem dX8_holds_108 : decode cX8_holds 108 = .ok (.iconst 0, 1) := by decide +kernel
theorem dX8_holds_109 : decode cX8_holds 109 = .ok (.ireturn, 1) := by decide +kernel
theorem dX8_isLet_0 : decode cX8_isLet 0 = .ok (.iconst 0, 1) := by decide +kernel
theorem dX8_isLet_1 : decode cX8_isLet 1 = .ok (.istore_n 3, 1) := by decide +kernel
theorem dX8_isLet_2 : decode cX8_isLet 2 = .ok (.iload_n 3, 1) := by decide +kernel
theorem dX8_isLet_3 : decode cX8_isLet 3 = .ok (.aload_n 0, 1) := by decide +kernel
theorem dX8_isLet_4 : decode cX8_isLet 4 = .ok (.getfield 33, 3) := by decide +kernel
theorem dX8_isLet_7 : decode cX8_isLet 7 = .ok (.iload_n 1, 1) := by decide +kernel
theorem dX8_isLet_8 : decode cX8_isLet 8 = .ok (.iaload, 1) := by decide +kernel
theorem dX8_isLet_9 : decode cX8_isLet 9 = .ok (.if_icmp .ge 41, 3) := by decide +kernel
theorem dX8_isLet_12 : decode cX8_isLet 12 = .ok (.aload_n 0, 1) := by decide +kernel
theorem dX8_isLet_13 : decode cX8_isLet 13 = .ok (.aload_n 0, 1) := by decide +kernel
theorem dX8_isLet_14 : decode cX8_isLet 14 = .ok (.getfield 36, 3) := by decide +kernel
theorem dX8_isLet_17 : decode cX8_isLet 17 = .ok (.bipush 8, 2) := by decide +kernel
theorem dX8_isLet_19 : decode cX8_isLet 19 = .ok (.iload_n 1, 1) := by decide +kernel
theorem dX8_isLet_20 : decode cX8_isLet 20 = .ok (.imul, 1) := by decide +kernel
theorem dX8_isLet_21 : decode cX8_isLet 21 = .ok (.iload_n 3, 1) := by decide +kernel
theorem dX8_isLet_22 : decode cX8_isLet 22 = .ok (.iadd, 1) := by decide +kernel
theorem dX8_isLet_23 : decode cX8_isLet 23 = .ok (.iaload, 1) := by decide +kernel
theorem dX8_isLet_24 : decode cX8_isLet 24 = .ok (.aload_n 0, 1) := by decide +kernel
theorem dX8_isLet_25 : decode cX8_isLet 25 = .ok (.getfield 39, 3) := by decide +kernel
theorem dX8_isLet_28 : decode cX8_isLet 28 = .ok (.bipush 8, 2) := by decide +kernel
theorem dX8_isLet_30 : decode cX8_isLet 30 = .ok (.iload_n 1, 1) := by decide +kernel
theorem dX8_isLet_31 : decode cX8_isLet 31 = .ok (.imul, 1) := by decide +kernel
theorem dX8_isLet_32 : decode cX8_isLet 32 = .ok (.iload_n 3, 1) := by decide +kernel
theorem dX8_isLet_33 : decode cX8_isLet 33 = .ok (.iadd, 1) := by decide +kernel
theorem dX8_isLet_34 : decode cX8_isLet 34 = .ok (.iaload, 1) := by decide +kernel
theorem dX8_isLet_35 : decode cX8_isLet 35 = .ok (.iload_n 2, 1) := by decide +kernel
theorem dX8_isLet_36 : decode cX8_isLet 36 = .ok (.invokevirtual 156, 3) := by decide +kernel
theorem dX8_isLet_39 : decode cX8_isLet 39 = .ok (.ifCond .ne 5, 3) := by decide +kernel
theorem dX8_isLet_42 : decode cX8_isLet 42 = .ok (.iconst 0, 1) := by decide +kernel
theorem dX8_isLet_43 : decode cX8_isLet 43 = .ok (.ireturn, 1) := by decide +kernel
theorem dX8_isLet_44 : decode cX8_isLet 44 = .ok (.iinc 3 1, 3) := by decide +kernel
theorem dX8_isLet_47 : decode cX8_isLet 47 = .ok (.goto (-45), 3) := by decide +kernel
theorem dX8_isLet_50 : decode cX8_isLet 50 = .ok (.iconst 1, 1) := by decide +kernel
theorem dX8_isLet_51 : decode cX8_isLet 51 = .ok (.ireturn, 1) := by decide +kernel
theorem dX8_lets_0 : decode cX8_lets 0 = .ok (.iload_n 1, 1) := by decide +kernel
theorem dX8_lets_1 : decode cX8_lets 1 = .ok (.invokestatic 139, 3) := by decide +kernel
theorem dX8_lets_4 : decode cX8_lets 4 = .ok (.ifCond .eq 11, 3) := by decide +kernel
theorem dX8_lets_7 : decode cX8_lets 7 = .ok (.aload_n 0, 1) := by decide +kernel
theorem dX8_lets_8 : decode cX8_lets 8 = .ok (.iload_n 2, 1) := by decide +kernel
theorem dX8_lets_9 : decode cX8_lets 9 = .ok (.invokevirtual 149, 3) := by decide +kernel
theorem dX8_lets_12 : decode cX8_lets 12 = .ok (.ifCond .ne 7, 3) := by decide +kernel
theorem dX8_lets_15 : decode cX8_lets 15 = .ok (.iconst (-1), 1) := by decide +kernel
theorem dX8_lets_16 : decode cX8_lets 16 = .ok (.goto 17, 3) := by decide +kernel
theorem dX8_lets_19 : decode cX8_lets 19 = .ok (.aload_n 0, 1) := by decide +kernel
theorem dX8_lets_20 : decode cX8_lets 20 = .ok (.iload_n 1, 1) := by decide +kernel
theorem dX8_lets_21 : decode cX8_lets 21 = .ok (.iload_n 2, 1) := by decide +kernel
theorem dX8_lets_22 : decode cX8_lets 22 = .ok (.invokevirtual 159, 3) := by decide +kernel
theorem dX8_lets_25 : decode cX8_lets 25 = .ok (.ifCond .eq 7, 3) := by decide +kernel
theorem dX8_lets_28 : decode cX8_lets 28 = .ok (.iconst 1, 1) := by decide +kernel
theorem dX8_lets_29 : decode cX8_lets 29 = .ok (.goto 4, 3) := by decide +kernel
theorem dX8_lets_32 : decode cX8_lets 32 = .ok (.iconst 0, 1) := by decide +kernel
theorem dX8_lets_33 : decode cX8_lets 33 = .ok (.ireturn, 1) := by decide +kernel
theorem dX8_enter_0 : decode cX8_enter 0 = .ok (.iload_n 1, 1) := by decide +kernel
theorem dX8_enter_1 : decode cX8_enter 1 = .ok (.invokestatic 139, 3) := by decide +kernel
theorem dX8_enter_4 : decode cX8_enter 4 = .ok (.ifCond .eq 54, 3) := by decide +kernel
theorem dX8_enter_7 : decode cX8_enter 7 = .ok (.aload_n 0, 1) := by decide +kernel
theorem dX8_enter_8 : decode cX8_enter 8 = .ok (.iload_n 2, 1) := by decide +kernel
theorem dX8_enter_9 : decode cX8_enter 9 = .ok (.invokevirtual 149, 3) := by decide +kernel
theorem dX8_enter_12 : decode cX8_enter 12 = .ok (.ifCond .eq 46, 3) := by decide +kernel
theorem dX8_enter_15 : decode cX8_enter 15 = .ok (.aload_n 0, 1) := by decide +kernel
theorem dX8_enter_16 : decode cX8_enter 16 = .ok (.getfield 48, 3) := by decide +kernel
theorem dX8_enter_19 : decode cX8_enter 19 = .ok (.iload_n 1, 1) := by decide +kernel
theorem dX8_enter_20 : decode cX8_enter 20 = .ok (.iaload, 1) := by decide +kernel
theorem dX8_enter_21 : decode cX8_enter 21 = .ok (.aload_n 0, 1) := by decide +kernel
theorem dX8_enter_22 : decode cX8_enter 22 = .ok (.getfield 51, 3) := by decide +kernel
theorem dX8_enter_25 : decode cX8_enter 25 = .ok (.iload_n 1, 1) := by decide +kernel
theorem dX8_enter_26 : decode cX8_enter 26 = .ok (.iaload, 1) := by decide +kernel
theorem dX8_enter_27 : decode cX8_enter 27 = .ok (.ior, 1) := by decide +kernel
theorem dX8_enter_28 : decode cX8_enter 28 = .ok (.iload_n 2, 1) := by decide +kernel
theorem dX8_enter_29 : decode cX8_enter 29 = .ok (.invokestatic 152, 3) := by decide +kernel
theorem dX8_enter_32 : decode cX8_enter 32 = .ok (.ifCond .ne 26, 3) := by decide +kernel
theorem dX8_enter_35 : decode cX8_enter 35 = .ok (.aload_n 0, 1) := by decide +kernel
theorem dX8_enter_36 : decode cX8_enter 36 = .ok (.iload_n 1, 1) := by decide +kernel
theorem dX8_enter_37 : decode cX8_enter 37 = .ok (.iload_n 2, 1) := by decide +kernel
theorem dX8_enter_38 : decode cX8_enter 38 = .ok (.invokevirtual 159, 3) := by decide +kernel
theorem dX8_enter_41 : decode cX8_enter 41 = .ok (.ifCond .eq 17, 3) := by decide +kernel
theorem dX8_enter_44 : decode cX8_enter 44 = .ok (.aload_n 0, 1) := by decide +kernel
theorem dX8_enter_45 : decode cX8_enter 45 = .ok (.getfield 48, 3) := by decide +kernel
theorem dX8_enter_48 : decode cX8_enter 48 = .ok (.iload_n 1, 1) := by decide +kernel
theorem dX8_enter_49 : decode cX8_enter 49 = .ok (.iaload, 1) := by decide +kernel
theorem dX8_enter_50 : decode cX8_enter 50 = .ok (.invokestatic 162, 3) := by decide +kernel
theorem dX8_enter_53 : decode cX8_enter 53 = .ok (.bipush 8, 2) := by decide +kernel
theorem dX8_enter_55 : decode cX8_enter 55 = .ok (.if_icmp .ne 5, 3) := by decide +kernel
theorem dX8_enter_58 : decode cX8_enter 58 = .ok (.iconst 0, 1) := by decide +kernel
theorem dX8_enter_59 : decode cX8_enter 59 = .ok (.ireturn, 1) := by decide +kernel
theorem dX8_enter_60 : decode cX8_enter 60 = .ok (.aload_n 0, 1) := by decide +kernel
theorem dX8_enter_61 : decode cX8_enter 61 = .ok (.getfield 48, 3) := by decide +kernel
theorem dX8_enter_64 : decode cX8_enter 64 = .ok (.iload_n 1, 1) := by decide +kernel
theorem dX8_enter_65 : decode cX8_enter 65 = .ok (.dup2, 1) := by decide +kernel
theorem dX8_enter_66 : decode cX8_enter 66 = .ok (.iaload, 1) := by decide +kernel
theorem dX8_enter_67 : decode cX8_enter 67 = .ok (.iconst 1, 1) := by decide +kernel
theorem dX8_enter_68 : decode cX8_enter 68 = .ok (.iload_n 2, 1) := by decide +kernel
theorem dX8_enter_69 : decode cX8_enter 69 = .ok (.ishl, 1) := by decide +kernel
theorem dX8_enter_70 : decode cX8_enter 70 = .ok (.ior, 1) := by decide +kernel
theorem dX8_enter_71 : decode cX8_enter 71 = .ok (.iastore, 1) := by decide +kernel
theorem dX8_enter_72 : decode cX8_enter 72 = .ok (.iconst 0, 1) := by decide +kernel
theorem dX8_enter_73 : decode cX8_enter 73 = .ok (.istore_n 3, 1) := by decide +kernel
theorem dX8_enter_74 : decode cX8_enter 74 = .ok (.iload_n 3, 1) := by decide +kernel
theorem dX8_enter_75 : decode cX8_enter 75 = .ok (.bipush 6, 2) := by decide +kernel
theorem dX8_enter_77 : decode cX8_enter 77 = .ok (.if_icmp .ge 21, 3) := by decide +kernel
theorem dX8_enter_80 : decode cX8_enter 80 = .ok (.aload_n 0, 1) := by decide +kernel
theorem dX8_enter_81 : decode cX8_enter 81 = .ok (.getfield 57, 3) := by decide +kernel
theorem dX8_enter_84 : decode cX8_enter 84 = .ok (.bipush 6, 2) := by decide +kernel
theorem dX8_enter_86 : decode cX8_enter 86 = .ok (.iload_n 3, 1) := by decide +kernel
theorem dX8_enter_87 : decode cX8_enter 87 = .ok (.imul, 1) := by decide +kernel
theorem dX8_enter_88 : decode cX8_enter 88 = .ok (.iload_n 1, 1) := by decide +kernel
theorem dX8_enter_89 : decode cX8_enter 89 = .ok (.iadd, 1) := by decide +kernel
theorem dX8_enter_90 : decode cX8_enter 90 = .ok (.iconst 0, 1) := by decide +kernel
theorem dX8_enter_91 : decode cX8_enter 91 = .ok (.iastore, 1) := by decide +kernel
theorem dX8_enter_92 : decode cX8_enter 92 = .ok (.iinc 3 1, 3) := by decide +kernel
theorem dX8_enter_95 : decode cX8_enter 95 = .ok (.goto (-21), 3) := by decide +kernel
theorem dX8_enter_98 : decode cX8_enter 98 = .ok (.iconst 1, 1) := by decide +kernel
theorem dX8_enter_99 : decode cX8_enter 99 = .ok (.ireturn, 1) := by decide +kernel
theorem dX8_protest_0 : decode cX8_protest 0 = .ok (.iload_n 1, 1) := by decide +kernel
theorem dX8_protest_1 : decode cX8_protest 1 = .ok (.invokestatic 139, 3) := by decide +kernel
theorem dX8_protest_4 : decode cX8_protest 4 = .ok (.ifCond .eq 24, 3) := by decide +kernel
theorem dX8_protest_7 : decode cX8_protest 7 = .ok (.aload_n 0, 1) := by decide +kernel
theorem dX8_protest_8 : decode cX8_protest 8 = .ok (.iload_n 2, 1) := by decide +kernel
theorem dX8_protest_9 : decode cX8_protest 9 = .ok (.invokevirtual 149, 3) := by decide +kernel
theorem dX8_protest_12 : decode cX8_protest 12 = .ok (.ifCond .eq 16, 3) := by decide +kernel
theorem dX8_protest_15 : decode cX8_protest 15 = .ok (.aload_n 0, 1) := by decide +kernel
theorem dX8_protest_16 : decode cX8_protest 16 = .ok (.getfield 48, 3) := by decide +kernel
theorem dX8_protest_19 : decode cX8_protest 19 = .ok (.iload_n 1, 1) := by decide +kernel
theorem dX8_protest_20 : decode cX8_protest 20 = .ok (.iaload, 1) := by decide +kernel
theorem dX8_protest_21 : decode cX8_protest 21 = .ok (.iload_n 2, 1) := by decide +kernel
theorem dX8_protest_22 : decode cX8_protest 22 = .ok (.invokestatic 152, 3) := by decide +kernel
theorem dX8_protest_25 : decode cX8_protest 25 = .ok (.ifCond .ne 5, 3) := by decide +kernel
theorem dX8_protest_28 : decode cX8_protest 28 = .ok (.iconst 0, 1) := by decide +kernel
theorem dX8_protest_29 : decode cX8_protest 29 = .ok (.ireturn, 1) := by decide +kernel
theorem dX8_protest_30 : decode cX8_protest 30 = .ok (.aload_n 0, 1) := by decide +kernel
theorem dX8_protest_31 : decode cX8_protest 31 = .ok (.getfield 48, 3) := by decide +kernel
theorem dX8_protest_34 : decode cX8_protest 34 = .ok (.iload_n 1, 1) := by decide +kernel
theorem dX8_protest_35 : decode cX8_protest 35 = .ok (.dup2, 1) := by decide +kernel
theorem dX8_protest_36 : decode cX8_protest 36 = .ok (.iaload, 1) := by decide +kernel
theorem dX8_protest_37 : decode cX8_protest 37 = .ok (.iconst 1, 1) := by decide +kernel
theorem dX8_protest_38 : decode cX8_protest 38 = .ok (.iload_n 2, 1) := by decide +kernel
theorem dX8_protest_39 : decode cX8_protest 39 = .ok (.ishl, 1) := by decide +kernel
theorem dX8_protest_40 : decode cX8_protest 40 = .ok (.iconst (-1), 1) := by decide +kernel
theorem dX8_protest_41 : decode cX8_protest 41 = .ok (.ixor, 1) := by decide +kernel
theorem dX8_protest_42 : decode cX8_protest 42 = .ok (.iand, 1) := by decide +kernel
theorem dX8_protest_43 : decode cX8_protest 43 = .ok (.iastore, 1) := by decide +kernel
theorem dX8_protest_44 : decode cX8_protest 44 = .ok (.aload_n 0, 1) := by decide +kernel
theorem dX8_protest_45 : decode cX8_protest 45 = .ok (.getfield 51, 3) := by decide +kernel
theorem dX8_protest_48 : decode cX8_protest 48 = .ok (.iload_n 1, 1) := by decide +kernel
theorem dX8_protest_49 : decode cX8_protest 49 = .ok (.dup2, 1) := by decide +kernel
theorem dX8_protest_50 : decode cX8_protest 50 = .ok (.iaload, 1) := by decide +kernel
theorem dX8_protest_51 : decode cX8_protest 51 = .ok (.iconst 1, 1) := by decide +kernel
theorem dX8_protest_52 : decode cX8_protest 52 = .ok (.iload_n 2, 1) := by decide +kernel
theorem dX8_protest_53 : decode cX8_protest 53 = .ok (.ishl, 1) := by decide +kernel
theorem dX8_protest_54 : decode cX8_protest 54 = .ok (.ior, 1) := by decide +kernel
theorem dX8_protest_55 : decode cX8_protest 55 = .ok (.iastore, 1) := by decide +kernel
theorem dX8_protest_56 : decode cX8_protest 56 = .ok (.iconst 1, 1) := by decide +kernel
theorem dX8_protest_57 : decode cX8_protest 57 = .ok (.ireturn, 1) := by decide +kernel
theorem dX8_bar_0 : decode cX8_bar 0 = .ok (.iload_n 1, 1) := by decide +kernel
theorem dX8_bar_1 : decode cX8_bar 1 = .ok (.iconst 0, 1) := by decide +kernel
theorem dX8_bar_2 : decode cX8_bar 2 = .ok (.iconst 5, 1) := by decide +kernel
theorem dX8_bar_3 : decode cX8_bar 3 = .ok (.invokestatic 87, 3) := by decide +kernel
theorem dX8_bar_6 : decode cX8_bar 6 = .ok (.ifCond .eq 24, 3) := by decide +kernel
theorem dX8_bar_9 : decode cX8_bar 9 = .ok (.aload_n 0, 1) := by decide +kernel
theorem dX8_bar_10 : decode cX8_bar 10 = .ok (.iload_n 2, 1) := by decide +kernel
theorem dX8_bar_11 : decode cX8_bar 11 = .ok (.invokevirtual 149, 3) := by decide +kernel
theorem dX8_bar_14 : decode cX8_bar 14 = .ok (.ifCond .eq 16, 3) := by decide +kernel
theorem dX8_bar_17 : decode cX8_bar 17 = .ok (.aload_n 0, 1) := by decide +kernel
theorem dX8_bar_18 : decode cX8_bar 18 = .ok (.getfield 54, 3) := by decide +kernel
theorem dX8_bar_21 : decode cX8_bar 21 = .ok (.iload_n 1, 1) := by decide +kernel
theorem dX8_bar_22 : decode cX8_bar 22 = .ok (.iaload, 1) := by decide +kernel
theorem dX8_bar_23 : decode cX8_bar 23 = .ok (.iload_n 2, 1) := by decide +kernel
theorem dX8_bar_24 : decode cX8_bar 24 = .ok (.invokestatic 152, 3) := by decide +kernel
theorem dX8_bar_27 : decode cX8_bar 27 = .ok (.ifCond .eq 5, 3) := by decide +kernel
theorem dX8_bar_30 : decode cX8_bar 30 = .ok (.iconst 0, 1) := by decide +kernel
theorem dX8_bar_31 : decode cX8_bar 31 = .ok (.ireturn, 1) := by decide +kernel
theorem dX8_bar_32 : decode cX8_bar 32 = .ok (.aload_n 0, 1) := by decide +kernel
theorem dX8_bar_33 : decode cX8_bar 33 = .ok (.getfield 54, 3) := by decide +kernel
theorem dX8_bar_36 : decode cX8_bar 36 = .ok (.iload_n 1, 1) := by decide +kernel
theorem dX8_bar_37 : decode cX8_bar 37 = .ok (.dup2, 1) := by decide +kernel
theorem dX8_bar_38 : decode cX8_bar 38 = .ok (.iaload, 1) := by decide +kernel
theorem dX8_bar_39 : decode cX8_bar 39 = .ok (.iconst 1, 1) := by decide +kernel
theorem dX8_bar_40 : decode cX8_bar 40 = .ok (.iload_n 2, 1) := by decide +kernel
theorem dX8_bar_41 : decode cX8_bar 41 = .ok (.ishl, 1) := by decide +kernel
theorem dX8_bar_42 : decode cX8_bar 42 = .ok (.ior, 1) := by decide +kernel
theorem dX8_bar_43 : decode cX8_bar 43 = .ok (.iastore, 1) := by decide +kernel
theorem dX8_bar_44 : decode cX8_bar 44 = .ok (.iconst 1, 1) := by decide +kernel
theorem dX8_bar_45 : decode cX8_bar 45 = .ok (.ireturn, 1) := by decide +kernel
theorem dX8_isRowOf_0 : decode cX8_isRowOf 0 = .ok (.iconst 0, 1) := by decide +kernel
theorem dX8_isRowOf_1 : decode cX8_isRowOf 1 = .ok (.istore_n 2, 1) := by decide +kernel
theorem dX8_isRowOf_2 : decode cX8_isRowOf 2 = .ok (.iconst 0, 1) := by decide +kernel
theorem dX8_isRowOf_3 : decode cX8_isRowOf 3 = .ok (.istore_n 3, 1) := by decide +kernel
theorem dX8_isRowOf_4 : decode cX8_isRowOf 4 = .ok (.iload_n 3, 1) := by decide +kernel
theorem dX8_isRowOf_5 : decode cX8_isRowOf 5 = .ok (.iload_n 1, 1) := by decide +kernel
theorem dX8_isRowOf_6 : decode cX8_isRowOf 6 = .ok (.invokestatic 162, 3) := by decide +kernel
theorem dX8_isRowOf_9 : decode cX8_isRowOf 9 = .ok (.if_icmp .ge 55, 3) := by decide +kernel
theorem dX8_isRowOf_12 : decode cX8_isRowOf 12 = .ok (.aload_n 0, 1) := by decide +kernel
theorem dX8_isRowOf_13 : decode cX8_isRowOf 13 = .ok (.getfield 7, 3) := by decide +kernel
theorem dX8_isRowOf_16 : decode cX8_isRowOf 16 = .ok (.iload_n 3, 1) := by decide +kernel
theorem dX8_isRowOf_17 : decode cX8_isRowOf 17 = .ok (.baload, 1) := by decide +kernel
theorem dX8_isRowOf_18 : decode cX8_isRowOf 18 = .ok (.sipush 255, 3) := by decide +kernel
theorem dX8_isRowOf_21 : decode cX8_isRowOf 21 = .ok (.iand, 1) := by decide +kernel
theorem dX8_isRowOf_22 : decode cX8_isRowOf 22 = .ok (.istore 4, 2) := by decide +kernel
theorem dX8_isRowOf_24 : decode cX8_isRowOf 24 = .ok (.iload 4, 2) := by decide +kernel
theorem dX8_isRowOf_26 : decode cX8_isRowOf 26 = .ok (.bipush 20, 2) := by decide +kernel
theorem dX8_isRowOf_28 : decode cX8_isRowOf 28 = .ok (.if_icmp .ge 21, 3) := by decide +kernel
theorem dX8_isRowOf_31 : decode cX8_isRowOf 31 = .ok (.iload_n 1, 1) := by decide +kernel
theorem dX8_isRowOf_32 : decode cX8_isRowOf 32 = .ok (.iload 4, 2) := by decide +kernel
theorem dX8_isRowOf_34 : decode cX8_isRowOf 34 = .ok (.invokestatic 152, 3) := by decide +kernel
theorem dX8_isRowOf_37 : decode cX8_isRowOf 37 = .ok (.ifCond .eq 12, 3) := by decide +kernel
theorem dX8_isRowOf_40 : decode cX8_isRowOf 40 = .ok (.iload_n 2, 1) := by decide +kernel
theorem dX8_isRowOf_41 : decode cX8_isRowOf 41 = .ok (.iload 4, 2) := by decide +kernel
theorem dX8_isRowOf_43 : decode cX8_isRowOf 43 = .ok (.invokestatic 152, 3) := by decide +kernel
theorem dX8_isRowOf_46 : decode cX8_isRowOf 46 = .ok (.ifCond .eq 5, 3) := by decide +kernel
theorem dX8_isRowOf_49 : decode cX8_isRowOf 49 = .ok (.iconst 0, 1) := by decide +kernel
theorem dX8_isRowOf_50 : decode cX8_isRowOf 50 = .ok (.ireturn, 1) := by decide +kernel
theorem dX8_isRowOf_51 : decode cX8_isRowOf 51 = .ok (.iload_n 2, 1) := by decide +kernel
theorem dX8_isRowOf_52 : decode cX8_isRowOf 52 = .ok (.iconst 1, 1) := by decide +kernel
theorem dX8_isRowOf_53 : decode cX8_isRowOf 53 = .ok (.iload 4, 2) := by decide +kernel
theorem dX8_isRowOf_55 : decode cX8_isRowOf 55 = .ok (.ishl, 1) := by decide +kernel
theorem dX8_isRowOf_56 : decode cX8_isRowOf 56 = .ok (.ior, 1) := by decide +kernel
theorem dX8_isRowOf_57 : decode cX8_isRowOf 57 = .ok (.istore_n 2, 1) := by decide +kernel
theorem dX8_isRowOf_58 : decode cX8_isRowOf 58 = .ok (.iinc 3 1, 3) := by decide +kernel
theorem dX8_isRowOf_61 : decode cX8_isRowOf 61 = .ok (.goto (-57), 3) := by decide +kernel
theorem dX8_isRowOf_64 : decode cX8_isRowOf 64 = .ok (.iconst 1, 1) := by decide +kernel
theorem dX8_isRowOf_65 : decode cX8_isRowOf 65 = .ok (.ireturn, 1) := by decide +kernel
theorem dX8_order_0 : decode cX8_order 0 = .ok (.iload_n 1, 1) := by decide +kernel
theorem dX8_order_1 : decode cX8_order 1 = .ok (.iconst 0, 1) := by decide +kernel
theorem dX8_order_2 : decode cX8_order 2 = .ok (.iconst 5, 1) := by decide +kernel
theorem dX8_order_3 : decode cX8_order 3 = .ok (.invokestatic 87, 3) := by decide +kernel
theorem dX8_order_6 : decode cX8_order 6 = .ok (.ifCond .eq 10, 3) := by decide +kernel
theorem dX8_order_9 : decode cX8_order 9 = .ok (.iload_n 2, 1) := by decide +kernel
theorem dX8_order_10 : decode cX8_order 10 = .ok (.invokestatic 139, 3) := by decide +kernel
theorem dX8_order_13 : decode cX8_order 13 = .ok (.ifCond .ne 5, 3) := by decide +kernel
theorem dX8_order_16 : decode cX8_order 16 = .ok (.iconst 0, 1) := by decide +kernel
theorem dX8_order_17 : decode cX8_order 17 = .ok (.ireturn, 1) := by decide +kernel
theorem dX8_order_18 : decode cX8_order 18 = .ok (.aload_n 0, 1) := by decide +kernel
theorem dX8_order_19 : decode cX8_order 19 = .ok (.getfield 48, 3) := by decide +kernel
theorem dX8_order_22 : decode cX8_order 22 = .ok (.iload_n 2, 1) := by decide +kernel
theorem dX8_order_23 : decode cX8_order 23 = .ok (.iaload, 1) := by decide +kernel
theorem dX8_order_24 : decode cX8_order 24 = .ok (.invokestatic 162, 3) := by decide +kernel
theorem dX8_order_27 : decode cX8_order 27 = .ok (.istore_n 3, 1) := by decide +kernel
theorem dX8_order_28 : decode cX8_order 28 = .ok (.iload_n 3, 1) := by decide +kernel
theorem dX8_order_29 : decode cX8_order 29 = .ok (.ifCond .eq 11, 3) := by decide +kernel
theorem dX8_order_32 : decode cX8_order 32 = .ok (.aload_n 0, 1) := by decide +kernel
theorem dX8_order_33 : decode cX8_order 33 = .ok (.getfield 94, 3) := by decide +kernel
theorem dX8_order_36 : decode cX8_order 36 = .ok (.iload_n 3, 1) := by decide +kernel
theorem dX8_order_37 : decode cX8_order 37 = .ok (.if_icmp .ge 5, 3) := by decide +kernel
theorem dX8_order_40 : decode cX8_order 40 = .ok (.iconst 0, 1) := by decide +kernel
theorem dX8_order_41 : decode cX8_order 41 = .ok (.ireturn, 1) := by decide +kernel
theorem dX8_order_42 : decode cX8_order 42 = .ok (.aload_n 0, 1) := by decide +kernel
theorem dX8_order_43 : decode cX8_order 43 = .ok (.iconst 0, 1) := by decide +kernel
theorem dX8_order_44 : decode cX8_order 44 = .ok (.putfield 94, 3) := by decide +kernel
theorem dX8_order_47 : decode cX8_order 47 = .ok (.aload_n 0, 1) := by decide +kernel
theorem dX8_order_48 : decode cX8_order 48 = .ok (.getfield 54, 3) := by decide +kernel
theorem dX8_order_51 : decode cX8_order 51 = .ok (.iload_n 1, 1) := by decide +kernel
theorem dX8_order_52 : decode cX8_order 52 = .ok (.iaload, 1) := by decide +kernel
theorem dX8_order_53 : decode cX8_order 53 = .ok (.aload_n 0, 1) := by decide +kernel
theorem dX8_order_54 : decode cX8_order 54 = .ok (.getfield 48, 3) := by decide +kernel
theorem dX8_order_57 : decode cX8_order 57 = .ok (.iload_n 2, 1) := by decide +kernel
theorem dX8_order_58 : decode cX8_order 58 = .ok (.iaload, 1) := by decide +kernel
theorem dX8_order_59 : decode cX8_order 59 = .ok (.iand, 1) := by decide +kernel
theorem dX8_order_60 : decode cX8_order 60 = .ok (.ifCond .ne 16, 3) := by decide +kernel
theorem dX8_order_63 : decode cX8_order 63 = .ok (.aload_n 0, 1) := by decide +kernel
theorem dX8_order_64 : decode cX8_order 64 = .ok (.aload_n 0, 1) := by decide +kernel
theorem dX8_order_65 : decode cX8_order 65 = .ok (.getfield 48, 3) := by decide +kernel
theorem dX8_order_68 : decode cX8_order 68 = .ok (.iload_n 2, 1) := by decide +kernel
theorem dX8_order_69 : decode cX8_order 69 = .ok (.iaload, 1) := by decide +kernel
theorem dX8_order_70 : decode cX8_order 70 = .ok (.invokevirtual 166, 3) := by decide +kernel
theorem dX8_order_73 : decode cX8_order 73 = .ok (.ifCond .ne 5, 3) := by decide +kernel
theorem dX8_order_76 : decode cX8_order 76 = .ok (.iconst 0, 1) := by decide +kernel
theorem dX8_order_77 : decode cX8_order 77 = .ok (.ireturn, 1) := by decide +kernel
theorem dX8_order_78 : decode cX8_order 78 = .ok (.aload_n 0, 1) := by decide +kernel
theorem dX8_order_79 : decode cX8_order 79 = .ok (.getfield 57, 3) := by decide +kernel
theorem dX8_order_82 : decode cX8_order 82 = .ok (.bipush 6, 2) := by decide +kernel
theorem dX8_order_84 : decode cX8_order 84 = .ok (.iload_n 1, 1) := by decide +kernel
theorem dX8_order_85 : decode cX8_order 85 = .ok (.imul, 1) := by decide +kernel
theorem dX8_order_86 : decode cX8_order 86 = .ok (.iload_n 2, 1) := by decide +kernel
theorem dX8_order_87 : decode cX8_order 87 = .ok (.iadd, 1) := by decide +kernel
theorem dX8_order_88 : decode cX8_order 88 = .ok (.iload_n 3, 1) := by decide +kernel
theorem dX8_order_89 : decode cX8_order 89 = .ok (.iastore, 1) := by decide +kernel
theorem dX8_order_90 : decode cX8_order 90 = .ok (.iconst 0, 1) := by decide +kernel
theorem dX8_order_91 : decode cX8_order 91 = .ok (.istore 4, 2) := by decide +kernel
theorem dX8_order_93 : decode cX8_order 93 = .ok (.iload 4, 2) := by decide +kernel
theorem dX8_order_95 : decode cX8_order 95 = .ok (.iload_n 3, 1) := by decide +kernel
theorem dX8_order_96 : decode cX8_order 96 = .ok (.if_icmp .ge 33, 3) := by decide +kernel
theorem dX8_order_99 : decode cX8_order 99 = .ok (.aload_n 0, 1) := by decide +kernel
theorem dX8_order_100 : decode cX8_order 100 = .ok (.getfield 60, 3) := by decide +kernel
theorem dX8_order_103 : decode cX8_order 103 = .ok (.bipush 8, 2) := by decide +kernel
theorem dX8_order_105 : decode cX8_order 105 = .ok (.bipush 6, 2) := by decide +kernel
theorem dX8_order_107 : decode cX8_order 107 = .ok (.iload_n 1, 1) := by decide +kernel
theorem dX8_order_108 : decode cX8_order 108 = .ok (.imul, 1) := by decide +kernel
theorem dX8_order_109 : decode cX8_order 109 = .ok (.iload_n 2, 1) := by decide +kernel
theorem dX8_order_110 : decode cX8_order 110 = .ok (.iadd, 1) := by decide +kernel
theorem dX8_order_111 : decode cX8_order 111 = .ok (.imul, 1) := by decide +kernel
theorem dX8_order_112 : decode cX8_order 112 = .ok (.iload 4, 2) := by decide +kernel
theorem dX8_order_114 : decode cX8_order 114 = .ok (.iadd, 1) := by decide +kernel
theorem dX8_order_115 : decode cX8_order 115 = .ok (.aload_n 0, 1) := by decide +kernel
theorem dX8_order_116 : decode cX8_order 116 = .ok (.getfield 7, 3) := by decide +kernel
theorem dX8_order_119 : decode cX8_order 119 = .ok (.iload 4, 2) := by decide +kernel
theorem dX8_order_121 : decode cX8_order 121 = .ok (.baload, 1) := by decide +kernel
theorem dX8_order_122 : decode cX8_order 122 = .ok (.iastore, 1) := by decide +kernel
theorem dX8_order_123 : decode cX8_order 123 = .ok (.iinc 4 1, 3) := by decide +kernel
theorem dX8_order_126 : decode cX8_order 126 = .ok (.goto (-33), 3) := by decide +kernel
theorem dX8_order_129 : decode cX8_order 129 = .ok (.iconst 1, 1) := by decide +kernel
theorem dX8_order_130 : decode cX8_order 130 = .ok (.ireturn, 1) := by decide +kernel
theorem dX8_counts_0 : decode cX8_counts 0 = .ok (.aload_n 0, 1) := by decide +kernel
theorem dX8_counts_1 : decode cX8_counts 1 = .ok (.getfield 57, 3) := by decide +kernel
theorem dX8_counts_4 : decode cX8_counts 4 = .ok (.bipush 6, 2) := by decide +kernel
theorem dX8_counts_6 : decode cX8_counts 6 = .ok (.iload_n 1, 1) := by decide +kernel
theorem dX8_counts_7 : decode cX8_counts 7 = .ok (.imul, 1) := by decide +kernel
theorem dX8_counts_8 : decode cX8_counts 8 = .ok (.iload_n 2, 1) := by decide +kernel
theorem dX8_counts_9 : decode cX8_counts 9 = .ok (.iadd, 1) := by decide +kernel
theorem dX8_counts_10 : decode cX8_counts 10 = .ok (.iaload, 1) := by decide +kernel
theorem dX8_counts_11 : decode cX8_counts 11 = .ok (.ifCond .le 7, 3) := by decide +kernel
theorem dX8_counts_14 : decode cX8_counts 14 = .ok (.iconst 1, 1) := by decide +kernel
theorem dX8_counts_15 : decode cX8_counts 15 = .ok (.goto 4, 3) := by decide +kernel
theorem dX8_counts_18 : decode cX8_counts 18 = .ok (.iconst 0, 1) := by decide +kernel
theorem dX8_counts_19 : decode cX8_counts 19 = .ok (.ireturn, 1) := by decide +kernel
theorem dX8_placeIn_0 : decode cX8_placeIn 0 = .ok (.iconst 0, 1) := by decide +kernel
theorem dX8_placeIn_1 : decode cX8_placeIn 1 = .ok (.istore 4, 2) := by decide +kernel
theorem dX8_placeIn_3 : decode cX8_placeIn 3 = .ok (.aload_n 0, 1) := by decide +kernel
theorem dX8_placeIn_4 : decode cX8_placeIn 4 = .ok (.getfield 60, 3) := by decide +kernel
theorem dX8_placeIn_7 : decode cX8_placeIn 7 = .ok (.bipush 8, 2) := by decide +kernel
theorem dX8_placeIn_9 : decode cX8_placeIn 9 = .ok (.bipush 6, 2) := by decide +kernel
theorem dX8_placeIn_11 : decode cX8_placeIn 11 = .ok (.iload_n 1, 1) := by decide +kernel
theorem dX8_placeIn_12 : decode cX8_placeIn 12 = .ok (.imul, 1) := by decide +kernel
theorem dX8_placeIn_13 : decode cX8_placeIn 13 = .ok (.iload_n 2, 1) := by decide +kernel
theorem dX8_placeIn_14 : decode cX8_placeIn 14 = .ok (.iadd, 1) := by decide +kernel
theorem dX8_placeIn_15 : decode cX8_placeIn 15 = .ok (.imul, 1) := by decide +kernel
theorem dX8_placeIn_16 : decode cX8_placeIn 16 = .ok (.iload 4, 2) := by decide +kernel
theorem dX8_placeIn_18 : decode cX8_placeIn 18 = .ok (.iadd, 1) := by decide +kernel
theorem dX8_placeIn_19 : decode cX8_placeIn 19 = .ok (.iaload, 1) := by decide +kernel
theorem dX8_placeIn_20 : decode cX8_placeIn 20 = .ok (.iload_n 3, 1) := by decide +kernel
theorem dX8_placeIn_21 : decode cX8_placeIn 21 = .ok (.if_icmp .eq 9, 3) := by decide +kernel
theorem dX8_placeIn_24 : decode cX8_placeIn 24 = .ok (.iinc 4 1, 3) := by decide +kernel
theorem dX8_placeIn_27 : decode cX8_placeIn 27 = .ok (.goto (-24), 3) := by decide +kernel
theorem dX8_placeIn_30 : decode cX8_placeIn 30 = .ok (.iload 4, 2) := by decide +kernel
theorem dX8_placeIn_32 : decode cX8_placeIn 32 = .ok (.ireturn, 1) := by decide +kernel
theorem dX8_ahead_0 : decode cX8_ahead 0 = .ok (.iconst 0, 1) := by decide +kernel
theorem dX8_ahead_1 : decode cX8_ahead 1 = .ok (.istore 4, 2) := by decide +kernel
theorem dX8_ahead_3 : decode cX8_ahead 3 = .ok (.iconst 0, 1) := by decide +kernel
theorem dX8_ahead_4 : decode cX8_ahead 4 = .ok (.istore 5, 2) := by decide +kernel
theorem dX8_ahead_6 : decode cX8_ahead 6 = .ok (.iload 5, 2) := by decide +kernel
theorem dX8_ahead_8 : decode cX8_ahead 8 = .ok (.bipush 6, 2) := by decide +kernel
theorem dX8_ahead_10 : decode cX8_ahead 10 = .ok (.if_icmp .ge 48, 3) := by decide +kernel
theorem dX8_ahead_13 : decode cX8_ahead 13 = .ok (.iload 4, 2) := by decide +kernel
theorem dX8_ahead_15 : decode cX8_ahead 15 = .ok (.aload_n 0, 1) := by decide +kernel
theorem dX8_ahead_16 : decode cX8_ahead 16 = .ok (.iload 5, 2) := by decide +kernel
theorem dX8_ahead_18 : decode cX8_ahead 18 = .ok (.iload_n 1, 1) := by decide +kernel
theorem dX8_ahead_19 : decode cX8_ahead 19 = .ok (.invokevirtual 169, 3) := by decide +kernel
theorem dX8_ahead_22 : decode cX8_ahead 22 = .ok (.ifCond .eq 26, 3) := by decide +kernel
theorem dX8_ahead_25 : decode cX8_ahead 25 = .ok (.aload_n 0, 1) := by decide +kernel
theorem dX8_ahead_26 : decode cX8_ahead 26 = .ok (.iload 5, 2) := by decide +kernel
theorem dX8_ahead_28 : decode cX8_ahead 28 = .ok (.iload_n 1, 1) := by decide +kernel
theorem dX8_ahead_29 : decode cX8_ahead 29 = .ok (.iload_n 2, 1) := by decide +kernel
theorem dX8_ahead_30 : decode cX8_ahead 30 = .ok (.invokevirtual 172, 3) := by decide +kernel
theorem dX8_ahead_33 : decode cX8_ahead 33 = .ok (.aload_n 0, 1) := by decide +kernel
theorem dX8_ahead_34 : decode cX8_ahead 34 = .ok (.iload 5, 2) := by decide +kernel
theorem dX8_ahead_36 : decode cX8_ahead 36 = .ok (.iload_n 1, 1) := by decide +kernel
theorem dX8_ahead_37 : decode cX8_ahead 37 = .ok (.iload_n 3, 1) := by decide +kernel
theorem dX8_ahead_38 : decode cX8_ahead 38 = .ok (.invokevirtual 172, 3) := by decide +kernel
theorem dX8_ahead_41 : decode cX8_ahead 41 = .ok (.if_icmp .ge 7, 3) := by decide +kernel
theorem dX8_ahead_44 : decode cX8_ahead 44 = .ok (.iconst 1, 1) := by decide +kernel
theorem dX8_ahead_45 : decode cX8_ahead 45 = .ok (.goto 4, 3) := by decide +kernel
theorem dX8_ahead_48 : decode cX8_ahead 48 = .ok (.iconst 0, 1) := by decide +kernel
theorem dX8_ahead_49 : decode cX8_ahead 49 = .ok (.iadd, 1) := by decide +kernel
theorem dX8_ahead_50 : decode cX8_ahead 50 = .ok (.istore 4, 2) := by decide +kernel
theorem dX8_ahead_52 : decode cX8_ahead 52 = .ok (.iinc 5 1, 3) := by decide +kernel
theorem dX8_ahead_55 : decode cX8_ahead 55 = .ok (.goto (-49), 3) := by decide +kernel
theorem dX8_ahead_58 : decode cX8_ahead 58 = .ok (.iload 4, 2) := by decide +kernel
theorem dX8_ahead_60 : decode cX8_ahead 60 = .ok (.ireturn, 1) := by decide +kernel
theorem dX8_cost_0 : decode cX8_cost 0 = .ok (.iconst 0, 1) := by decide +kernel
theorem dX8_cost_1 : decode cX8_cost 1 = .ok (.istore_n 3, 1) := by decide +kernel
theorem dX8_cost_2 : decode cX8_cost 2 = .ok (.iconst 0, 1) := by decide +kernel
theorem dX8_cost_3 : decode cX8_cost 3 = .ok (.istore 4, 2) := by decide +kernel
theorem dX8_cost_5 : decode cX8_cost 5 = .ok (.iload 4, 2) := by decide +kernel
theorem dX8_cost_7 : decode cX8_cost 7 = .ok (.aload_n 0, 1) := by decide +kernel
theorem dX8_cost_8 : decode cX8_cost 8 = .ok (.getfield 176, 3) := by decide +kernel
theorem dX8_cost_11 : decode cX8_cost 11 = .ok (.if_icmp .ge 43, 3) := by decide +kernel
theorem dX8_cost_14 : decode cX8_cost 14 = .ok (.iload_n 3, 1) := by decide +kernel
theorem dX8_cost_15 : decode cX8_cost 15 = .ok (.iload 4, 2) := by decide +kernel
theorem dX8_cost_17 : decode cX8_cost 17 = .ok (.iload_n 1, 1) := by decide +kernel
theorem dX8_cost_18 : decode cX8_cost 18 = .ok (.if_icmp .eq 27, 3) := by decide +kernel
theorem dX8_cost_21 : decode cX8_cost 21 = .ok (.iload_n 2, 1) := by decide +kernel
theorem dX8_cost_22 : decode cX8_cost 22 = .ok (.iload 4, 2) := by decide +kernel
theorem dX8_cost_24 : decode cX8_cost 24 = .ok (.invokestatic 152, 3) := by decide +kernel
theorem dX8_cost_27 : decode cX8_cost 27 = .ok (.ifCond .eq 18, 3) := by decide +kernel
theorem dX8_cost_30 : decode cX8_cost 30 = .ok (.aload_n 0, 1) := by decide +kernel
theorem dX8_cost_31 : decode cX8_cost 31 = .ok (.getfield 69, 3) := by decide +kernel
theorem dX8_cost_34 : decode cX8_cost 34 = .ok (.bipush 8, 2) := by decide +kernel
theorem dX8_cost_36 : decode cX8_cost 36 = .ok (.iload 4, 2) := by decide +kernel
theorem dX8_cost_38 : decode cX8_cost 38 = .ok (.imul, 1) := by decide +kernel
theorem dX8_cost_39 : decode cX8_cost 39 = .ok (.iload_n 1, 1) := by decide +kernel
theorem dX8_cost_40 : decode cX8_cost 40 = .ok (.iadd, 1) := by decide +kernel
theorem dX8_cost_41 : decode cX8_cost 41 = .ok (.iaload, 1) := by decide +kernel
theorem dX8_cost_42 : decode cX8_cost 42 = .ok (.goto 4, 3) := by decide +kernel
theorem dX8_cost_45 : decode cX8_cost 45 = .ok (.iconst 0, 1) := by decide +kernel
theorem dX8_cost_46 : decode cX8_cost 46 = .ok (.iadd, 1) := by decide +kernel
theorem dX8_cost_47 : decode cX8_cost 47 = .ok (.istore_n 3, 1) := by decide +kernel
theorem dX8_cost_48 : decode cX8_cost 48 = .ok (.iinc 4 1, 3) := by decide +kernel
theorem dX8_cost_51 : decode cX8_cost 51 = .ok (.goto (-46), 3) := by decide +kernel
theorem dX8_cost_54 : decode cX8_cost 54 = .ok (.iload_n 3, 1) := by decide +kernel
theorem dX8_cost_55 : decode cX8_cost 55 = .ok (.ireturn, 1) := by decide +kernel
theorem dX8_joins_0 : decode cX8_joins 0 = .ok (.aload_n 0, 1) := by decide +kernel
theorem dX8_joins_1 : decode cX8_joins 1 = .ok (.iconst 0, 1) := by decide +kernel
theorem dX8_joins_2 : decode cX8_joins 2 = .ok (.putfield 176, 3) := by decide +kernel
theorem dX8_joins_5 : decode cX8_joins 5 = .ok (.iconst 0, 1) := by decide +kernel
theorem dX8_joins_6 : decode cX8_joins 6 = .ok (.istore_n 2, 1) := by decide +kernel
theorem dX8_joins_7 : decode cX8_joins 7 = .ok (.iload_n 2, 1) := by decide +kernel
theorem dX8_joins_8 : decode cX8_joins 8 = .ok (.aload_n 0, 1) := by decide +kernel
theorem dX8_joins_9 : decode cX8_joins 9 = .ok (.getfield 91, 3) := by decide +kernel
theorem dX8_joins_12 : decode cX8_joins 12 = .ok (.if_icmp .ge 45, 3) := by decide +kernel
theorem dX8_joins_15 : decode cX8_joins 15 = .ok (.aload_n 0, 1) := by decide +kernel
theorem dX8_joins_16 : decode cX8_joins 16 = .ok (.getfield 48, 3) := by decide +kernel
theorem dX8_joins_19 : decode cX8_joins 19 = .ok (.iload_n 1, 1) := by decide +kernel
theorem dX8_joins_20 : decode cX8_joins 20 = .ok (.iaload, 1) := by decide +kernel
theorem dX8_joins_21 : decode cX8_joins 21 = .ok (.iload_n 2, 1) := by decide +kernel
theorem dX8_joins_22 : decode cX8_joins 22 = .ok (.invokestatic 152, 3) := by decide +kernel
theorem dX8_joins_25 : decode cX8_joins 25 = .ok (.ifCond .ne 6, 3) := by decide +kernel
theorem dX8_joins_28 : decode cX8_joins 28 = .ok (.goto 23, 3) := by decide +kernel
theorem dX8_joins_31 : decode cX8_joins 31 = .ok (.aload_n 0, 1) := by decide +kernel
theorem dX8_joins_32 : decode cX8_joins 32 = .ok (.getfield 66, 3) := by decide +kernel
theorem dX8_joins_35 : decode cX8_joins 35 = .ok (.aload_n 0, 1) := by decide +kernel
theorem dX8_joins_36 : decode cX8_joins 36 = .ok (.getfield 176, 3) := by decide +kernel
theorem dX8_joins_39 : decode cX8_joins 39 = .ok (.iload_n 2, 1) := by decide +kernel
theorem dX8_joins_40 : decode cX8_joins 40 = .ok (.iastore, 1) := by decide +kernel
theorem dX8_joins_41 : decode cX8_joins 41 = .ok (.aload_n 0, 1) := by decide +kernel
theorem dX8_joins_42 : decode cX8_joins 42 = .ok (.dup, 1) := by decide +kernel
theorem dX8_joins_43 : decode cX8_joins 43 = .ok (.getfield 176, 3) := by decide +kernel
theorem dX8_joins_46 : decode cX8_joins 46 = .ok (.iconst 1, 1) := by decide +kernel
theorem dX8_joins_47 : decode cX8_joins 47 = .ok (.iadd, 1) := by decide +kernel
theorem dX8_joins_48 : decode cX8_joins 48 = .ok (.putfield 176, 3) := by decide +kernel
theorem dX8_joins_51 : decode cX8_joins 51 = .ok (.iinc 2 1, 3) := by decide +kernel
theorem dX8_joins_54 : decode cX8_joins 54 = .ok (.goto (-47), 3) := by decide +kernel
theorem dX8_joins_57 : decode cX8_joins 57 = .ok (.iconst 0, 1) := by decide +kernel
theorem dX8_joins_58 : decode cX8_joins 58 = .ok (.istore_n 2, 1) := by decide +kernel
theorem dX8_joins_59 : decode cX8_joins 59 = .ok (.iload_n 2, 1) := by decide +kernel
theorem dX8_joins_60 : decode cX8_joins 60 = .ok (.aload_n 0, 1) := by decide +kernel
theorem dX8_joins_61 : decode cX8_joins 61 = .ok (.getfield 176, 3) := by decide +kernel
theorem dX8_joins_64 : decode cX8_joins 64 = .ok (.if_icmp .ge 62, 3) := by decide +kernel
theorem dX8_joins_67 : decode cX8_joins 67 = .ok (.iconst 0, 1) := by decide +kernel
theorem dX8_joins_68 : decode cX8_joins 68 = .ok (.istore_n 3, 1) := by decide +kernel
theorem dX8_joins_69 : decode cX8_joins 69 = .ok (.iload_n 3, 1) := by decide +kernel
theorem dX8_joins_70 : decode cX8_joins 70 = .ok (.aload_n 0, 1) := by decide +kernel
theorem dX8_joins_71 : decode cX8_joins 71 = .ok (.getfield 176, 3) := by decide +kernel
theorem dX8_joins_74 : decode cX8_joins 74 = .ok (.if_icmp .ge 46, 3) := by decide +kernel
theorem dX8_joins_77 : decode cX8_joins 77 = .ok (.aload_n 0, 1) := by decide +kernel
theorem dX8_joins_78 : decode cX8_joins 78 = .ok (.getfield 69, 3) := by decide +kernel
theorem dX8_joins_81 : decode cX8_joins 81 = .ok (.bipush 8, 2) := by decide +kernel
theorem dX8_joins_83 : decode cX8_joins 83 = .ok (.iload_n 2, 1) := by decide +kernel
theorem dX8_joins_84 : decode cX8_joins 84 = .ok (.imul, 1) := by decide +kernel
theorem dX8_joins_85 : decode cX8_joins 85 = .ok (.iload_n 3, 1) := by decide +kernel
theorem dX8_joins_86 : decode cX8_joins 86 = .ok (.iadd, 1) := by decide +kernel
theorem dX8_joins_87 : decode cX8_joins 87 = .ok (.iload_n 2, 1) := by decide +kernel
theorem dX8_joins_88 : decode cX8_joins 88 = .ok (.iload_n 3, 1) := by decide +kernel
theorem dX8_joins_89 : decode cX8_joins 89 = .ok (.if_icmp .ne 7, 3) := by decide +kernel
theorem dX8_joins_92 : decode cX8_joins 92 = .ok (.iconst 0, 1) := by decide +kernel
theorem dX8_joins_93 : decode cX8_joins 93 = .ok (.goto 20, 3) := by decide +kernel
theorem dX8_joins_96 : decode cX8_joins 96 = .ok (.aload_n 0, 1) := by decide +kernel
theorem dX8_joins_97 : decode cX8_joins 97 = .ok (.iload_n 1, 1) := by decide +kernel
theorem dX8_joins_98 : decode cX8_joins 98 = .ok (.aload_n 0, 1) := by decide +kernel
theorem dX8_joins_99 : decode cX8_joins 99 = .ok (.getfield 66, 3) := by decide +kernel
theorem dX8_joins_102 : decode cX8_joins 102 = .ok (.iload_n 2, 1) := by decide +kernel
theorem dX8_joins_103 : decode cX8_joins 103 = .ok (.iaload, 1) := by decide +kernel
theorem dX8_joins_104 : decode cX8_joins 104 = .ok (.aload_n 0, 1) := by decide +kernel
theorem dX8_joins_105 : decode cX8_joins 105 = .ok (.getfield 66, 3) := by decide +kernel
theorem dX8_joins_108 : decode cX8_joins 108 = .ok (.iload_n 3, 1) := by decide +kernel
theorem dX8_joins_109 : decode cX8_joins 109 = .ok (.iaload, 1) := by decide +kernel
theorem dX8_joins_110 : decode cX8_joins 110 = .ok (.invokevirtual 179, 3) := by decide +kernel
theorem dX8_joins_113 : decode cX8_joins 113 = .ok (.iastore, 1) := by decide +kernel
theorem dX8_joins_114 : decode cX8_joins 114 = .ok (.iinc 3 1, 3) := by decide +kernel
theorem dX8_joins_117 : decode cX8_joins 117 = .ok (.goto (-48), 3) := by decide +kernel
theorem dX8_joins_120 : decode cX8_joins 120 = .ok (.iinc 2 1, 3) := by decide +kernel
theorem dX8_joins_123 : decode cX8_joins 123 = .ok (.goto (-64), 3) := by decide +kernel
theorem dX8_joins_126 : decode cX8_joins 126 = .ok (.aload_n 0, 1) := by decide +kernel
theorem dX8_joins_127 : decode cX8_joins 127 = .ok (.getfield 72, 3) := by decide +kernel
theorem dX8_joins_130 : decode cX8_joins 130 = .ok (.iconst 0, 1) := by decide +kernel
theorem dX8_joins_131 : decode cX8_joins 131 = .ok (.iconst 0, 1) := by decide +kernel
theorem dX8_joins_132 : decode cX8_joins 132 = .ok (.iastore, 1) := by decide +kernel
theorem dX8_joins_133 : decode cX8_joins 133 = .ok (.iconst 1, 1) := by decide +kernel
theorem dX8_joins_134 : decode cX8_joins 134 = .ok (.istore_n 2, 1) := by decide +kernel
theorem dX8_joins_135 : decode cX8_joins 135 = .ok (.iload_n 2, 1) := by decide +kernel
theorem dX8_joins_136 : decode cX8_joins 136 = .ok (.iconst 1, 1) := by decide +kernel
theorem dX8_joins_137 : decode cX8_joins 137 = .ok (.aload_n 0, 1) := by decide +kernel
theorem dX8_joins_138 : decode cX8_joins 138 = .ok (.getfield 176, 3) := by decide +kernel
theorem dX8_joins_141 : decode cX8_joins 141 = .ok (.ishl, 1) := by decide +kernel
theorem dX8_joins_142 : decode cX8_joins 142 = .ok (.if_icmp .ge 93, 3) := by decide +kernel
theorem dX8_joins_145 : decode cX8_joins 145 = .ok (.aload_n 0, 1) := by decide +kernel
theorem dX8_joins_146 : decode cX8_joins 146 = .ok (.getfield 72, 3) := by decide +kernel
theorem dX8_joins_149 : decode cX8_joins 149 = .ok (.iload_n 2, 1) := by decide +kernel
theorem dX8_joins_150 : decode cX8_joins 150 = .ok (.iconst (-1), 1) := by decide +kernel
theorem dX8_joins_151 : decode cX8_joins 151 = .ok (.iastore, 1) := by decide +kernel
theorem dX8_joins_152 : decode cX8_joins 152 = .ok (.iconst 0, 1) := by decide +kernel
theorem dX8_joins_153 : decode cX8_joins 153 = .ok (.istore_n 3, 1) := by decide +kernel
theorem dX8_joins_154 : decode cX8_joins 154 = .ok (.iload_n 3, 1) := by decide +kernel
theorem dX8_joins_155 : decode cX8_joins 155 = .ok (.aload_n 0, 1) := by decide +kernel
theorem dX8_joins_156 : decode cX8_joins 156 = .ok (.getfield 176, 3) := by decide +kernel
theorem dX8_joins_159 : decode cX8_joins 159 = .ok (.if_icmp .ge 70, 3) := by decide +kernel
theorem dX8_joins_162 : decode cX8_joins 162 = .ok (.iload_n 2, 1) := by decide +kernel
theorem dX8_joins_163 : decode cX8_joins 163 = .ok (.iload_n 3, 1) := by decide +kernel
theorem dX8_joins_164 : decode cX8_joins 164 = .ok (.invokestatic 152, 3) := by decide +kernel
theorem dX8_joins_167 : decode cX8_joins 167 = .ok (.ifCond .ne 6, 3) := by decide +kernel
theorem dX8_joins_170 : decode cX8_joins 170 = .ok (.goto 53, 3) := by decide +kernel
theorem dX8_joins_173 : decode cX8_joins 173 = .ok (.aload_n 0, 1) := by decide +kernel
theorem dX8_joins_174 : decode cX8_joins 174 = .ok (.iload_n 3, 1) := by decide +kernel
theorem dX8_joins_175 : decode cX8_joins 175 = .ok (.iload_n 2, 1) := by decide +kernel
theorem dX8_joins_176 : decode cX8_joins 176 = .ok (.invokevirtual 182, 3) := by decide +kernel
theorem dX8_joins_179 : decode cX8_joins 179 = .ok (.aload_n 0, 1) := by decide +kernel
theorem dX8_joins_180 : decode cX8_joins 180 = .ok (.getfield 72, 3) := by decide +kernel
theorem dX8_joins_183 : decode cX8_joins 183 = .ok (.iload_n 2, 1) := by decide +kernel
theorem dX8_joins_184 : decode cX8_joins 184 = .ok (.iconst 1, 1) := by decide +kernel
theorem dX8_joins_185 : decode cX8_joins 185 = .ok (.iload_n 3, 1) := by decide +kernel
theorem dX8_joins_186 : decode cX8_joins 186 = .ok (.ishl, 1) := by decide +kernel
theorem dX8_joins_187 : decode cX8_joins 187 = .ok (.iconst (-1), 1) := by decide +kernel
theorem dX8_joins_188 : decode cX8_joins 188 = .ok (.ixor, 1) := by decide +kernel
theorem dX8_joins_189 : decode cX8_joins 189 = .ok (.iand, 1) := by decide +kernel
theorem dX8_joins_190 : decode cX8_joins 190 = .ok (.iaload, 1) := by decide +kernel
theorem dX8_joins_191 : decode cX8_joins 191 = .ok (.iadd, 1) := by decide +kernel
theorem dX8_joins_192 : decode cX8_joins 192 = .ok (.istore 4, 2) := by decide +kernel
theorem dX8_joins_194 : decode cX8_joins 194 = .ok (.aload_n 0, 1) := by decide +kernel
theorem dX8_joins_195 : decode cX8_joins 195 = .ok (.getfield 72, 3) := by decide +kernel
theorem dX8_joins_198 : decode cX8_joins 198 = .ok (.iload_n 2, 1) := by decide +kernel
theorem dX8_joins_199 : decode cX8_joins 199 = .ok (.iaload, 1) := by decide +kernel
theorem dX8_joins_200 : decode cX8_joins 200 = .ok (.iconst (-1), 1) := by decide +kernel
theorem dX8_joins_201 : decode cX8_joins 201 = .ok (.if_icmp .eq 14, 3) := by decide +kernel
theorem dX8_joins_204 : decode cX8_joins 204 = .ok (.iload 4, 2) := by decide +kernel
theorem dX8_joins_206 : decode cX8_joins 206 = .ok (.aload_n 0, 1) := by decide +kernel
theorem dX8_joins_207 : decode cX8_joins 207 = .ok (.getfield 72, 3) := by decide +kernel
theorem dX8_joins_210 : decode cX8_joins 210 = .ok (.iload_n 2, 1) := by decide +kernel
theorem dX8_joins_211 : decode cX8_joins 211 = .ok (.iaload, 1) := by decide +kernel
theorem dX8_joins_212 : decode cX8_joins 212 = .ok (.if_icmp .ge 11, 3) := by decide +kernel
theorem dX8_joins_215 : decode cX8_joins 215 = .ok (.aload_n 0, 1) := by decide +kernel
theorem dX8_joins_216 : decode cX8_joins 216 = .ok (.getfield 72, 3) := by decide +kernel
theorem dX8_joins_219 : decode cX8_joins 219 = .ok (.iload_n 2, 1) := by decide +kernel
theorem dX8_joins_220 : decode cX8_joins 220 = .ok (.iload 4, 2) := by decide +kernel
theorem dX8_joins_222 : decode cX8_joins 222 = .ok (.iastore, 1) := by decide +kernel
theorem dX8_joins_223 : decode cX8_joins 223 = .ok (.iinc 3 1, 3) := by decide +kernel
theorem dX8_joins_226 : decode cX8_joins 226 = .ok (.goto (-72), 3) := by decide +kernel
theorem dX8_joins_229 : decode cX8_joins 229 = .ok (.iinc 2 1, 3) := by decide +kernel
theorem dX8_joins_232 : decode cX8_joins 232 = .ok (.goto (-97), 3) := by decide +kernel
theorem dX8_joins_235 : decode cX8_joins 235 = .ok (.iconst 1, 1) := by decide +kernel
theorem dX8_joins_236 : decode cX8_joins 236 = .ok (.aload_n 0, 1) := by decide +kernel
theorem dX8_joins_237 : decode cX8_joins 237 = .ok (.getfield 176, 3) := by decide +kernel
theorem dX8_joins_240 : decode cX8_joins 240 = .ok (.ishl, 1) := by decide +kernel
theorem dX8_joins_241 : decode cX8_joins 241 = .ok (.iconst 1, 1) := by decide +kernel
theorem dX8_joins_242 : decode cX8_joins 242 = .ok (.isub, 1) := by decide +kernel
theorem dX8_joins_243 : decode cX8_joins 243 = .ok (.istore_n 2, 1) := by decide +kernel
theorem dX8_joins_244 : decode cX8_joins 244 = .ok (.iconst 0, 1) := by decide +kernel
theorem dX8_joins_245 : decode cX8_joins 245 = .ok (.istore_n 3, 1) := by decide +kernel
theorem dX8_joins_246 : decode cX8_joins 246 = .ok (.iload_n 3, 1) := by decide +kernel
theorem dX8_joins_247 : decode cX8_joins 247 = .ok (.aload_n 0, 1) := by decide +kernel
theorem dX8_joins_248 : decode cX8_joins 248 = .ok (.getfield 176, 3) := by decide +kernel
theorem dX8_joins_251 : decode cX8_joins 251 = .ok (.if_icmp .ge 79, 3) := by decide +kernel
theorem dX8_joins_254 : decode cX8_joins 254 = .ok (.iconst 0, 1) := by decide +kernel
theorem dX8_joins_255 : decode cX8_joins 255 = .ok (.istore 4, 2) := by decide +kernel
theorem dX8_joins_257 : decode cX8_joins 257 = .ok (.iload_n 2, 1) := by decide +kernel
theorem dX8_joins_258 : decode cX8_joins 258 = .ok (.iload 4, 2) := by decide +kernel
theorem dX8_joins_260 : decode cX8_joins 260 = .ok (.invokestatic 152, 3) := by decide +kernel
theorem dX8_joins_263 : decode cX8_joins 263 = .ok (.ifCond .eq 33, 3) := by decide +kernel
theorem dX8_joins_266 : decode cX8_joins 266 = .ok (.aload_n 0, 1) := by decide +kernel
theorem dX8_joins_267 : decode cX8_joins 267 = .ok (.iload 4, 2) := by decide +kernel
theorem dX8_joins_269 : decode cX8_joins 269 = .ok (.iload_n 2, 1) := by decide +kernel
theorem dX8_joins_270 : decode cX8_joins 270 = .ok (.invokevirtual 182, 3) := by decide +kernel
theorem dX8_joins_273 : decode cX8_joins 273 = .ok (.aload_n 0, 1) := by decide +kernel
theorem dX8_joins_274 : decode cX8_joins 274 = .ok (.getfield 72, 3) := by decide +kernel
theorem dX8_joins_277 : decode cX8_joins 277 = .ok (.iload_n 2, 1) := by decide +kernel
theorem dX8_joins_278 : decode cX8_joins 278 = .ok (.iconst 1, 1) := by decide +kernel
theorem dX8_joins_279 : decode cX8_joins 279 = .ok (.iload 4, 2) := by decide +kernel
theorem dX8_joins_281 : decode cX8_joins 281 = .ok (.ishl, 1) := by decide +kernel
theorem dX8_joins_282 : decode cX8_joins 282 = .ok (.iconst (-1), 1) := by decide +kernel
theorem dX8_joins_283 : decode cX8_joins 283 = .ok (.ixor, 1) := by decide +kernel
theorem dX8_joins_284 : decode cX8_joins 284 = .ok (.iand, 1) := by decide +kernel
theorem dX8_joins_285 : decode cX8_joins 285 = .ok (.iaload, 1) := by decide +kernel
theorem dX8_joins_286 : decode cX8_joins 286 = .ok (.iadd, 1) := by decide +kernel
theorem dX8_joins_287 : decode cX8_joins 287 = .ok (.aload_n 0, 1) := by decide +kernel
theorem dX8_joins_288 : decode cX8_joins 288 = .ok (.getfield 72, 3) := by decide +kernel
theorem dX8_joins_291 : decode cX8_joins 291 = .ok (.iload_n 2, 1) := by decide +kernel
theorem dX8_joins_292 : decode cX8_joins 292 = .ok (.iaload, 1) := by decide +kernel
theorem dX8_joins_293 : decode cX8_joins 293 = .ok (.if_icmp .eq 9, 3) := by decide +kernel
theorem dX8_joins_296 : decode cX8_joins 296 = .ok (.iinc 4 1, 3) := by decide +kernel
theorem dX8_joins_299 : decode cX8_joins 299 = .ok (.goto (-42), 3) := by decide +kernel
theorem dX8_joins_302 : decode cX8_joins 302 = .ok (.aload_n 0, 1) := by decide +kernel
theorem dX8_joins_303 : decode cX8_joins 303 = .ok (.getfield 75, 3) := by decide +kernel
theorem dX8_joins_306 : decode cX8_joins 306 = .ok (.iload_n 3, 1) := by decide +kernel
theorem dX8_joins_307 : decode cX8_joins 307 = .ok (.aload_n 0, 1) := by decide +kernel
theorem dX8_joins_308 : decode cX8_joins 308 = .ok (.getfield 66, 3) := by decide +kernel
theorem dX8_joins_311 : decode cX8_joins 311 = .ok (.iload 4, 2) := by decide +kernel
theorem dX8_joins_313 : decode cX8_joins 313 = .ok (.iaload, 1) := by decide +kernel
theorem dX8_joins_314 : decode cX8_joins 314 = .ok (.iastore, 1) := by decide +kernel
theorem dX8_joins_315 : decode cX8_joins 315 = .ok (.iload_n 2, 1) := by decide +kernel
theorem dX8_joins_316 : decode cX8_joins 316 = .ok (.iconst 1, 1) := by decide +kernel
theorem dX8_joins_317 : decode cX8_joins 317 = .ok (.iload 4, 2) := by decide +kernel
theorem dX8_joins_319 : decode cX8_joins 319 = .ok (.ishl, 1) := by decide +kernel
theorem dX8_joins_320 : decode cX8_joins 320 = .ok (.iconst (-1), 1) := by decide +kernel
theorem dX8_joins_321 : decode cX8_joins 321 = .ok (.ixor, 1) := by decide +kernel
theorem dX8_joins_322 : decode cX8_joins 322 = .ok (.iand, 1) := by decide +kernel
theorem dX8_joins_323 : decode cX8_joins 323 = .ok (.istore_n 2, 1) := by decide +kernel
theorem dX8_joins_324 : decode cX8_joins 324 = .ok (.iinc 3 1, 3) := by decide +kernel
theorem dX8_joins_327 : decode cX8_joins 327 = .ok (.goto (-81), 3) := by decide +kernel
theorem dX8_joins_330 : decode cX8_joins 330 = .ok (.return_, 1) := by decide +kernel
theorem dX8_placed_0 : decode cX8_placed 0 = .ok (.iload_n 1, 1) := by decide +kernel
theorem dX8_placed_1 : decode cX8_placed 1 = .ok (.invokestatic 139, 3) := by decide +kernel
theorem dX8_placed_4 : decode cX8_placed 4 = .ok (.ifCond .ne 5, 3) := by decide +kernel
theorem dX8_placed_7 : decode cX8_placed 7 = .ok (.iconst (-1), 1) := by decide +kernel
theorem dX8_placed_8 : decode cX8_placed 8 = .ok (.ireturn, 1) := by decide +kernel
theorem dX8_placed_9 : decode cX8_placed 9 = .ok (.aload_n 0, 1) := by decide +kernel
theorem dX8_placed_10 : decode cX8_placed 10 = .ok (.iload_n 1, 1) := by decide +kernel
theorem dX8_placed_11 : decode cX8_placed 11 = .ok (.invokevirtual 186, 3) := by decide +kernel
theorem dX8_placed_14 : decode cX8_placed 14 = .ok (.iload_n 2, 1) := by decide +kernel
theorem dX8_placed_15 : decode cX8_placed 15 = .ok (.iconst 1, 1) := by decide +kernel
theorem dX8_placed_16 : decode cX8_placed 16 = .ok (.aload_n 0, 1) := by decide +kernel
theorem dX8_placed_17 : decode cX8_placed 17 = .ok (.getfield 176, 3) := by decide +kernel
theorem dX8_placed_20 : decode cX8_placed 20 = .ok (.invokestatic 87, 3) := by decide +kernel
theorem dX8_placed_23 : decode cX8_placed 23 = .ok (.ifCond .eq 14, 3) := by decide +kernel
theorem dX8_placed_26 : decode cX8_placed 26 = .ok (.aload_n 0, 1) := by decide +kernel
theorem dX8_placed_27 : decode cX8_placed 27 = .ok (.getfield 75, 3) := by decide +kernel
theorem dX8_placed_30 : decode cX8_placed 30 = .ok (.iload_n 2, 1) := by decide +kernel
theorem dX8_placed_31 : decode cX8_placed 31 = .ok (.iconst 1, 1) := by decide +kernel
theorem dX8_placed_32 : decode cX8_placed 32 = .ok (.isub, 1) := by decide +kernel
theorem dX8_placed_33 : decode cX8_placed 33 = .ok (.iaload, 1) := by decide +kernel
theorem dX8_placed_34 : decode cX8_placed 34 = .ok (.goto 4, 3) := by decide +kernel
theorem dX8_placed_37 : decode cX8_placed 37 = .ok (.iconst (-1), 1) := by decide +kernel
theorem dX8_placed_38 : decode cX8_placed 38 = .ok (.ireturn, 1) := by decide +kernel
theorem dX8_swaps_0 : decode cX8_swaps 0 = .ok (.iload_n 1, 1) := by decide +kernel
theorem dX8_swaps_1 : decode cX8_swaps 1 = .ok (.invokestatic 139, 3) := by decide +kernel
theorem dX8_swaps_4 : decode cX8_swaps 4 = .ok (.ifCond .ne 5, 3) := by decide +kernel
theorem dX8_swaps_7 : decode cX8_swaps 7 = .ok (.iconst (-1), 1) := by decide +kernel
theorem dX8_swaps_8 : decode cX8_swaps 8 = .ok (.ireturn, 1) := by decide +kernel
theorem dX8_swaps_9 : decode cX8_swaps 9 = .ok (.aload_n 0, 1) := by decide +kernel
theorem dX8_swaps_10 : decode cX8_swaps 10 = .ok (.iload_n 1, 1) := by decide +kernel
theorem dX8_swaps_11 : decode cX8_swaps 11 = .ok (.invokevirtual 186, 3) := by decide +kernel
theorem dX8_swaps_14 : decode cX8_swaps 14 = .ok (.aload_n 0, 1) := by decide +kernel
theorem dX8_swaps_15 : decode cX8_swaps 15 = .ok (.getfield 72, 3) := by decide +kernel
theorem dX8_swaps_18 : decode cX8_swaps 18 = .ok (.iconst 1, 1) := by decide +kernel
theorem dX8_swaps_19 : decode cX8_swaps 19 = .ok (.aload_n 0, 1) := by decide +kernel
theorem dX8_swaps_20 : decode cX8_swaps 20 = .ok (.getfield 176, 3) := by decide +kernel
theorem dX8_swaps_23 : decode cX8_swaps 23 = .ok (.ishl, 1) := by decide +kernel
theorem dX8_swaps_24 : decode cX8_swaps 24 = .ok (.iconst 1, 1) := by decide +kernel
theorem dX8_swaps_25 : decode cX8_swaps 25 = .ok (.isub, 1) := by decide +kernel
theorem dX8_swaps_26 : decode cX8_swaps 26 = .ok (.iaload, 1) := by decide +kernel
theorem dX8_swaps_27 : decode cX8_swaps 27 = .ok (.ireturn, 1) := by decide +kernel
theorem dX8_ring_0 : decode cX8_ring 0 = .ok (.iload_n 1, 1) := by decide +kernel
theorem dX8_ring_1 : decode cX8_ring 1 = .ok (.invokestatic 139, 3) := by decide +kernel
theorem dX8_ring_4 : decode cX8_ring 4 = .ok (.ifCond .eq 12, 3) := by decide +kernel
theorem dX8_ring_7 : decode cX8_ring 7 = .ok (.iload_n 2, 1) := by decide +kernel
theorem dX8_ring_8 : decode cX8_ring 8 = .ok (.iconst 0, 1) := by decide +kernel
theorem dX8_ring_9 : decode cX8_ring 9 = .ok (.iconst 2, 1) := by decide +kernel
theorem dX8_ring_10 : decode cX8_ring 10 = .ok (.invokestatic 87, 3) := by decide +kernel
theorem dX8_ring_13 : decode cX8_ring 13 = .ok (.ifCond .ne 5, 3) := by decide +kernel
theorem dX8_ring_16 : decode cX8_ring 16 = .ok (.iconst (-1), 1) := by decide +kernel
theorem dX8_ring_17 : decode cX8_ring 17 = .ok (.ireturn, 1) := by decide +kernel
theorem dX8_ring_18 : decode cX8_ring 18 = .ok (.aload_n 0, 1) := by decide +kernel
theorem dX8_ring_19 : decode cX8_ring 19 = .ok (.iload_n 1, 1) := by decide +kernel
theorem dX8_ring_20 : decode cX8_ring 20 = .ok (.invokevirtual 186, 3) := by decide +kernel
theorem dX8_ring_23 : decode cX8_ring 23 = .ok (.iconst 0, 1) := by decide +kernel
theorem dX8_ring_24 : decode cX8_ring 24 = .ok (.istore_n 3, 1) := by decide +kernel
theorem dX8_ring_25 : decode cX8_ring 25 = .ok (.iload_n 3, 1) := by decide +kernel
theorem dX8_ring_26 : decode cX8_ring 26 = .ok (.aload_n 0, 1) := by decide +kernel
theorem dX8_ring_27 : decode cX8_ring 27 = .ok (.getfield 176, 3) := by decide +kernel
theorem dX8_ring_30 : decode cX8_ring 30 = .ok (.if_icmp .ge 102, 3) := by decide +kernel
theorem dX8_ring_33 : decode cX8_ring 33 = .ok (.iconst 0, 1) := by decide +kernel
theorem dX8_ring_34 : decode cX8_ring 34 = .ok (.istore 4, 2) := by decide +kernel
theorem dX8_ring_36 : decode cX8_ring 36 = .ok (.iload 4, 2) := by decide +kernel
theorem dX8_ring_38 : decode cX8_ring 38 = .ok (.aload_n 0, 1) := by decide +kernel
theorem dX8_ring_39 : decode cX8_ring 39 = .ok (.getfield 176, 3) := by decide +kernel
theorem dX8_ring_42 : decode cX8_ring 42 = .ok (.if_icmp .ge 84, 3) := by decide +kernel
theorem dX8_ring_45 : decode cX8_ring 45 = .ok (.iconst 0, 1) := by decide +kernel
theorem dX8_ring_46 : decode cX8_ring 46 = .ok (.istore 5, 2) := by decide +kernel
theorem dX8_ring_48 : decode cX8_ring 48 = .ok (.iload 5, 2) := by decide +kernel
theorem dX8_ring_50 : decode cX8_ring 50 = .ok (.aload_n 0, 1) := by decide +kernel
theorem dX8_ring_51 : decode cX8_ring 51 = .ok (.getfield 176, 3) := by decide +kernel
theorem dX8_ring_54 : decode cX8_ring 54 = .ok (.if_icmp .ge 66, 3) := by decide +kernel
theorem dX8_ring_57 : decode cX8_ring 57 = .ok (.aload_n 0, 1) := by decide +kernel
theorem dX8_ring_58 : decode cX8_ring 58 = .ok (.iload_n 3, 1) := by decide +kernel
theorem dX8_ring_59 : decode cX8_ring 59 = .ok (.iload 4, 2) := by decide +kernel
theorem dX8_ring_61 : decode cX8_ring 61 = .ok (.invokevirtual 189, 3) := by decide +kernel
theorem dX8_ring_64 : decode cX8_ring 64 = .ok (.ifCond .eq 50, 3) := by decide +kernel
theorem dX8_ring_67 : decode cX8_ring 67 = .ok (.aload_n 0, 1) := by decide +kernel
theorem dX8_ring_68 : decode cX8_ring 68 = .ok (.iload 4, 2) := by decide +kernel
theorem dX8_ring_70 : decode cX8_ring 70 = .ok (.iload 5, 2) := by decide +kernel
theorem dX8_ring_72 : decode cX8_ring 72 = .ok (.invokevirtual 189, 3) := by decide +kernel
theorem dX8_ring_75 : decode cX8_ring 75 = .ok (.ifCond .eq 39, 3) := by decide +kernel
theorem dX8_ring_78 : decode cX8_ring 78 = .ok (.aload_n 0, 1) := by decide +kernel
theorem dX8_ring_79 : decode cX8_ring 79 = .ok (.iload 5, 2) := by decide +kernel
theorem dX8_ring_81 : decode cX8_ring 81 = .ok (.iload_n 3, 1) := by decide +kernel
theorem dX8_ring_82 : decode cX8_ring 82 = .ok (.invokevirtual 189, 3) := by decide +kernel
theorem dX8_ring_85 : decode cX8_ring 85 = .ok (.ifCond .eq 29, 3) := by decide +kernel
theorem dX8_ring_88 : decode cX8_ring 88 = .ok (.aload_n 0, 1) := by decide +kernel
theorem dX8_ring_89 : decode cX8_ring 89 = .ok (.getfield 66, 3) := by decide +kernel
theorem dX8_ring_92 : decode cX8_ring 92 = .ok (.iload_n 2, 1) := by decide +kernel
theorem dX8_ring_93 : decode cX8_ring 93 = .ok (.ifCond .ne 7, 3) := by decide +kernel
theorem dX8_ring_96 : decode cX8_ring 96 = .ok (.iload_n 3, 1) := by decide +kernel
theorem dX8_ring_97 : decode cX8_ring 97 = .ok (.goto 15, 3) := by decide +kernel
theorem dX8_ring_100 : decode cX8_ring 100 = .ok (.iload_n 2, 1) := by decide +kernel
theorem dX8_ring_101 : decode cX8_ring 101 = .ok (.iconst 1, 1) := by decide +kernel
theorem dX8_ring_102 : decode cX8_ring 102 = .ok (.if_icmp .ne 8, 3) := by decide +kernel
theorem dX8_ring_105 : decode cX8_ring 105 = .ok (.iload 4, 2) := by decide +kernel
theorem dX8_ring_107 : decode cX8_ring 107 = .ok (.goto 5, 3) := by decide +kernel
theorem dX8_ring_110 : decode cX8_ring 110 = .ok (.iload 5, 2) := by decide +kernel
theorem dX8_ring_112 : decode cX8_ring 112 = .ok (.iaload, 1) := by decide +kernel
theorem dX8_ring_113 : decode cX8_ring 113 = .ok (.ireturn, 1) := by decide +kernel
theorem dX8_ring_114 : decode cX8_ring 114 = .ok (.iinc 5 1, 3) := by decide +kernel
theorem dX8_ring_117 : decode cX8_ring 117 = .ok (.goto (-69), 3) := by decide +kernel
theorem dX8_ring_120 : decode cX8_ring 120 = .ok (.iinc 4 1, 3) := by decide +kernel
theorem dX8_ring_123 : decode cX8_ring 123 = .ok (.goto (-87), 3) := by decide +kernel
theorem dX8_ring_126 : decode cX8_ring 126 = .ok (.iinc 3 1, 3) := by decide +kernel
theorem dX8_ring_129 : decode cX8_ring 129 = .ok (.goto (-104), 3) := by decide +kernel
theorem dX8_ring_132 : decode cX8_ring 132 = .ok (.iconst (-1), 1) := by decide +kernel
theorem dX8_ring_133 : decode cX8_ring 133 = .ok (.ireturn, 1) := by decide +kernel
theorem dX8_isMore_0 : decode cX8_isMore 0 = .ok (.aload_n 0, 1) := by decide +kernel
theorem dX8_isMore_1 : decode cX8_isMore 1 = .ok (.getfield 69, 3) := by decide +kernel
theorem dX8_isMore_4 : decode cX8_isMore 4 = .ok (.bipush 8, 2) := by decide +kernel
theorem dX8_isMore_6 : decode cX8_isMore 6 = .ok (.iload_n 1, 1) := by decide +kernel
theorem dX8_isMore_7 : decode cX8_isMore 7 = .ok (.imul, 1) := by decide +kernel
theorem dX8_isMore_8 : decode cX8_isMore 8 = .ok (.iload_n 2, 1) := by decide +kernel
theorem dX8_isMore_9 : decode cX8_isMore 9 = .ok (.iadd, 1) := by decide +kernel
theorem dX8_isMore_10 : decode cX8_isMore 10 = .ok (.iaload, 1) := by decide +kernel
theorem dX8_isMore_11 : decode cX8_isMore 11 = .ok (.aload_n 0, 1) := by decide +kernel
theorem dX8_isMore_12 : decode cX8_isMore 12 = .ok (.getfield 69, 3) := by decide +kernel
theorem dX8_isMore_15 : decode cX8_isMore 15 = .ok (.bipush 8, 2) := by decide +kernel
theorem dX8_isMore_17 : decode cX8_isMore 17 = .ok (.iload_n 2, 1) := by decide +kernel
theorem dX8_isMore_18 : decode cX8_isMore 18 = .ok (.imul, 1) := by decide +kernel
theorem dX8_isMore_19 : decode cX8_isMore 19 = .ok (.iload_n 1, 1) := by decide +kernel
theorem dX8_isMore_20 : decode cX8_isMore 20 = .ok (.iadd, 1) := by decide +kernel
theorem dX8_isMore_21 : decode cX8_isMore 21 = .ok (.iaload, 1) := by decide +kernel
theorem dX8_isMore_22 : decode cX8_isMore 22 = .ok (.if_icmp .le 7, 3) := by decide +kernel
theorem dX8_isMore_25 : decode cX8_isMore 25 = .ok (.iconst 1, 1) := by decide +kernel
theorem dX8_isMore_26 : decode cX8_isMore 26 = .ok (.goto 4, 3) := by decide +kernel
theorem dX8_isMore_29 : decode cX8_isMore 29 = .ok (.iconst 0, 1) := by decide +kernel
theorem dX8_isMore_30 : decode cX8_isMore 30 = .ok (.ireturn, 1) := by decide +kernel
theorem dX8_placeNow_0 : decode cX8_placeNow 0 = .ok (.iconst 0, 1) := by decide +kernel
theorem dX8_placeNow_1 : decode cX8_placeNow 1 = .ok (.istore_n 2, 1) := by decide +kernel
theorem dX8_placeNow_2 : decode cX8_placeNow 2 = .ok (.iload_n 2, 1) := by decide +kernel
theorem dX8_placeNow_3 : decode cX8_placeNow 3 = .ok (.aload_n 0, 1) := by decide +kernel
theorem dX8_placeNow_4 : decode cX8_placeNow 4 = .ok (.getfield 176, 3) := by decide +kernel
theorem dX8_placeNow_7 : decode cX8_placeNow 7 = .ok (.if_icmp .ge 23, 3) := by decide +kernel
theorem dX8_placeNow_10 : decode cX8_placeNow 10 = .ok (.aload_n 0, 1) := by decide +kernel
theorem dX8_placeNow_11 : decode cX8_placeNow 11 = .ok (.getfield 75, 3) := by decide +kernel
theorem dX8_placeNow_14 : decode cX8_placeNow 14 = .ok (.iload_n 2, 1) := by decide +kernel
theorem dX8_placeNow_15 : decode cX8_placeNow 15 = .ok (.iaload, 1) := by decide +kernel
theorem dX8_placeNow_16 : decode cX8_placeNow 16 = .ok (.iload_n 1, 1) := by decide +kernel
theorem dX8_placeNow_17 : decode cX8_placeNow 17 = .ok (.if_icmp .ne 7, 3) := by decide +kernel
theorem dX8_placeNow_20 : decode cX8_placeNow 20 = .ok (.iload_n 2, 1) := by decide +kernel
theorem dX8_placeNow_21 : decode cX8_placeNow 21 = .ok (.iconst 1, 1) := by decide +kernel
theorem dX8_placeNow_22 : decode cX8_placeNow 22 = .ok (.iadd, 1) := by decide +kernel
theorem dX8_placeNow_23 : decode cX8_placeNow 23 = .ok (.ireturn, 1) := by decide +kernel
theorem dX8_placeNow_24 : decode cX8_placeNow 24 = .ok (.iinc 2 1, 3) := by decide +kernel
theorem dX8_placeNow_27 : decode cX8_placeNow 27 = .ok (.goto (-25), 3) := by decide +kernel
theorem dX8_placeNow_30 : decode cX8_placeNow 30 = .ok (.iconst (-1), 1) := by decide +kernel
theorem dX8_placeNow_31 : decode cX8_placeNow 31 = .ok (.ireturn, 1) := by decide +kernel
theorem dX8_cut_0 : decode cX8_cut 0 = .ok (.iload_n 1, 1) := by decide +kernel
theorem dX8_cut_1 : decode cX8_cut 1 = .ok (.invokestatic 139, 3) := by decide +kernel
theorem dX8_cut_4 : decode cX8_cut 4 = .ok (.ifCond .eq 22, 3) := by decide +kernel
theorem dX8_cut_7 : decode cX8_cut 7 = .ok (.iload_n 2, 1) := by decide +kernel
theorem dX8_cut_8 : decode cX8_cut 8 = .ok (.iconst 1, 1) := by decide +kernel
theorem dX8_cut_9 : decode cX8_cut 9 = .ok (.iconst 3, 1) := by decide +kernel
theorem dX8_cut_10 : decode cX8_cut 10 = .ok (.invokestatic 87, 3) := by decide +kernel
theorem dX8_cut_13 : decode cX8_cut 13 = .ok (.ifCond .eq 13, 3) := by decide +kernel
theorem dX8_cut_16 : decode cX8_cut 16 = .ok (.iload_n 3, 1) := by decide +kernel
theorem dX8_cut_17 : decode cX8_cut 17 = .ok (.iconst 0, 1) := by decide +kernel
theorem dX8_cut_18 : decode cX8_cut 18 = .ok (.bipush 15, 2) := by decide +kernel
theorem dX8_cut_20 : decode cX8_cut 20 = .ok (.invokestatic 87, 3) := by decide +kernel
theorem dX8_cut_23 : decode cX8_cut 23 = .ok (.ifCond .ne 5, 3) := by decide +kernel
theorem dX8_cut_26 : decode cX8_cut 26 = .ok (.iconst 0, 1) := by decide +kernel
theorem dX8_cut_27 : decode cX8_cut 27 = .ok (.ireturn, 1) := by decide +kernel
theorem dX8_cut_28 : decode cX8_cut 28 = .ok (.aload_n 0, 1) := by decide +kernel
theorem dX8_cut_29 : decode cX8_cut 29 = .ok (.getfield 63, 3) := by decide +kernel
theorem dX8_cut_32 : decode cX8_cut 32 = .ok (.iconst 3, 1) := by decide +kernel
theorem dX8_cut_33 : decode cX8_cut 33 = .ok (.iload_n 1, 1) := by decide +kernel
theorem dX8_cut_34 : decode cX8_cut 34 = .ok (.imul, 1) := by decide +kernel
theorem dX8_cut_35 : decode cX8_cut 35 = .ok (.iload_n 2, 1) := by decide +kernel
theorem dX8_cut_36 : decode cX8_cut 36 = .ok (.iadd, 1) := by decide +kernel
theorem dX8_cut_37 : decode cX8_cut 37 = .ok (.iconst 1, 1) := by decide +kernel
theorem dX8_cut_38 : decode cX8_cut 38 = .ok (.isub, 1) := by decide +kernel
theorem dX8_cut_39 : decode cX8_cut 39 = .ok (.iload_n 3, 1) := by decide +kernel
theorem dX8_cut_40 : decode cX8_cut 40 = .ok (.iastore, 1) := by decide +kernel
theorem dX8_cut_41 : decode cX8_cut 41 = .ok (.iconst 1, 1) := by decide +kernel
theorem dX8_cut_42 : decode cX8_cut 42 = .ok (.ireturn, 1) := by decide +kernel
theorem dX8_card_0 : decode cX8_card 0 = .ok (.iload_n 1, 1) := by decide +kernel
theorem dX8_card_1 : decode cX8_card 1 = .ok (.invokestatic 139, 3) := by decide +kernel
theorem dX8_card_4 : decode cX8_card 4 = .ok (.ifCond .ne 5, 3) := by decide +kernel
theorem dX8_card_7 : decode cX8_card 7 = .ok (.iconst (-1), 1) := by decide +kernel
theorem dX8_card_8 : decode cX8_card 8 = .ok (.ireturn, 1) := by decide +kernel
theorem dX8_card_9 : decode cX8_card 9 = .ok (.aload_n 0, 1) := by decide +kernel
theorem dX8_card_10 : decode cX8_card 10 = .ok (.iload_n 1, 1) := by decide +kernel
theorem dX8_card_11 : decode cX8_card 11 = .ok (.invokevirtual 186, 3) := by decide +kernel
theorem dX8_card_14 : decode cX8_card 14 = .ok (.aload_n 0, 1) := by decide +kernel
theorem dX8_card_15 : decode cX8_card 15 = .ok (.getfield 176, 3) := by decide +kernel
theorem dX8_card_18 : decode cX8_card 18 = .ok (.iconst 4, 1) := by decide +kernel
theorem dX8_card_19 : decode cX8_card 19 = .ok (.if_icmp .ge 10, 3) := by decide +kernel
theorem dX8_card_22 : decode cX8_card 22 = .ok (.aload_n 0, 1) := by decide +kernel
theorem dX8_card_23 : decode cX8_card 23 = .ok (.getfield 176, 3) := by decide +kernel
theorem dX8_card_26 : decode cX8_card 26 = .ok (.goto 4, 3) := by decide +kernel
theorem dX8_card_29 : decode cX8_card 29 = .ok (.iconst 4, 1) := by decide +kernel
theorem dX8_card_30 : decode cX8_card 30 = .ok (.istore_n 2, 1) := by decide +kernel
theorem dX8_card_31 : decode cX8_card 31 = .ok (.aload_n 0, 1) := by decide +kernel
theorem dX8_card_32 : decode cX8_card 32 = .ok (.getfield 176, 3) := by decide +kernel
theorem dX8_card_35 : decode cX8_card 35 = .ok (.iconst 2, 1) := by decide +kernel
theorem dX8_card_36 : decode cX8_card 36 = .ok (.if_icmp .lt 11, 3) := by decide +kernel
theorem dX8_card_39 : decode cX8_card 39 = .ok (.aload_n 0, 1) := by decide +kernel
theorem dX8_card_40 : decode cX8_card 40 = .ok (.getfield 94, 3) := by decide +kernel
theorem dX8_card_43 : decode cX8_card 43 = .ok (.iload_n 2, 1) := by decide +kernel
theorem dX8_card_44 : decode cX8_card 44 = .ok (.if_icmp .ge 5, 3) := by decide +kernel
theorem dX8_card_47 : decode cX8_card 47 = .ok (.iconst (-1), 1) := by decide +kernel
theorem dX8_card_48 : decode cX8_card 48 = .ok (.ireturn, 1) := by decide +kernel
theorem dX8_card_49 : decode cX8_card 49 = .ok (.aload_n 0, 1) := by decide +kernel
theorem dX8_card_50 : decode cX8_card 50 = .ok (.iconst 0, 1) := by decide +kernel
theorem dX8_card_51 : decode cX8_card 51 = .ok (.putfield 94, 3) := by decide +kernel
theorem dX8_card_54 : decode cX8_card 54 = .ok (.iconst 0, 1) := by decide +kernel
theorem dX8_card_55 : decode cX8_card 55 = .ok (.istore_n 3, 1) := by decide +kernel
theorem dX8_card_56 : decode cX8_card 56 = .ok (.iconst 0, 1) := by decide +kernel
theorem dX8_card_57 : decode cX8_card 57 = .ok (.istore 4, 2) := by decide +kernel
theorem dX8_card_59 : decode cX8_card 59 = .ok (.iload 4, 2) := by decide +kernel
theorem dX8_card_61 : decode cX8_card 61 = .ok (.iload_n 2, 1) := by decide +kernel
theorem dX8_card_62 : decode cX8_card 62 = .ok (.if_icmp .ge 21, 3) := by decide +kernel
theorem dX8_card_65 : decode cX8_card 65 = .ok (.iload_n 3, 1) := by decide +kernel
theorem dX8_card_66 : decode cX8_card 66 = .ok (.iconst 1, 1) := by decide +kernel
theorem dX8_card_67 : decode cX8_card 67 = .ok (.aload_n 0, 1) := by decide +kernel
theorem dX8_card_68 : decode cX8_card 68 = .ok (.getfield 75, 3) := by decide +kernel
theorem dX8_card_71 : decode cX8_card 71 = .ok (.iload 4, 2) := by decide +kernel
theorem dX8_card_73 : decode cX8_card 73 = .ok (.iaload, 1) := by decide +kernel
theorem dX8_card_74 : decode cX8_card 74 = .ok (.ishl, 1) := by decide +kernel
theorem dX8_card_75 : decode cX8_card 75 = .ok (.ior, 1) := by decide +kernel
theorem dX8_card_76 : decode cX8_card 76 = .ok (.istore_n 3, 1) := by decide +kernel
theorem dX8_card_77 : decode cX8_card 77 = .ok (.iinc 4 1, 3) := by decide +kernel
theorem dX8_card_80 : decode cX8_card 80 = .ok (.goto (-21), 3) := by decide +kernel
theorem dX8_card_83 : decode cX8_card 83 = .ok (.aload_n 0, 1) := by decide +kernel
theorem dX8_card_84 : decode cX8_card 84 = .ok (.iload_n 3, 1) := by decide +kernel
theorem dX8_card_85 : decode cX8_card 85 = .ok (.invokevirtual 166, 3) := by decide +kernel
theorem dX8_card_88 : decode cX8_card 88 = .ok (.ifCond .ne 5, 3) := by decide +kernel
theorem dX8_card_91 : decode cX8_card 91 = .ok (.iconst (-1), 1) := by decide +kernel
theorem dX8_card_92 : decode cX8_card 92 = .ok (.ireturn, 1) := by decide +kernel
theorem dX8_card_93 : decode cX8_card 93 = .ok (.bipush 50, 2) := by decide +kernel
theorem dX8_card_95 : decode cX8_card 95 = .ok (.istore 4, 2) := by decide +kernel
theorem dX8_card_97 : decode cX8_card 97 = .ok (.iconst 0, 1) := by decide +kernel
theorem dX8_card_98 : decode cX8_card 98 = .ok (.istore 5, 2) := by decide +kernel
theorem dX8_card_100 : decode cX8_card 100 = .ok (.iload 5, 2) := by decide +kernel
theorem dX8_card_102 : decode cX8_card 102 = .ok (.iload_n 2, 1) := by decide +kernel
theorem dX8_card_103 : decode cX8_card 103 = .ok (.if_icmp .ge 88, 3) := by decide +kernel
theorem dX8_card_106 : decode cX8_card 106 = .ok (.iload 5, 2) := by decide +kernel
theorem dX8_card_108 : decode cX8_card 108 = .ok (.iconst 1, 1) := by decide +kernel
theorem dX8_card_109 : decode cX8_card 109 = .ok (.iadd, 1) := by decide +kernel
theorem dX8_card_110 : decode cX8_card 110 = .ok (.istore 6, 2) := by decide +kernel
theorem dX8_card_112 : decode cX8_card 112 = .ok (.iload 6, 2) := by decide +kernel
theorem dX8_card_114 : decode cX8_card 114 = .ok (.iload_n 2, 1) := by decide +kernel
theorem dX8_card_115 : decode cX8_card 115 = .ok (.if_icmp .ge 70, 3) := by decide +kernel
theorem dX8_card_118 : decode cX8_card 118 = .ok (.aload_n 0, 1) := by decide +kernel
theorem dX8_card_119 : decode cX8_card 119 = .ok (.aload_n 0, 1) := by decide +kernel
theorem dX8_card_120 : decode cX8_card 120 = .ok (.getfield 7, 3) := by decide +kernel
theorem dX8_card_123 : decode cX8_card 123 = .ok (.iload 5, 2) := by decide +kernel
theorem dX8_card_125 : decode cX8_card 125 = .ok (.baload, 1) := by decide +kernel
theorem dX8_card_126 : decode cX8_card 126 = .ok (.invokevirtual 192, 3) := by decide +kernel
theorem dX8_card_129 : decode cX8_card 129 = .ok (.istore 7, 2) := by decide +kernel
theorem dX8_card_131 : decode cX8_card 131 = .ok (.aload_n 0, 1) := by decide +kernel
theorem dX8_card_132 : decode cX8_card 132 = .ok (.aload_n 0, 1) := by decide +kernel
theorem dX8_card_133 : decode cX8_card 133 = .ok (.getfield 7, 3) := by decide +kernel
theorem dX8_card_136 : decode cX8_card 136 = .ok (.iload 6, 2) := by decide +kernel
theorem dX8_card_138 : decode cX8_card 138 = .ok (.baload, 1) := by decide +kernel
theorem dX8_card_139 : decode cX8_card 139 = .ok (.invokevirtual 192, 3) := by decide +kernel
theorem dX8_card_142 : decode cX8_card 142 = .ok (.istore 8, 2) := by decide +kernel
theorem dX8_card_144 : decode cX8_card 144 = .ok (.iload 8, 2) := by decide +kernel
theorem dX8_card_146 : decode cX8_card 146 = .ok (.istore 9, 2) := by decide +kernel
theorem dX8_card_148 : decode cX8_card 148 = .ok (.iload 9, 2) := by decide +kernel
theorem dX8_card_150 : decode cX8_card 150 = .ok (.iload 7, 2) := by decide +kernel
theorem dX8_card_152 : decode cX8_card 152 = .ok (.if_icmp .ge 27, 3) := by decide +kernel
theorem dX8_card_155 : decode cX8_card 155 = .ok (.iload 4, 2) := by decide +kernel
theorem dX8_card_157 : decode cX8_card 157 = .ok (.aload_n 0, 1) := by decide +kernel
theorem dX8_card_158 : decode cX8_card 158 = .ok (.getfield 63, 3) := by decide +kernel
theorem dX8_card_161 : decode cX8_card 161 = .ok (.iconst 3, 1) := by decide +kernel
theorem dX8_card_162 : decode cX8_card 162 = .ok (.iload_n 1, 1) := by decide +kernel
theorem dX8_card_163 : decode cX8_card 163 = .ok (.imul, 1) := by decide +kernel
theorem dX8_card_164 : decode cX8_card 164 = .ok (.iload 9, 2) := by decide +kernel
theorem dX8_card_166 : decode cX8_card 166 = .ok (.iadd, 1) := by decide +kernel
theorem dX8_card_167 : decode cX8_card 167 = .ok (.iconst 1, 1) := by decide +kernel
theorem dX8_card_168 : decode cX8_card 168 = .ok (.isub, 1) := by decide +kernel
theorem dX8_card_169 : decode cX8_card 169 = .ok (.iaload, 1) := by decide +kernel
theorem dX8_card_170 : decode cX8_card 170 = .ok (.isub, 1) := by decide +kernel
theorem dX8_card_171 : decode cX8_card 171 = .ok (.istore 4, 2) := by decide +kernel
theorem dX8_card_173 : decode cX8_card 173 = .ok (.iinc 9 1, 3) := by decide +kernel
theorem dX8_card_176 : decode cX8_card 176 = .ok (.goto (-28), 3) := by decide +kernel
theorem dX8_card_179 : decode cX8_card 179 = .ok (.iinc 6 1, 3) := by decide +kernel
theorem dX8_card_182 : decode cX8_card 182 = .ok (.goto (-70), 3) := by decide +kernel
theorem dX8_card_185 : decode cX8_card 185 = .ok (.iinc 5 1, 3) := by decide +kernel
theorem dX8_card_188 : decode cX8_card 188 = .ok (.goto (-88), 3) := by decide +kernel
theorem dX8_card_191 : decode cX8_card 191 = .ok (.iload 4, 2) := by decide +kernel
theorem dX8_card_193 : decode cX8_card 193 = .ok (.ifCond .ge 7, 3) := by decide +kernel
theorem dX8_card_196 : decode cX8_card 196 = .ok (.iconst 0, 1) := by decide +kernel
theorem dX8_card_197 : decode cX8_card 197 = .ok (.goto 5, 3) := by decide +kernel
theorem dX8_card_200 : decode cX8_card 200 = .ok (.iload 4, 2) := by decide +kernel
theorem dX8_card_202 : decode cX8_card 202 = .ok (.ireturn, 1) := by decide +kernel
theorem dX8_place_0 : decode cX8_place 0 = .ok (.aload_n 0, 1) := by decide +kernel
theorem dX8_place_1 : decode cX8_place 1 = .ok (.invokevirtual 113, 3) := by decide +kernel
theorem dX8_place_4 : decode cX8_place 4 = .ok (.bipush 97, 2) := by decide +kernel
theorem dX8_place_6 : decode cX8_place 6 = .ok (.isub, 1) := by decide +kernel
theorem dX8_place_7 : decode cX8_place 7 = .ok (.iconst 1, 1) := by decide +kernel
theorem dX8_place_8 : decode cX8_place 8 = .ok (.iadd, 1) := by decide +kernel
theorem dX8_place_9 : decode cX8_place 9 = .ok (.istore_n 2, 1) := by decide +kernel
theorem dX8_place_10 : decode cX8_place 10 = .ok (.iload_n 2, 1) := by decide +kernel
theorem dX8_place_11 : decode cX8_place 11 = .ok (.iconst 1, 1) := by decide +kernel
theorem dX8_place_12 : decode cX8_place 12 = .ok (.bipush 8, 2) := by decide +kernel
theorem dX8_place_14 : decode cX8_place 14 = .ok (.invokestatic 87, 3) := by decide +kernel
theorem dX8_place_17 : decode cX8_place 17 = .ok (.ifCond .ne 15, 3) := by decide +kernel
theorem dX8_place_20 : decode cX8_place 20 = .ok (.aload_n 0, 1) := by decide +kernel
theorem dX8_place_21 : decode cX8_place 21 = .ok (.iconst 1, 1) := by decide +kernel
theorem dX8_place_22 : decode cX8_place 22 = .ok (.aload_n 0, 1) := by decide +kernel
theorem dX8_place_23 : decode cX8_place 23 = .ok (.getfield 101, 3) := by decide +kernel
theorem dX8_place_26 : decode cX8_place 26 = .ok (.invokevirtual 121, 3) := by decide +kernel
theorem dX8_place_29 : decode cX8_place 29 = .ok (.goto 25, 3) := by decide +kernel
theorem dX8_place_32 : decode cX8_place 32 = .ok (.iload_n 2, 1) := by decide +kernel
theorem dX8_place_33 : decode cX8_place 33 = .ok (.aload_n 0, 1) := by decide +kernel
theorem dX8_place_34 : decode cX8_place 34 = .ok (.getfield 176, 3) := by decide +kernel
theorem dX8_place_37 : decode cX8_place 37 = .ok (.if_icmp .gt 8, 3) := by decide +kernel
theorem dX8_place_40 : decode cX8_place 40 = .ok (.iload_n 2, 1) := by decide +kernel
theorem dX8_place_41 : decode cX8_place 41 = .ok (.iload_n 1, 1) := by decide +kernel
theorem dX8_place_42 : decode cX8_place 42 = .ok (.if_icmp .ne 12, 3) := by decide +kernel
theorem dX8_place_45 : decode cX8_place 45 = .ok (.aload_n 0, 1) := by decide +kernel
theorem dX8_place_46 : decode cX8_place 46 = .ok (.iconst 2, 1) := by decide +kernel
theorem dX8_place_47 : decode cX8_place 47 = .ok (.aload_n 0, 1) := by decide +kernel
theorem dX8_place_48 : decode cX8_place 48 = .ok (.getfield 101, 3) := by decide +kernel
theorem dX8_place_51 : decode cX8_place 51 = .ok (.invokevirtual 121, 3) := by decide +kernel
theorem dX8_place_54 : decode cX8_place 54 = .ok (.aload_n 0, 1) := by decide +kernel
theorem dX8_place_55 : decode cX8_place 55 = .ok (.dup, 1) := by decide +kernel
theorem dX8_place_56 : decode cX8_place 56 = .ok (.getfield 101, 3) := by decide +kernel
theorem dX8_place_59 : decode cX8_place 59 = .ok (.iconst 1, 1) := by decide +kernel
theorem dX8_place_60 : decode cX8_place 60 = .ok (.iadd, 1) := by decide +kernel
theorem dX8_place_61 : decode cX8_place 61 = .ok (.putfield 101, 3) := by decide +kernel
theorem dX8_place_64 : decode cX8_place 64 = .ok (.iload_n 2, 1) := by decide +kernel
theorem dX8_place_65 : decode cX8_place 65 = .ok (.ireturn, 1) := by decide +kernel
theorem dX8_must_0 : decode cX8_must 0 = .ok (.aload_n 0, 1) := by decide +kernel
theorem dX8_must_1 : decode cX8_must 1 = .ok (.invokevirtual 113, 3) := by decide +kernel
theorem dX8_must_4 : decode cX8_must 4 = .ok (.iload_n 1, 1) := by decide +kernel
theorem dX8_must_5 : decode cX8_must 5 = .ok (.if_icmp .eq 12, 3) := by decide +kernel
theorem dX8_must_8 : decode cX8_must 8 = .ok (.aload_n 0, 1) := by decide +kernel
theorem dX8_must_9 : decode cX8_must 9 = .ok (.iconst 1, 1) := by decide +kernel
theorem dX8_must_10 : decode cX8_must 10 = .ok (.aload_n 0, 1) := by decide +kernel
theorem dX8_must_11 : decode cX8_must 11 = .ok (.getfield 101, 3) := by decide +kernel
theorem dX8_must_14 : decode cX8_must 14 = .ok (.invokevirtual 121, 3) := by decide +kernel
theorem dX8_must_17 : decode cX8_must 17 = .ok (.aload_n 0, 1) := by decide +kernel
theorem dX8_must_18 : decode cX8_must 18 = .ok (.dup, 1) := by decide +kernel
theorem dX8_must_19 : decode cX8_must 19 = .ok (.getfield 101, 3) := by decide +kernel
theorem dX8_must_22 : decode cX8_must 22 = .ok (.iconst 1, 1) := by decide +kernel
theorem dX8_must_23 : decode cX8_must 23 = .ok (.iadd, 1) := by decide +kernel
theorem dX8_must_24 : decode cX8_must 24 = .ok (.putfield 101, 3) := by decide +kernel
theorem dX8_must_27 : decode cX8_must 27 = .ok (.return_, 1) := by decide +kernel
theorem dX8_pair_0 : decode cX8_pair 0 = .ok (.aload_n 0, 1) := by decide +kernel
theorem dX8_pair_1 : decode cX8_pair 1 = .ok (.getfield 101, 3) := by decide +kernel
theorem dX8_pair_4 : decode cX8_pair 4 = .ok (.istore_n 1, 1) := by decide +kernel
theorem dX8_pair_5 : decode cX8_pair 5 = .ok (.aload_n 0, 1) := by decide +kernel
theorem dX8_pair_6 : decode cX8_pair 6 = .ok (.iconst (-1), 1) := by decide +kernel
theorem dX8_pair_7 : decode cX8_pair 7 = .ok (.invokevirtual 195, 3) := by decide +kernel
theorem dX8_pair_10 : decode cX8_pair 10 = .ok (.istore_n 2, 1) := by decide +kernel
theorem dX8_pair_11 : decode cX8_pair 11 = .ok (.aload_n 0, 1) := by decide +kernel
theorem dX8_pair_12 : decode cX8_pair 12 = .ok (.getfield 107, 3) := by decide +kernel
theorem dX8_pair_15 : decode cX8_pair 15 = .ok (.ifCond .ne 9, 3) := by decide +kernel
theorem dX8_pair_18 : decode cX8_pair 18 = .ok (.aload_n 0, 1) := by decide +kernel
theorem dX8_pair_19 : decode cX8_pair 19 = .ok (.bipush 62, 2) := by decide +kernel
theorem dX8_pair_21 : decode cX8_pair 21 = .ok (.invokevirtual 198, 3) := by decide +kernel
theorem dX8_pair_24 : decode cX8_pair 24 = .ok (.aload_n 0, 1) := by decide +kernel
theorem dX8_pair_25 : decode cX8_pair 25 = .ok (.getfield 107, 3) := by decide +kernel
theorem dX8_pair_28 : decode cX8_pair 28 = .ok (.ifCond .ne 11, 3) := by decide +kernel
theorem dX8_pair_31 : decode cX8_pair 31 = .ok (.aload_n 0, 1) := by decide +kernel
theorem dX8_pair_32 : decode cX8_pair 32 = .ok (.iload_n 2, 1) := by decide +kernel
theorem dX8_pair_33 : decode cX8_pair 33 = .ok (.invokevirtual 195, 3) := by decide +kernel
theorem dX8_pair_36 : decode cX8_pair 36 = .ok (.goto 4, 3) := by decide +kernel
theorem dX8_pair_39 : decode cX8_pair 39 = .ok (.iconst 0, 1) := by decide +kernel
theorem dX8_pair_40 : decode cX8_pair 40 = .ok (.istore_n 3, 1) := by decide +kernel
theorem dX8_pair_41 : decode cX8_pair 41 = .ok (.aload_n 0, 1) := by decide +kernel
theorem dX8_pair_42 : decode cX8_pair 42 = .ok (.getfield 107, 3) := by decide +kernel
theorem dX8_pair_45 : decode cX8_pair 45 = .ok (.ifCond .ne 14, 3) := by decide +kernel
theorem dX8_pair_48 : decode cX8_pair 48 = .ok (.iload_n 2, 1) := by decide +kernel
theorem dX8_pair_49 : decode cX8_pair 49 = .ok (.iload_n 3, 1) := by decide +kernel
theorem dX8_pair_50 : decode cX8_pair 50 = .ok (.if_icmp .le 9, 3) := by decide +kernel
theorem dX8_pair_53 : decode cX8_pair 53 = .ok (.aload_n 0, 1) := by decide +kernel
theorem dX8_pair_54 : decode cX8_pair 54 = .ok (.iconst 3, 1) := by decide +kernel
theorem dX8_pair_55 : decode cX8_pair 55 = .ok (.iload_n 1, 1) := by decide +kernel
theorem dX8_pair_56 : decode cX8_pair 56 = .ok (.invokevirtual 121, 3) := by decide +kernel
theorem dX8_pair_59 : decode cX8_pair 59 = .ok (.aload_n 0, 1) := by decide +kernel
theorem dX8_pair_60 : decode cX8_pair 60 = .ok (.getfield 107, 3) := by decide +kernel
theorem dX8_pair_63 : decode cX8_pair 63 = .ok (.ifCond .ne 9, 3) := by decide +kernel
theorem dX8_pair_66 : decode cX8_pair 66 = .ok (.aload_n 0, 1) := by decide +kernel
theorem dX8_pair_67 : decode cX8_pair 67 = .ok (.bipush 58, 2) := by decide +kernel
theorem dX8_pair_69 : decode cX8_pair 69 = .ok (.invokevirtual 198, 3) := by decide +kernel
theorem dX8_pair_72 : decode cX8_pair 72 = .ok (.iconst 0, 1) := by decide +kernel
theorem dX8_pair_73 : decode cX8_pair 73 = .ok (.istore 4, 2) := by decide +kernel
theorem dX8_pair_75 : decode cX8_pair 75 = .ok (.aload_n 0, 1) := by decide +kernel
theorem dX8_pair_76 : decode cX8_pair 76 = .ok (.getfield 107, 3) := by decide +kernel
theorem dX8_pair_79 : decode cX8_pair 79 = .ok (.ifCond .ne 202, 3) := by decide +kernel
theorem dX8_pair_82 : decode cX8_pair 82 = .ok (.iload 4, 2) := by decide +kernel
theorem dX8_pair_84 : decode cX8_pair 84 = .ok (.ifCond .eq 19, 3) := by decide +kernel
theorem dX8_pair_87 : decode cX8_pair 87 = .ok (.aload_n 0, 1) := by decide +kernel
theorem dX8_pair_88 : decode cX8_pair 88 = .ok (.invokevirtual 113, 3) := by decide +kernel
theorem dX8_pair_91 : decode cX8_pair 91 = .ok (.bipush 45, 2) := by decide +kernel
theorem dX8_pair_93 : decode cX8_pair 93 = .ok (.if_icmp .eq 10, 3) := by decide +kernel
theorem dX8_pair_96 : decode cX8_pair 96 = .ok (.aload_n 0, 1) := by decide +kernel
theorem dX8_pair_97 : decode cX8_pair 97 = .ok (.invokevirtual 117, 3) := by decide +kernel
theorem dX8_pair_100 : decode cX8_pair 100 = .ok (.ifCond .eq 181, 3) := by decide +kernel
theorem dX8_pair_103 : decode cX8_pair 103 = .ok (.iload 4, 2) := by decide +kernel
theorem dX8_pair_105 : decode cX8_pair 105 = .ok (.iconst 4, 1) := by decide +kernel
theorem dX8_pair_106 : decode cX8_pair 106 = .ok (.if_icmp .ne 12, 3) := by decide +kernel
theorem dX8_pair_109 : decode cX8_pair 109 = .ok (.aload_n 0, 1) := by decide +kernel
theorem dX8_pair_110 : decode cX8_pair 110 = .ok (.iconst 1, 1) := by decide +kernel
theorem dX8_pair_111 : decode cX8_pair 111 = .ok (.aload_n 0, 1) := by decide +kernel
theorem dX8_pair_112 : decode cX8_pair 112 = .ok (.getfield 101, 3) := by decide +kernel
theorem dX8_pair_115 : decode cX8_pair 115 = .ok (.invokevirtual 121, 3) := by decide +kernel
theorem dX8_pair_118 : decode cX8_pair 118 = .ok (.aload_n 0, 1) := by decide +kernel
theorem dX8_pair_119 : decode cX8_pair 119 = .ok (.invokevirtual 113, 3) := by decide +kernel
theorem dX8_pair_122 : decode cX8_pair 122 = .ok (.bipush 45, 2) := by decide +kernel
theorem dX8_pair_124 : decode cX8_pair 124 = .ok (.if_icmp .ne 7, 3) := by decide +kernel
theorem dX8_pair_127 : decode cX8_pair 127 = .ok (.iconst 1, 1) := by decide +kernel
theorem dX8_pair_128 : decode cX8_pair 128 = .ok (.goto 4, 3) := by decide +kernel
theorem dX8_pair_131 : decode cX8_pair 131 = .ok (.iconst 0, 1) := by decide +kernel
theorem dX8_pair_132 : decode cX8_pair 132 = .ok (.istore 5, 2) := by decide +kernel
theorem dX8_pair_134 : decode cX8_pair 134 = .ok (.aload_n 0, 1) := by decide +kernel
theorem dX8_pair_135 : decode cX8_pair 135 = .ok (.dup, 1) := by decide +kernel
theorem dX8_pair_136 : decode cX8_pair 136 = .ok (.getfield 101, 3) := by decide +kernel
theorem dX8_pair_139 : decode cX8_pair 139 = .ok (.iload 5, 2) := by decide +kernel
theorem dX8_pair_141 : decode cX8_pair 141 = .ok (.ifCond .eq 7, 3) := by decide +kernel
theorem dX8_pair_144 : decode cX8_pair 144 = .ok (.iconst 1, 1) := by decide +kernel
theorem dX8_pair_145 : decode cX8_pair 145 = .ok (.goto 4, 3) := by decide +kernel
theorem dX8_pair_148 : decode cX8_pair 148 = .ok (.iconst 0, 1) := by decide +kernel
theorem dX8_pair_149 : decode cX8_pair 149 = .ok (.iadd, 1) := by decide +kernel
theorem dX8_pair_150 : decode cX8_pair 150 = .ok (.putfield 101, 3) := by decide +kernel
theorem dX8_pair_153 : decode cX8_pair 153 = .ok (.aload_n 0, 1) := by decide +kernel
theorem dX8_pair_154 : decode cX8_pair 154 = .ok (.invokevirtual 113, 3) := by decide +kernel
theorem dX8_pair_157 : decode cX8_pair 157 = .ok (.bipush 48, 2) := by decide +kernel
theorem dX8_pair_159 : decode cX8_pair 159 = .ok (.isub, 1) := by decide +kernel
theorem dX8_pair_160 : decode cX8_pair 160 = .ok (.istore 6, 2) := by decide +kernel
theorem dX8_pair_162 : decode cX8_pair 162 = .ok (.iload 6, 2) := by decide +kernel
theorem dX8_pair_164 : decode cX8_pair 164 = .ok (.iconst 0, 1) := by decide +kernel
theorem dX8_pair_165 : decode cX8_pair 165 = .ok (.iconst 2, 1) := by decide +kernel
theorem dX8_pair_166 : decode cX8_pair 166 = .ok (.invokestatic 87, 3) := by decide +kernel
theorem dX8_pair_169 : decode cX8_pair 169 = .ok (.ifCond .ne 12, 3) := by decide +kernel
theorem dX8_pair_172 : decode cX8_pair 172 = .ok (.aload_n 0, 1) := by decide +kernel
theorem dX8_pair_173 : decode cX8_pair 173 = .ok (.iconst 1, 1) := by decide +kernel
theorem dX8_pair_174 : decode cX8_pair 174 = .ok (.aload_n 0, 1) := by decide +kernel
theorem dX8_pair_175 : decode cX8_pair 175 = .ok (.getfield 101, 3) := by decide +kernel
theorem dX8_pair_178 : decode cX8_pair 178 = .ok (.invokevirtual 121, 3) := by decide +kernel
theorem dX8_pair_181 : decode cX8_pair 181 = .ok (.aload_n 0, 1) := by decide +kernel
theorem dX8_pair_182 : decode cX8_pair 182 = .ok (.getfield 107, 3) := by decide +kernel
theorem dX8_pair_185 : decode cX8_pair 185 = .ok (.ifCond .le 4, 3) := by decide +kernel
theorem dX8_pair_188 : decode cX8_pair 188 = .ok (.return_, 1) := by decide +kernel
theorem dX8_pair_189 : decode cX8_pair 189 = .ok (.aload_n 0, 1) := by decide +kernel
theorem dX8_pair_190 : decode cX8_pair 190 = .ok (.getfield 30, 3) := by decide +kernel
theorem dX8_pair_193 : decode cX8_pair 193 = .ok (.iconst 3, 1) := by decide +kernel
theorem dX8_pair_194 : decode cX8_pair 194 = .ok (.aload_n 0, 1) := by decide +kernel
theorem dX8_pair_195 : decode cX8_pair 195 = .ok (.getfield 75, 3) := by decide +kernel
theorem dX8_pair_198 : decode cX8_pair 198 = .ok (.iload_n 2, 1) := by decide +kernel
theorem dX8_pair_199 : decode cX8_pair 199 = .ok (.iconst 1, 1) := by decide +kernel
theorem dX8_pair_200 : decode cX8_pair 200 = .ok (.isub, 1) := by decide +kernel
theorem dX8_pair_201 : decode cX8_pair 201 = .ok (.iaload, 1) := by decide +kernel
theorem dX8_pair_202 : decode cX8_pair 202 = .ok (.imul, 1) := by decide +kernel
theorem dX8_pair_203 : decode cX8_pair 203 = .ok (.iload 6, 2) := by decide +kernel
theorem dX8_pair_205 : decode cX8_pair 205 = .ok (.iadd, 1) := by decide +kernel
theorem dX8_pair_206 : decode cX8_pair 206 = .ok (.iaload, 1) := by decide +kernel
theorem dX8_pair_207 : decode cX8_pair 207 = .ok (.istore 7, 2) := by decide +kernel
theorem dX8_pair_209 : decode cX8_pair 209 = .ok (.aload_n 0, 1) := by decide +kernel
theorem dX8_pair_210 : decode cX8_pair 210 = .ok (.getfield 30, 3) := by decide +kernel
theorem dX8_pair_213 : decode cX8_pair 213 = .ok (.iconst 3, 1) := by decide +kernel
theorem dX8_pair_214 : decode cX8_pair 214 = .ok (.aload_n 0, 1) := by decide +kernel
theorem dX8_pair_215 : decode cX8_pair 215 = .ok (.getfield 75, 3) := by decide +kernel
theorem dX8_pair_218 : decode cX8_pair 218 = .ok (.iload_n 3, 1) := by decide +kernel
theorem dX8_pair_219 : decode cX8_pair 219 = .ok (.iconst 1, 1) := by decide +kernel
theorem dX8_pair_220 : decode cX8_pair 220 = .ok (.isub, 1) := by decide +kernel
theorem dX8_pair_221 : decode cX8_pair 221 = .ok (.iaload, 1) := by decide +kernel
theorem dX8_pair_222 : decode cX8_pair 222 = .ok (.imul, 1) := by decide +kernel
theorem dX8_pair_223 : decode cX8_pair 223 = .ok (.iload 6, 2) := by decide +kernel
theorem dX8_pair_225 : decode cX8_pair 225 = .ok (.iadd, 1) := by decide +kernel
theorem dX8_pair_226 : decode cX8_pair 226 = .ok (.iaload, 1) := by decide +kernel
theorem dX8_pair_227 : decode cX8_pair 227 = .ok (.istore 8, 2) := by decide +kernel
theorem dX8_pair_229 : decode cX8_pair 229 = .ok (.aload_n 0, 1) := by decide +kernel
theorem dX8_pair_230 : decode cX8_pair 230 = .ok (.dup, 1) := by decide +kernel
theorem dX8_pair_231 : decode cX8_pair 231 = .ok (.getfield 201, 3) := by decide +kernel
theorem dX8_pair_234 : decode cX8_pair 234 = .ok (.iload 5, 2) := by decide +kernel
theorem dX8_pair_236 : decode cX8_pair 236 = .ok (.ifCond .eq 13, 3) := by decide +kernel
theorem dX8_pair_239 : decode cX8_pair 239 = .ok (.iload 8, 2) := by decide +kernel
theorem dX8_pair_241 : decode cX8_pair 241 = .ok (.iload 7, 2) := by decide +kernel
theorem dX8_pair_243 : decode cX8_pair 243 = .ok (.if_icmp .le 17, 3) := by decide +kernel
theorem dX8_pair_246 : decode cX8_pair 246 = .ok (.goto 10, 3) := by decide +kernel
theorem dX8_pair_249 : decode cX8_pair 249 = .ok (.iload 7, 2) := by decide +kernel
theorem dX8_pair_251 : decode cX8_pair 251 = .ok (.iload 8, 2) := by decide +kernel
theorem dX8_pair_253 : decode cX8_pair 253 = .ok (.if_icmp .le 7, 3) := by decide +kernel
theorem dX8_pair_256 : decode cX8_pair 256 = .ok (.iconst 2, 1) := by decide +kernel
theorem dX8_pair_257 : decode cX8_pair 257 = .ok (.goto 4, 3) := by decide +kernel
theorem dX8_pair_260 : decode cX8_pair 260 = .ok (.iconst (-1), 1) := by decide +kernel
theorem dX8_pair_261 : decode cX8_pair 261 = .ok (.iadd, 1) := by decide +kernel
theorem dX8_pair_262 : decode cX8_pair 262 = .ok (.putfield 201, 3) := by decide +kernel
theorem dX8_pair_265 : decode cX8_pair 265 = .ok (.aload_n 0, 1) := by decide +kernel
theorem dX8_pair_266 : decode cX8_pair 266 = .ok (.dup, 1) := by decide +kernel
theorem dX8_pair_267 : decode cX8_pair 267 = .ok (.getfield 101, 3) := by decide +kernel
theorem dX8_pair_270 : decode cX8_pair 270 = .ok (.iconst 1, 1) := by decide +kernel
theorem dX8_pair_271 : decode cX8_pair 271 = .ok (.iadd, 1) := by decide +kernel
theorem dX8_pair_272 : decode cX8_pair 272 = .ok (.putfield 101, 3) := by decide +kernel
theorem dX8_pair_275 : decode cX8_pair 275 = .ok (.iinc 4 1, 3) := by decide +kernel
theorem dX8_pair_278 : decode cX8_pair 278 = .ok (.goto (-203), 3) := by decide +kernel
theorem dX8_pair_281 : decode cX8_pair 281 = .ok (.return_, 1) := by decide +kernel
theorem dX8_reasons_0 : decode cX8_reasons 0 = .ok (.iload_n 1, 1) := by decide +kernel
theorem dX8_reasons_1 : decode cX8_reasons 1 = .ok (.invokestatic 139, 3) := by decide +kernel
theorem dX8_reasons_4 : decode cX8_reasons 4 = .ok (.ifCond .eq 15, 3) := by decide +kernel
theorem dX8_reasons_7 : decode cX8_reasons 7 = .ok (.iload_n 2, 1) := by decide +kernel
theorem dX8_reasons_8 : decode cX8_reasons 8 = .ok (.ifCond .lt 11, 3) := by decide +kernel
theorem dX8_reasons_11 : decode cX8_reasons 11 = .ok (.iload_n 2, 1) := by decide +kernel
theorem dX8_reasons_12 : decode cX8_reasons 12 = .ok (.aload_n 0, 1) := by decide +kernel
theorem dX8_reasons_13 : decode cX8_reasons 13 = .ok (.getfield 94, 3) := by decide +kernel
theorem dX8_reasons_16 : decode cX8_reasons 16 = .ok (.if_icmp .le 5, 3) := by decide +kernel
theorem dX8_reasons_19 : decode cX8_reasons 19 = .ok (.iconst (-1), 1) := by decide +kernel
theorem dX8_reasons_20 : decode cX8_reasons 20 = .ok (.ireturn, 1) := by decide +kernel
theorem dX8_reasons_21 : decode cX8_reasons 21 = .ok (.aload_n 0, 1) := by decide +kernel
theorem dX8_reasons_22 : decode cX8_reasons 22 = .ok (.iload_n 1, 1) := by decide +kernel
theorem dX8_reasons_23 : decode cX8_reasons 23 = .ok (.invokevirtual 186, 3) := by decide +kernel
theorem dX8_reasons_26 : decode cX8_reasons 26 = .ok (.aload_n 0, 1) := by decide +kernel
theorem dX8_reasons_27 : decode cX8_reasons 27 = .ok (.iload_n 2, 1) := by decide +kernel
theorem dX8_reasons_28 : decode cX8_reasons 28 = .ok (.invokevirtual 143, 3) := by decide +kernel
theorem dX8_reasons_31 : decode cX8_reasons 31 = .ok (.aload_n 0, 1) := by decide +kernel
theorem dX8_reasons_32 : decode cX8_reasons 32 = .ok (.iconst 0, 1) := by decide +kernel
theorem dX8_reasons_33 : decode cX8_reasons 33 = .ok (.putfield 201, 3) := by decide +kernel
theorem dX8_reasons_36 : decode cX8_reasons 36 = .ok (.iconst 1, 1) := by decide +kernel
theorem dX8_reasons_37 : decode cX8_reasons 37 = .ok (.istore_n 3, 1) := by decide +kernel
theorem dX8_reasons_38 : decode cX8_reasons 38 = .ok (.iload_n 3, 1) := by decide +kernel
theorem dX8_reasons_39 : decode cX8_reasons 39 = .ok (.ifCond .eq 73, 3) := by decide +kernel
theorem dX8_reasons_42 : decode cX8_reasons 42 = .ok (.aload_n 0, 1) := by decide +kernel
theorem dX8_reasons_43 : decode cX8_reasons 43 = .ok (.getfield 107, 3) := by decide +kernel
theorem dX8_reasons_46 : decode cX8_reasons 46 = .ok (.ifCond .ne 66, 3) := by decide +kernel
theorem dX8_reasons_49 : decode cX8_reasons 49 = .ok (.aload_n 0, 1) := by decide +kernel
theorem dX8_reasons_50 : decode cX8_reasons 50 = .ok (.invokevirtual 204, 3) := by decide +kernel
theorem dX8_reasons_53 : decode cX8_reasons 53 = .ok (.aload_n 0, 1) := by decide +kernel
theorem dX8_reasons_54 : decode cX8_reasons 54 = .ok (.getfield 107, 3) := by decide +kernel
theorem dX8_reasons_57 : decode cX8_reasons 57 = .ok (.ifCond .ne 18, 3) := by decide +kernel
theorem dX8_reasons_60 : decode cX8_reasons 60 = .ok (.aload_n 0, 1) := by decide +kernel
theorem dX8_reasons_61 : decode cX8_reasons 61 = .ok (.getfield 101, 3) := by decide +kernel
theorem dX8_reasons_64 : decode cX8_reasons 64 = .ok (.aload_n 0, 1) := by decide +kernel
theorem dX8_reasons_65 : decode cX8_reasons 65 = .ok (.getfield 104, 3) := by decide +kernel
theorem dX8_reasons_68 : decode cX8_reasons 68 = .ok (.if_icmp .ge 7, 3) := by decide +kernel
theorem dX8_reasons_71 : decode cX8_reasons 71 = .ok (.iconst 1, 1) := by decide +kernel
theorem dX8_reasons_72 : decode cX8_reasons 72 = .ok (.goto 4, 3) := by decide +kernel
theorem dX8_reasons_75 : decode cX8_reasons 75 = .ok (.iconst 0, 1) := by decide +kernel
theorem dX8_reasons_76 : decode cX8_reasons 76 = .ok (.istore_n 3, 1) := by decide +kernel
theorem dX8_reasons_77 : decode cX8_reasons 77 = .ok (.iload_n 3, 1) := by decide +kernel
theorem dX8_reasons_78 : decode cX8_reasons 78 = .ok (.ifCond .eq 21, 3) := by decide +kernel
theorem dX8_reasons_81 : decode cX8_reasons 81 = .ok (.aload_n 0, 1) := by decide +kernel
theorem dX8_reasons_82 : decode cX8_reasons 82 = .ok (.invokevirtual 113, 3) := by decide +kernel
theorem dX8_reasons_85 : decode cX8_reasons 85 = .ok (.bipush 59, 2) := by decide +kernel
theorem dX8_reasons_87 : decode cX8_reasons 87 = .ok (.if_icmp .eq 12, 3) := by decide +kernel
theorem dX8_reasons_90 : decode cX8_reasons 90 = .ok (.aload_n 0, 1) := by decide +kernel
theorem dX8_reasons_91 : decode cX8_reasons 91 = .ok (.iconst 1, 1) := by decide +kernel
theorem dX8_reasons_92 : decode cX8_reasons 92 = .ok (.aload_n 0, 1) := by decide +kernel
theorem dX8_reasons_93 : decode cX8_reasons 93 = .ok (.getfield 101, 3) := by decide +kernel
theorem dX8_reasons_96 : decode cX8_reasons 96 = .ok (.invokevirtual 121, 3) := by decide +kernel
theorem dX8_reasons_99 : decode cX8_reasons 99 = .ok (.aload_n 0, 1) := by decide +kernel
theorem dX8_reasons_100 : decode cX8_reasons 100 = .ok (.dup, 1) := by decide +kernel
theorem dX8_reasons_101 : decode cX8_reasons 101 = .ok (.getfield 101, 3) := by decide +kernel
theorem dX8_reasons_104 : decode cX8_reasons 104 = .ok (.iconst 1, 1) := by decide +kernel
theorem dX8_reasons_105 : decode cX8_reasons 105 = .ok (.iadd, 1) := by decide +kernel
theorem dX8_reasons_106 : decode cX8_reasons 106 = .ok (.putfield 101, 3) := by decide +kernel
theorem dX8_reasons_109 : decode cX8_reasons 109 = .ok (.goto (-71), 3) := by decide +kernel
theorem dX8_reasons_112 : decode cX8_reasons 112 = .ok (.aload_n 0, 1) := by decide +kernel
theorem dX8_reasons_113 : decode cX8_reasons 113 = .ok (.getfield 107, 3) := by decide +kernel
theorem dX8_reasons_116 : decode cX8_reasons 116 = .ok (.ifCond .le 18, 3) := by decide +kernel
theorem dX8_reasons_119 : decode cX8_reasons 119 = .ok (.bipush (-100), 2) := by decide +kernel
theorem dX8_reasons_121 : decode cX8_reasons 121 = .ok (.aload_n 0, 1) := by decide +kernel
theorem dX8_reasons_122 : decode cX8_reasons 122 = .ok (.getfield 107, 3) := by decide +kernel
theorem dX8_reasons_125 : decode cX8_reasons 125 = .ok (.imul, 1) := by decide +kernel
theorem dX8_reasons_126 : decode cX8_reasons 126 = .ok (.aload_n 0, 1) := by decide +kernel
theorem dX8_reasons_127 : decode cX8_reasons 127 = .ok (.getfield 110, 3) := by decide +kernel
theorem dX8_reasons_130 : decode cX8_reasons 130 = .ok (.isub, 1) := by decide +kernel
theorem dX8_reasons_131 : decode cX8_reasons 131 = .ok (.goto 18, 3) := by decide +kernel
theorem dX8_reasons_134 : decode cX8_reasons 134 = .ok (.aload_n 0, 1) := by decide +kernel
theorem dX8_reasons_135 : decode cX8_reasons 135 = .ok (.getfield 201, 3) := by decide +kernel
theorem dX8_reasons_138 : decode cX8_reasons 138 = .ok (.ifCond .ge 7, 3) := by decide +kernel
theorem dX8_reasons_141 : decode cX8_reasons 141 = .ok (.iconst 0, 1) := by decide +kernel
theorem dX8_reasons_142 : decode cX8_reasons 142 = .ok (.goto 7, 3) := by decide +kernel
theorem dX8_reasons_145 : decode cX8_reasons 145 = .ok (.aload_n 0, 1) := by decide +kernel
theorem dX8_reasons_146 : decode cX8_reasons 146 = .ok (.getfield 201, 3) := by decide +kernel
theorem dX8_reasons_149 : decode cX8_reasons 149 = .ok (.ireturn, 1) := by decide +kernel
theorem dX8_sand_0 : decode cX8_sand 0 = .ok (.iload_n 1, 1) := by decide +kernel
theorem dX8_sand_1 : decode cX8_sand 1 = .ok (.iconst 1, 1) := by decide +kernel
theorem dX8_sand_2 : decode cX8_sand 2 = .ok (.iconst 3, 1) := by decide +kernel
theorem dX8_sand_3 : decode cX8_sand 3 = .ok (.invokestatic 87, 3) := by decide +kernel
theorem dX8_sand_6 : decode cX8_sand 6 = .ok (.ifCond .ne 5, 3) := by decide +kernel
theorem dX8_sand_9 : decode cX8_sand 9 = .ok (.iconst 0, 1) := by decide +kernel
theorem dX8_sand_10 : decode cX8_sand 10 = .ok (.ireturn, 1) := by decide +kernel
theorem dX8_sand_11 : decode cX8_sand 11 = .ok (.aload_n 0, 1) := by decide +kernel
theorem dX8_sand_12 : decode cX8_sand 12 = .ok (.iload_n 1, 1) := by decide +kernel
theorem dX8_sand_13 : decode cX8_sand 13 = .ok (.putfield 13, 3) := by decide +kernel
theorem dX8_sand_16 : decode cX8_sand 16 = .ok (.iconst 1, 1) := by decide +kernel
theorem dX8_sand_17 : decode cX8_sand 17 = .ok (.ireturn, 1) := by decide +kernel
theorem dX8_isGood_0 : decode cX8_isGood 0 = .ok (.iconst 0, 1) := by decide +kernel
theorem dX8_isGood_1 : decode cX8_isGood 1 = .ok (.istore_n 1, 1) := by decide +kernel
theorem dX8_isGood_2 : decode cX8_isGood 2 = .ok (.iload_n 1, 1) := by decide +kernel
theorem dX8_isGood_3 : decode cX8_isGood 3 = .ok (.bipush 6, 2) := by decide +kernel
end
section
theorem dX8_isGood_5 : decode cX8_isGood 5 = .ok (.if_icmp .ge 100, 3) := by decide +kernel
theorem dX8_isGood_8 : decode cX8_isGood 8 = .ok (.aload_n 0, 1) := by decide +kernel
theorem dX8_isGood_9 : decode cX8_isGood 9 = .ok (.getfield 48, 3) := by decide +kernel
theorem dX8_isGood_12 : decode cX8_isGood 12 = .ok (.iload_n 1, 1) := by decide +kernel
theorem dX8_isGood_13 : decode cX8_isGood 13 = .ok (.iaload, 1) := by decide +kernel
theorem dX8_isGood_14 : decode cX8_isGood 14 = .ok (.ifCond .ne 6, 3) := by decide +kernel
theorem dX8_isGood_17 : decode cX8_isGood 17 = .ok (.goto 82, 3) := by decide +kernel
theorem dX8_isGood_20 : decode cX8_isGood 20 = .ok (.iconst 0, 1) := by decide +kernel
theorem dX8_isGood_21 : decode cX8_isGood 21 = .ok (.istore_n 2, 1) := by decide +kernel
theorem dX8_isGood_22 : decode cX8_isGood 22 = .ok (.iconst 0, 1) := by decide +kernel
theorem dX8_isGood_23 : decode cX8_isGood 23 = .ok (.istore_n 3, 1) := by decide +kernel
theorem dX8_isGood_24 : decode cX8_isGood 24 = .ok (.iload_n 3, 1) := by decide +kernel
theorem dX8_isGood_25 : decode cX8_isGood 25 = .ok (.bipush 6, 2) := by decide +kernel
theorem dX8_isGood_27 : decode cX8_isGood 27 = .ok (.if_icmp .ge 62, 3) := by decide +kernel
theorem dX8_isGood_30 : decode cX8_isGood 30 = .ok (.aload_n 0, 1) := by decide +kernel
theorem dX8_isGood_31 : decode cX8_isGood 31 = .ok (.getfield 48, 3) := by decide +kernel
theorem dX8_isGood_34 : decode cX8_isGood 34 = .ok (.iload_n 3, 1) := by decide +kernel
theorem dX8_isGood_35 : decode cX8_isGood 35 = .ok (.iaload, 1) := by decide +kernel
theorem dX8_isGood_36 : decode cX8_isGood 36 = .ok (.ifCond .eq 47, 3) := by decide +kernel
theorem dX8_isGood_39 : decode cX8_isGood 39 = .ok (.aload_n 0, 1) := by decide +kernel
theorem dX8_isGood_40 : decode cX8_isGood 40 = .ok (.getfield 81, 3) := by decide +kernel
theorem dX8_isGood_43 : decode cX8_isGood 43 = .ok (.iload_n 3, 1) := by decide +kernel
theorem dX8_isGood_44 : decode cX8_isGood 44 = .ok (.iaload, 1) := by decide +kernel
theorem dX8_isGood_45 : decode cX8_isGood 45 = .ok (.aload_n 0, 1) := by decide +kernel
theorem dX8_isGood_46 : decode cX8_isGood 46 = .ok (.getfield 81, 3) := by decide +kernel
theorem dX8_isGood_49 : decode cX8_isGood 49 = .ok (.iload_n 1, 1) := by decide +kernel
theorem dX8_isGood_50 : decode cX8_isGood 50 = .ok (.iaload, 1) := by decide +kernel
theorem dX8_isGood_51 : decode cX8_isGood 51 = .ok (.if_icmp .eq 6, 3) := by decide +kernel
theorem dX8_isGood_54 : decode cX8_isGood 54 = .ok (.goto 29, 3) := by decide +kernel
theorem dX8_isGood_57 : decode cX8_isGood 57 = .ok (.iload_n 3, 1) := by decide +kernel
theorem dX8_isGood_58 : decode cX8_isGood 58 = .ok (.iload_n 1, 1) := by decide +kernel
theorem dX8_isGood_59 : decode cX8_isGood 59 = .ok (.if_icmp .eq 21, 3) := by decide +kernel
theorem dX8_isGood_62 : decode cX8_isGood 62 = .ok (.aload_n 0, 1) := by decide +kernel
theorem dX8_isGood_63 : decode cX8_isGood 63 = .ok (.getfield 78, 3) := by decide +kernel
theorem dX8_isGood_66 : decode cX8_isGood 66 = .ok (.iload_n 1, 1) := by decide +kernel
theorem dX8_isGood_67 : decode cX8_isGood 67 = .ok (.iaload, 1) := by decide +kernel
theorem dX8_isGood_68 : decode cX8_isGood 68 = .ok (.aload_n 0, 1) := by decide +kernel
theorem dX8_isGood_69 : decode cX8_isGood 69 = .ok (.getfield 78, 3) := by decide +kernel
theorem dX8_isGood_72 : decode cX8_isGood 72 = .ok (.iload_n 3, 1) := by decide +kernel
theorem dX8_isGood_73 : decode cX8_isGood 73 = .ok (.iaload, 1) := by decide +kernel
theorem dX8_isGood_74 : decode cX8_isGood 74 = .ok (.iand, 1) := by decide +kernel
theorem dX8_isGood_75 : decode cX8_isGood 75 = .ok (.ifCond .eq 5, 3) := by decide +kernel
theorem dX8_isGood_78 : decode cX8_isGood 78 = .ok (.iconst 0, 1) := by decide +kernel
theorem dX8_isGood_79 : decode cX8_isGood 79 = .ok (.ireturn, 1) := by decide +kernel
theorem dX8_isGood_80 : decode cX8_isGood 80 = .ok (.iinc 2 1, 3) := by decide +kernel
theorem dX8_isGood_83 : decode cX8_isGood 83 = .ok (.iinc 3 1, 3) := by decide +kernel
theorem dX8_isGood_86 : decode cX8_isGood 86 = .ok (.goto (-62), 3) := by decide +kernel
theorem dX8_isGood_89 : decode cX8_isGood 89 = .ok (.iload_n 2, 1) := by decide +kernel
theorem dX8_isGood_90 : decode cX8_isGood 90 = .ok (.aload_n 0, 1) := by decide +kernel
theorem dX8_isGood_91 : decode cX8_isGood 91 = .ok (.getfield 13, 3) := by decide +kernel
theorem dX8_isGood_94 : decode cX8_isGood 94 = .ok (.if_icmp .le 5, 3) := by decide +kernel
theorem dX8_isGood_97 : decode cX8_isGood 97 = .ok (.iconst 0, 1) := by decide +kernel
theorem dX8_isGood_98 : decode cX8_isGood 98 = .ok (.ireturn, 1) := by decide +kernel
theorem dX8_isGood_99 : decode cX8_isGood 99 = .ok (.iinc 1 1, 3) := by decide +kernel
theorem dX8_isGood_102 : decode cX8_isGood 102 = .ok (.goto (-100), 3) := by decide +kernel
theorem dX8_isGood_105 : decode cX8_isGood 105 = .ok (.iconst 1, 1) := by decide +kernel
theorem dX8_isGood_106 : decode cX8_isGood 106 = .ok (.ireturn, 1) := by decide +kernel
theorem dX8_isNext_0 : decode cX8_isNext 0 = .ok (.iconst 5, 1) := by decide +kernel
theorem dX8_isNext_1 : decode cX8_isNext 1 = .ok (.istore_n 2, 1) := by decide +kernel
theorem dX8_isNext_2 : decode cX8_isNext 2 = .ok (.iload_n 2, 1) := by decide +kernel
theorem dX8_isNext_3 : decode cX8_isNext 3 = .ok (.ifCond .lt 50, 3) := by decide +kernel
theorem dX8_isNext_6 : decode cX8_isNext 6 = .ok (.aload_n 0, 1) := by decide +kernel
theorem dX8_isNext_7 : decode cX8_isNext 7 = .ok (.getfield 48, 3) := by decide +kernel
theorem dX8_isNext_10 : decode cX8_isNext 10 = .ok (.iload_n 2, 1) := by decide +kernel
theorem dX8_isNext_11 : decode cX8_isNext 11 = .ok (.iaload, 1) := by decide +kernel
theorem dX8_isNext_12 : decode cX8_isNext 12 = .ok (.ifCond .ne 6, 3) := by decide +kernel
theorem dX8_isNext_15 : decode cX8_isNext 15 = .ok (.goto 32, 3) := by decide +kernel
theorem dX8_isNext_18 : decode cX8_isNext 18 = .ok (.aload_n 0, 1) := by decide +kernel
theorem dX8_isNext_19 : decode cX8_isNext 19 = .ok (.getfield 81, 3) := by decide +kernel
theorem dX8_isNext_22 : decode cX8_isNext 22 = .ok (.iload_n 2, 1) := by decide +kernel
theorem dX8_isNext_23 : decode cX8_isNext 23 = .ok (.dup2, 1) := by decide +kernel
theorem dX8_isNext_24 : decode cX8_isNext 24 = .ok (.iaload, 1) := by decide +kernel
theorem dX8_isNext_25 : decode cX8_isNext 25 = .ok (.iconst 1, 1) := by decide +kernel
theorem dX8_isNext_26 : decode cX8_isNext 26 = .ok (.iadd, 1) := by decide +kernel
theorem dX8_isNext_27 : decode cX8_isNext 27 = .ok (.iastore, 1) := by decide +kernel
theorem dX8_isNext_28 : decode cX8_isNext 28 = .ok (.aload_n 0, 1) := by decide +kernel
theorem dX8_isNext_29 : decode cX8_isNext 29 = .ok (.getfield 81, 3) := by decide +kernel
theorem dX8_isNext_32 : decode cX8_isNext 32 = .ok (.iload_n 2, 1) := by decide +kernel
theorem dX8_isNext_33 : decode cX8_isNext 33 = .ok (.iaload, 1) := by decide +kernel
theorem dX8_isNext_34 : decode cX8_isNext 34 = .ok (.iload_n 1, 1) := by decide +kernel
theorem dX8_isNext_35 : decode cX8_isNext 35 = .ok (.if_icmp .gt 5, 3) := by decide +kernel
theorem dX8_isNext_38 : decode cX8_isNext 38 = .ok (.iconst 1, 1) := by decide +kernel
theorem dX8_isNext_39 : decode cX8_isNext 39 = .ok (.ireturn, 1) := by decide +kernel
theorem dX8_isNext_40 : decode cX8_isNext 40 = .ok (.aload_n 0, 1) := by decide +kernel
theorem dX8_isNext_41 : decode cX8_isNext 41 = .ok (.getfield 81, 3) := by decide +kernel
theorem dX8_isNext_44 : decode cX8_isNext 44 = .ok (.iload_n 2, 1) := by decide +kernel
theorem dX8_isNext_45 : decode cX8_isNext 45 = .ok (.iconst 0, 1) := by decide +kernel
theorem dX8_isNext_46 : decode cX8_isNext 46 = .ok (.iastore, 1) := by decide +kernel
theorem dX8_isNext_47 : decode cX8_isNext 47 = .ok (.iinc 2 (-1), 3) := by decide +kernel
theorem dX8_isNext_50 : decode cX8_isNext 50 = .ok (.goto (-48), 3) := by decide +kernel
theorem dX8_isNext_53 : decode cX8_isNext 53 = .ok (.iconst 0, 1) := by decide +kernel
theorem dX8_isNext_54 : decode cX8_isNext 54 = .ok (.ireturn, 1) := by decide +kernel
theorem dX8_lays_0 : decode cX8_lays 0 = .ok (.iconst 0, 1) := by decide +kernel
theorem dX8_lays_1 : decode cX8_lays 1 = .ok (.istore_n 1, 1) := by decide +kernel
theorem dX8_lays_2 : decode cX8_lays 2 = .ok (.iconst 0, 1) := by decide +kernel
theorem dX8_lays_3 : decode cX8_lays 3 = .ok (.istore_n 2, 1) := by decide +kernel
theorem dX8_lays_4 : decode cX8_lays 4 = .ok (.iload_n 2, 1) := by decide +kernel
theorem dX8_lays_5 : decode cX8_lays 5 = .ok (.bipush 6, 2) := by decide +kernel
theorem dX8_lays_7 : decode cX8_lays 7 = .ok (.if_icmp .ge 81, 3) := by decide +kernel
theorem dX8_lays_10 : decode cX8_lays 10 = .ok (.aload_n 0, 1) := by decide +kernel
theorem dX8_lays_11 : decode cX8_lays 11 = .ok (.getfield 78, 3) := by decide +kernel
theorem dX8_lays_14 : decode cX8_lays 14 = .ok (.iload_n 2, 1) := by decide +kernel
theorem dX8_lays_15 : decode cX8_lays 15 = .ok (.iconst 0, 1) := by decide +kernel
theorem dX8_lays_16 : decode cX8_lays 16 = .ok (.iastore, 1) := by decide +kernel
theorem dX8_lays_17 : decode cX8_lays 17 = .ok (.iload_n 1, 1) := by decide +kernel
theorem dX8_lays_18 : decode cX8_lays 18 = .ok (.ifCond .ne 12, 3) := by decide +kernel
theorem dX8_lays_21 : decode cX8_lays 21 = .ok (.aload_n 0, 1) := by decide +kernel
theorem dX8_lays_22 : decode cX8_lays 22 = .ok (.getfield 48, 3) := by decide +kernel
theorem dX8_lays_25 : decode cX8_lays 25 = .ok (.iload_n 2, 1) := by decide +kernel
theorem dX8_lays_26 : decode cX8_lays 26 = .ok (.iaload, 1) := by decide +kernel
theorem dX8_lays_27 : decode cX8_lays 27 = .ok (.ifCond .eq 7, 3) := by decide +kernel
theorem dX8_lays_30 : decode cX8_lays 30 = .ok (.iconst 1, 1) := by decide +kernel
theorem dX8_lays_31 : decode cX8_lays 31 = .ok (.goto 4, 3) := by decide +kernel
theorem dX8_lays_34 : decode cX8_lays 34 = .ok (.iconst 0, 1) := by decide +kernel
theorem dX8_lays_35 : decode cX8_lays 35 = .ok (.istore_n 1, 1) := by decide +kernel
theorem dX8_lays_36 : decode cX8_lays 36 = .ok (.iconst 0, 1) := by decide +kernel
theorem dX8_lays_37 : decode cX8_lays 37 = .ok (.istore_n 3, 1) := by decide +kernel
theorem dX8_lays_38 : decode cX8_lays 38 = .ok (.iload_n 3, 1) := by decide +kernel
theorem dX8_lays_39 : decode cX8_lays 39 = .ok (.aload_n 0, 1) := by decide +kernel
theorem dX8_lays_40 : decode cX8_lays 40 = .ok (.getfield 91, 3) := by decide +kernel
theorem dX8_lays_43 : decode cX8_lays 43 = .ok (.if_icmp .ge 39, 3) := by decide +kernel
theorem dX8_lays_46 : decode cX8_lays 46 = .ok (.aload_n 0, 1) := by decide +kernel
theorem dX8_lays_47 : decode cX8_lays 47 = .ok (.getfield 48, 3) := by decide +kernel
theorem dX8_lays_50 : decode cX8_lays 50 = .ok (.iload_n 2, 1) := by decide +kernel
theorem dX8_lays_51 : decode cX8_lays 51 = .ok (.iaload, 1) := by decide +kernel
theorem dX8_lays_52 : decode cX8_lays 52 = .ok (.iload_n 3, 1) := by decide +kernel
theorem dX8_lays_53 : decode cX8_lays 53 = .ok (.invokestatic 152, 3) := by decide +kernel
theorem dX8_lays_56 : decode cX8_lays 56 = .ok (.ifCond .eq 20, 3) := by decide +kernel
theorem dX8_lays_59 : decode cX8_lays 59 = .ok (.aload_n 0, 1) := by decide +kernel
theorem dX8_lays_60 : decode cX8_lays 60 = .ok (.getfield 78, 3) := by decide +kernel
theorem dX8_lays_63 : decode cX8_lays 63 = .ok (.iload_n 2, 1) := by decide +kernel
theorem dX8_lays_64 : decode cX8_lays 64 = .ok (.dup2, 1) := by decide +kernel
theorem dX8_lays_65 : decode cX8_lays 65 = .ok (.iaload, 1) := by decide +kernel
theorem dX8_lays_66 : decode cX8_lays 66 = .ok (.iconst 1, 1) := by decide +kernel
theorem dX8_lays_67 : decode cX8_lays 67 = .ok (.aload_n 0, 1) := by decide +kernel
theorem dX8_lays_68 : decode cX8_lays 68 = .ok (.getfield 27, 3) := by decide +kernel
theorem dX8_lays_71 : decode cX8_lays 71 = .ok (.iload_n 3, 1) := by decide +kernel
theorem dX8_lays_72 : decode cX8_lays 72 = .ok (.iaload, 1) := by decide +kernel
theorem dX8_lays_73 : decode cX8_lays 73 = .ok (.ishl, 1) := by decide +kernel
theorem dX8_lays_74 : decode cX8_lays 74 = .ok (.ior, 1) := by decide +kernel
theorem dX8_lays_75 : decode cX8_lays 75 = .ok (.iastore, 1) := by decide +kernel
theorem dX8_lays_76 : decode cX8_lays 76 = .ok (.iinc 3 1, 3) := by decide +kernel
theorem dX8_lays_79 : decode cX8_lays 79 = .ok (.goto (-41), 3) := by decide +kernel
theorem dX8_lays_82 : decode cX8_lays 82 = .ok (.iinc 2 1, 3) := by decide +kernel
theorem dX8_lays_85 : decode cX8_lays 85 = .ok (.goto (-81), 3) := by decide +kernel
theorem dX8_lays_88 : decode cX8_lays 88 = .ok (.iconst 0, 1) := by decide +kernel
theorem dX8_lays_89 : decode cX8_lays 89 = .ok (.istore_n 2, 1) := by decide +kernel
theorem dX8_lays_90 : decode cX8_lays 90 = .ok (.iload_n 2, 1) := by decide +kernel
theorem dX8_lays_91 : decode cX8_lays 91 = .ok (.bipush 6, 2) := by decide +kernel
theorem dX8_lays_93 : decode cX8_lays 93 = .ok (.if_icmp .ge 58, 3) := by decide +kernel
theorem dX8_lays_96 : decode cX8_lays 96 = .ok (.iload_n 1, 1) := by decide +kernel
theorem dX8_lays_97 : decode cX8_lays 97 = .ok (.ifCond .eq 54, 3) := by decide +kernel
theorem dX8_lays_100 : decode cX8_lays 100 = .ok (.iconst 0, 1) := by decide +kernel
theorem dX8_lays_101 : decode cX8_lays 101 = .ok (.istore_n 3, 1) := by decide +kernel
theorem dX8_lays_102 : decode cX8_lays 102 = .ok (.iload_n 3, 1) := by decide +kernel
theorem dX8_lays_103 : decode cX8_lays 103 = .ok (.bipush 6, 2) := by decide +kernel
theorem dX8_lays_105 : decode cX8_lays 105 = .ok (.if_icmp .ge 16, 3) := by decide +kernel
theorem dX8_lays_108 : decode cX8_lays 108 = .ok (.aload_n 0, 1) := by decide +kernel
theorem dX8_lays_109 : decode cX8_lays 109 = .ok (.getfield 81, 3) := by decide +kernel
theorem dX8_lays_112 : decode cX8_lays 112 = .ok (.iload_n 3, 1) := by decide +kernel
theorem dX8_lays_113 : decode cX8_lays 113 = .ok (.iconst 0, 1) := by decide +kernel
theorem dX8_lays_114 : decode cX8_lays 114 = .ok (.iastore, 1) := by decide +kernel
theorem dX8_lays_115 : decode cX8_lays 115 = .ok (.iinc 3 1, 3) := by decide +kernel
theorem dX8_lays_118 : decode cX8_lays 118 = .ok (.goto (-16), 3) := by decide +kernel
theorem dX8_lays_121 : decode cX8_lays 121 = .ok (.iconst 1, 1) := by decide +kernel
theorem dX8_lays_122 : decode cX8_lays 122 = .ok (.istore_n 3, 1) := by decide +kernel
theorem dX8_lays_123 : decode cX8_lays 123 = .ok (.iload_n 3, 1) := by decide +kernel
theorem dX8_lays_124 : decode cX8_lays 124 = .ok (.ifCond .eq 21, 3) := by decide +kernel
theorem dX8_lays_127 : decode cX8_lays 127 = .ok (.aload_n 0, 1) := by decide +kernel
theorem dX8_lays_128 : decode cX8_lays 128 = .ok (.invokevirtual 207, 3) := by decide +kernel
theorem dX8_lays_131 : decode cX8_lays 131 = .ok (.ifCond .eq 5, 3) := by decide +kernel
theorem dX8_lays_134 : decode cX8_lays 134 = .ok (.iload_n 2, 1) := by decide +kernel
theorem dX8_lays_135 : decode cX8_lays 135 = .ok (.ireturn, 1) := by decide +kernel
theorem dX8_lays_136 : decode cX8_lays 136 = .ok (.aload_n 0, 1) := by decide +kernel
theorem dX8_lays_137 : decode cX8_lays 137 = .ok (.iload_n 2, 1) := by decide +kernel
theorem dX8_lays_138 : decode cX8_lays 138 = .ok (.invokevirtual 210, 3) := by decide +kernel
theorem dX8_lays_141 : decode cX8_lays 141 = .ok (.istore_n 3, 1) := by decide +kernel
theorem dX8_lays_142 : decode cX8_lays 142 = .ok (.goto (-19), 3) := by decide +kernel
theorem dX8_lays_145 : decode cX8_lays 145 = .ok (.iinc 2 1, 3) := by decide +kernel
theorem dX8_lays_148 : decode cX8_lays 148 = .ok (.goto (-58), 3) := by decide +kernel
theorem dX8_lays_151 : decode cX8_lays 151 = .ok (.iconst (-1), 1) := by decide +kernel
theorem dX8_lays_152 : decode cX8_lays 152 = .ok (.ireturn, 1) := by decide +kernel
theorem dX8_hour_0 : decode cX8_hour 0 = .ok (.iload_n 1, 1) := by decide +kernel
theorem dX8_hour_1 : decode cX8_hour 1 = .ok (.invokestatic 139, 3) := by decide +kernel
theorem dX8_hour_4 : decode cX8_hour 4 = .ok (.ifCond .eq 20, 3) := by decide +kernel
theorem dX8_hour_7 : decode cX8_hour 7 = .ok (.aload_n 0, 1) := by decide +kernel
theorem dX8_hour_8 : decode cX8_hour 8 = .ok (.getfield 48, 3) := by decide +kernel
theorem dX8_hour_11 : decode cX8_hour 11 = .ok (.iload_n 1, 1) := by decide +kernel
theorem dX8_hour_12 : decode cX8_hour 12 = .ok (.iaload, 1) := by decide +kernel
theorem dX8_hour_13 : decode cX8_hour 13 = .ok (.ifCond .eq 11, 3) := by decide +kernel
theorem dX8_hour_16 : decode cX8_hour 16 = .ok (.aload_n 0, 1) := by decide +kernel
theorem dX8_hour_17 : decode cX8_hour 17 = .ok (.invokevirtual 213, 3) := by decide +kernel
theorem dX8_hour_20 : decode cX8_hour 20 = .ok (.iconst (-1), 1) := by decide +kernel
theorem dX8_hour_21 : decode cX8_hour 21 = .ok (.if_icmp .ne 7, 3) := by decide +kernel
theorem dX8_hour_24 : decode cX8_hour 24 = .ok (.iconst (-1), 1) := by decide +kernel
theorem dX8_hour_25 : decode cX8_hour 25 = .ok (.goto 9, 3) := by decide +kernel
theorem dX8_hour_28 : decode cX8_hour 28 = .ok (.aload_n 0, 1) := by decide +kernel
theorem dX8_hour_29 : decode cX8_hour 29 = .ok (.getfield 81, 3) := by decide +kernel
theorem dX8_hour_32 : decode cX8_hour 32 = .ok (.iload_n 1, 1) := by decide +kernel
theorem dX8_hour_33 : decode cX8_hour 33 = .ok (.iaload, 1) := by decide +kernel
theorem dX8_hour_34 : decode cX8_hour 34 = .ok (.ireturn, 1) := by decide +kernel
theorem dX8_ranks_0 : decode cX8_ranks 0 = .ok (.iconst 0, 1) := by decide +kernel
theorem dX8_ranks_1 : decode cX8_ranks 1 = .ok (.istore_n 1, 1) := by decide +kernel
theorem dX8_ranks_2 : decode cX8_ranks 2 = .ok (.iload_n 1, 1) := by decide +kernel
theorem dX8_ranks_3 : decode cX8_ranks 3 = .ok (.bipush 20, 2) := by decide +kernel
theorem dX8_ranks_5 : decode cX8_ranks 5 = .ok (.if_icmp .ge 16, 3) := by decide +kernel
theorem dX8_ranks_8 : decode cX8_ranks 8 = .ok (.aload_n 0, 1) := by decide +kernel
theorem dX8_ranks_9 : decode cX8_ranks 9 = .ok (.getfield 84, 3) := by decide +kernel
theorem dX8_ranks_12 : decode cX8_ranks 12 = .ok (.iload_n 1, 1) := by decide +kernel
theorem dX8_ranks_13 : decode cX8_ranks 13 = .ok (.iconst 0, 1) := by decide +kernel
theorem dX8_ranks_14 : decode cX8_ranks 14 = .ok (.iastore, 1) := by decide +kernel
theorem dX8_ranks_15 : decode cX8_ranks 15 = .ok (.iinc 1 1, 3) := by decide +kernel
theorem dX8_ranks_18 : decode cX8_ranks 18 = .ok (.goto (-16), 3) := by decide +kernel
theorem dX8_ranks_21 : decode cX8_ranks 21 = .ok (.iconst 0, 1) := by decide +kernel
theorem dX8_ranks_22 : decode cX8_ranks 22 = .ok (.istore_n 1, 1) := by decide +kernel
theorem dX8_ranks_23 : decode cX8_ranks 23 = .ok (.iload_n 1, 1) := by decide +kernel
theorem dX8_ranks_24 : decode cX8_ranks 24 = .ok (.bipush 6, 2) := by decide +kernel
theorem dX8_ranks_26 : decode cX8_ranks 26 = .ok (.if_icmp .ge 75, 3) := by decide +kernel
theorem dX8_ranks_29 : decode cX8_ranks 29 = .ok (.aload_n 0, 1) := by decide +kernel
theorem dX8_ranks_30 : decode cX8_ranks 30 = .ok (.iload_n 1, 1) := by decide +kernel
theorem dX8_ranks_31 : decode cX8_ranks 31 = .ok (.invokevirtual 186, 3) := by decide +kernel
theorem dX8_ranks_34 : decode cX8_ranks 34 = .ok (.iconst 0, 1) := by decide +kernel
theorem dX8_ranks_35 : decode cX8_ranks 35 = .ok (.istore_n 2, 1) := by decide +kernel
theorem dX8_ranks_36 : decode cX8_ranks 36 = .ok (.iload_n 2, 1) := by decide +kernel
theorem dX8_ranks_37 : decode cX8_ranks 37 = .ok (.aload_n 0, 1) := by decide +kernel
theorem dX8_ranks_38 : decode cX8_ranks 38 = .ok (.getfield 176, 3) := by decide +kernel
theorem dX8_ranks_41 : decode cX8_ranks 41 = .ok (.if_icmp .ge 54, 3) := by decide +kernel
theorem dX8_ranks_44 : decode cX8_ranks 44 = .ok (.aload_n 0, 1) := by decide +kernel
theorem dX8_ranks_45 : decode cX8_ranks 45 = .ok (.getfield 84, 3) := by decide +kernel
theorem dX8_ranks_48 : decode cX8_ranks 48 = .ok (.aload_n 0, 1) := by decide +kernel
theorem dX8_ranks_49 : decode cX8_ranks 49 = .ok (.getfield 75, 3) := by decide +kernel
theorem dX8_ranks_52 : decode cX8_ranks 52 = .ok (.iload_n 2, 1) := by decide +kernel
theorem dX8_ranks_53 : decode cX8_ranks 53 = .ok (.iaload, 1) := by decide +kernel
theorem dX8_ranks_54 : decode cX8_ranks 54 = .ok (.iaload, 1) := by decide +kernel
theorem dX8_ranks_55 : decode cX8_ranks 55 = .ok (.ifCond .eq 20, 3) := by decide +kernel
theorem dX8_ranks_58 : decode cX8_ranks 58 = .ok (.iload_n 2, 1) := by decide +kernel
theorem dX8_ranks_59 : decode cX8_ranks 59 = .ok (.iconst 1, 1) := by decide +kernel
theorem dX8_ranks_60 : decode cX8_ranks 60 = .ok (.iadd, 1) := by decide +kernel
theorem dX8_ranks_61 : decode cX8_ranks 61 = .ok (.aload_n 0, 1) := by decide +kernel
theorem dX8_ranks_62 : decode cX8_ranks 62 = .ok (.getfield 84, 3) := by decide +kernel
theorem dX8_ranks_65 : decode cX8_ranks 65 = .ok (.aload_n 0, 1) := by decide +kernel
theorem dX8_ranks_66 : decode cX8_ranks 66 = .ok (.getfield 75, 3) := by decide +kernel
theorem dX8_ranks_69 : decode cX8_ranks 69 = .ok (.iload_n 2, 1) := by decide +kernel
theorem dX8_ranks_70 : decode cX8_ranks 70 = .ok (.iaload, 1) := by decide +kernel
theorem dX8_ranks_71 : decode cX8_ranks 71 = .ok (.iaload, 1) := by decide +kernel
theorem dX8_ranks_72 : decode cX8_ranks 72 = .ok (.if_icmp .ge 17, 3) := by decide +kernel
theorem dX8_ranks_75 : decode cX8_ranks 75 = .ok (.aload_n 0, 1) := by decide +kernel
theorem dX8_ranks_76 : decode cX8_ranks 76 = .ok (.getfield 84, 3) := by decide +kernel
theorem dX8_ranks_79 : decode cX8_ranks 79 = .ok (.aload_n 0, 1) := by decide +kernel
theorem dX8_ranks_80 : decode cX8_ranks 80 = .ok (.getfield 75, 3) := by decide +kernel
theorem dX8_ranks_83 : decode cX8_ranks 83 = .ok (.iload_n 2, 1) := by decide +kernel
theorem dX8_ranks_84 : decode cX8_ranks 84 = .ok (.iaload, 1) := by decide +kernel
theorem dX8_ranks_85 : decode cX8_ranks 85 = .ok (.iload_n 2, 1) := by decide +kernel
theorem dX8_ranks_86 : decode cX8_ranks 86 = .ok (.iconst 1, 1) := by decide +kernel
theorem dX8_ranks_87 : decode cX8_ranks 87 = .ok (.iadd, 1) := by decide +kernel
theorem dX8_ranks_88 : decode cX8_ranks 88 = .ok (.iastore, 1) := by decide +kernel
theorem dX8_ranks_89 : decode cX8_ranks 89 = .ok (.iinc 2 1, 3) := by decide +kernel
theorem dX8_ranks_92 : decode cX8_ranks 92 = .ok (.goto (-56), 3) := by decide +kernel
theorem dX8_ranks_95 : decode cX8_ranks 95 = .ok (.iinc 1 1, 3) := by decide +kernel
theorem dX8_ranks_98 : decode cX8_ranks 98 = .ok (.goto (-75), 3) := by decide +kernel
theorem dX8_ranks_101 : decode cX8_ranks 101 = .ok (.return_, 1) := by decide +kernel
theorem dX8_team_0 : decode cX8_team 0 = .ok (.iload_n 1, 1) := by decide +kernel
theorem dX8_team_1 : decode cX8_team 1 = .ok (.iconst 0, 1) := by decide +kernel
theorem dX8_team_2 : decode cX8_team 2 = .ok (.bipush 9, 2) := by decide +kernel
theorem dX8_team_4 : decode cX8_team 4 = .ok (.invokestatic 87, 3) := by decide +kernel
theorem dX8_team_7 : decode cX8_team 7 = .ok (.ifCond .ne 5, 3) := by decide +kernel
theorem dX8_team_10 : decode cX8_team 10 = .ok (.iconst (-1), 1) := by decide +kernel
theorem dX8_team_11 : decode cX8_team 11 = .ok (.ireturn, 1) := by decide +kernel
theorem dX8_team_12 : decode cX8_team 12 = .ok (.aload_n 0, 1) := by decide +kernel
theorem dX8_team_13 : decode cX8_team 13 = .ok (.invokevirtual 216, 3) := by decide +kernel
theorem dX8_team_16 : decode cX8_team 16 = .ok (.iconst 0, 1) := by decide +kernel
theorem dX8_team_17 : decode cX8_team 17 = .ok (.istore_n 2, 1) := by decide +kernel
theorem dX8_team_18 : decode cX8_team 18 = .ok (.iconst 0, 1) := by decide +kernel
theorem dX8_team_19 : decode cX8_team 19 = .ok (.istore_n 3, 1) := by decide +kernel
theorem dX8_team_20 : decode cX8_team 20 = .ok (.iconst 1, 1) := by decide +kernel
theorem dX8_team_21 : decode cX8_team 21 = .ok (.istore 4, 2) := by decide +kernel
theorem dX8_team_23 : decode cX8_team 23 = .ok (.iload 4, 2) := by decide +kernel
theorem dX8_team_25 : decode cX8_team 25 = .ok (.bipush 8, 2) := by decide +kernel
theorem dX8_team_27 : decode cX8_team 27 = .ok (.if_icmp .gt 66, 3) := by decide +kernel
theorem dX8_team_30 : decode cX8_team 30 = .ok (.iconst 0, 1) := by decide +kernel
theorem dX8_team_31 : decode cX8_team 31 = .ok (.istore 5, 2) := by decide +kernel
theorem dX8_team_33 : decode cX8_team 33 = .ok (.iload 5, 2) := by decide +kernel
theorem dX8_team_35 : decode cX8_team 35 = .ok (.aload_n 0, 1) := by decide +kernel
theorem dX8_team_36 : decode cX8_team 36 = .ok (.getfield 91, 3) := by decide +kernel
theorem dX8_team_39 : decode cX8_team 39 = .ok (.if_icmp .ge 48, 3) := by decide +kernel
theorem dX8_team_42 : decode cX8_team 42 = .ok (.aload_n 0, 1) := by decide +kernel
theorem dX8_team_43 : decode cX8_team 43 = .ok (.getfield 24, 3) := by decide +kernel
theorem dX8_team_46 : decode cX8_team 46 = .ok (.iload 5, 2) := by decide +kernel
theorem dX8_team_48 : decode cX8_team 48 = .ok (.iaload, 1) := by decide +kernel
theorem dX8_team_49 : decode cX8_team 49 = .ok (.iload_n 1, 1) := by decide +kernel
theorem dX8_team_50 : decode cX8_team 50 = .ok (.if_icmp .ne 31, 3) := by decide +kernel
theorem dX8_team_53 : decode cX8_team 53 = .ok (.aload_n 0, 1) := by decide +kernel
theorem dX8_team_54 : decode cX8_team 54 = .ok (.getfield 84, 3) := by decide +kernel
theorem dX8_team_57 : decode cX8_team 57 = .ok (.iload 5, 2) := by decide +kernel
theorem dX8_team_59 : decode cX8_team 59 = .ok (.iaload, 1) := by decide +kernel
theorem dX8_team_60 : decode cX8_team 60 = .ok (.iload 4, 2) := by decide +kernel
theorem dX8_team_62 : decode cX8_team 62 = .ok (.if_icmp .ne 19, 3) := by decide +kernel
theorem dX8_team_65 : decode cX8_team 65 = .ok (.iload_n 2, 1) := by decide +kernel
theorem dX8_team_66 : decode cX8_team 66 = .ok (.iconst 3, 1) := by decide +kernel
theorem dX8_team_67 : decode cX8_team 67 = .ok (.if_icmp .ne 6, 3) := by decide +kernel
theorem dX8_team_70 : decode cX8_team 70 = .ok (.goto 11, 3) := by decide +kernel
theorem dX8_team_73 : decode cX8_team 73 = .ok (.iload_n 3, 1) := by decide +kernel
theorem dX8_team_74 : decode cX8_team 74 = .ok (.iload 4, 2) := by decide +kernel
theorem dX8_team_76 : decode cX8_team 76 = .ok (.iadd, 1) := by decide +kernel
theorem dX8_team_77 : decode cX8_team 77 = .ok (.istore_n 3, 1) := by decide +kernel
theorem dX8_team_78 : decode cX8_team 78 = .ok (.iinc 2 1, 3) := by decide +kernel
theorem dX8_team_81 : decode cX8_team 81 = .ok (.iinc 5 1, 3) := by decide +kernel
theorem dX8_team_84 : decode cX8_team 84 = .ok (.goto (-51), 3) := by decide +kernel
theorem dX8_team_87 : decode cX8_team 87 = .ok (.iinc 4 1, 3) := by decide +kernel
theorem dX8_team_90 : decode cX8_team 90 = .ok (.goto (-67), 3) := by decide +kernel
theorem dX8_team_93 : decode cX8_team 93 = .ok (.iload_n 2, 1) := by decide +kernel
theorem dX8_team_94 : decode cX8_team 94 = .ok (.iconst 3, 1) := by decide +kernel
theorem dX8_team_95 : decode cX8_team 95 = .ok (.if_icmp .ge 7, 3) := by decide +kernel
theorem dX8_team_98 : decode cX8_team 98 = .ok (.iconst (-1), 1) := by decide +kernel
theorem dX8_team_99 : decode cX8_team 99 = .ok (.goto 4, 3) := by decide +kernel
theorem dX8_team_102 : decode cX8_team 102 = .ok (.iload_n 3, 1) := by decide +kernel
theorem dX8_team_103 : decode cX8_team 103 = .ok (.ireturn, 1) := by decide +kernel
theorem dX8_price_0 : decode cX8_price 0 = .ok (.aload_n 0, 1) := by decide +kernel
theorem dX8_price_1 : decode cX8_price 1 = .ok (.iload_n 1, 1) := by decide +kernel
theorem dX8_price_2 : decode cX8_price 2 = .ok (.invokevirtual 149, 3) := by decide +kernel
theorem dX8_price_5 : decode cX8_price 5 = .ok (.ifCond .ne 5, 3) := by decide +kernel
theorem dX8_price_8 : decode cX8_price 8 = .ok (.iconst (-1), 1) := by decide +kernel
theorem dX8_price_9 : decode cX8_price 9 = .ok (.ireturn, 1) := by decide +kernel
theorem dX8_price_10 : decode cX8_price 10 = .ok (.bipush 100, 2) := by decide +kernel
theorem dX8_price_12 : decode cX8_price 12 = .ok (.istore_n 2, 1) := by decide +kernel
theorem dX8_price_13 : decode cX8_price 13 = .ok (.iconst 0, 1) := by decide +kernel
theorem dX8_price_14 : decode cX8_price 14 = .ok (.istore_n 3, 1) := by decide +kernel
theorem dX8_price_15 : decode cX8_price 15 = .ok (.iload_n 3, 1) := by decide +kernel
theorem dX8_price_16 : decode cX8_price 16 = .ok (.bipush 6, 2) := by decide +kernel
theorem dX8_price_18 : decode cX8_price 18 = .ok (.if_icmp .ge 41, 3) := by decide +kernel
theorem dX8_price_21 : decode cX8_price 21 = .ok (.aload_n 0, 1) := by decide +kernel
theorem dX8_price_22 : decode cX8_price 22 = .ok (.getfield 48, 3) := by decide +kernel
theorem dX8_price_25 : decode cX8_price 25 = .ok (.iload_n 3, 1) := by decide +kernel
theorem dX8_price_26 : decode cX8_price 26 = .ok (.iaload, 1) := by decide +kernel
theorem dX8_price_27 : decode cX8_price 27 = .ok (.iload_n 1, 1) := by decide +kernel
theorem dX8_price_28 : decode cX8_price 28 = .ok (.invokestatic 152, 3) := by decide +kernel
theorem dX8_price_31 : decode cX8_price 31 = .ok (.ifCond .ne 6, 3) := by decide +kernel
theorem dX8_price_34 : decode cX8_price 34 = .ok (.goto 19, 3) := by decide +kernel
theorem dX8_price_37 : decode cX8_price 37 = .ok (.aload_n 0, 1) := by decide +kernel
theorem dX8_price_38 : decode cX8_price 38 = .ok (.iload_n 3, 1) := by decide +kernel
theorem dX8_price_39 : decode cX8_price 39 = .ok (.invokevirtual 186, 3) := by decide +kernel
theorem dX8_price_42 : decode cX8_price 42 = .ok (.iload_n 2, 1) := by decide +kernel
theorem dX8_price_43 : decode cX8_price 43 = .ok (.bipush 50, 2) := by decide +kernel
theorem dX8_price_45 : decode cX8_price 45 = .ok (.aload_n 0, 1) := by decide +kernel
theorem dX8_price_46 : decode cX8_price 46 = .ok (.iload_n 1, 1) := by decide +kernel
theorem dX8_price_47 : decode cX8_price 47 = .ok (.invokevirtual 192, 3) := by decide +kernel
theorem dX8_price_50 : decode cX8_price 50 = .ok (.idiv, 1) := by decide +kernel
theorem dX8_price_51 : decode cX8_price 51 = .ok (.iadd, 1) := by decide +kernel
theorem dX8_price_52 : decode cX8_price 52 = .ok (.istore_n 2, 1) := by decide +kernel
theorem dX8_price_53 : decode cX8_price 53 = .ok (.iinc 3 1, 3) := by decide +kernel
theorem dX8_price_56 : decode cX8_price 56 = .ok (.goto (-41), 3) := by decide +kernel
theorem dX8_price_59 : decode cX8_price 59 = .ok (.iload_n 2, 1) := by decide +kernel
theorem dX8_price_60 : decode cX8_price 60 = .ok (.ireturn, 1) := by decide +kernel
theorem dX8_look_0 : decode cX8_look 0 = .ok (.aload_n 0, 1) := by decide +kernel
theorem dX8_look_1 : decode cX8_look 1 = .ok (.iload_n 1, 1) := by decide +kernel
theorem dX8_look_2 : decode cX8_look 2 = .ok (.invokevirtual 149, 3) := by decide +kernel
theorem dX8_look_5 : decode cX8_look 5 = .ok (.ifCond .ne 5, 3) := by decide +kernel
theorem dX8_look_8 : decode cX8_look 8 = .ok (.iconst (-1), 1) := by decide +kernel
theorem dX8_look_9 : decode cX8_look 9 = .ok (.ireturn, 1) := by decide +kernel
theorem dX8_look_10 : decode cX8_look 10 = .ok (.iload_n 2, 1) := by decide +kernel
theorem dX8_look_11 : decode cX8_look 11 = .ok (.bipush 10, 2) := by decide +kernel
theorem dX8_look_13 : decode cX8_look 13 = .ok (.isub, 1) := by decide +kernel
theorem dX8_look_14 : decode cX8_look 14 = .ok (.invokestatic 139, 3) := by decide +kernel
theorem dX8_look_17 : decode cX8_look 17 = .ok (.ifCond .eq 17, 3) := by decide +kernel
theorem dX8_look_20 : decode cX8_look 20 = .ok (.aload_n 0, 1) := by decide +kernel
theorem dX8_look_21 : decode cX8_look 21 = .ok (.iload_n 2, 1) := by decide +kernel
theorem dX8_look_22 : decode cX8_look 22 = .ok (.bipush 10, 2) := by decide +kernel
theorem dX8_look_24 : decode cX8_look 24 = .ok (.isub, 1) := by decide +kernel
theorem dX8_look_25 : decode cX8_look 25 = .ok (.invokevirtual 186, 3) := by decide +kernel
theorem dX8_look_28 : decode cX8_look 28 = .ok (.aload_n 0, 1) := by decide +kernel
theorem dX8_look_29 : decode cX8_look 29 = .ok (.iload_n 1, 1) := by decide +kernel
theorem dX8_look_30 : decode cX8_look 30 = .ok (.invokevirtual 192, 3) := by decide +kernel
theorem dX8_look_33 : decode cX8_look 33 = .ok (.ireturn, 1) := by decide +kernel
theorem dX8_look_34 : decode cX8_look 34 = .ok (.iload_n 2, 1) := by decide +kernel
theorem dX8_look_35 : decode cX8_look 35 = .ok (.tableswitch 128 0 7 #[45, 52, 59, 66, 73, 73, 73, 86], 45) := by decide +kernel
theorem dX8_look_80 : decode cX8_look 80 = .ok (.aload_n 0, 1) := by decide +kernel
theorem dX8_look_81 : decode cX8_look 81 = .ok (.getfield 17, 3) := by decide +kernel
theorem dX8_look_84 : decode cX8_look 84 = .ok (.iload_n 1, 1) := by decide +kernel
theorem dX8_look_85 : decode cX8_look 85 = .ok (.iaload, 1) := by decide +kernel
theorem dX8_look_86 : decode cX8_look 86 = .ok (.ireturn, 1) := by decide +kernel
theorem dX8_look_87 : decode cX8_look 87 = .ok (.aload_n 0, 1) := by decide +kernel
theorem dX8_look_88 : decode cX8_look 88 = .ok (.getfield 21, 3) := by decide +kernel
theorem dX8_look_91 : decode cX8_look 91 = .ok (.iload_n 1, 1) := by decide +kernel
theorem dX8_look_92 : decode cX8_look 92 = .ok (.iaload, 1) := by decide +kernel
theorem dX8_look_93 : decode cX8_look 93 = .ok (.ireturn, 1) := by decide +kernel
theorem dX8_look_94 : decode cX8_look 94 = .ok (.aload_n 0, 1) := by decide +kernel
theorem dX8_look_95 : decode cX8_look 95 = .ok (.getfield 24, 3) := by decide +kernel
theorem dX8_look_98 : decode cX8_look 98 = .ok (.iload_n 1, 1) := by decide +kernel
theorem dX8_look_99 : decode cX8_look 99 = .ok (.iaload, 1) := by decide +kernel
theorem dX8_look_100 : decode cX8_look 100 = .ok (.ireturn, 1) := by decide +kernel
theorem dX8_look_101 : decode cX8_look 101 = .ok (.aload_n 0, 1) := by decide +kernel
theorem dX8_look_102 : decode cX8_look 102 = .ok (.getfield 27, 3) := by decide +kernel
theorem dX8_look_105 : decode cX8_look 105 = .ok (.iload_n 1, 1) := by decide +kernel
theorem dX8_look_106 : decode cX8_look 106 = .ok (.iaload, 1) := by decide +kernel
theorem dX8_look_107 : decode cX8_look 107 = .ok (.ireturn, 1) := by decide +kernel
theorem dX8_look_108 : decode cX8_look 108 = .ok (.aload_n 0, 1) := by decide +kernel
theorem dX8_look_109 : decode cX8_look 109 = .ok (.getfield 30, 3) := by decide +kernel
theorem dX8_look_112 : decode cX8_look 112 = .ok (.iconst 3, 1) := by decide +kernel
theorem dX8_look_113 : decode cX8_look 113 = .ok (.iload_n 1, 1) := by decide +kernel
theorem dX8_look_114 : decode cX8_look 114 = .ok (.imul, 1) := by decide +kernel
theorem dX8_look_115 : decode cX8_look 115 = .ok (.iload_n 2, 1) := by decide +kernel
theorem dX8_look_116 : decode cX8_look 116 = .ok (.iadd, 1) := by decide +kernel
theorem dX8_look_117 : decode cX8_look 117 = .ok (.iconst 4, 1) := by decide +kernel
theorem dX8_look_118 : decode cX8_look 118 = .ok (.isub, 1) := by decide +kernel
theorem dX8_look_119 : decode cX8_look 119 = .ok (.iaload, 1) := by decide +kernel
theorem dX8_look_120 : decode cX8_look 120 = .ok (.ireturn, 1) := by decide +kernel
theorem dX8_look_121 : decode cX8_look 121 = .ok (.iconst 0, 1) := by decide +kernel
theorem dX8_look_122 : decode cX8_look 122 = .ok (.istore_n 3, 1) := by decide +kernel
theorem dX8_look_123 : decode cX8_look 123 = .ok (.iconst 0, 1) := by decide +kernel
theorem dX8_look_124 : decode cX8_look 124 = .ok (.istore 4, 2) := by decide +kernel
theorem dX8_look_126 : decode cX8_look 126 = .ok (.iload 4, 2) := by decide +kernel
theorem dX8_look_128 : decode cX8_look 128 = .ok (.bipush 6, 2) := by decide +kernel
theorem dX8_look_130 : decode cX8_look 130 = .ok (.if_icmp .ge 31, 3) := by decide +kernel
theorem dX8_look_133 : decode cX8_look 133 = .ok (.iload_n 3, 1) := by decide +kernel
theorem dX8_look_134 : decode cX8_look 134 = .ok (.aload_n 0, 1) := by decide +kernel
theorem dX8_look_135 : decode cX8_look 135 = .ok (.getfield 48, 3) := by decide +kernel
theorem dX8_look_138 : decode cX8_look 138 = .ok (.iload 4, 2) := by decide +kernel
theorem dX8_look_140 : decode cX8_look 140 = .ok (.iaload, 1) := by decide +kernel
theorem dX8_look_141 : decode cX8_look 141 = .ok (.iload_n 1, 1) := by decide +kernel
theorem dX8_look_142 : decode cX8_look 142 = .ok (.invokestatic 152, 3) := by decide +kernel
theorem dX8_look_145 : decode cX8_look 145 = .ok (.ifCond .eq 7, 3) := by decide +kernel
theorem dX8_look_148 : decode cX8_look 148 = .ok (.iconst 1, 1) := by decide +kernel
theorem dX8_look_149 : decode cX8_look 149 = .ok (.goto 4, 3) := by decide +kernel
theorem dX8_look_152 : decode cX8_look 152 = .ok (.iconst 0, 1) := by decide +kernel
theorem dX8_look_153 : decode cX8_look 153 = .ok (.iadd, 1) := by decide +kernel
theorem dX8_look_154 : decode cX8_look 154 = .ok (.istore_n 3, 1) := by decide +kernel
theorem dX8_look_155 : decode cX8_look 155 = .ok (.iinc 4 1, 3) := by decide +kernel
theorem dX8_look_158 : decode cX8_look 158 = .ok (.goto (-32), 3) := by decide +kernel
theorem dX8_look_161 : decode cX8_look 161 = .ok (.iload_n 3, 1) := by decide +kernel
theorem dX8_look_162 : decode cX8_look 162 = .ok (.ireturn, 1) := by decide +kernel
theorem dX8_look_163 : decode cX8_look 163 = .ok (.iconst (-1), 1) := by decide +kernel
theorem dX8_look_164 : decode cX8_look 164 = .ok (.ireturn, 1) := by decide +kernel
theorem dX8_count_0 : decode cX8_count 0 = .ok (.iload_n 1, 1) := by decide +kernel
theorem dX8_count_1 : decode cX8_count 1 = .ok (.bipush 10, 2) := by decide +kernel
theorem dX8_count_3 : decode cX8_count 3 = .ok (.isub, 1) := by decide +kernel
theorem dX8_count_4 : decode cX8_count 4 = .ok (.invokestatic 139, 3) := by decide +kernel
theorem dX8_count_7 : decode cX8_count 7 = .ok (.ifCond .eq 16, 3) := by decide +kernel
theorem dX8_count_10 : decode cX8_count 10 = .ok (.aload_n 0, 1) := by decide +kernel
theorem dX8_count_11 : decode cX8_count 11 = .ok (.getfield 48, 3) := by decide +kernel
theorem dX8_count_14 : decode cX8_count 14 = .ok (.iload_n 1, 1) := by decide +kernel
theorem dX8_count_15 : decode cX8_count 15 = .ok (.bipush 10, 2) := by decide +kernel
theorem dX8_count_17 : decode cX8_count 17 = .ok (.isub, 1) := by decide +kernel
theorem dX8_count_18 : decode cX8_count 18 = .ok (.iaload, 1) := by decide +kernel
theorem dX8_count_19 : decode cX8_count 19 = .ok (.invokestatic 162, 3) := by decide +kernel
theorem dX8_count_22 : decode cX8_count 22 = .ok (.ireturn, 1) := by decide +kernel
theorem dX8_count_23 : decode cX8_count 23 = .ok (.iload_n 1, 1) := by decide +kernel
theorem dX8_count_24 : decode cX8_count 24 = .ok (.bipush 20, 2) := by decide +kernel
theorem dX8_count_26 : decode cX8_count 26 = .ok (.isub, 1) := by decide +kernel
theorem dX8_count_27 : decode cX8_count 27 = .ok (.invokestatic 139, 3) := by decide +kernel
theorem dX8_count_30 : decode cX8_count 30 = .ok (.ifCond .eq 41, 3) := by decide +kernel
theorem dX8_count_33 : decode cX8_count 33 = .ok (.iconst 0, 1) := by decide +kernel
theorem dX8_count_34 : decode cX8_count 34 = .ok (.istore_n 2, 1) := by decide +kernel
theorem dX8_count_35 : decode cX8_count 35 = .ok (.iconst 0, 1) := by decide +kernel
theorem dX8_count_36 : decode cX8_count 36 = .ok (.istore_n 3, 1) := by decide +kernel
theorem dX8_count_37 : decode cX8_count 37 = .ok (.iload_n 3, 1) := by decide +kernel
theorem dX8_count_38 : decode cX8_count 38 = .ok (.bipush 6, 2) := by decide +kernel
theorem dX8_count_40 : decode cX8_count 40 = .ok (.if_icmp .ge 29, 3) := by decide +kernel
theorem dX8_count_43 : decode cX8_count 43 = .ok (.iload_n 2, 1) := by decide +kernel
theorem dX8_count_44 : decode cX8_count 44 = .ok (.aload_n 0, 1) := by decide +kernel
theorem dX8_count_45 : decode cX8_count 45 = .ok (.iload_n 3, 1) := by decide +kernel
theorem dX8_count_46 : decode cX8_count 46 = .ok (.iload_n 1, 1) := by decide +kernel
theorem dX8_count_47 : decode cX8_count 47 = .ok (.bipush 20, 2) := by decide +kernel
theorem dX8_count_49 : decode cX8_count 49 = .ok (.isub, 1) := by decide +kernel
theorem dX8_count_50 : decode cX8_count 50 = .ok (.invokevirtual 169, 3) := by decide +kernel
theorem dX8_count_53 : decode cX8_count 53 = .ok (.ifCond .eq 7, 3) := by decide +kernel
theorem dX8_count_56 : decode cX8_count 56 = .ok (.iconst 1, 1) := by decide +kernel
theorem dX8_count_57 : decode cX8_count 57 = .ok (.goto 4, 3) := by decide +kernel
theorem dX8_count_60 : decode cX8_count 60 = .ok (.iconst 0, 1) := by decide +kernel
theorem dX8_count_61 : decode cX8_count 61 = .ok (.iadd, 1) := by decide +kernel
theorem dX8_count_62 : decode cX8_count 62 = .ok (.istore_n 2, 1) := by decide +kernel
theorem dX8_count_63 : decode cX8_count 63 = .ok (.iinc 3 1, 3) := by decide +kernel
theorem dX8_count_66 : decode cX8_count 66 = .ok (.goto (-29), 3) := by decide +kernel
theorem dX8_count_69 : decode cX8_count 69 = .ok (.iload_n 2, 1) := by decide +kernel
theorem dX8_count_70 : decode cX8_count 70 = .ok (.ireturn, 1) := by decide +kernel
theorem dX8_count_71 : decode cX8_count 71 = .ok (.iload_n 1, 1) := by decide +kernel
theorem dX8_count_72 : decode cX8_count 72 = .ok (.ifCond .ne 10, 3) := by decide +kernel
theorem dX8_count_75 : decode cX8_count 75 = .ok (.aload_n 0, 1) := by decide +kernel
theorem dX8_count_76 : decode cX8_count 76 = .ok (.getfield 91, 3) := by decide +kernel
theorem dX8_count_79 : decode cX8_count 79 = .ok (.goto 40, 3) := by decide +kernel
theorem dX8_count_82 : decode cX8_count 82 = .ok (.iload_n 1, 1) := by decide +kernel
theorem dX8_count_83 : decode cX8_count 83 = .ok (.iconst 1, 1) := by decide +kernel
theorem dX8_count_84 : decode cX8_count 84 = .ok (.if_icmp .ne 10, 3) := by decide +kernel
theorem dX8_count_87 : decode cX8_count 87 = .ok (.aload_n 0, 1) := by decide +kernel
theorem dX8_count_88 : decode cX8_count 88 = .ok (.getfield 13, 3) := by decide +kernel
theorem dX8_count_91 : decode cX8_count 91 = .ok (.goto 28, 3) := by decide +kernel
theorem dX8_count_94 : decode cX8_count 94 = .ok (.iload_n 1, 1) := by decide +kernel
theorem dX8_count_95 : decode cX8_count 95 = .ok (.iconst 2, 1) := by decide +kernel
theorem dX8_count_96 : decode cX8_count 96 = .ok (.if_icmp .ne 10, 3) := by decide +kernel
theorem dX8_count_99 : decode cX8_count 99 = .ok (.aload_n 0, 1) := by decide +kernel
theorem dX8_count_100 : decode cX8_count 100 = .ok (.getfield 94, 3) := by decide +kernel
theorem dX8_count_103 : decode cX8_count 103 = .ok (.goto 16, 3) := by decide +kernel
theorem dX8_count_106 : decode cX8_count 106 = .ok (.iload_n 1, 1) := by decide +kernel
theorem dX8_count_107 : decode cX8_count 107 = .ok (.iconst 3, 1) := by decide +kernel
theorem dX8_count_108 : decode cX8_count 108 = .ok (.if_icmp .ne 10, 3) := by decide +kernel
theorem dX8_count_111 : decode cX8_count 111 = .ok (.aload_n 0, 1) := by decide +kernel
theorem dX8_count_112 : decode cX8_count 112 = .ok (.invokevirtual 213, 3) := by decide +kernel
theorem dX8_count_115 : decode cX8_count 115 = .ok (.goto 4, 3) := by decide +kernel
theorem dX8_count_118 : decode cX8_count 118 = .ok (.iconst (-1), 1) := by decide +kernel
theorem dX8_count_119 : decode cX8_count 119 = .ok (.ireturn, 1) := by decide +kernel
theorem dJ6_bitCount_0f7a4_0 : decode cJ6_bitCount_0f7a4 0 = .ok (.iload_n 0, 1) := by decide +kernel
theorem dJ6_bitCount_0f7a4_1 : decode cJ6_bitCount_0f7a4 1 = .ok (.iload_n 0, 1) := by decide +kernel
theorem dJ6_bitCount_0f7a4_2 : decode cJ6_bitCount_0f7a4 2 = .ok (.iconst 1, 1) := by decide +kernel
theorem dJ6_bitCount_0f7a4_3 : decode cJ6_bitCount_0f7a4 3 = .ok (.iushr, 1) := by decide +kernel
theorem dJ6_bitCount_0f7a4_4 : decode cJ6_bitCount_0f7a4 4 = .ok (.ldc_w 265, 3) := by decide +kernel
theorem dJ6_bitCount_0f7a4_7 : decode cJ6_bitCount_0f7a4 7 = .ok (.iand, 1) := by decide +kernel
theorem dJ6_bitCount_0f7a4_8 : decode cJ6_bitCount_0f7a4 8 = .ok (.isub, 1) := by decide +kernel
theorem dJ6_bitCount_0f7a4_9 : decode cJ6_bitCount_0f7a4 9 = .ok (.istore_n 0, 1) := by decide +kernel
theorem dJ6_bitCount_0f7a4_10 : decode cJ6_bitCount_0f7a4 10 = .ok (.iload_n 0, 1) := by decide +kernel
theorem dJ6_bitCount_0f7a4_11 : decode cJ6_bitCount_0f7a4 11 = .ok (.ldc_w 266, 3) := by decide +kernel
theorem dJ6_bitCount_0f7a4_14 : decode cJ6_bitCount_0f7a4 14 = .ok (.iand, 1) := by decide +kernel
theorem dJ6_bitCount_0f7a4_15 : decode cJ6_bitCount_0f7a4 15 = .ok (.iload_n 0, 1) := by decide +kernel
theorem dJ6_bitCount_0f7a4_16 : decode cJ6_bitCount_0f7a4 16 = .ok (.iconst 2, 1) := by decide +kernel
theorem dJ6_bitCount_0f7a4_17 : decode cJ6_bitCount_0f7a4 17 = .ok (.iushr, 1) := by decide +kernel
theorem dJ6_bitCount_0f7a4_18 : decode cJ6_bitCount_0f7a4 18 = .ok (.ldc_w 266, 3) := by decide +kernel
theorem dJ6_bitCount_0f7a4_21 : decode cJ6_bitCount_0f7a4 21 = .ok (.iand, 1) := by decide +kernel
theorem dJ6_bitCount_0f7a4_22 : decode cJ6_bitCount_0f7a4 22 = .ok (.iadd, 1) := by decide +kernel
theorem dJ6_bitCount_0f7a4_23 : decode cJ6_bitCount_0f7a4 23 = .ok (.istore_n 0, 1) := by decide +kernel
theorem dJ6_bitCount_0f7a4_24 : decode cJ6_bitCount_0f7a4 24 = .ok (.iload_n 0, 1) := by decide +kernel
theorem dJ6_bitCount_0f7a4_25 : decode cJ6_bitCount_0f7a4 25 = .ok (.iload_n 0, 1) := by decide +kernel
theorem dJ6_bitCount_0f7a4_26 : decode cJ6_bitCount_0f7a4 26 = .ok (.iconst 4, 1) := by decide +kernel
theorem dJ6_bitCount_0f7a4_27 : decode cJ6_bitCount_0f7a4 27 = .ok (.iushr, 1) := by decide +kernel
theorem dJ6_bitCount_0f7a4_28 : decode cJ6_bitCount_0f7a4 28 = .ok (.iadd, 1) := by decide +kernel
theorem dJ6_bitCount_0f7a4_29 : decode cJ6_bitCount_0f7a4 29 = .ok (.ldc_w 267, 3) := by decide +kernel
theorem dJ6_bitCount_0f7a4_32 : decode cJ6_bitCount_0f7a4 32 = .ok (.iand, 1) := by decide +kernel
theorem dJ6_bitCount_0f7a4_33 : decode cJ6_bitCount_0f7a4 33 = .ok (.istore_n 0, 1) := by decide +kernel
theorem dJ6_bitCount_0f7a4_34 : decode cJ6_bitCount_0f7a4 34 = .ok (.iload_n 0, 1) := by decide +kernel
theorem dJ6_bitCount_0f7a4_35 : decode cJ6_bitCount_0f7a4 35 = .ok (.iload_n 0, 1) := by decide +kernel
theorem dJ6_bitCount_0f7a4_36 : decode cJ6_bitCount_0f7a4 36 = .ok (.bipush 8, 2) := by decide +kernel
theorem dJ6_bitCount_0f7a4_38 : decode cJ6_bitCount_0f7a4 38 = .ok (.iushr, 1) := by decide +kernel
theorem dJ6_bitCount_0f7a4_39 : decode cJ6_bitCount_0f7a4 39 = .ok (.iadd, 1) := by decide +kernel
theorem dJ6_bitCount_0f7a4_40 : decode cJ6_bitCount_0f7a4 40 = .ok (.istore_n 0, 1) := by decide +kernel
theorem dJ6_bitCount_0f7a4_41 : decode cJ6_bitCount_0f7a4 41 = .ok (.iload_n 0, 1) := by decide +kernel
theorem dJ6_bitCount_0f7a4_42 : decode cJ6_bitCount_0f7a4 42 = .ok (.iload_n 0, 1) := by decide +kernel
theorem dJ6_bitCount_0f7a4_43 : decode cJ6_bitCount_0f7a4 43 = .ok (.bipush 16, 2) := by decide +kernel
theorem dJ6_bitCount_0f7a4_45 : decode cJ6_bitCount_0f7a4 45 = .ok (.iushr, 1) := by decide +kernel
theorem dJ6_bitCount_0f7a4_46 : decode cJ6_bitCount_0f7a4 46 = .ok (.iadd, 1) := by decide +kernel
theorem dJ6_bitCount_0f7a4_47 : decode cJ6_bitCount_0f7a4 47 = .ok (.istore_n 0, 1) := by decide +kernel
theorem dJ6_bitCount_0f7a4_48 : decode cJ6_bitCount_0f7a4 48 = .ok (.iload_n 0, 1) := by decide +kernel
theorem dJ6_bitCount_0f7a4_49 : decode cJ6_bitCount_0f7a4 49 = .ok (.bipush 63, 2) := by decide +kernel
theorem dJ6_bitCount_0f7a4_51 : decode cJ6_bitCount_0f7a4 51 = .ok (.iand, 1) := by decide +kernel
theorem dJ6_bitCount_0f7a4_52 : decode cJ6_bitCount_0f7a4 52 = .ok (.ireturn, 1) := by decide +kernel
theorem dJ9_max_7cf53_0 : decode cJ9_max_7cf53 0 = .ok (.iload_n 0, 1) := by decide +kernel
theorem dJ9_max_7cf53_1 : decode cJ9_max_7cf53 1 = .ok (.iload_n 1, 1) := by decide +kernel
theorem dJ9_max_7cf53_2 : decode cJ9_max_7cf53 2 = .ok (.if_icmp .lt 7, 3) := by decide +kernel
theorem dJ9_max_7cf53_5 : decode cJ9_max_7cf53 5 = .ok (.iload_n 0, 1) := by decide +kernel
theorem dJ9_max_7cf53_6 : decode cJ9_max_7cf53 6 = .ok (.goto 4, 3) := by decide +kernel
theorem dJ9_max_7cf53_9 : decode cJ9_max_7cf53 9 = .ok (.iload_n 1, 1) := by decide +kernel
theorem dJ9_max_7cf53_10 : decode cJ9_max_7cf53 10 = .ok (.ireturn, 1) := by decide +kernel
theorem dJ9_min_7cf53_0 : decode cJ9_min_7cf53 0 = .ok (.iload_n 0, 1) := by decide +kernel
theorem dJ9_min_7cf53_1 : decode cJ9_min_7cf53 1 = .ok (.iload_n 1, 1) := by decide +kernel
theorem dJ9_min_7cf53_2 : decode cJ9_min_7cf53 2 = .ok (.if_icmp .gt 7, 3) := by decide +kernel
theorem dJ9_min_7cf53_5 : decode cJ9_min_7cf53 5 = .ok (.iload_n 0, 1) := by decide +kernel
theorem dJ9_min_7cf53_6 : decode cJ9_min_7cf53 6 = .ok (.goto 4, 3) := by decide +kernel
theorem dJ9_min_7cf53_9 : decode cJ9_min_7cf53 9 = .ok (.iload_n 1, 1) := by decide +kernel
theorem dJ9_min_7cf53_10 : decode cJ9_min_7cf53 10 = .ok (.ireturn, 1) := by decide +kernel
theorem dJ7_fill_53178_0 : decode cJ7_fill_53178 0 = .ok (.iconst 0, 1) := by decide +kernel
theorem dJ7_fill_53178_1 : decode cJ7_fill_53178 1 = .ok (.istore_n 2, 1) := by decide +kernel
theorem dJ7_fill_53178_2 : decode cJ7_fill_53178 2 = .ok (.aload_n 0, 1) := by decide +kernel
theorem dJ7_fill_53178_3 : decode cJ7_fill_53178 3 = .ok (.arraylength, 1) := by decide +kernel
theorem dJ7_fill_53178_4 : decode cJ7_fill_53178 4 = .ok (.istore_n 3, 1) := by decide +kernel
theorem dJ7_fill_53178_5 : decode cJ7_fill_53178 5 = .ok (.iload_n 2, 1) := by decide +kernel
theorem dJ7_fill_53178_6 : decode cJ7_fill_53178 6 = .ok (.iload_n 3, 1) := by decide +kernel
theorem dJ7_fill_53178_7 : decode cJ7_fill_53178 7 = .ok (.if_icmp .ge 13, 3) := by decide +kernel
theorem dJ7_fill_53178_10 : decode cJ7_fill_53178 10 = .ok (.aload_n 0, 1) := by decide +kernel
theorem dJ7_fill_53178_11 : decode cJ7_fill_53178 11 = .ok (.iload_n 2, 1) := by decide +kernel
theorem dJ7_fill_53178_12 : decode cJ7_fill_53178 12 = .ok (.iload_n 1, 1) := by decide +kernel
theorem dJ7_fill_53178_13 : decode cJ7_fill_53178 13 = .ok (.iastore, 1) := by decide +kernel
theorem dJ7_fill_53178_14 : decode cJ7_fill_53178 14 = .ok (.iinc 2 1, 3) := by decide +kernel
theorem dJ7_fill_53178_17 : decode cJ7_fill_53178 17 = .ok (.goto (-12), 3) := by decide +kernel
theorem dJ7_fill_53178_20 : decode cJ7_fill_53178 20 = .ok (.return_, 1) := by decide +kernel
theorem dL_law_0 : decode cL_law 0 = .ok (.new 7, 3) := by decide +kernel
theorem dL_law_3 : decode cL_law 3 = .ok (.dup, 1) := by decide +kernel
theorem dL_law_4 : decode cL_law 4 = .ok (.invokespecial 9, 3) := by decide +kernel
theorem dL_law_7 : decode cL_law 7 = .ok (.astore_n 1, 1) := by decide +kernel
theorem dL_law_8 : decode cL_law 8 = .ok (.new 10, 3) := by decide +kernel
theorem dL_law_11 : decode cL_law 11 = .ok (.dup, 1) := by decide +kernel
theorem dL_law_12 : decode cL_law 12 = .ok (.invokespecial 12, 3) := by decide +kernel
theorem dL_law_15 : decode cL_law 15 = .ok (.astore_n 2, 1) := by decide +kernel
theorem dL_law_16 : decode cL_law 16 = .ok (.iconst 0, 1) := by decide +kernel
theorem dL_law_17 : decode cL_law 17 = .ok (.istore_n 3, 1) := by decide +kernel
theorem dL_law_18 : decode cL_law 18 = .ok (.iload_n 3, 1) := by decide +kernel
theorem dL_law_19 : decode cL_law 19 = .ok (.aload_n 0, 1) := by decide +kernel
theorem dL_law_20 : decode cL_law 20 = .ok (.arraylength, 1) := by decide +kernel
theorem dL_law_21 : decode cL_law 21 = .ok (.bipush 6, 2) := by decide +kernel
theorem dL_law_23 : decode cL_law 23 = .ok (.isub, 1) := by decide +kernel
theorem dL_law_24 : decode cL_law 24 = .ok (.if_icmp .gt 807, 3) := by decide +kernel
theorem dL_law_27 : decode cL_law 27 = .ok (.aload_n 0, 1) := by decide +kernel
theorem dL_law_28 : decode cL_law 28 = .ok (.iload_n 3, 1) := by decide +kernel
theorem dL_law_29 : decode cL_law 29 = .ok (.iaload, 1) := by decide +kernel
theorem dL_law_30 : decode cL_law 30 = .ok (.bipush 31, 2) := by decide +kernel
theorem dL_law_32 : decode cL_law 32 = .ok (.iand, 1) := by decide +kernel
theorem dL_law_33 : decode cL_law 33 = .ok (.tableswitch 792 0 20 #[99, 162, 195, 248, 291, 324, 357, 390, 423, 456, 489, 512, 545, 588, 611, 644, 667, 690, 713, 736, 769], 99) := by decide +kernel
theorem dL_law_132 : decode cL_law 132 = .ok (.aload_n 1, 1) := by decide +kernel
theorem dL_law_133 : decode cL_law 133 = .ok (.aload_n 0, 1) := by decide +kernel
theorem dL_law_134 : decode cL_law 134 = .ok (.iload_n 3, 1) := by decide +kernel
theorem dL_law_135 : decode cL_law 135 = .ok (.iconst 1, 1) := by decide +kernel
theorem dL_law_136 : decode cL_law 136 = .ok (.iadd, 1) := by decide +kernel
theorem dL_law_137 : decode cL_law 137 = .ok (.iaload, 1) := by decide +kernel
theorem dL_law_138 : decode cL_law 138 = .ok (.aload_n 0, 1) := by decide +kernel
theorem dL_law_139 : decode cL_law 139 = .ok (.iload_n 3, 1) := by decide +kernel
theorem dL_law_140 : decode cL_law 140 = .ok (.iconst 2, 1) := by decide +kernel
theorem dL_law_141 : decode cL_law 141 = .ok (.iadd, 1) := by decide +kernel
theorem dL_law_142 : decode cL_law 142 = .ok (.iaload, 1) := by decide +kernel
theorem dL_law_143 : decode cL_law 143 = .ok (.aload_n 0, 1) := by decide +kernel
theorem dL_law_144 : decode cL_law 144 = .ok (.iload_n 3, 1) := by decide +kernel
theorem dL_law_145 : decode cL_law 145 = .ok (.iconst 3, 1) := by decide +kernel
theorem dL_law_146 : decode cL_law 146 = .ok (.iadd, 1) := by decide +kernel
theorem dL_law_147 : decode cL_law 147 = .ok (.iaload, 1) := by decide +kernel
theorem dL_law_148 : decode cL_law 148 = .ok (.aload_n 0, 1) := by decide +kernel
theorem dL_law_149 : decode cL_law 149 = .ok (.iload_n 3, 1) := by decide +kernel
theorem dL_law_150 : decode cL_law 150 = .ok (.iconst 4, 1) := by decide +kernel
theorem dL_law_151 : decode cL_law 151 = .ok (.iadd, 1) := by decide +kernel
theorem dL_law_152 : decode cL_law 152 = .ok (.iaload, 1) := by decide +kernel
theorem dL_law_153 : decode cL_law 153 = .ok (.aload_n 0, 1) := by decide +kernel
theorem dL_law_154 : decode cL_law 154 = .ok (.iload_n 3, 1) := by decide +kernel
theorem dL_law_155 : decode cL_law 155 = .ok (.iconst 5, 1) := by decide +kernel
theorem dL_law_156 : decode cL_law 156 = .ok (.iadd, 1) := by decide +kernel
theorem dL_law_157 : decode cL_law 157 = .ok (.iaload, 1) := by decide +kernel
theorem dL_law_158 : decode cL_law 158 = .ok (.invokevirtual 13, 3) := by decide +kernel
theorem dL_law_161 : decode cL_law 161 = .ok (.aload_n 2, 1) := by decide +kernel
theorem dL_law_162 : decode cL_law 162 = .ok (.aload_n 0, 1) := by decide +kernel
theorem dL_law_163 : decode cL_law 163 = .ok (.iload_n 3, 1) := by decide +kernel
theorem dL_law_164 : decode cL_law 164 = .ok (.iconst 1, 1) := by decide +kernel
theorem dL_law_165 : decode cL_law 165 = .ok (.iadd, 1) := by decide +kernel
theorem dL_law_166 : decode cL_law 166 = .ok (.iaload, 1) := by decide +kernel
theorem dL_law_167 : decode cL_law 167 = .ok (.aload_n 0, 1) := by decide +kernel
theorem dL_law_168 : decode cL_law 168 = .ok (.iload_n 3, 1) := by decide +kernel
theorem dL_law_169 : decode cL_law 169 = .ok (.iconst 2, 1) := by decide +kernel
theorem dL_law_170 : decode cL_law 170 = .ok (.iadd, 1) := by decide +kernel
theorem dL_law_171 : decode cL_law 171 = .ok (.iaload, 1) := by decide +kernel
theorem dL_law_172 : decode cL_law 172 = .ok (.aload_n 0, 1) := by decide +kernel
theorem dL_law_173 : decode cL_law 173 = .ok (.iload_n 3, 1) := by decide +kernel
theorem dL_law_174 : decode cL_law 174 = .ok (.iconst 3, 1) := by decide +kernel
theorem dL_law_175 : decode cL_law 175 = .ok (.iadd, 1) := by decide +kernel
theorem dL_law_176 : decode cL_law 176 = .ok (.iaload, 1) := by decide +kernel
theorem dL_law_177 : decode cL_law 177 = .ok (.aload_n 0, 1) := by decide +kernel
theorem dL_law_178 : decode cL_law 178 = .ok (.iload_n 3, 1) := by decide +kernel
theorem dL_law_179 : decode cL_law 179 = .ok (.iconst 4, 1) := by decide +kernel
theorem dL_law_180 : decode cL_law 180 = .ok (.iadd, 1) := by decide +kernel
theorem dL_law_181 : decode cL_law 181 = .ok (.iaload, 1) := by decide +kernel
theorem dL_law_182 : decode cL_law 182 = .ok (.aload_n 0, 1) := by decide +kernel
theorem dL_law_183 : decode cL_law 183 = .ok (.iload_n 3, 1) := by decide +kernel
theorem dL_law_184 : decode cL_law 184 = .ok (.iconst 5, 1) := by decide +kernel
theorem dL_law_185 : decode cL_law 185 = .ok (.iadd, 1) := by decide +kernel
theorem dL_law_186 : decode cL_law 186 = .ok (.iaload, 1) := by decide +kernel
theorem dL_law_187 : decode cL_law 187 = .ok (.invokevirtual 17, 3) := by decide +kernel
theorem dL_law_190 : decode cL_law 190 = .ok (.if_icmp .eq 635, 3) := by decide +kernel
theorem dL_law_193 : decode cL_law 193 = .ok (.iconst 0, 1) := by decide +kernel
theorem dL_law_194 : decode cL_law 194 = .ok (.ireturn, 1) := by decide +kernel
theorem dL_law_195 : decode cL_law 195 = .ok (.aload_n 1, 1) := by decide +kernel
theorem dL_law_196 : decode cL_law 196 = .ok (.aload_n 0, 1) := by decide +kernel
theorem dL_law_197 : decode cL_law 197 = .ok (.iload_n 3, 1) := by decide +kernel
theorem dL_law_198 : decode cL_law 198 = .ok (.iconst 1, 1) := by decide +kernel
theorem dL_law_199 : decode cL_law 199 = .ok (.iadd, 1) := by decide +kernel
theorem dL_law_200 : decode cL_law 200 = .ok (.iaload, 1) := by decide +kernel
theorem dL_law_201 : decode cL_law 201 = .ok (.aload_n 0, 1) := by decide +kernel
theorem dL_law_202 : decode cL_law 202 = .ok (.iload_n 3, 1) := by decide +kernel
theorem dL_law_203 : decode cL_law 203 = .ok (.iconst 2, 1) := by decide +kernel
theorem dL_law_204 : decode cL_law 204 = .ok (.iadd, 1) := by decide +kernel
theorem dL_law_205 : decode cL_law 205 = .ok (.iaload, 1) := by decide +kernel
theorem dL_law_206 : decode cL_law 206 = .ok (.invokevirtual 18, 3) := by decide +kernel
theorem dL_law_209 : decode cL_law 209 = .ok (.aload_n 2, 1) := by decide +kernel
theorem dL_law_210 : decode cL_law 210 = .ok (.aload_n 0, 1) := by decide +kernel
theorem dL_law_211 : decode cL_law 211 = .ok (.iload_n 3, 1) := by decide +kernel
theorem dL_law_212 : decode cL_law 212 = .ok (.iconst 1, 1) := by decide +kernel
theorem dL_law_213 : decode cL_law 213 = .ok (.iadd, 1) := by decide +kernel
theorem dL_law_214 : decode cL_law 214 = .ok (.iaload, 1) := by decide +kernel
theorem dL_law_215 : decode cL_law 215 = .ok (.aload_n 0, 1) := by decide +kernel
theorem dL_law_216 : decode cL_law 216 = .ok (.iload_n 3, 1) := by decide +kernel
theorem dL_law_217 : decode cL_law 217 = .ok (.iconst 2, 1) := by decide +kernel
theorem dL_law_218 : decode cL_law 218 = .ok (.iadd, 1) := by decide +kernel
theorem dL_law_219 : decode cL_law 219 = .ok (.iaload, 1) := by decide +kernel
theorem dL_law_220 : decode cL_law 220 = .ok (.invokevirtual 22, 3) := by decide +kernel
theorem dL_law_223 : decode cL_law 223 = .ok (.if_icmp .eq 602, 3) := by decide +kernel
theorem dL_law_226 : decode cL_law 226 = .ok (.iconst 0, 1) := by decide +kernel
theorem dL_law_227 : decode cL_law 227 = .ok (.ireturn, 1) := by decide +kernel
theorem dL_law_228 : decode cL_law 228 = .ok (.aload_n 1, 1) := by decide +kernel
theorem dL_law_229 : decode cL_law 229 = .ok (.aload_n 0, 1) := by decide +kernel
theorem dL_law_230 : decode cL_law 230 = .ok (.iload_n 3, 1) := by decide +kernel
theorem dL_law_231 : decode cL_law 231 = .ok (.iconst 1, 1) := by decide +kernel
theorem dL_law_232 : decode cL_law 232 = .ok (.iadd, 1) := by decide +kernel
theorem dL_law_233 : decode cL_law 233 = .ok (.iaload, 1) := by decide +kernel
theorem dL_law_234 : decode cL_law 234 = .ok (.aload_n 0, 1) := by decide +kernel
theorem dL_law_235 : decode cL_law 235 = .ok (.iload_n 3, 1) := by decide +kernel
theorem dL_law_236 : decode cL_law 236 = .ok (.iconst 2, 1) := by decide +kernel
theorem dL_law_237 : decode cL_law 237 = .ok (.iadd, 1) := by decide +kernel
theorem dL_law_238 : decode cL_law 238 = .ok (.iaload, 1) := by decide +kernel
theorem dL_law_239 : decode cL_law 239 = .ok (.aload_n 0, 1) := by decide +kernel
theorem dL_law_240 : decode cL_law 240 = .ok (.iload_n 3, 1) := by decide +kernel
theorem dL_law_241 : decode cL_law 241 = .ok (.iconst 3, 1) := by decide +kernel
theorem dL_law_242 : decode cL_law 242 = .ok (.iadd, 1) := by decide +kernel
theorem dL_law_243 : decode cL_law 243 = .ok (.iaload, 1) := by decide +kernel
theorem dL_law_244 : decode cL_law 244 = .ok (.aload_n 0, 1) := by decide +kernel
theorem dL_law_245 : decode cL_law 245 = .ok (.iload_n 3, 1) := by decide +kernel
theorem dL_law_246 : decode cL_law 246 = .ok (.iconst 4, 1) := by decide +kernel
theorem dL_law_247 : decode cL_law 247 = .ok (.iadd, 1) := by decide +kernel
theorem dL_law_248 : decode cL_law 248 = .ok (.iaload, 1) := by decide +kernel
theorem dL_law_249 : decode cL_law 249 = .ok (.invokevirtual 23, 3) := by decide +kernel
theorem dL_law_252 : decode cL_law 252 = .ok (.aload_n 2, 1) := by decide +kernel
theorem dL_law_253 : decode cL_law 253 = .ok (.aload_n 0, 1) := by decide +kernel
theorem dL_law_254 : decode cL_law 254 = .ok (.iload_n 3, 1) := by decide +kernel
theorem dL_law_255 : decode cL_law 255 = .ok (.iconst 1, 1) := by decide +kernel
theorem dL_law_256 : decode cL_law 256 = .ok (.iadd, 1) := by decide +kernel
theorem dL_law_257 : decode cL_law 257 = .ok (.iaload, 1) := by decide +kernel
theorem dL_law_258 : decode cL_law 258 = .ok (.aload_n 0, 1) := by decide +kernel
theorem dL_law_259 : decode cL_law 259 = .ok (.iload_n 3, 1) := by decide +kernel
theorem dL_law_260 : decode cL_law 260 = .ok (.iconst 2, 1) := by decide +kernel
theorem dL_law_261 : decode cL_law 261 = .ok (.iadd, 1) := by decide +kernel
theorem dL_law_262 : decode cL_law 262 = .ok (.iaload, 1) := by decide +kernel
theorem dL_law_263 : decode cL_law 263 = .ok (.aload_n 0, 1) := by decide +kernel
theorem dL_law_264 : decode cL_law 264 = .ok (.iload_n 3, 1) := by decide +kernel
theorem dL_law_265 : decode cL_law 265 = .ok (.iconst 3, 1) := by decide +kernel
theorem dL_law_266 : decode cL_law 266 = .ok (.iadd, 1) := by decide +kernel
theorem dL_law_267 : decode cL_law 267 = .ok (.iaload, 1) := by decide +kernel
theorem dL_law_268 : decode cL_law 268 = .ok (.aload_n 0, 1) := by decide +kernel
theorem dL_law_269 : decode cL_law 269 = .ok (.iload_n 3, 1) := by decide +kernel
theorem dL_law_270 : decode cL_law 270 = .ok (.iconst 4, 1) := by decide +kernel
theorem dL_law_271 : decode cL_law 271 = .ok (.iadd, 1) := by decide +kernel
theorem dL_law_272 : decode cL_law 272 = .ok (.iaload, 1) := by decide +kernel
theorem dL_law_273 : decode cL_law 273 = .ok (.invokevirtual 27, 3) := by decide +kernel
theorem dL_law_276 : decode cL_law 276 = .ok (.if_icmp .eq 549, 3) := by decide +kernel
theorem dL_law_279 : decode cL_law 279 = .ok (.iconst 0, 1) := by decide +kernel
theorem dL_law_280 : decode cL_law 280 = .ok (.ireturn, 1) := by decide +kernel
theorem dL_law_281 : decode cL_law 281 = .ok (.aload_n 1, 1) := by decide +kernel
theorem dL_law_282 : decode cL_law 282 = .ok (.aload_n 0, 1) := by decide +kernel
theorem dL_law_283 : decode cL_law 283 = .ok (.iload_n 3, 1) := by decide +kernel
theorem dL_law_284 : decode cL_law 284 = .ok (.iconst 1, 1) := by decide +kernel
theorem dL_law_285 : decode cL_law 285 = .ok (.iadd, 1) := by decide +kernel
theorem dL_law_286 : decode cL_law 286 = .ok (.iaload, 1) := by decide +kernel
theorem dL_law_287 : decode cL_law 287 = .ok (.aload_n 0, 1) := by decide +kernel
theorem dL_law_288 : decode cL_law 288 = .ok (.iload_n 3, 1) := by decide +kernel
theorem dL_law_289 : decode cL_law 289 = .ok (.iconst 2, 1) := by decide +kernel
theorem dL_law_290 : decode cL_law 290 = .ok (.iadd, 1) := by decide +kernel
theorem dL_law_291 : decode cL_law 291 = .ok (.iaload, 1) := by decide +kernel
theorem dL_law_292 : decode cL_law 292 = .ok (.aload_n 0, 1) := by decide +kernel
theorem dL_law_293 : decode cL_law 293 = .ok (.iload_n 3, 1) := by decide +kernel
theorem dL_law_294 : decode cL_law 294 = .ok (.iconst 3, 1) := by decide +kernel
theorem dL_law_295 : decode cL_law 295 = .ok (.iadd, 1) := by decide +kernel
theorem dL_law_296 : decode cL_law 296 = .ok (.iaload, 1) := by decide +kernel
theorem dL_law_297 : decode cL_law 297 = .ok (.invokevirtual 28, 3) := by decide +kernel
theorem dL_law_300 : decode cL_law 300 = .ok (.aload_n 2, 1) := by decide +kernel
theorem dL_law_301 : decode cL_law 301 = .ok (.aload_n 0, 1) := by decide +kernel
theorem dL_law_302 : decode cL_law 302 = .ok (.iload_n 3, 1) := by decide +kernel
theorem dL_law_303 : decode cL_law 303 = .ok (.iconst 1, 1) := by decide +kernel
theorem dL_law_304 : decode cL_law 304 = .ok (.iadd, 1) := by decide +kernel
theorem dL_law_305 : decode cL_law 305 = .ok (.iaload, 1) := by decide +kernel
theorem dL_law_306 : decode cL_law 306 = .ok (.aload_n 0, 1) := by decide +kernel
theorem dL_law_307 : decode cL_law 307 = .ok (.iload_n 3, 1) := by decide +kernel
theorem dL_law_308 : decode cL_law 308 = .ok (.iconst 2, 1) := by decide +kernel
theorem dL_law_309 : decode cL_law 309 = .ok (.iadd, 1) := by decide +kernel
theorem dL_law_310 : decode cL_law 310 = .ok (.iaload, 1) := by decide +kernel
theorem dL_law_311 : decode cL_law 311 = .ok (.aload_n 0, 1) := by decide +kernel
theorem dL_law_312 : decode cL_law 312 = .ok (.iload_n 3, 1) := by decide +kernel
theorem dL_law_313 : decode cL_law 313 = .ok (.iconst 3, 1) := by decide +kernel
theorem dL_law_314 : decode cL_law 314 = .ok (.iadd, 1) := by decide +kernel
theorem dL_law_315 : decode cL_law 315 = .ok (.iaload, 1) := by decide +kernel
theorem dL_law_316 : decode cL_law 316 = .ok (.invokevirtual 32, 3) := by decide +kernel
theorem dL_law_319 : decode cL_law 319 = .ok (.if_icmp .eq 506, 3) := by decide +kernel
theorem dL_law_322 : decode cL_law 322 = .ok (.iconst 0, 1) := by decide +kernel
theorem dL_law_323 : decode cL_law 323 = .ok (.ireturn, 1) := by decide +kernel
theorem dL_law_324 : decode cL_law 324 = .ok (.aload_n 1, 1) := by decide +kernel
theorem dL_law_325 : decode cL_law 325 = .ok (.aload_n 0, 1) := by decide +kernel
theorem dL_law_326 : decode cL_law 326 = .ok (.iload_n 3, 1) := by decide +kernel
theorem dL_law_327 : decode cL_law 327 = .ok (.iconst 1, 1) := by decide +kernel
theorem dL_law_328 : decode cL_law 328 = .ok (.iadd, 1) := by decide +kernel
theorem dL_law_329 : decode cL_law 329 = .ok (.iaload, 1) := by decide +kernel
theorem dL_law_330 : decode cL_law 330 = .ok (.aload_n 0, 1) := by decide +kernel
theorem dL_law_331 : decode cL_law 331 = .ok (.iload_n 3, 1) := by decide +kernel
theorem dL_law_332 : decode cL_law 332 = .ok (.iconst 2, 1) := by decide +kernel
theorem dL_law_333 : decode cL_law 333 = .ok (.iadd, 1) := by decide +kernel
theorem dL_law_334 : decode cL_law 334 = .ok (.iaload, 1) := by decide +kernel
theorem dL_law_335 : decode cL_law 335 = .ok (.invokevirtual 33, 3) := by decide +kernel
theorem dL_law_338 : decode cL_law 338 = .ok (.aload_n 2, 1) := by decide +kernel
theorem dL_law_339 : decode cL_law 339 = .ok (.aload_n 0, 1) := by decide +kernel
theorem dL_law_340 : decode cL_law 340 = .ok (.iload_n 3, 1) := by decide +kernel
theorem dL_law_341 : decode cL_law 341 = .ok (.iconst 1, 1) := by decide +kernel
theorem dL_law_342 : decode cL_law 342 = .ok (.iadd, 1) := by decide +kernel
theorem dL_law_343 : decode cL_law 343 = .ok (.iaload, 1) := by decide +kernel
theorem dL_law_344 : decode cL_law 344 = .ok (.aload_n 0, 1) := by decide +kernel
theorem dL_law_345 : decode cL_law 345 = .ok (.iload_n 3, 1) := by decide +kernel
theorem dL_law_346 : decode cL_law 346 = .ok (.iconst 2, 1) := by decide +kernel
theorem dL_law_347 : decode cL_law 347 = .ok (.iadd, 1) := by decide +kernel
theorem dL_law_348 : decode cL_law 348 = .ok (.iaload, 1) := by decide +kernel
theorem dL_law_349 : decode cL_law 349 = .ok (.invokevirtual 36, 3) := by decide +kernel
theorem dL_law_352 : decode cL_law 352 = .ok (.if_icmp .eq 473, 3) := by decide +kernel
theorem dL_law_355 : decode cL_law 355 = .ok (.iconst 0, 1) := by decide +kernel
theorem dL_law_356 : decode cL_law 356 = .ok (.ireturn, 1) := by decide +kernel
theorem dL_law_357 : decode cL_law 357 = .ok (.aload_n 1, 1) := by decide +kernel
theorem dL_law_358 : decode cL_law 358 = .ok (.aload_n 0, 1) := by decide +kernel
theorem dL_law_359 : decode cL_law 359 = .ok (.iload_n 3, 1) := by decide +kernel
theorem dL_law_360 : decode cL_law 360 = .ok (.iconst 1, 1) := by decide +kernel
theorem dL_law_361 : decode cL_law 361 = .ok (.iadd, 1) := by decide +kernel
theorem dL_law_362 : decode cL_law 362 = .ok (.iaload, 1) := by decide +kernel
theorem dL_law_363 : decode cL_law 363 = .ok (.aload_n 0, 1) := by decide +kernel
theorem dL_law_364 : decode cL_law 364 = .ok (.iload_n 3, 1) := by decide +kernel
theorem dL_law_365 : decode cL_law 365 = .ok (.iconst 2, 1) := by decide +kernel
theorem dL_law_366 : decode cL_law 366 = .ok (.iadd, 1) := by decide +kernel
theorem dL_law_367 : decode cL_law 367 = .ok (.iaload, 1) := by decide +kernel
theorem dL_law_368 : decode cL_law 368 = .ok (.invokevirtual 37, 3) := by decide +kernel
theorem dL_law_371 : decode cL_law 371 = .ok (.aload_n 2, 1) := by decide +kernel
theorem dL_law_372 : decode cL_law 372 = .ok (.aload_n 0, 1) := by decide +kernel
theorem dL_law_373 : decode cL_law 373 = .ok (.iload_n 3, 1) := by decide +kernel
theorem dL_law_374 : decode cL_law 374 = .ok (.iconst 1, 1) := by decide +kernel
theorem dL_law_375 : decode cL_law 375 = .ok (.iadd, 1) := by decide +kernel
theorem dL_law_376 : decode cL_law 376 = .ok (.iaload, 1) := by decide +kernel
theorem dL_law_377 : decode cL_law 377 = .ok (.aload_n 0, 1) := by decide +kernel
theorem dL_law_378 : decode cL_law 378 = .ok (.iload_n 3, 1) := by decide +kernel
theorem dL_law_379 : decode cL_law 379 = .ok (.iconst 2, 1) := by decide +kernel
theorem dL_law_380 : decode cL_law 380 = .ok (.iadd, 1) := by decide +kernel
theorem dL_law_381 : decode cL_law 381 = .ok (.iaload, 1) := by decide +kernel
theorem dL_law_382 : decode cL_law 382 = .ok (.invokevirtual 41, 3) := by decide +kernel
theorem dL_law_385 : decode cL_law 385 = .ok (.if_icmp .eq 440, 3) := by decide +kernel
theorem dL_law_388 : decode cL_law 388 = .ok (.iconst 0, 1) := by decide +kernel
theorem dL_law_389 : decode cL_law 389 = .ok (.ireturn, 1) := by decide +kernel
theorem dL_law_390 : decode cL_law 390 = .ok (.aload_n 1, 1) := by decide +kernel
theorem dL_law_391 : decode cL_law 391 = .ok (.aload_n 0, 1) := by decide +kernel
theorem dL_law_392 : decode cL_law 392 = .ok (.iload_n 3, 1) := by decide +kernel
theorem dL_law_393 : decode cL_law 393 = .ok (.iconst 1, 1) := by decide +kernel
theorem dL_law_394 : decode cL_law 394 = .ok (.iadd, 1) := by decide +kernel
theorem dL_law_395 : decode cL_law 395 = .ok (.iaload, 1) := by decide +kernel
theorem dL_law_396 : decode cL_law 396 = .ok (.aload_n 0, 1) := by decide +kernel
theorem dL_law_397 : decode cL_law 397 = .ok (.iload_n 3, 1) := by decide +kernel
theorem dL_law_398 : decode cL_law 398 = .ok (.iconst 2, 1) := by decide +kernel
theorem dL_law_399 : decode cL_law 399 = .ok (.iadd, 1) := by decide +kernel
theorem dL_law_400 : decode cL_law 400 = .ok (.iaload, 1) := by decide +kernel
theorem dL_law_401 : decode cL_law 401 = .ok (.invokevirtual 42, 3) := by decide +kernel
theorem dL_law_404 : decode cL_law 404 = .ok (.aload_n 2, 1) := by decide +kernel
theorem dL_law_405 : decode cL_law 405 = .ok (.aload_n 0, 1) := by decide +kernel
theorem dL_law_406 : decode cL_law 406 = .ok (.iload_n 3, 1) := by decide +kernel
theorem dL_law_407 : decode cL_law 407 = .ok (.iconst 1, 1) := by decide +kernel
theorem dL_law_408 : decode cL_law 408 = .ok (.iadd, 1) := by decide +kernel
theorem dL_law_409 : decode cL_law 409 = .ok (.iaload, 1) := by decide +kernel
theorem dL_law_410 : decode cL_law 410 = .ok (.aload_n 0, 1) := by decide +kernel
theorem dL_law_411 : decode cL_law 411 = .ok (.iload_n 3, 1) := by decide +kernel
theorem dL_law_412 : decode cL_law 412 = .ok (.iconst 2, 1) := by decide +kernel
theorem dL_law_413 : decode cL_law 413 = .ok (.iadd, 1) := by decide +kernel
theorem dL_law_414 : decode cL_law 414 = .ok (.iaload, 1) := by decide +kernel
theorem dL_law_415 : decode cL_law 415 = .ok (.invokevirtual 45, 3) := by decide +kernel
theorem dL_law_418 : decode cL_law 418 = .ok (.if_icmp .eq 407, 3) := by decide +kernel
theorem dL_law_421 : decode cL_law 421 = .ok (.iconst 0, 1) := by decide +kernel
theorem dL_law_422 : decode cL_law 422 = .ok (.ireturn, 1) := by decide +kernel
theorem dL_law_423 : decode cL_law 423 = .ok (.aload_n 1, 1) := by decide +kernel
theorem dL_law_424 : decode cL_law 424 = .ok (.aload_n 0, 1) := by decide +kernel
theorem dL_law_425 : decode cL_law 425 = .ok (.iload_n 3, 1) := by decide +kernel
theorem dL_law_426 : decode cL_law 426 = .ok (.iconst 1, 1) := by decide +kernel
theorem dL_law_427 : decode cL_law 427 = .ok (.iadd, 1) := by decide +kernel
theorem dL_law_428 : decode cL_law 428 = .ok (.iaload, 1) := by decide +kernel
theorem dL_law_429 : decode cL_law 429 = .ok (.aload_n 0, 1) := by decide +kernel
theorem dL_law_430 : decode cL_law 430 = .ok (.iload_n 3, 1) := by decide +kernel
theorem dL_law_431 : decode cL_law 431 = .ok (.iconst 2, 1) := by decide +kernel
theorem dL_law_432 : decode cL_law 432 = .ok (.iadd, 1) := by decide +kernel
theorem dL_law_433 : decode cL_law 433 = .ok (.iaload, 1) := by decide +kernel
theorem dL_law_434 : decode cL_law 434 = .ok (.invokevirtual 46, 3) := by decide +kernel
theorem dL_law_437 : decode cL_law 437 = .ok (.aload_n 2, 1) := by decide +kernel
theorem dL_law_438 : decode cL_law 438 = .ok (.aload_n 0, 1) := by decide +kernel
theorem dL_law_439 : decode cL_law 439 = .ok (.iload_n 3, 1) := by decide +kernel
theorem dL_law_440 : decode cL_law 440 = .ok (.iconst 1, 1) := by decide +kernel
theorem dL_law_441 : decode cL_law 441 = .ok (.iadd, 1) := by decide +kernel
theorem dL_law_442 : decode cL_law 442 = .ok (.iaload, 1) := by decide +kernel
theorem dL_law_443 : decode cL_law 443 = .ok (.aload_n 0, 1) := by decide +kernel
theorem dL_law_444 : decode cL_law 444 = .ok (.iload_n 3, 1) := by decide +kernel
theorem dL_law_445 : decode cL_law 445 = .ok (.iconst 2, 1) := by decide +kernel
theorem dL_law_446 : decode cL_law 446 = .ok (.iadd, 1) := by decide +kernel
theorem dL_law_447 : decode cL_law 447 = .ok (.iaload, 1) := by decide +kernel
theorem dL_law_448 : decode cL_law 448 = .ok (.invokevirtual 49, 3) := by decide +kernel
theorem dL_law_451 : decode cL_law 451 = .ok (.if_icmp .eq 374, 3) := by decide +kernel
theorem dL_law_454 : decode cL_law 454 = .ok (.iconst 0, 1) := by decide +kernel
theorem dL_law_455 : decode cL_law 455 = .ok (.ireturn, 1) := by decide +kernel
theorem dL_law_456 : decode cL_law 456 = .ok (.aload_n 1, 1) := by decide +kernel
theorem dL_law_457 : decode cL_law 457 = .ok (.aload_n 0, 1) := by decide +kernel
theorem dL_law_458 : decode cL_law 458 = .ok (.iload_n 3, 1) := by decide +kernel
theorem dL_law_459 : decode cL_law 459 = .ok (.iconst 1, 1) := by decide +kernel
theorem dL_law_460 : decode cL_law 460 = .ok (.iadd, 1) := by decide +kernel
theorem dL_law_461 : decode cL_law 461 = .ok (.iaload, 1) := by decide +kernel
theorem dL_law_462 : decode cL_law 462 = .ok (.aload_n 0, 1) := by decide +kernel
theorem dL_law_463 : decode cL_law 463 = .ok (.iload_n 3, 1) := by decide +kernel
theorem dL_law_464 : decode cL_law 464 = .ok (.iconst 2, 1) := by decide +kernel
theorem dL_law_465 : decode cL_law 465 = .ok (.iadd, 1) := by decide +kernel
theorem dL_law_466 : decode cL_law 466 = .ok (.iaload, 1) := by decide +kernel
theorem dL_law_467 : decode cL_law 467 = .ok (.invokevirtual 50, 3) := by decide +kernel
theorem dL_law_470 : decode cL_law 470 = .ok (.aload_n 2, 1) := by decide +kernel
theorem dL_law_471 : decode cL_law 471 = .ok (.aload_n 0, 1) := by decide +kernel
theorem dL_law_472 : decode cL_law 472 = .ok (.iload_n 3, 1) := by decide +kernel
theorem dL_law_473 : decode cL_law 473 = .ok (.iconst 1, 1) := by decide +kernel
theorem dL_law_474 : decode cL_law 474 = .ok (.iadd, 1) := by decide +kernel
theorem dL_law_475 : decode cL_law 475 = .ok (.iaload, 1) := by decide +kernel
theorem dL_law_476 : decode cL_law 476 = .ok (.aload_n 0, 1) := by decide +kernel
theorem dL_law_477 : decode cL_law 477 = .ok (.iload_n 3, 1) := by decide +kernel
theorem dL_law_478 : decode cL_law 478 = .ok (.iconst 2, 1) := by decide +kernel
theorem dL_law_479 : decode cL_law 479 = .ok (.iadd, 1) := by decide +kernel
theorem dL_law_480 : decode cL_law 480 = .ok (.iaload, 1) := by decide +kernel
theorem dL_law_481 : decode cL_law 481 = .ok (.invokevirtual 53, 3) := by decide +kernel
theorem dL_law_484 : decode cL_law 484 = .ok (.if_icmp .eq 341, 3) := by decide +kernel
theorem dL_law_487 : decode cL_law 487 = .ok (.iconst 0, 1) := by decide +kernel
theorem dL_law_488 : decode cL_law 488 = .ok (.ireturn, 1) := by decide +kernel
theorem dL_law_489 : decode cL_law 489 = .ok (.aload_n 1, 1) := by decide +kernel
theorem dL_law_490 : decode cL_law 490 = .ok (.aload_n 0, 1) := by decide +kernel
theorem dL_law_491 : decode cL_law 491 = .ok (.iload_n 3, 1) := by decide +kernel
theorem dL_law_492 : decode cL_law 492 = .ok (.iconst 1, 1) := by decide +kernel
theorem dL_law_493 : decode cL_law 493 = .ok (.iadd, 1) := by decide +kernel
theorem dL_law_494 : decode cL_law 494 = .ok (.iaload, 1) := by decide +kernel
theorem dL_law_495 : decode cL_law 495 = .ok (.aload_n 0, 1) := by decide +kernel
theorem dL_law_496 : decode cL_law 496 = .ok (.iload_n 3, 1) := by decide +kernel
theorem dL_law_497 : decode cL_law 497 = .ok (.iconst 2, 1) := by decide +kernel
theorem dL_law_498 : decode cL_law 498 = .ok (.iadd, 1) := by decide +kernel
theorem dL_law_499 : decode cL_law 499 = .ok (.iaload, 1) := by decide +kernel
theorem dL_law_500 : decode cL_law 500 = .ok (.invokevirtual 54, 3) := by decide +kernel
theorem dL_law_503 : decode cL_law 503 = .ok (.aload_n 2, 1) := by decide +kernel
theorem dL_law_504 : decode cL_law 504 = .ok (.aload_n 0, 1) := by decide +kernel
theorem dL_law_505 : decode cL_law 505 = .ok (.iload_n 3, 1) := by decide +kernel
theorem dL_law_506 : decode cL_law 506 = .ok (.iconst 1, 1) := by decide +kernel
theorem dL_law_507 : decode cL_law 507 = .ok (.iadd, 1) := by decide +kernel
theorem dL_law_508 : decode cL_law 508 = .ok (.iaload, 1) := by decide +kernel
theorem dL_law_509 : decode cL_law 509 = .ok (.aload_n 0, 1) := by decide +kernel
theorem dL_law_510 : decode cL_law 510 = .ok (.iload_n 3, 1) := by decide +kernel
theorem dL_law_511 : decode cL_law 511 = .ok (.iconst 2, 1) := by decide +kernel
theorem dL_law_512 : decode cL_law 512 = .ok (.iadd, 1) := by decide +kernel
theorem dL_law_513 : decode cL_law 513 = .ok (.iaload, 1) := by decide +kernel
theorem dL_law_514 : decode cL_law 514 = .ok (.invokevirtual 57, 3) := by decide +kernel
theorem dL_law_517 : decode cL_law 517 = .ok (.if_icmp .eq 308, 3) := by decide +kernel
theorem dL_law_520 : decode cL_law 520 = .ok (.iconst 0, 1) := by decide +kernel
theorem dL_law_521 : decode cL_law 521 = .ok (.ireturn, 1) := by decide +kernel
theorem dL_law_522 : decode cL_law 522 = .ok (.aload_n 1, 1) := by decide +kernel
theorem dL_law_523 : decode cL_law 523 = .ok (.aload_n 0, 1) := by decide +kernel
theorem dL_law_524 : decode cL_law 524 = .ok (.iload_n 3, 1) := by decide +kernel
theorem dL_law_525 : decode cL_law 525 = .ok (.iconst 1, 1) := by decide +kernel
theorem dL_law_526 : decode cL_law 526 = .ok (.iadd, 1) := by decide +kernel
theorem dL_law_527 : decode cL_law 527 = .ok (.iaload, 1) := by decide +kernel
theorem dL_law_528 : decode cL_law 528 = .ok (.invokevirtual 58, 3) := by decide +kernel
theorem dL_law_531 : decode cL_law 531 = .ok (.aload_n 2, 1) := by decide +kernel
theorem dL_law_532 : decode cL_law 532 = .ok (.aload_n 0, 1) := by decide +kernel
theorem dL_law_533 : decode cL_law 533 = .ok (.iload_n 3, 1) := by decide +kernel
theorem dL_law_534 : decode cL_law 534 = .ok (.iconst 1, 1) := by decide +kernel
theorem dL_law_535 : decode cL_law 535 = .ok (.iadd, 1) := by decide +kernel
theorem dL_law_536 : decode cL_law 536 = .ok (.iaload, 1) := by decide +kernel
theorem dL_law_537 : decode cL_law 537 = .ok (.invokevirtual 62, 3) := by decide +kernel
theorem dL_law_540 : decode cL_law 540 = .ok (.if_icmp .eq 285, 3) := by decide +kernel
theorem dL_law_543 : decode cL_law 543 = .ok (.iconst 0, 1) := by decide +kernel
theorem dL_law_544 : decode cL_law 544 = .ok (.ireturn, 1) := by decide +kernel
theorem dL_law_545 : decode cL_law 545 = .ok (.aload_n 1, 1) := by decide +kernel
theorem dL_law_546 : decode cL_law 546 = .ok (.aload_n 0, 1) := by decide +kernel
theorem dL_law_547 : decode cL_law 547 = .ok (.iload_n 3, 1) := by decide +kernel
theorem dL_law_548 : decode cL_law 548 = .ok (.iconst 1, 1) := by decide +kernel
theorem dL_law_549 : decode cL_law 549 = .ok (.iadd, 1) := by decide +kernel
theorem dL_law_550 : decode cL_law 550 = .ok (.iaload, 1) := by decide +kernel
theorem dL_law_551 : decode cL_law 551 = .ok (.aload_n 0, 1) := by decide +kernel
theorem dL_law_552 : decode cL_law 552 = .ok (.iload_n 3, 1) := by decide +kernel
theorem dL_law_553 : decode cL_law 553 = .ok (.iconst 2, 1) := by decide +kernel
theorem dL_law_554 : decode cL_law 554 = .ok (.iadd, 1) := by decide +kernel
theorem dL_law_555 : decode cL_law 555 = .ok (.iaload, 1) := by decide +kernel
theorem dL_law_556 : decode cL_law 556 = .ok (.invokevirtual 63, 3) := by decide +kernel
theorem dL_law_559 : decode cL_law 559 = .ok (.aload_n 2, 1) := by decide +kernel
theorem dL_law_560 : decode cL_law 560 = .ok (.aload_n 0, 1) := by decide +kernel
theorem dL_law_561 : decode cL_law 561 = .ok (.iload_n 3, 1) := by decide +kernel
theorem dL_law_562 : decode cL_law 562 = .ok (.iconst 1, 1) := by decide +kernel
theorem dL_law_563 : decode cL_law 563 = .ok (.iadd, 1) := by decide +kernel
theorem dL_law_564 : decode cL_law 564 = .ok (.iaload, 1) := by decide +kernel
theorem dL_law_565 : decode cL_law 565 = .ok (.aload_n 0, 1) := by decide +kernel
theorem dL_law_566 : decode cL_law 566 = .ok (.iload_n 3, 1) := by decide +kernel
theorem dL_law_567 : decode cL_law 567 = .ok (.iconst 2, 1) := by decide +kernel
theorem dL_law_568 : decode cL_law 568 = .ok (.iadd, 1) := by decide +kernel
theorem dL_law_569 : decode cL_law 569 = .ok (.iaload, 1) := by decide +kernel
theorem dL_law_570 : decode cL_law 570 = .ok (.invokevirtual 66, 3) := by decide +kernel
theorem dL_law_573 : decode cL_law 573 = .ok (.if_icmp .eq 252, 3) := by decide +kernel
theorem dL_law_576 : decode cL_law 576 = .ok (.iconst 0, 1) := by decide +kernel
theorem dL_law_577 : decode cL_law 577 = .ok (.ireturn, 1) := by decide +kernel
theorem dL_law_578 : decode cL_law 578 = .ok (.aload_n 1, 1) := by decide +kernel
theorem dL_law_579 : decode cL_law 579 = .ok (.aload_n 0, 1) := by decide +kernel
theorem dL_law_580 : decode cL_law 580 = .ok (.iload_n 3, 1) := by decide +kernel
theorem dL_law_581 : decode cL_law 581 = .ok (.iconst 1, 1) := by decide +kernel
theorem dL_law_582 : decode cL_law 582 = .ok (.iadd, 1) := by decide +kernel
theorem dL_law_583 : decode cL_law 583 = .ok (.iaload, 1) := by decide +kernel
theorem dL_law_584 : decode cL_law 584 = .ok (.aload_n 0, 1) := by decide +kernel
theorem dL_law_585 : decode cL_law 585 = .ok (.iload_n 3, 1) := by decide +kernel
theorem dL_law_586 : decode cL_law 586 = .ok (.iconst 2, 1) := by decide +kernel
theorem dL_law_587 : decode cL_law 587 = .ok (.iadd, 1) := by decide +kernel
theorem dL_law_588 : decode cL_law 588 = .ok (.iaload, 1) := by decide +kernel
theorem dL_law_589 : decode cL_law 589 = .ok (.aload_n 0, 1) := by decide +kernel
theorem dL_law_590 : decode cL_law 590 = .ok (.iload_n 3, 1) := by decide +kernel
theorem dL_law_591 : decode cL_law 591 = .ok (.iconst 3, 1) := by decide +kernel
theorem dL_law_592 : decode cL_law 592 = .ok (.iadd, 1) := by decide +kernel
theorem dL_law_593 : decode cL_law 593 = .ok (.iaload, 1) := by decide +kernel
theorem dL_law_594 : decode cL_law 594 = .ok (.invokevirtual 67, 3) := by decide +kernel
theorem dL_law_597 : decode cL_law 597 = .ok (.aload_n 2, 1) := by decide +kernel
theorem dL_law_598 : decode cL_law 598 = .ok (.aload_n 0, 1) := by decide +kernel
theorem dL_law_599 : decode cL_law 599 = .ok (.iload_n 3, 1) := by decide +kernel
theorem dL_law_600 : decode cL_law 600 = .ok (.iconst 1, 1) := by decide +kernel
theorem dL_law_601 : decode cL_law 601 = .ok (.iadd, 1) := by decide +kernel
theorem dL_law_602 : decode cL_law 602 = .ok (.iaload, 1) := by decide +kernel
theorem dL_law_603 : decode cL_law 603 = .ok (.aload_n 0, 1) := by decide +kernel
theorem dL_law_604 : decode cL_law 604 = .ok (.iload_n 3, 1) := by decide +kernel
theorem dL_law_605 : decode cL_law 605 = .ok (.iconst 2, 1) := by decide +kernel
theorem dL_law_606 : decode cL_law 606 = .ok (.iadd, 1) := by decide +kernel
theorem dL_law_607 : decode cL_law 607 = .ok (.iaload, 1) := by decide +kernel
theorem dL_law_608 : decode cL_law 608 = .ok (.aload_n 0, 1) := by decide +kernel
theorem dL_law_609 : decode cL_law 609 = .ok (.iload_n 3, 1) := by decide +kernel
theorem dL_law_610 : decode cL_law 610 = .ok (.iconst 3, 1) := by decide +kernel
theorem dL_law_611 : decode cL_law 611 = .ok (.iadd, 1) := by decide +kernel
theorem dL_law_612 : decode cL_law 612 = .ok (.iaload, 1) := by decide +kernel
theorem dL_law_613 : decode cL_law 613 = .ok (.invokevirtual 70, 3) := by decide +kernel
theorem dL_law_616 : decode cL_law 616 = .ok (.if_icmp .eq 209, 3) := by decide +kernel
theorem dL_law_619 : decode cL_law 619 = .ok (.iconst 0, 1) := by decide +kernel
theorem dL_law_620 : decode cL_law 620 = .ok (.ireturn, 1) := by decide +kernel
theorem dL_law_621 : decode cL_law 621 = .ok (.aload_n 1, 1) := by decide +kernel
theorem dL_law_622 : decode cL_law 622 = .ok (.aload_n 0, 1) := by decide +kernel
theorem dL_law_623 : decode cL_law 623 = .ok (.iload_n 3, 1) := by decide +kernel
theorem dL_law_624 : decode cL_law 624 = .ok (.iconst 1, 1) := by decide +kernel
theorem dL_law_625 : decode cL_law 625 = .ok (.iadd, 1) := by decide +kernel
theorem dL_law_626 : decode cL_law 626 = .ok (.iaload, 1) := by decide +kernel
theorem dL_law_627 : decode cL_law 627 = .ok (.invokevirtual 71, 3) := by decide +kernel
theorem dL_law_630 : decode cL_law 630 = .ok (.aload_n 2, 1) := by decide +kernel
theorem dL_law_631 : decode cL_law 631 = .ok (.aload_n 0, 1) := by decide +kernel
theorem dL_law_632 : decode cL_law 632 = .ok (.iload_n 3, 1) := by decide +kernel
theorem dL_law_633 : decode cL_law 633 = .ok (.iconst 1, 1) := by decide +kernel
theorem dL_law_634 : decode cL_law 634 = .ok (.iadd, 1) := by decide +kernel
theorem dL_law_635 : decode cL_law 635 = .ok (.iaload, 1) := by decide +kernel
theorem dL_law_636 : decode cL_law 636 = .ok (.invokevirtual 74, 3) := by decide +kernel
theorem dL_law_639 : decode cL_law 639 = .ok (.if_icmp .eq 186, 3) := by decide +kernel
theorem dL_law_642 : decode cL_law 642 = .ok (.iconst 0, 1) := by decide +kernel
theorem dL_law_643 : decode cL_law 643 = .ok (.ireturn, 1) := by decide +kernel
theorem dL_law_644 : decode cL_law 644 = .ok (.aload_n 1, 1) := by decide +kernel
theorem dL_law_645 : decode cL_law 645 = .ok (.aload_n 0, 1) := by decide +kernel
theorem dL_law_646 : decode cL_law 646 = .ok (.iload_n 3, 1) := by decide +kernel
theorem dL_law_647 : decode cL_law 647 = .ok (.iconst 1, 1) := by decide +kernel
theorem dL_law_648 : decode cL_law 648 = .ok (.iadd, 1) := by decide +kernel
theorem dL_law_649 : decode cL_law 649 = .ok (.iaload, 1) := by decide +kernel
theorem dL_law_650 : decode cL_law 650 = .ok (.aload_n 0, 1) := by decide +kernel
theorem dL_law_651 : decode cL_law 651 = .ok (.iload_n 3, 1) := by decide +kernel
theorem dL_law_652 : decode cL_law 652 = .ok (.iconst 2, 1) := by decide +kernel
theorem dL_law_653 : decode cL_law 653 = .ok (.iadd, 1) := by decide +kernel
theorem dL_law_654 : decode cL_law 654 = .ok (.iaload, 1) := by decide +kernel
theorem dL_law_655 : decode cL_law 655 = .ok (.invokevirtual 75, 3) := by decide +kernel
theorem dL_law_658 : decode cL_law 658 = .ok (.aload_n 2, 1) := by decide +kernel
theorem dL_law_659 : decode cL_law 659 = .ok (.aload_n 0, 1) := by decide +kernel
theorem dL_law_660 : decode cL_law 660 = .ok (.iload_n 3, 1) := by decide +kernel
theorem dL_law_661 : decode cL_law 661 = .ok (.iconst 1, 1) := by decide +kernel
theorem dL_law_662 : decode cL_law 662 = .ok (.iadd, 1) := by decide +kernel
theorem dL_law_663 : decode cL_law 663 = .ok (.iaload, 1) := by decide +kernel
theorem dL_law_664 : decode cL_law 664 = .ok (.aload_n 0, 1) := by decide +kernel
theorem dL_law_665 : decode cL_law 665 = .ok (.iload_n 3, 1) := by decide +kernel
theorem dL_law_666 : decode cL_law 666 = .ok (.iconst 2, 1) := by decide +kernel
theorem dL_law_667 : decode cL_law 667 = .ok (.iadd, 1) := by decide +kernel
theorem dL_law_668 : decode cL_law 668 = .ok (.iaload, 1) := by decide +kernel
theorem dL_law_669 : decode cL_law 669 = .ok (.invokevirtual 78, 3) := by decide +kernel
theorem dL_law_672 : decode cL_law 672 = .ok (.if_icmp .eq 153, 3) := by decide +kernel
theorem dL_law_675 : decode cL_law 675 = .ok (.iconst 0, 1) := by decide +kernel
theorem dL_law_676 : decode cL_law 676 = .ok (.ireturn, 1) := by decide +kernel
theorem dL_law_677 : decode cL_law 677 = .ok (.aload_n 1, 1) := by decide +kernel
theorem dL_law_678 : decode cL_law 678 = .ok (.aload_n 0, 1) := by decide +kernel
theorem dL_law_679 : decode cL_law 679 = .ok (.iload_n 3, 1) := by decide +kernel
theorem dL_law_680 : decode cL_law 680 = .ok (.iconst 1, 1) := by decide +kernel
theorem dL_law_681 : decode cL_law 681 = .ok (.iadd, 1) := by decide +kernel
theorem dL_law_682 : decode cL_law 682 = .ok (.iaload, 1) := by decide +kernel
theorem dL_law_683 : decode cL_law 683 = .ok (.invokevirtual 79, 3) := by decide +kernel
theorem dL_law_686 : decode cL_law 686 = .ok (.aload_n 2, 1) := by decide +kernel
theorem dL_law_687 : decode cL_law 687 = .ok (.aload_n 0, 1) := by decide +kernel
theorem dL_law_688 : decode cL_law 688 = .ok (.iload_n 3, 1) := by decide +kernel
theorem dL_law_689 : decode cL_law 689 = .ok (.iconst 1, 1) := by decide +kernel
theorem dL_law_690 : decode cL_law 690 = .ok (.iadd, 1) := by decide +kernel
theorem dL_law_691 : decode cL_law 691 = .ok (.iaload, 1) := by decide +kernel
theorem dL_law_692 : decode cL_law 692 = .ok (.invokevirtual 83, 3) := by decide +kernel
theorem dL_law_695 : decode cL_law 695 = .ok (.if_icmp .eq 130, 3) := by decide +kernel
theorem dL_law_698 : decode cL_law 698 = .ok (.iconst 0, 1) := by decide +kernel
theorem dL_law_699 : decode cL_law 699 = .ok (.ireturn, 1) := by decide +kernel
theorem dL_law_700 : decode cL_law 700 = .ok (.aload_n 1, 1) := by decide +kernel
theorem dL_law_701 : decode cL_law 701 = .ok (.aload_n 0, 1) := by decide +kernel
theorem dL_law_702 : decode cL_law 702 = .ok (.iload_n 3, 1) := by decide +kernel
theorem dL_law_703 : decode cL_law 703 = .ok (.iconst 1, 1) := by decide +kernel
theorem dL_law_704 : decode cL_law 704 = .ok (.iadd, 1) := by decide +kernel
theorem dL_law_705 : decode cL_law 705 = .ok (.iaload, 1) := by decide +kernel
theorem dL_law_706 : decode cL_law 706 = .ok (.invokevirtual 84, 3) := by decide +kernel
theorem dL_law_709 : decode cL_law 709 = .ok (.aload_n 2, 1) := by decide +kernel
theorem dL_law_710 : decode cL_law 710 = .ok (.aload_n 0, 1) := by decide +kernel
theorem dL_law_711 : decode cL_law 711 = .ok (.iload_n 3, 1) := by decide +kernel
theorem dL_law_712 : decode cL_law 712 = .ok (.iconst 1, 1) := by decide +kernel
theorem dL_law_713 : decode cL_law 713 = .ok (.iadd, 1) := by decide +kernel
theorem dL_law_714 : decode cL_law 714 = .ok (.iaload, 1) := by decide +kernel
theorem dL_law_715 : decode cL_law 715 = .ok (.invokevirtual 87, 3) := by decide +kernel
theorem dL_law_718 : decode cL_law 718 = .ok (.if_icmp .eq 107, 3) := by decide +kernel
theorem dL_law_721 : decode cL_law 721 = .ok (.iconst 0, 1) := by decide +kernel
theorem dL_law_722 : decode cL_law 722 = .ok (.ireturn, 1) := by decide +kernel
theorem dL_law_723 : decode cL_law 723 = .ok (.aload_n 1, 1) := by decide +kernel
theorem dL_law_724 : decode cL_law 724 = .ok (.aload_n 0, 1) := by decide +kernel
theorem dL_law_725 : decode cL_law 725 = .ok (.iload_n 3, 1) := by decide +kernel
theorem dL_law_726 : decode cL_law 726 = .ok (.iconst 1, 1) := by decide +kernel
theorem dL_law_727 : decode cL_law 727 = .ok (.iadd, 1) := by decide +kernel
theorem dL_law_728 : decode cL_law 728 = .ok (.iaload, 1) := by decide +kernel
theorem dL_law_729 : decode cL_law 729 = .ok (.invokevirtual 88, 3) := by decide +kernel
theorem dL_law_732 : decode cL_law 732 = .ok (.aload_n 2, 1) := by decide +kernel
theorem dL_law_733 : decode cL_law 733 = .ok (.aload_n 0, 1) := by decide +kernel
theorem dL_law_734 : decode cL_law 734 = .ok (.iload_n 3, 1) := by decide +kernel
theorem dL_law_735 : decode cL_law 735 = .ok (.iconst 1, 1) := by decide +kernel
theorem dL_law_736 : decode cL_law 736 = .ok (.iadd, 1) := by decide +kernel
theorem dL_law_737 : decode cL_law 737 = .ok (.iaload, 1) := by decide +kernel
theorem dL_law_738 : decode cL_law 738 = .ok (.invokevirtual 91, 3) := by decide +kernel
theorem dL_law_741 : decode cL_law 741 = .ok (.if_icmp .eq 84, 3) := by decide +kernel
theorem dL_law_744 : decode cL_law 744 = .ok (.iconst 0, 1) := by decide +kernel
theorem dL_law_745 : decode cL_law 745 = .ok (.ireturn, 1) := by decide +kernel
theorem dL_law_746 : decode cL_law 746 = .ok (.aload_n 1, 1) := by decide +kernel
theorem dL_law_747 : decode cL_law 747 = .ok (.aload_n 0, 1) := by decide +kernel
theorem dL_law_748 : decode cL_law 748 = .ok (.iload_n 3, 1) := by decide +kernel
theorem dL_law_749 : decode cL_law 749 = .ok (.iconst 1, 1) := by decide +kernel
theorem dL_law_750 : decode cL_law 750 = .ok (.iadd, 1) := by decide +kernel
theorem dL_law_751 : decode cL_law 751 = .ok (.iaload, 1) := by decide +kernel
theorem dL_law_752 : decode cL_law 752 = .ok (.invokevirtual 92, 3) := by decide +kernel
theorem dL_law_755 : decode cL_law 755 = .ok (.aload_n 2, 1) := by decide +kernel
theorem dL_law_756 : decode cL_law 756 = .ok (.aload_n 0, 1) := by decide +kernel
theorem dL_law_757 : decode cL_law 757 = .ok (.iload_n 3, 1) := by decide +kernel
theorem dL_law_758 : decode cL_law 758 = .ok (.iconst 1, 1) := by decide +kernel
theorem dL_law_759 : decode cL_law 759 = .ok (.iadd, 1) := by decide +kernel
theorem dL_law_760 : decode cL_law 760 = .ok (.iaload, 1) := by decide +kernel
theorem dL_law_761 : decode cL_law 761 = .ok (.invokevirtual 95, 3) := by decide +kernel
theorem dL_law_764 : decode cL_law 764 = .ok (.if_icmp .eq 61, 3) := by decide +kernel
theorem dL_law_767 : decode cL_law 767 = .ok (.iconst 0, 1) := by decide +kernel
theorem dL_law_768 : decode cL_law 768 = .ok (.ireturn, 1) := by decide +kernel
theorem dL_law_769 : decode cL_law 769 = .ok (.aload_n 1, 1) := by decide +kernel
theorem dL_law_770 : decode cL_law 770 = .ok (.aload_n 0, 1) := by decide +kernel
theorem dL_law_771 : decode cL_law 771 = .ok (.iload_n 3, 1) := by decide +kernel
theorem dL_law_772 : decode cL_law 772 = .ok (.iconst 1, 1) := by decide +kernel
theorem dL_law_773 : decode cL_law 773 = .ok (.iadd, 1) := by decide +kernel
theorem dL_law_774 : decode cL_law 774 = .ok (.iaload, 1) := by decide +kernel
theorem dL_law_775 : decode cL_law 775 = .ok (.aload_n 0, 1) := by decide +kernel
theorem dL_law_776 : decode cL_law 776 = .ok (.iload_n 3, 1) := by decide +kernel
theorem dL_law_777 : decode cL_law 777 = .ok (.iconst 2, 1) := by decide +kernel
theorem dL_law_778 : decode cL_law 778 = .ok (.iadd, 1) := by decide +kernel
theorem dL_law_779 : decode cL_law 779 = .ok (.iaload, 1) := by decide +kernel
theorem dL_law_780 : decode cL_law 780 = .ok (.invokevirtual 96, 3) := by decide +kernel
theorem dL_law_783 : decode cL_law 783 = .ok (.aload_n 2, 1) := by decide +kernel
theorem dL_law_784 : decode cL_law 784 = .ok (.aload_n 0, 1) := by decide +kernel
theorem dL_law_785 : decode cL_law 785 = .ok (.iload_n 3, 1) := by decide +kernel
theorem dL_law_786 : decode cL_law 786 = .ok (.iconst 1, 1) := by decide +kernel
theorem dL_law_787 : decode cL_law 787 = .ok (.iadd, 1) := by decide +kernel
theorem dL_law_788 : decode cL_law 788 = .ok (.iaload, 1) := by decide +kernel
theorem dL_law_789 : decode cL_law 789 = .ok (.aload_n 0, 1) := by decide +kernel
theorem dL_law_790 : decode cL_law 790 = .ok (.iload_n 3, 1) := by decide +kernel
theorem dL_law_791 : decode cL_law 791 = .ok (.iconst 2, 1) := by decide +kernel
theorem dL_law_792 : decode cL_law 792 = .ok (.iadd, 1) := by decide +kernel
theorem dL_law_793 : decode cL_law 793 = .ok (.iaload, 1) := by decide +kernel
theorem dL_law_794 : decode cL_law 794 = .ok (.invokevirtual 99, 3) := by decide +kernel
theorem dL_law_797 : decode cL_law 797 = .ok (.if_icmp .eq 28, 3) := by decide +kernel
theorem dL_law_800 : decode cL_law 800 = .ok (.iconst 0, 1) := by decide +kernel
theorem dL_law_801 : decode cL_law 801 = .ok (.ireturn, 1) := by decide +kernel
theorem dL_law_802 : decode cL_law 802 = .ok (.aload_n 1, 1) := by decide +kernel
theorem dL_law_803 : decode cL_law 803 = .ok (.aload_n 0, 1) := by decide +kernel
theorem dL_law_804 : decode cL_law 804 = .ok (.iload_n 3, 1) := by decide +kernel
theorem dL_law_805 : decode cL_law 805 = .ok (.iconst 1, 1) := by decide +kernel
theorem dL_law_806 : decode cL_law 806 = .ok (.iadd, 1) := by decide +kernel
theorem dL_law_807 : decode cL_law 807 = .ok (.iaload, 1) := by decide +kernel
theorem dL_law_808 : decode cL_law 808 = .ok (.invokevirtual 100, 3) := by decide +kernel
theorem dL_law_811 : decode cL_law 811 = .ok (.aload_n 2, 1) := by decide +kernel
theorem dL_law_812 : decode cL_law 812 = .ok (.aload_n 0, 1) := by decide +kernel
theorem dL_law_813 : decode cL_law 813 = .ok (.iload_n 3, 1) := by decide +kernel
theorem dL_law_814 : decode cL_law 814 = .ok (.iconst 1, 1) := by decide +kernel
theorem dL_law_815 : decode cL_law 815 = .ok (.iadd, 1) := by decide +kernel
theorem dL_law_816 : decode cL_law 816 = .ok (.iaload, 1) := by decide +kernel
theorem dL_law_817 : decode cL_law 817 = .ok (.invokevirtual 103, 3) := by decide +kernel
theorem dL_law_820 : decode cL_law 820 = .ok (.if_icmp .eq 5, 3) := by decide +kernel
theorem dL_law_823 : decode cL_law 823 = .ok (.iconst 0, 1) := by decide +kernel
theorem dL_law_824 : decode cL_law 824 = .ok (.ireturn, 1) := by decide +kernel
theorem dL_law_825 : decode cL_law 825 = .ok (.iinc 3 6, 3) := by decide +kernel
theorem dL_law_828 : decode cL_law 828 = .ok (.goto (-810), 3) := by decide +kernel
theorem dL_law_831 : decode cL_law 831 = .ok (.iconst 1, 1) := by decide +kernel
theorem dL_law_832 : decode cL_law 832 = .ok (.ireturn, 1) := by decide +kernel
end
section
/-- the words that a callee may take over, of the tables' -/
def lw_g : List Cond := lw_tbl.filter goodWord
theorem lw_gm {w : Cond} (h : w ∈ lw_tbl) (hg : goodWord w = true) : w ∈ lw_g := List.mem_filter.mpr ⟨h, hg⟩
theorem lw_good : GoodIn lw_g lw_g := fun _ hw => ⟨hw, good_of_word (List.mem_filter.mp hw).2⟩
/-- the words that go along with the state: links by the nest, arrays over a type -/
def nestL : List (String × Nat × MethodName) := [(RX7, 9, yX5_init), (RX7, 34, yX2_init), (RX7, 41, yX6_init), (RX7, 48, yX3_init), (RX5, 29, yX7_isBelow), (RX3, 88, yX7_isBelow)]
def overL : List FieldType := [.object RX0, .object RX4, .array .int]
def NW (U : State) : Prop := (∀ q ∈ nestL, va_Nw (.methodLinkNest q.1 q.2.1 q.2.2 RX7) U) ∧ ∀ ty ∈ overL, va_Nw (.arrayOver ty) U
theorem over_vm {ty : FieldType} {u U : State} (h : u.vm = U.vm) (hZ : va_Nw (.arrayOver ty) u) : va_Nw (.arrayOver ty) U := by
  unfold va_Nw at hZ ⊢
  simp only [Cond.before, Cond.holds, Cond.value] at hZ ⊢
  rw [← h]
  exact hZ
theorem NW.warm {s U : State} (hW : s.WarmedH U.vm) (h : NW s) : NW U := ⟨fun q hq => va_Nw.warmM hW (h.1 q hq), fun ty hty => over_vm (rfl : (s.setVm U.vm).vm = U.vm) (by unfold va_Nw; rw [Cond.arrayOver_setVmC hW.alike]; exact h.2 ty hty)⟩
theorem NW.same {u U : State} (h : u.vm = U.vm) (hN : NW u) : NW U := ⟨fun q hq => va_Nw.same rfl h (hN.1 q hq), fun ty hty => over_vm h (hN.2 ty hty)⟩
/-! The memory: virtual cells 1 .. n (cell a lies at z + a), of kinds 0 .. 8 (objects of the nine own classes), 9 byte rows, 10 int rows, 11, 12, 13 rows of references. F: int fields by code (40 * kind + slot) and cell; G: reference fields (0: null); A: int and byte rows by cell and index; B: reference rows. -/
def u2 {α : Type} (f : Nat → Nat → α) (i j : Nat) (v : α) : Nat → Nat → α := fun a b => if a = i then (if b = j then v else f a b) else f a b
theorem u2_s {α : Type} {f : Nat → Nat → α} {i j : Nat} {v : α} : u2 f i j v i j = v := by simp [u2]
theorem u2_n1 {α : Type} {f : Nat → Nat → α} {i j a b : Nat} {v : α} (h : a ≠ i) : u2 f i j v a b = f a b := by simp [u2, h]
theorem u2_n2 {α : Type} {f : Nat → Nat → α} {i j a b : Nat} {v : α} (h : b ≠ j) : u2 f i j v a b = f a b := by simp [u2, h]
abbrev SH : Type := (Nat → Nat) × (Nat → Nat) × Nat
abbrev MI : Type := Nat → Nat → Int32
abbrev MN : Type := Nat → Nat → Nat
abbrev MD : Type := MethodName × ByteArray × Nat × Option FieldType
abbrev PQ : Type := Option Value → SH → MI → MN → MI → MN → Prop
def ro (z n : Nat) : Option Nat := if n = 0 then none else some (z + n)
def tr (z b : Nat) : Value → Value
  | .int x => .int x
  | .ref a => .ref (z + a)
  | .long _ => .ref b
  | _ => .null
def tq (z b : Nat) (q : Nat × Value) : Nat × Value := (q.1, tr z b q.2)
theorem tr_cat (z b : Nat) (v : Value) : (tr z b v).category = 1 := by cases v <;> rfl
theorem ro_ne {z n : Nat} (h : n ≠ 0) : va_rf (ro z n) = .ref (z + n) := by simp [ro, h, va_rf]
theorem ro_0 {z : Nat} : va_rf (ro z 0) = .null := by simp [ro, va_rf]
def refT : List (List Bool) := [[false, false, false, false, true], [true, true, false], [true, true, false, true, true, true], [false], [false, false, false, true, true, true, true, false, true], [true, false, false, false], [true, true, true, true], [true, true, true, true, true, true, true, true, false, false], [true, false, false, false, true, true, true, true, true, true, true, true, false, true, true, true, true, true, true, true, true, false, false, false, false, false, true, true, true, true, false, true, true, true]]
def isR (ci k : Nat) : Bool := (refT.getD ci []).getD k false
def cN (ci : Nat) : Nat := ([5, 3, 6, 1, 9, 4, 4, 10, 34] : List Nat).getD ci 0
def fv (z : Nat) (F : MI) (G : MN) (a ci k : Nat) : Value := if isR ci k = true then va_rf (ro z (G (40 * ci + k) a)) else .int (F (40 * ci + k) a)
def cOk (z : Nat) (cy : Nat → ClassId) (D : va_G) (N : Nat → Nat) (F : MI) (G : MN) (A : MI) (B : MN) (H : Heap) (a ci : Nat) : Prop :=
  if ci < 9 then t_OB (z + a) (D.1 ci) (cN ci) (D.2 ci) H (fv z F G a ci)
  else if ci < 11 then H[z + a]? = some (arrV (cy ci) (N a) (fun j => .int (A a j)))
  else H[z + a]? = some (arrV (cy ci) (N a) (fun j => va_rf (ro z (B a j))))
def RP (z : Nat) (cy : Nat → ClassId) (D : va_G) (T : SH) (F : MI) (G : MN) (A : MI) (B : MN) (H : Heap) : Prop :=
  H.size = z + T.2.2 + 1 ∧ ∀ a, 1 ≤ a → a ≤ T.2.2 → cOk z cy D T.2.1 F G A B H a (T.1 a)
def At (T : SH) (a ci : Nat) : Prop := 1 ≤ a ∧ a ≤ T.2.2 ∧ T.1 a = ci
def tyL (cy : Nat → ClassId) : List (ClassId × FieldType) := [(cy 9, .byte), (cy 10, .int), (cy 11, .object RX0), (cy 12, .object RX4), (cy 13, .array .int)]
def ClsOk (ci : Nat) (C : String) (TT : u_T) (N : Nat) (ty : Nat → FieldType) : Prop :=
  vwCl[ci]? = some (C, TT, N) ∧ ci < 9 ∧ N = cN ci ∧ (∀ w ∈ u_ws C TT N, w ∈ lw_g) ∧ (∀ k, k < N → parseFieldDescriptor (TT k).2.2.1 = some (ty k)) ∧ (∀ a, a < N → ∀ b, b < N → a ≠ b → (TT a).2.1 ≠ (TT b).2.1) ∧
  (∀ k, k < N → (isR ci k = false ∧ ty k = .int) ∨ (isR ci k = true ∧ (ty k).isReference = true))
theorem cOk_kept {z : Nat} {cy : Nat → ClassId} {D : va_G} {N : Nat → Nat} {F : MI} {G : MN} {A : MI} {B : MN} {H H1 : Heap} {a ci : Nat} (h : cOk z cy D N F G A B H a ci) (h1 : H1[z + a]? = H[z + a]?) : cOk z cy D N F G A B H1 a ci := by
  unfold cOk at h ⊢
  split
  · rename_i hc
    rw [if_pos hc] at h
    exact h.kept h1
  · rename_i hc
    rw [if_neg hc] at h
    rw [h1]
    exact h
theorem cOk_mem {z : Nat} {cy : Nat → ClassId} {D : va_G} {N N' : Nat → Nat} {F F' : MI} {G G' : MN} {A A' : MI} {B B' : MN} {H : Heap} {a ci : Nat} (h : cOk z cy D N F G A B H a ci) (hN : N' a = N a) (hF : ∀ k, F' k a = F k a) (hG : ∀ k, G' k a = G k a) (hA : ∀ j, A' a j = A a j) (hB : ∀ j, B' a j = B a j) : cOk z cy D N' F' G' A' B' H a ci := by
  have e1 : fv z F' G' a ci = fv z F G a ci := by funext k; simp [fv, hF, hG]
  have e2 : (fun j => Value.int (A' a j)) = (fun j => Value.int (A a j)) := by funext j; rw [hA]
  have e3 : (fun j => va_rf (ro z (B' a j))) = (fun j => va_rf (ro z (B a j))) := by funext j; rw [hB]
  unfold cOk at h ⊢
  rw [e1, e2, e3, hN]
  exact h
/-- one cell's words and contents change, all else stays -/
theorem RP.put {z : Nat} {cy : Nat → ClassId} {D : va_G} {T : SH} {F F' : MI} {G G' : MN} {A A' : MI} {B B' : MN} {H H1 : Heap} {a : Nat} (h : RP z cy D T F G A B H) (hz : H1.size = H.size) (oq : ∀ q, q ≠ z + a → H1[q]? = H[q]?)
    (hF : ∀ k x, x ≠ a → F' k x = F k x) (hG : ∀ k x, x ≠ a → G' k x = G k x) (hA : ∀ j x, x ≠ a → A' x j = A x j) (hB : ∀ j x, x ≠ a → B' x j = B x j) (ha : cOk z cy D T.2.1 F' G' A' B' H1 a (T.1 a)) : RP z cy D T F' G' A' B' H1 := by
  refine ⟨hz.trans h.1, fun x h1 h2 => ?_⟩
  by_cases e : x = a
  · subst e
    exact ha
  · exact cOk_kept (cOk_mem (h.2 x h1 h2) rfl (fun k => hF k x e) (fun k => hG k x e) (fun j => hA j x e) (fun j => hB j x e)) (oq _ (by omega))
def QC (z b : Nat) (cy : Nat → ClassId) (D : va_G) (Q : PQ) : Array Value → State → Outcome → State → Prop := fun _ st o t =>
  (∃ (v : Option Value) (T : SH) (F : MI) (G : MN) (A : MI) (B : MN), o = .returned (v.map (tr z b)) ∧ Q v T F G A B ∧ RP z cy D T F G A B t.heap) ∧ va_F (fun q => z < q) st t
def rmL (L ac az : Nat) : Room := { frames := L, cells := ac, slots := az, locals := 64 * L }
/-- what stands in a method's body -/
def ZC (M : MD) (L ac az : Nat) (p : Program) (R : Room) (s : State) (m : MethodId) (args : Array Value) (meth : Method) (c : Code) (z : Nat) (D : va_G) (cy : Nat → ClassId) : Prop :=
  p.tables.exec = Jvm.exec ∧ c.code = M.2.1 ∧ c.maxLocals = M.2.2.1 ∧ s.vm.findClass M.1.cls = some m.cls ∧ (∀ w ∈ lw_g, w.before args s = true) ∧ meth.locks = false ∧ meth.sig.returnType = M.2.2.2 ∧ meth.name = M.1.name ∧ z < s.heap.size ∧ va_K D vwCl (tyL cy) s ∧ L ≤ R.frames ∧ 64 * L ≤ R.locals ∧ ac ≤ R.cells ∧ az ≤ R.slots ∧ NW s
def ZH (M : MD) (ac az rc rs : Nat) (lv : List (Nat × Value)) (T : SH) (F : MI) (G : MN) (A : MI) (B : MN) (s : State) (H : Heap) (locs : List Loc) (cells slots z b : Nat) (D : va_G) (cy : Nat → ClassId) (ls : Array Slot) : Prop :=
  RP z cy D T F G A B H ∧ va_S (fun q => z < q) s.heap H locs ∧ cells + rc ≤ ac ∧ slots + rs ≤ az ∧ lv_has ls M.2.2.1 (lv.map (tq z b))
/-- method M, at pc, with the locals lv and the stack st, in the memory T F G A B, comes to its end with Q; L: frames below it; rc, rs: what it may still make, ac, az: what it may make in all -/
def Z (l : Launch) (M : MD) (L ac az rc rs : Nat) (Q : PQ) (pc : Nat) (lv : List (Nat × Value)) (st : List Value) (T : SH) (F : MI) (G : MN) (A : MI) (B : MN) : Prop :=
  ∀ (p : Program) (e : Env) (R : Room) (s : State) (m : MethodId) (args : Array Value) (below : List Frame) (meth : Method) (c : Code) (H : Heap) (locs : List Loc) (cells slots z b : Nat) (D : va_G) (cy : Nat → ClassId) (ls : Array Slot),
    ZC M L ac az p R s m args meth c z D cy → ZH M ac az rc rs lv T F G A B s H locs cells slots z b D cy ls →
    W p l e R s m args below meth c H locs cells slots (MQ below (QC z b cy D Q) args s ac az (fun q => z < q)) (F0 m pc ls (st.map (tr z b)))
/-- the contract of M at these arguments, in this memory -/
def Cn (l : Launch) (M : MD) (L ac az : Nat) (av : List Value) (T : SH) (F : MI) (G : MN) (A : MI) (B : MN) (Q : PQ) : Prop :=
  ∀ (z b : Nat) (cy : Nat → ClassId) (D : va_G), Met l M.1 (.code M.1 M.2.1 M.2.2.1 M.2.2.2 :: lw_g) (rmL L ac az) (va_Pc (av.map (tr z b)) (fun U => z < U.heap.size ∧ RP z cy D T F G A B U.heap ∧ va_K D vwCl (tyL cy) U ∧ NW U)) (QC z b cy D Q) ac az (fun q => z < q)
theorem lv_mono {ls : Array Slot} {n : Nat} {l l' : List (Nat × Value)} (h : lv_has ls n l) (hs : ∀ q ∈ l', q ∈ l) : lv_has ls n l' := ⟨h.1, h.2.1, fun q hq => h.2.2 q (hs q hq)⟩
/-- the locals, by number; one of them set -/
def lins (i : Nat) (v : Value) : List (Nat × Value) → List (Nat × Value)
  | [] => [(i, v)]
  | q :: r => if i < q.1 then (i, v) :: q :: r else q :: lins i v r
def lset (lv : List (Nat × Value)) (i : Nat) (v : Value) : List (Nat × Value) := lins i v (lv.filter (fun q => !(q.1 == i)))
theorem lins_mem {i : Nat} {v : Value} {q : Nat × Value} : ∀ {lv : List (Nat × Value)}, q ∈ lins i v lv → q = (i, v) ∨ q ∈ lv
  | [], h => Or.inl (List.mem_singleton.mp h)
  | x :: r, h => by
    unfold lins at h
    split at h
    · rcases List.mem_cons.mp h with h | h
      · exact Or.inl h
      · exact Or.inr h
    · rcases List.mem_cons.mp h with h | h
      · exact Or.inr (by rw [h]; exact List.mem_cons_self)
      · rcases lins_mem h with h | h
        · exact Or.inl h
        · exact Or.inr (List.mem_cons_of_mem _ h)
theorem lset_has {ls : Array Slot} {n z b i : Nat} {lv : List (Nat × Value)} {v : Value} (h : lv_has ls n ((i, tr z b v) :: (lv.map (tq z b)).filter (fun q => !(q.1 == i) && !(q.1 + 1 == i && q.2.category == 2)))) : lv_has ls n ((lset lv i v).map (tq z b)) := by
  refine lv_mono h (fun q hq => ?_)
  obtain ⟨x, hx, rfl⟩ := List.mem_map.mp hq
  rcases lins_mem hx with rfl | hx
  · exact List.mem_cons_self
  · obtain ⟨h1, h2⟩ := List.mem_filter.mp hx
    refine List.mem_cons_of_mem _ (List.mem_filter.mpr ⟨List.mem_map.mpr ⟨x, h1, rfl⟩, ?_⟩)
    have : (tr z b x.2).category = 1 := tr_cat z b x.2
    simp only [Bool.not_eq_true', beq_eq_false_iff_ne] at h2
    simp [this, tq, h2]
theorem lget {ls : Array Slot} {n z b k i : Nat} {lv : List (Nat × Value)} {v : Value} (h : lv_has ls n (lv.map (tq z b))) (hk : lv[k]? = some (i, v)) : ls[i]? = some (.val (tr z b v)) :=
  lv_at h k (i := i) (v := tr z b v) (by rw [List.getElem?_map, hk]; rfl)
end
section
theorem z_iconst {l : Launch} {M : MD} {L ac az rc rs : Nat} {Q : PQ} {pc : Nat} {lv : List (Nat × Value)} {st : List Value} {T : SH} {F : MI} {G : MN} {A : MI} {B : MN} {n : Int} {v : Int32} (hd : decode M.2.1 pc = .ok (.iconst n, 1)) (hv : Int32.ofInt n = v) (kk : Z l M L ac az rc rs Q (pc + 1) lv (.int v :: st) T F G A B) : Z l M L ac az rc rs Q pc lv st T F G A B := by
  intro p e R s m args below meth c H locs cells slots z b D cy ls X Y
  exact lv_iconst X.1 X.2.1 hd hv (kk p e R s m args below meth c H locs cells slots z b D cy ls X Y)
theorem z_bipush {l : Launch} {M : MD} {L ac az rc rs : Nat} {Q : PQ} {pc : Nat} {lv : List (Nat × Value)} {st : List Value} {T : SH} {F : MI} {G : MN} {A : MI} {B : MN} {n : Int} {v : Int32} (hd : decode M.2.1 pc = .ok (.bipush n, 2)) (hv : (Int8.ofInt n).toInt32 = v) (kk : Z l M L ac az rc rs Q (pc + 2) lv (.int v :: st) T F G A B) : Z l M L ac az rc rs Q pc lv st T F G A B := by
  intro p e R s m args below meth c H locs cells slots z b D cy ls X Y
  exact lv_bipush X.1 X.2.1 hd hv (kk p e R s m args below meth c H locs cells slots z b D cy ls X Y)
theorem z_sipush {l : Launch} {M : MD} {L ac az rc rs : Nat} {Q : PQ} {pc : Nat} {lv : List (Nat × Value)} {st : List Value} {T : SH} {F : MI} {G : MN} {A : MI} {B : MN} {n : Int} {v : Int32} (hd : decode M.2.1 pc = .ok (.sipush n, 3)) (hv : (Int16.ofInt n).toInt32 = v) (kk : Z l M L ac az rc rs Q (pc + 3) lv (.int v :: st) T F G A B) : Z l M L ac az rc rs Q pc lv st T F G A B := by
  intro p e R s m args below meth c H locs cells slots z b D cy ls X Y
  exact lv_sipush X.1 X.2.1 hd hv (kk p e R s m args below meth c H locs cells slots z b D cy ls X Y)
theorem z_ldc {l : Launch} {M : MD} {L ac az rc rs : Nat} {Q : PQ} {pc : Nat} {lv : List (Nat × Value)} {st : List Value} {T : SH} {F : MI} {G : MN} {A : MI} {B : MN} {idx : Nat} {v : Int32} (hd : decode M.2.1 pc = .ok (.ldc idx, 2)) (hm : Cond.constant M.1.cls idx v ∈ lw_g) (kk : Z l M L ac az rc rs Q (pc + 2) lv (.int v :: st) T F G A B) : Z l M L ac az rc rs Q pc lv st T F G A B := by
  intro p e R s m args below meth c H locs cells slots z b D cy ls X Y
  exact lv_ldc X.1 X.2.1 X.2.2.2.1 (X.2.2.2.2.1 _ hm) hd (kk p e R s m args below meth c H locs cells slots z b D cy ls X Y)
theorem z_ldcw {l : Launch} {M : MD} {L ac az rc rs : Nat} {Q : PQ} {pc : Nat} {lv : List (Nat × Value)} {st : List Value} {T : SH} {F : MI} {G : MN} {A : MI} {B : MN} {idx : Nat} {v : Int32} (hd : decode M.2.1 pc = .ok (.ldc_w idx, 3)) (hm : Cond.constant M.1.cls idx v ∈ lw_g) (kk : Z l M L ac az rc rs Q (pc + 3) lv (.int v :: st) T F G A B) : Z l M L ac az rc rs Q pc lv st T F G A B := by
  intro p e R s m args below meth c H locs cells slots z b D cy ls X Y
  exact lv_ldcw X.1 X.2.1 X.2.2.2.1 (X.2.2.2.2.1 _ hm) hd (kk p e R s m args below meth c H locs cells slots z b D cy ls X Y)
theorem z_null {l : Launch} {M : MD} {L ac az rc rs : Nat} {Q : PQ} {pc : Nat} {lv : List (Nat × Value)} {st : List Value} {T : SH} {F : MI} {G : MN} {A : MI} {B : MN}  (hd : decode M.2.1 pc = .ok (.aconst_null, 1))  (kk : Z l M L ac az rc rs Q (pc + 1) lv (.null :: st) T F G A B) : Z l M L ac az rc rs Q pc lv st T F G A B := by
  intro p e R s m args below meth c H locs cells slots z b D cy ls X Y
  exact lv_null X.1 X.2.1 hd (kk p e R s m args below meth c H locs cells slots z b D cy ls X Y)
theorem z_iload_n {l : Launch} {M : MD} {L ac az rc rs : Nat} {Q : PQ} {pc : Nat} {lv : List (Nat × Value)} {st : List Value} {T : SH} {F : MI} {G : MN} {A : MI} {B : MN} {k : Fin 4} {x : Int32} (hd : decode M.2.1 pc = .ok (.iload_n k, 1)) (q : Nat) {i : Nat} (hi : (k : Nat) = i) (hl : lv[q]? = some (i, .int x)) (kk : Z l M L ac az rc rs Q (pc + 1) lv (.int x :: st) T F G A B) : Z l M L ac az rc rs Q pc lv st T F G A B := by
  intro p e R s m args below meth c H locs cells slots z b D cy ls X Y
  exact lv_iload_n X.1 X.2.1 hd hi (lget Y.2.2.2.2 hl) (kk p e R s m args below meth c H locs cells slots z b D cy ls X Y)
theorem z_iload {l : Launch} {M : MD} {L ac az rc rs : Nat} {Q : PQ} {pc : Nat} {lv : List (Nat × Value)} {st : List Value} {T : SH} {F : MI} {G : MN} {A : MI} {B : MN} {i : Nat} {x : Int32} (hd : decode M.2.1 pc = .ok (.iload i, 2)) (q : Nat) (hl : lv[q]? = some (i, .int x)) (kk : Z l M L ac az rc rs Q (pc + 2) lv (.int x :: st) T F G A B) : Z l M L ac az rc rs Q pc lv st T F G A B := by
  intro p e R s m args below meth c H locs cells slots z b D cy ls X Y
  exact lv_iload X.1 X.2.1 hd (lget Y.2.2.2.2 hl) (kk p e R s m args below meth c H locs cells slots z b D cy ls X Y)
theorem z_aload_n {l : Launch} {M : MD} {L ac az rc rs : Nat} {Q : PQ} {pc : Nat} {lv : List (Nat × Value)} {st : List Value} {T : SH} {F : MI} {G : MN} {A : MI} {B : MN} {k : Fin 4} {x : Nat} (hd : decode M.2.1 pc = .ok (.aload_n k, 1)) (q : Nat) {i : Nat} (hi : (k : Nat) = i) (hl : lv[q]? = some (i, .ref x)) (kk : Z l M L ac az rc rs Q (pc + 1) lv (.ref x :: st) T F G A B) : Z l M L ac az rc rs Q pc lv st T F G A B := by
  intro p e R s m args below meth c H locs cells slots z b D cy ls X Y
  exact lv_aload_n X.1 X.2.1 hd hi (lget Y.2.2.2.2 hl) (kk p e R s m args below meth c H locs cells slots z b D cy ls X Y)
theorem z_aload {l : Launch} {M : MD} {L ac az rc rs : Nat} {Q : PQ} {pc : Nat} {lv : List (Nat × Value)} {st : List Value} {T : SH} {F : MI} {G : MN} {A : MI} {B : MN} {i : Nat} {x : Nat} (hd : decode M.2.1 pc = .ok (.aload i, 2)) (q : Nat) (hl : lv[q]? = some (i, .ref x)) (kk : Z l M L ac az rc rs Q (pc + 2) lv (.ref x :: st) T F G A B) : Z l M L ac az rc rs Q pc lv st T F G A B := by
  intro p e R s m args below meth c H locs cells slots z b D cy ls X Y
  exact lv_aload X.1 X.2.1 hd (lget Y.2.2.2.2 hl) (kk p e R s m args below meth c H locs cells slots z b D cy ls X Y)
theorem z_aload_nN {l : Launch} {M : MD} {L ac az rc rs : Nat} {Q : PQ} {pc : Nat} {lv : List (Nat × Value)} {st : List Value} {T : SH} {F : MI} {G : MN} {A : MI} {B : MN} {k : Fin 4} (hd : decode M.2.1 pc = .ok (.aload_n k, 1)) (q : Nat) {i : Nat} (hi : (k : Nat) = i) (hl : lv[q]? = some (i, .null)) (kk : Z l M L ac az rc rs Q (pc + 1) lv (.null :: st) T F G A B) : Z l M L ac az rc rs Q pc lv st T F G A B := by
  intro p e R s m args below meth c H locs cells slots z b D cy ls X Y
  exact lv_aload_nN X.1 X.2.1 hd hi (lget Y.2.2.2.2 hl) (kk p e R s m args below meth c H locs cells slots z b D cy ls X Y)
theorem z_aload_nS {l : Launch} {M : MD} {L ac az rc rs : Nat} {Q : PQ} {pc : Nat} {lv : List (Nat × Value)} {st : List Value} {T : SH} {F : MI} {G : MN} {A : MI} {B : MN} {k : Fin 4} {x : Int64} (hd : decode M.2.1 pc = .ok (.aload_n k, 1)) (q : Nat) {i : Nat} (hi : (k : Nat) = i) (hl : lv[q]? = some (i, .long x)) (kk : Z l M L ac az rc rs Q (pc + 1) lv (.long x :: st) T F G A B) : Z l M L ac az rc rs Q pc lv st T F G A B := by
  intro p e R s m args below meth c H locs cells slots z b D cy ls X Y
  exact lv_aload_n X.1 X.2.1 hd hi (lget Y.2.2.2.2 hl) (kk p e R s m args below meth c H locs cells slots z b D cy ls X Y)
theorem z_istore_n {l : Launch} {M : MD} {L ac az rc rs : Nat} {Q : PQ} {pc : Nat} {lv : List (Nat × Value)} {st : List Value} {T : SH} {F : MI} {G : MN} {A : MI} {B : MN} {k : Fin 4} {i : Nat} {x : Int32} {lv' : List (Nat × Value)} (hd : decode M.2.1 pc = .ok (.istore_n k, 1)) (hi : (k : Nat) = i) (hn : i < M.2.2.1) (hl : lset lv i (.int x) = lv') (kk : Z l M L ac az rc rs Q (pc + 1) lv' st T F G A B) : Z l M L ac az rc rs Q pc lv (.int x :: st) T F G A B := by
  intro p e R s m args below meth c H locs cells slots z b D cy ls X Y
  subst hl
  exact lv_istore_n X.1 X.2.1 hd hi Y.2.2.2.2 hn rfl (fun ls' h' => kk p e R s m args below meth c H locs cells slots z b D cy ls' X ⟨Y.1, Y.2.1, Y.2.2.1, Y.2.2.2.1, lset_has h'⟩)
theorem z_istore {l : Launch} {M : MD} {L ac az rc rs : Nat} {Q : PQ} {pc : Nat} {lv : List (Nat × Value)} {st : List Value} {T : SH} {F : MI} {G : MN} {A : MI} {B : MN} {i : Nat} {x : Int32} {lv' : List (Nat × Value)} (hd : decode M.2.1 pc = .ok (.istore i, 2)) (hn : i < M.2.2.1) (hl : lset lv i (.int x) = lv') (kk : Z l M L ac az rc rs Q (pc + 2) lv' st T F G A B) : Z l M L ac az rc rs Q pc lv (.int x :: st) T F G A B := by
  intro p e R s m args below meth c H locs cells slots z b D cy ls X Y
  subst hl
  exact lv_istore X.1 X.2.1 hd Y.2.2.2.2 hn rfl (fun ls' h' => kk p e R s m args below meth c H locs cells slots z b D cy ls' X ⟨Y.1, Y.2.1, Y.2.2.1, Y.2.2.2.1, lset_has h'⟩)
theorem z_astore_n {l : Launch} {M : MD} {L ac az rc rs : Nat} {Q : PQ} {pc : Nat} {lv : List (Nat × Value)} {st : List Value} {T : SH} {F : MI} {G : MN} {A : MI} {B : MN} {k : Fin 4} {i : Nat} {x : Nat} {lv' : List (Nat × Value)} (hd : decode M.2.1 pc = .ok (.astore_n k, 1)) (hi : (k : Nat) = i) (hn : i < M.2.2.1) (hl : lset lv i (.ref x) = lv') (kk : Z l M L ac az rc rs Q (pc + 1) lv' st T F G A B) : Z l M L ac az rc rs Q pc lv (.ref x :: st) T F G A B := by
  intro p e R s m args below meth c H locs cells slots z b D cy ls X Y
  subst hl
  exact lv_astore_n X.1 X.2.1 hd hi Y.2.2.2.2 hn rfl (fun ls' h' => kk p e R s m args below meth c H locs cells slots z b D cy ls' X ⟨Y.1, Y.2.1, Y.2.2.1, Y.2.2.2.1, lset_has h'⟩)
theorem z_astore {l : Launch} {M : MD} {L ac az rc rs : Nat} {Q : PQ} {pc : Nat} {lv : List (Nat × Value)} {st : List Value} {T : SH} {F : MI} {G : MN} {A : MI} {B : MN} {i : Nat} {x : Nat} {lv' : List (Nat × Value)} (hd : decode M.2.1 pc = .ok (.astore i, 2)) (hn : i < M.2.2.1) (hl : lset lv i (.ref x) = lv') (kk : Z l M L ac az rc rs Q (pc + 2) lv' st T F G A B) : Z l M L ac az rc rs Q pc lv (.ref x :: st) T F G A B := by
  intro p e R s m args below meth c H locs cells slots z b D cy ls X Y
  subst hl
  exact lv_astore X.1 X.2.1 hd Y.2.2.2.2 hn rfl (fun ls' h' => kk p e R s m args below meth c H locs cells slots z b D cy ls' X ⟨Y.1, Y.2.1, Y.2.2.1, Y.2.2.2.1, lset_has h'⟩)
theorem z_astore_nN {l : Launch} {M : MD} {L ac az rc rs : Nat} {Q : PQ} {pc : Nat} {lv : List (Nat × Value)} {st : List Value} {T : SH} {F : MI} {G : MN} {A : MI} {B : MN} {k : Fin 4} {i : Nat} {lv' : List (Nat × Value)} (hd : decode M.2.1 pc = .ok (.astore_n k, 1)) (hi : (k : Nat) = i) (hn : i < M.2.2.1) (hl : lset lv i (.null) = lv') (kk : Z l M L ac az rc rs Q (pc + 1) lv' st T F G A B) : Z l M L ac az rc rs Q pc lv (.null :: st) T F G A B := by
  intro p e R s m args below meth c H locs cells slots z b D cy ls X Y
  subst hl
  exact lv_astore_nN X.1 X.2.1 hd hi Y.2.2.2.2 hn rfl (fun ls' h' => kk p e R s m args below meth c H locs cells slots z b D cy ls' X ⟨Y.1, Y.2.1, Y.2.2.1, Y.2.2.2.1, lset_has h'⟩)
theorem z_iinc {l : Launch} {M : MD} {L ac az rc rs : Nat} {Q : PQ} {pc : Nat} {lv : List (Nat × Value)} {st : List Value} {T : SH} {F : MI} {G : MN} {A : MI} {B : MN} {lv' : List (Nat × Value)} {i : Nat} {n : Int} {x v : Int32} (hd : decode M.2.1 pc = .ok (.iinc i n, 3)) (q : Nat) (hk : lv[q]? = some (i, .int x)) (hv : x + Int32.ofInt n = v) (hn : i < M.2.2.1) (hl : lset lv i (.int v) = lv') (kk : Z l M L ac az rc rs Q (pc + 3) lv' st T F G A B) : Z l M L ac az rc rs Q pc lv st T F G A B := by
  intro p e R s m args below meth c H locs cells slots z b D cy ls X Y
  subst hl
  exact lv_iinc (k := q) X.1 X.2.1 hd Y.2.2.2.2 (by rw [List.getElem?_map, hk]; rfl) hv hn rfl (fun ls' h' => kk p e R s m args below meth c H locs cells slots z b D cy ls' X ⟨Y.1, Y.2.1, Y.2.2.1, Y.2.2.2.1, lset_has h'⟩)
theorem z_iadd {l : Launch} {M : MD} {L ac az rc rs : Nat} {Q : PQ} {pc : Nat} {lv : List (Nat × Value)} {st : List Value} {T : SH} {F : MI} {G : MN} {A : MI} {B : MN} {x y : Int32} (hd : decode M.2.1 pc = .ok (.iadd, 1))  (kk : Z l M L ac az rc rs Q (pc + 1) lv (.int (x + y) :: st) T F G A B) : Z l M L ac az rc rs Q pc lv (.int y :: .int x :: st) T F G A B := by
  intro p e R s m args below meth c H locs cells slots z b D cy ls X Y
  exact lv_iadd X.1 X.2.1 hd (kk p e R s m args below meth c H locs cells slots z b D cy ls X Y)
theorem z_isub {l : Launch} {M : MD} {L ac az rc rs : Nat} {Q : PQ} {pc : Nat} {lv : List (Nat × Value)} {st : List Value} {T : SH} {F : MI} {G : MN} {A : MI} {B : MN} {x y : Int32} (hd : decode M.2.1 pc = .ok (.isub, 1))  (kk : Z l M L ac az rc rs Q (pc + 1) lv (.int (x - y) :: st) T F G A B) : Z l M L ac az rc rs Q pc lv (.int y :: .int x :: st) T F G A B := by
  intro p e R s m args below meth c H locs cells slots z b D cy ls X Y
  exact lv_isub X.1 X.2.1 hd (kk p e R s m args below meth c H locs cells slots z b D cy ls X Y)
theorem z_imul {l : Launch} {M : MD} {L ac az rc rs : Nat} {Q : PQ} {pc : Nat} {lv : List (Nat × Value)} {st : List Value} {T : SH} {F : MI} {G : MN} {A : MI} {B : MN} {x y : Int32} (hd : decode M.2.1 pc = .ok (.imul, 1))  (kk : Z l M L ac az rc rs Q (pc + 1) lv (.int (x * y) :: st) T F G A B) : Z l M L ac az rc rs Q pc lv (.int y :: .int x :: st) T F G A B := by
  intro p e R s m args below meth c H locs cells slots z b D cy ls X Y
  exact lv_imul X.1 X.2.1 hd (kk p e R s m args below meth c H locs cells slots z b D cy ls X Y)
theorem z_iand {l : Launch} {M : MD} {L ac az rc rs : Nat} {Q : PQ} {pc : Nat} {lv : List (Nat × Value)} {st : List Value} {T : SH} {F : MI} {G : MN} {A : MI} {B : MN} {x y : Int32} (hd : decode M.2.1 pc = .ok (.iand, 1))  (kk : Z l M L ac az rc rs Q (pc + 1) lv (.int (x &&& y) :: st) T F G A B) : Z l M L ac az rc rs Q pc lv (.int y :: .int x :: st) T F G A B := by
  intro p e R s m args below meth c H locs cells slots z b D cy ls X Y
  exact lv_iand X.1 X.2.1 hd (kk p e R s m args below meth c H locs cells slots z b D cy ls X Y)
theorem z_ior {l : Launch} {M : MD} {L ac az rc rs : Nat} {Q : PQ} {pc : Nat} {lv : List (Nat × Value)} {st : List Value} {T : SH} {F : MI} {G : MN} {A : MI} {B : MN} {x y : Int32} (hd : decode M.2.1 pc = .ok (.ior, 1))  (kk : Z l M L ac az rc rs Q (pc + 1) lv (.int (x ||| y) :: st) T F G A B) : Z l M L ac az rc rs Q pc lv (.int y :: .int x :: st) T F G A B := by
  intro p e R s m args below meth c H locs cells slots z b D cy ls X Y
  exact lv_ior X.1 X.2.1 hd (kk p e R s m args below meth c H locs cells slots z b D cy ls X Y)
theorem z_ixor {l : Launch} {M : MD} {L ac az rc rs : Nat} {Q : PQ} {pc : Nat} {lv : List (Nat × Value)} {st : List Value} {T : SH} {F : MI} {G : MN} {A : MI} {B : MN} {x y : Int32} (hd : decode M.2.1 pc = .ok (.ixor, 1))  (kk : Z l M L ac az rc rs Q (pc + 1) lv (.int (x ^^^ y) :: st) T F G A B) : Z l M L ac az rc rs Q pc lv (.int y :: .int x :: st) T F G A B := by
  intro p e R s m args below meth c H locs cells slots z b D cy ls X Y
  exact lv_ixor X.1 X.2.1 hd (kk p e R s m args below meth c H locs cells slots z b D cy ls X Y)
theorem z_ishl {l : Launch} {M : MD} {L ac az rc rs : Nat} {Q : PQ} {pc : Nat} {lv : List (Nat × Value)} {st : List Value} {T : SH} {F : MI} {G : MN} {A : MI} {B : MN} {x y : Int32} (hd : decode M.2.1 pc = .ok (.ishl, 1))  (kk : Z l M L ac az rc rs Q (pc + 1) lv (.int (x <<< (y &&& 31)) :: st) T F G A B) : Z l M L ac az rc rs Q pc lv (.int y :: .int x :: st) T F G A B := by
  intro p e R s m args below meth c H locs cells slots z b D cy ls X Y
  exact lv_ishl X.1 X.2.1 hd (kk p e R s m args below meth c H locs cells slots z b D cy ls X Y)
theorem z_ishr {l : Launch} {M : MD} {L ac az rc rs : Nat} {Q : PQ} {pc : Nat} {lv : List (Nat × Value)} {st : List Value} {T : SH} {F : MI} {G : MN} {A : MI} {B : MN} {x y : Int32} (hd : decode M.2.1 pc = .ok (.ishr, 1))  (kk : Z l M L ac az rc rs Q (pc + 1) lv (.int (x >>> (y &&& 31)) :: st) T F G A B) : Z l M L ac az rc rs Q pc lv (.int y :: .int x :: st) T F G A B := by
  intro p e R s m args below meth c H locs cells slots z b D cy ls X Y
  exact lv_ishr X.1 X.2.1 hd (kk p e R s m args below meth c H locs cells slots z b D cy ls X Y)
theorem z_iushr {l : Launch} {M : MD} {L ac az rc rs : Nat} {Q : PQ} {pc : Nat} {lv : List (Nat × Value)} {st : List Value} {T : SH} {F : MI} {G : MN} {A : MI} {B : MN} {x y : Int32} (hd : decode M.2.1 pc = .ok (.iushr, 1))  (kk : Z l M L ac az rc rs Q (pc + 1) lv (.int (x.toUInt32 >>> (y.toUInt32 &&& Int32.toUInt32 31)).toInt32 :: st) T F G A B) : Z l M L ac az rc rs Q pc lv (.int y :: .int x :: st) T F G A B := by
  intro p e R s m args below meth c H locs cells slots z b D cy ls X Y
  exact lv_iushr X.1 X.2.1 hd rfl (kk p e R s m args below meth c H locs cells slots z b D cy ls X Y)
theorem z_idiv {l : Launch} {M : MD} {L ac az rc rs : Nat} {Q : PQ} {pc : Nat} {lv : List (Nat × Value)} {st : List Value} {T : SH} {F : MI} {G : MN} {A : MI} {B : MN} {x y : Int32} (hd : decode M.2.1 pc = .ok (.idiv, 1)) (hne : ¬ y = 0) (kk : Z l M L ac az rc rs Q (pc + 1) lv (.int (x / y) :: st) T F G A B) : Z l M L ac az rc rs Q pc lv (.int y :: .int x :: st) T F G A B := by
  intro p e R s m args below meth c H locs cells slots z b D cy ls X Y
  exact lv_idiv X.1 X.2.1 hd hne (kk p e R s m args below meth c H locs cells slots z b D cy ls X Y)
theorem z_ineg {l : Launch} {M : MD} {L ac az rc rs : Nat} {Q : PQ} {pc : Nat} {lv : List (Nat × Value)} {st : List Value} {T : SH} {F : MI} {G : MN} {A : MI} {B : MN} {x : Int32} (hd : decode M.2.1 pc = .ok (.ineg, 1))  (kk : Z l M L ac az rc rs Q (pc + 1) lv (.int (-x) :: st) T F G A B) : Z l M L ac az rc rs Q pc lv (.int x :: st) T F G A B := by
  intro p e R s m args below meth c H locs cells slots z b D cy ls X Y
  exact lv_ineg X.1 X.2.1 hd (kk p e R s m args below meth c H locs cells slots z b D cy ls X Y)
theorem z_i2b {l : Launch} {M : MD} {L ac az rc rs : Nat} {Q : PQ} {pc : Nat} {lv : List (Nat × Value)} {st : List Value} {T : SH} {F : MI} {G : MN} {A : MI} {B : MN} {x : Int32} (hd : decode M.2.1 pc = .ok (.i2b, 1))  (kk : Z l M L ac az rc rs Q (pc + 1) lv (.int x.toInt8.toInt32 :: st) T F G A B) : Z l M L ac az rc rs Q pc lv (.int x :: st) T F G A B := by
  intro p e R s m args below meth c H locs cells slots z b D cy ls X Y
  exact lv_i2b X.1 X.2.1 hd rfl (kk p e R s m args below meth c H locs cells slots z b D cy ls X Y)
theorem z_dup {l : Launch} {M : MD} {L ac az rc rs : Nat} {Q : PQ} {pc : Nat} {lv : List (Nat × Value)} {st : List Value} {T : SH} {F : MI} {G : MN} {A : MI} {B : MN} {v : Value} (hd : decode M.2.1 pc = .ok (.dup, 1))  (kk : Z l M L ac az rc rs Q (pc + 1) lv (v :: v :: st) T F G A B) : Z l M L ac az rc rs Q pc lv (v :: st) T F G A B := by
  intro p e R s m args below meth c H locs cells slots z b D cy ls X Y
  exact lv_dup X.1 X.2.1 hd (tr_cat z b v) (kk p e R s m args below meth c H locs cells slots z b D cy ls X Y)
theorem z_dup2 {l : Launch} {M : MD} {L ac az rc rs : Nat} {Q : PQ} {pc : Nat} {lv : List (Nat × Value)} {st : List Value} {T : SH} {F : MI} {G : MN} {A : MI} {B : MN} {v w : Value} (hd : decode M.2.1 pc = .ok (.dup2, 1))  (kk : Z l M L ac az rc rs Q (pc + 1) lv (v :: w :: v :: w :: st) T F G A B) : Z l M L ac az rc rs Q pc lv (v :: w :: st) T F G A B := by
  intro p e R s m args below meth c H locs cells slots z b D cy ls X Y
  exact lv_dup2_11 X.1 X.2.1 hd (tr_cat z b v) (tr_cat z b w) (kk p e R s m args below meth c H locs cells slots z b D cy ls X Y)
theorem z_goto {l : Launch} {M : MD} {L ac az rc rs : Nat} {Q : PQ} {pc : Nat} {lv : List (Nat × Value)} {st : List Value} {T : SH} {F : MI} {G : MN} {A : MI} {B : MN} {off : Int} {tgt : Nat} (hd : decode M.2.1 pc = .ok (.goto off, 3)) (ht : (pc : Int) + off = (tgt : Int)) (kk : Z l M L ac az rc rs Q tgt lv st T F G A B) : Z l M L ac az rc rs Q pc lv st T F G A B := by
  intro p e R s m args below meth c H locs cells slots z b D cy ls X Y
  exact lv_goto X.1 X.2.1 hd ht (kk p e R s m args below meth c H locs cells slots z b D cy ls X Y)
theorem z_ifnull {l : Launch} {M : MD} {L ac az rc rs : Nat} {Q : PQ} {pc : Nat} {lv : List (Nat × Value)} {st : List Value} {T : SH} {F : MI} {G : MN} {A : MI} {B : MN} {off : Int} {x : Nat} (hd : decode M.2.1 pc = .ok (.ifnull off, 3))  (kk : Z l M L ac az rc rs Q (pc + 3) lv st T F G A B) : Z l M L ac az rc rs Q pc lv (.ref x :: st) T F G A B := by
  intro p e R s m args below meth c H locs cells slots z b D cy ls X Y
  exact lv_ifnull X.1 X.2.1 hd (kk p e R s m args below meth c H locs cells slots z b D cy ls X Y)
theorem z_ifnonnull {l : Launch} {M : MD} {L ac az rc rs : Nat} {Q : PQ} {pc : Nat} {lv : List (Nat × Value)} {st : List Value} {T : SH} {F : MI} {G : MN} {A : MI} {B : MN} {off : Int} {x tgt : Nat} (hd : decode M.2.1 pc = .ok (.ifnonnull off, 3)) (ht : (pc : Int) + off = (tgt : Int)) (kk : Z l M L ac az rc rs Q tgt lv st T F G A B) : Z l M L ac az rc rs Q pc lv (.ref x :: st) T F G A B := by
  intro p e R s m args below meth c H locs cells slots z b D cy ls X Y
  exact lv_ifnonnull X.1 X.2.1 hd ht (kk p e R s m args below meth c H locs cells slots z b D cy ls X Y)
theorem z_ifnullN {l : Launch} {M : MD} {L ac az rc rs : Nat} {Q : PQ} {pc : Nat} {lv : List (Nat × Value)} {st : List Value} {T : SH} {F : MI} {G : MN} {A : MI} {B : MN} {off : Int} {tgt : Nat} (hd : decode M.2.1 pc = .ok (.ifnull off, 3)) (ht : (pc : Int) + off = (tgt : Int)) (kk : Z l M L ac az rc rs Q tgt lv st T F G A B) : Z l M L ac az rc rs Q pc lv (.null :: st) T F G A B := by
  intro p e R s m args below meth c H locs cells slots z b D cy ls X Y
  exact lv_ifnullN X.1 X.2.1 hd ht (kk p e R s m args below meth c H locs cells slots z b D cy ls X Y)
theorem z_ifnonnullN {l : Launch} {M : MD} {L ac az rc rs : Nat} {Q : PQ} {pc : Nat} {lv : List (Nat × Value)} {st : List Value} {T : SH} {F : MI} {G : MN} {A : MI} {B : MN} {off : Int} (hd : decode M.2.1 pc = .ok (.ifnonnull off, 3))  (kk : Z l M L ac az rc rs Q (pc + 3) lv st T F G A B) : Z l M L ac az rc rs Q pc lv (.null :: st) T F G A B := by
  intro p e R s m args below meth c H locs cells slots z b D cy ls X Y
  exact lv_ifnonnullN X.1 X.2.1 hd (kk p e R s m args below meth c H locs cells slots z b D cy ls X Y)
theorem z_if_eq {l : Launch} {M : MD} {L ac az rc rs : Nat} {Q : PQ} {pc : Nat} {lv : List (Nat × Value)} {st : List Value} {T : SH} {F : MI} {G : MN} {A : MI} {B : MN} {x : Int32} {off : Int} {tgt : Nat} (hd : decode M.2.1 pc = .ok (.ifCond .eq off, 3)) (ht : (pc : Int) + off = (tgt : Int)) (kt : x = 0 → Z l M L ac az rc rs Q tgt lv st T F G A B) (kf : ¬ x = 0 → Z l M L ac az rc rs Q (pc + 3) lv st T F G A B) : Z l M L ac az rc rs Q pc lv (.int x :: st) T F G A B := by
  intro p e R s m args below meth c H locs cells slots z b D cy ls X Y
  exact lv_if_eq X.1 X.2.1 hd ht (fun h => kt h p e R s m args below meth c H locs cells slots z b D cy ls X Y) (fun h => kf h p e R s m args below meth c H locs cells slots z b D cy ls X Y)
theorem z_icmp_eq {l : Launch} {M : MD} {L ac az rc rs : Nat} {Q : PQ} {pc : Nat} {lv : List (Nat × Value)} {st : List Value} {T : SH} {F : MI} {G : MN} {A : MI} {B : MN} {x y : Int32} {off : Int} {tgt : Nat} (hd : decode M.2.1 pc = .ok (.if_icmp .eq off, 3)) (ht : (pc : Int) + off = (tgt : Int)) (kt : x = y → Z l M L ac az rc rs Q tgt lv st T F G A B) (kf : ¬ x = y → Z l M L ac az rc rs Q (pc + 3) lv st T F G A B) : Z l M L ac az rc rs Q pc lv (.int y :: .int x :: st) T F G A B := by
  intro p e R s m args below meth c H locs cells slots z b D cy ls X Y
  exact lv_icmp_eq X.1 X.2.1 hd ht (fun h => kt h p e R s m args below meth c H locs cells slots z b D cy ls X Y) (fun h => kf h p e R s m args below meth c H locs cells slots z b D cy ls X Y)
theorem z_if_ne {l : Launch} {M : MD} {L ac az rc rs : Nat} {Q : PQ} {pc : Nat} {lv : List (Nat × Value)} {st : List Value} {T : SH} {F : MI} {G : MN} {A : MI} {B : MN} {x : Int32} {off : Int} {tgt : Nat} (hd : decode M.2.1 pc = .ok (.ifCond .ne off, 3)) (ht : (pc : Int) + off = (tgt : Int)) (kt : ¬ x = 0 → Z l M L ac az rc rs Q tgt lv st T F G A B) (kf : x = 0 → Z l M L ac az rc rs Q (pc + 3) lv st T F G A B) : Z l M L ac az rc rs Q pc lv (.int x :: st) T F G A B := by
  intro p e R s m args below meth c H locs cells slots z b D cy ls X Y
  exact lv_if_ne X.1 X.2.1 hd ht (fun h => kt h p e R s m args below meth c H locs cells slots z b D cy ls X Y) (fun h => kf h p e R s m args below meth c H locs cells slots z b D cy ls X Y)
theorem z_icmp_ne {l : Launch} {M : MD} {L ac az rc rs : Nat} {Q : PQ} {pc : Nat} {lv : List (Nat × Value)} {st : List Value} {T : SH} {F : MI} {G : MN} {A : MI} {B : MN} {x y : Int32} {off : Int} {tgt : Nat} (hd : decode M.2.1 pc = .ok (.if_icmp .ne off, 3)) (ht : (pc : Int) + off = (tgt : Int)) (kt : ¬ x = y → Z l M L ac az rc rs Q tgt lv st T F G A B) (kf : x = y → Z l M L ac az rc rs Q (pc + 3) lv st T F G A B) : Z l M L ac az rc rs Q pc lv (.int y :: .int x :: st) T F G A B := by
  intro p e R s m args below meth c H locs cells slots z b D cy ls X Y
  exact lv_icmp_ne X.1 X.2.1 hd ht (fun h => kt h p e R s m args below meth c H locs cells slots z b D cy ls X Y) (fun h => kf h p e R s m args below meth c H locs cells slots z b D cy ls X Y)
theorem z_if_lt {l : Launch} {M : MD} {L ac az rc rs : Nat} {Q : PQ} {pc : Nat} {lv : List (Nat × Value)} {st : List Value} {T : SH} {F : MI} {G : MN} {A : MI} {B : MN} {x : Int32} {off : Int} {tgt : Nat} (hd : decode M.2.1 pc = .ok (.ifCond .lt off, 3)) (ht : (pc : Int) + off = (tgt : Int)) (kt : x < 0 → Z l M L ac az rc rs Q tgt lv st T F G A B) (kf : ¬ x < 0 → Z l M L ac az rc rs Q (pc + 3) lv st T F G A B) : Z l M L ac az rc rs Q pc lv (.int x :: st) T F G A B := by
  intro p e R s m args below meth c H locs cells slots z b D cy ls X Y
  exact lv_if_lt X.1 X.2.1 hd ht (fun h => kt h p e R s m args below meth c H locs cells slots z b D cy ls X Y) (fun h => kf h p e R s m args below meth c H locs cells slots z b D cy ls X Y)
theorem z_icmp_lt {l : Launch} {M : MD} {L ac az rc rs : Nat} {Q : PQ} {pc : Nat} {lv : List (Nat × Value)} {st : List Value} {T : SH} {F : MI} {G : MN} {A : MI} {B : MN} {x y : Int32} {off : Int} {tgt : Nat} (hd : decode M.2.1 pc = .ok (.if_icmp .lt off, 3)) (ht : (pc : Int) + off = (tgt : Int)) (kt : x < y → Z l M L ac az rc rs Q tgt lv st T F G A B) (kf : ¬ x < y → Z l M L ac az rc rs Q (pc + 3) lv st T F G A B) : Z l M L ac az rc rs Q pc lv (.int y :: .int x :: st) T F G A B := by
  intro p e R s m args below meth c H locs cells slots z b D cy ls X Y
  exact lv_icmp_lt X.1 X.2.1 hd ht (fun h => kt h p e R s m args below meth c H locs cells slots z b D cy ls X Y) (fun h => kf h p e R s m args below meth c H locs cells slots z b D cy ls X Y)
theorem z_if_ge {l : Launch} {M : MD} {L ac az rc rs : Nat} {Q : PQ} {pc : Nat} {lv : List (Nat × Value)} {st : List Value} {T : SH} {F : MI} {G : MN} {A : MI} {B : MN} {x : Int32} {off : Int} {tgt : Nat} (hd : decode M.2.1 pc = .ok (.ifCond .ge off, 3)) (ht : (pc : Int) + off = (tgt : Int)) (kt : 0 ≤ x → Z l M L ac az rc rs Q tgt lv st T F G A B) (kf : ¬ 0 ≤ x → Z l M L ac az rc rs Q (pc + 3) lv st T F G A B) : Z l M L ac az rc rs Q pc lv (.int x :: st) T F G A B := by
  intro p e R s m args below meth c H locs cells slots z b D cy ls X Y
  exact lv_if_ge X.1 X.2.1 hd ht (fun h => kt h p e R s m args below meth c H locs cells slots z b D cy ls X Y) (fun h => kf h p e R s m args below meth c H locs cells slots z b D cy ls X Y)
theorem z_icmp_ge {l : Launch} {M : MD} {L ac az rc rs : Nat} {Q : PQ} {pc : Nat} {lv : List (Nat × Value)} {st : List Value} {T : SH} {F : MI} {G : MN} {A : MI} {B : MN} {x y : Int32} {off : Int} {tgt : Nat} (hd : decode M.2.1 pc = .ok (.if_icmp .ge off, 3)) (ht : (pc : Int) + off = (tgt : Int)) (kt : y ≤ x → Z l M L ac az rc rs Q tgt lv st T F G A B) (kf : ¬ y ≤ x → Z l M L ac az rc rs Q (pc + 3) lv st T F G A B) : Z l M L ac az rc rs Q pc lv (.int y :: .int x :: st) T F G A B := by
  intro p e R s m args below meth c H locs cells slots z b D cy ls X Y
  exact lv_icmp_ge X.1 X.2.1 hd ht (fun h => kt h p e R s m args below meth c H locs cells slots z b D cy ls X Y) (fun h => kf h p e R s m args below meth c H locs cells slots z b D cy ls X Y)
theorem z_if_gt {l : Launch} {M : MD} {L ac az rc rs : Nat} {Q : PQ} {pc : Nat} {lv : List (Nat × Value)} {st : List Value} {T : SH} {F : MI} {G : MN} {A : MI} {B : MN} {x : Int32} {off : Int} {tgt : Nat} (hd : decode M.2.1 pc = .ok (.ifCond .gt off, 3)) (ht : (pc : Int) + off = (tgt : Int)) (kt : 0 < x → Z l M L ac az rc rs Q tgt lv st T F G A B) (kf : ¬ 0 < x → Z l M L ac az rc rs Q (pc + 3) lv st T F G A B) : Z l M L ac az rc rs Q pc lv (.int x :: st) T F G A B := by
  intro p e R s m args below meth c H locs cells slots z b D cy ls X Y
  exact lv_if_gt X.1 X.2.1 hd ht (fun h => kt h p e R s m args below meth c H locs cells slots z b D cy ls X Y) (fun h => kf h p e R s m args below meth c H locs cells slots z b D cy ls X Y)
theorem z_icmp_gt {l : Launch} {M : MD} {L ac az rc rs : Nat} {Q : PQ} {pc : Nat} {lv : List (Nat × Value)} {st : List Value} {T : SH} {F : MI} {G : MN} {A : MI} {B : MN} {x y : Int32} {off : Int} {tgt : Nat} (hd : decode M.2.1 pc = .ok (.if_icmp .gt off, 3)) (ht : (pc : Int) + off = (tgt : Int)) (kt : y < x → Z l M L ac az rc rs Q tgt lv st T F G A B) (kf : ¬ y < x → Z l M L ac az rc rs Q (pc + 3) lv st T F G A B) : Z l M L ac az rc rs Q pc lv (.int y :: .int x :: st) T F G A B := by
  intro p e R s m args below meth c H locs cells slots z b D cy ls X Y
  exact lv_icmp_gt X.1 X.2.1 hd ht (fun h => kt h p e R s m args below meth c H locs cells slots z b D cy ls X Y) (fun h => kf h p e R s m args below meth c H locs cells slots z b D cy ls X Y)
theorem z_if_le {l : Launch} {M : MD} {L ac az rc rs : Nat} {Q : PQ} {pc : Nat} {lv : List (Nat × Value)} {st : List Value} {T : SH} {F : MI} {G : MN} {A : MI} {B : MN} {x : Int32} {off : Int} {tgt : Nat} (hd : decode M.2.1 pc = .ok (.ifCond .le off, 3)) (ht : (pc : Int) + off = (tgt : Int)) (kt : x ≤ 0 → Z l M L ac az rc rs Q tgt lv st T F G A B) (kf : ¬ x ≤ 0 → Z l M L ac az rc rs Q (pc + 3) lv st T F G A B) : Z l M L ac az rc rs Q pc lv (.int x :: st) T F G A B := by
  intro p e R s m args below meth c H locs cells slots z b D cy ls X Y
  exact lv_if_le X.1 X.2.1 hd ht (fun h => kt h p e R s m args below meth c H locs cells slots z b D cy ls X Y) (fun h => kf h p e R s m args below meth c H locs cells slots z b D cy ls X Y)
theorem z_icmp_le {l : Launch} {M : MD} {L ac az rc rs : Nat} {Q : PQ} {pc : Nat} {lv : List (Nat × Value)} {st : List Value} {T : SH} {F : MI} {G : MN} {A : MI} {B : MN} {x y : Int32} {off : Int} {tgt : Nat} (hd : decode M.2.1 pc = .ok (.if_icmp .le off, 3)) (ht : (pc : Int) + off = (tgt : Int)) (kt : x ≤ y → Z l M L ac az rc rs Q tgt lv st T F G A B) (kf : ¬ x ≤ y → Z l M L ac az rc rs Q (pc + 3) lv st T F G A B) : Z l M L ac az rc rs Q pc lv (.int y :: .int x :: st) T F G A B := by
  intro p e R s m args below meth c H locs cells slots z b D cy ls X Y
  exact lv_icmp_le X.1 X.2.1 hd ht (fun h => kt h p e R s m args below meth c H locs cells slots z b D cy ls X Y) (fun h => kf h p e R s m args below meth c H locs cells slots z b D cy ls X Y)
theorem z_tableIn {l : Launch} {M : MD} {L ac az rc rs : Nat} {Q : PQ} {pc : Nat} {lv : List (Nat × Value)} {st : List Value} {T : SH} {F : MI} {G : MN} {A : MI} {B : MN} {dflt lo hi : Int} {offs : Array Int} {len : Nat} {x : Int32} {off : Int} {tgt : Nat} (hd : decode M.2.1 pc = .ok (.tableswitch dflt lo hi offs, len)) (h1 : ¬ x.toInt < lo) (h2 : ¬ hi < x.toInt) (ho : offs[(x.toInt - lo).toNat]? = some off) (ht : (pc : Int) + off = (tgt : Int)) (kk : Z l M L ac az rc rs Q tgt lv st T F G A B) : Z l M L ac az rc rs Q pc lv (.int x :: st) T F G A B := by
  intro p e R s m args below meth c H locs cells slots z b D cy ls X Y
  exact lv_tableIn X.1 X.2.1 hd h1 h2 ho ht (kk p e R s m args below meth c H locs cells slots z b D cy ls X Y)
theorem z_tableOut {l : Launch} {M : MD} {L ac az rc rs : Nat} {Q : PQ} {pc : Nat} {lv : List (Nat × Value)} {st : List Value} {T : SH} {F : MI} {G : MN} {A : MI} {B : MN} {dflt lo hi : Int} {offs : Array Int} {len : Nat} {x : Int32} {tgt : Nat} (hd : decode M.2.1 pc = .ok (.tableswitch dflt lo hi offs, len)) (h : x.toInt < lo ∨ hi < x.toInt) (ht : (pc : Int) + dflt = (tgt : Int)) (kk : Z l M L ac az rc rs Q tgt lv st T F G A B) : Z l M L ac az rc rs Q pc lv (.int x :: st) T F G A B := by
  intro p e R s m args below meth c H locs cells slots z b D cy ls X Y
  exact lv_tableOut X.1 X.2.1 hd h ht (kk p e R s m args below meth c H locs cells slots z b D cy ls X Y)
end
section
section MEM
variable {l : Launch} {M : MD} {L ac az rc rs : Nat} {Q : PQ} {pc : Nat} {lv : List (Nat × Value)} {st : List Value} {T : SH} {F : MI} {G : MN} {A : MI} {B : MN}
theorem RP.obj {z : Nat} {cy : Nat → ClassId} {D : va_G} {H : Heap} {a ci : Nat} (h : RP z cy D T F G A B H) (ha : At T a ci) (hc : ci < 9) : t_OB (z + a) (D.1 ci) (cN ci) (D.2 ci) H (fv z F G a ci) := by
  have h1 := h.2 a ha.1 ha.2.1
  rw [ha.2.2] at h1
  unfold cOk at h1
  rw [if_pos hc] at h1
  exact h1
theorem RP.ints {z : Nat} {cy : Nat → ClassId} {D : va_G} {H : Heap} {a ci : Nat} (h : RP z cy D T F G A B H) (ha : At T a ci) (hc : ¬ ci < 9) (hc2 : ci < 11) : H[z + a]? = some (arrV (cy ci) (T.2.1 a) (fun j => .int (A a j))) := by
  have h1 := h.2 a ha.1 ha.2.1
  rw [ha.2.2] at h1
  unfold cOk at h1
  rw [if_neg hc, if_pos hc2] at h1
  exact h1
theorem RP.refs {z : Nat} {cy : Nat → ClassId} {D : va_G} {H : Heap} {a ci : Nat} (h : RP z cy D T F G A B H) (ha : At T a ci) (hc : ¬ ci < 11) : H[z + a]? = some (arrV (cy ci) (T.2.1 a) (fun j => va_rf (ro z (B a j)))) := by
  have h1 := h.2 a ha.1 ha.2.1
  rw [ha.2.2] at h1
  unfold cOk at h1
  rw [if_neg (by omega), if_neg hc] at h1
  exact h1
/-- getfield, the value as the memory's word has it -/
theorem z_getv {ci k a idx : Nat} {C : String} {TT : u_T} {N : Nat} {ty : Nat → FieldType} {v : Value} (hd : decode M.2.1 pc = .ok (.getfield idx, 3)) (hcl : ClsOk ci C TT N ty) (hk : k < N) (hm : Cond.fieldLink M.1.cls idx (TT k).1 (TT k).2.1 (TT k).2.2.1 ∈ lw_g) (ha : At T a ci) (hv : ∀ z b, fv z F G a ci k = tr z b v)
    (kk : Z l M L ac az rc rs Q (pc + 3) lv (v :: st) T F G A B) : Z l M L ac az rc rs Q pc lv (.ref a :: st) T F G A B := by
  intro p e R s m args below meth c H locs cells slots z b D cy ls X Y
  obtain ⟨hc, h9, hN, hin, hty, hnm, hrf⟩ := hcl
  have hts := X.2.2.2.2.1
  obtain ⟨cell, q1, q2, q3, q4⟩ := Y.1.obj ha h9
  obtain ⟨hS, hfc, kC, hkC, hkind⟩ := X.2.2.2.2.2.2.2.2.2.1.1 ci _ hc
  obtain ⟨cf, kf, fi, f, hi, hsl⟩ := hS k hk
  refine W.getf X.1 X.2.1 X.2.2.2.1 (hts _ hm) hi (u_facts hfc hkC (u_lays hts hin hk) hi).1 q1 (by rw [q3]; exact fun h => by cases h) (v := tr z b v) ?_ rfl rfl hd (kk p e R s m args below meth c H locs cells slots z b D cy ls X Y)
  rw [hsl, q4 k (by rw [← hN]; exact hk), hv z b]
theorem z_geti {ci k a fc idx : Nat} {C : String} {TT : u_T} {N : Nat} {ty : Nat → FieldType} (hd : decode M.2.1 pc = .ok (.getfield idx, 3)) (hcl : ClsOk ci C TT N ty) (hk : k < N) (hm : Cond.fieldLink M.1.cls idx (TT k).1 (TT k).2.1 (TT k).2.2.1 ∈ lw_g) (hr : isR ci k = false) (hfc : 40 * ci + k = fc) (ha : At T a ci)
    (kk : Z l M L ac az rc rs Q (pc + 3) lv (.int (F fc a) :: st) T F G A B) : Z l M L ac az rc rs Q pc lv (.ref a :: st) T F G A B :=
  z_getv hd hcl hk hm ha (v := .int (F fc a)) (fun z b => by subst hfc; simp [fv, hr, tr]) kk
theorem z_getr {ci k a fc idx : Nat} {C : String} {TT : u_T} {N : Nat} {ty : Nat → FieldType} {r : Nat} (hd : decode M.2.1 pc = .ok (.getfield idx, 3)) (hcl : ClsOk ci C TT N ty) (hk : k < N) (hm : Cond.fieldLink M.1.cls idx (TT k).1 (TT k).2.1 (TT k).2.2.1 ∈ lw_g) (hr : isR ci k = true) (hfc : 40 * ci + k = fc) (ha : At T a ci) (hg : G fc a = r) (h0 : r ≠ 0)
    (kk : Z l M L ac az rc rs Q (pc + 3) lv (.ref r :: st) T F G A B) : Z l M L ac az rc rs Q pc lv (.ref a :: st) T F G A B :=
  z_getv hd hcl hk hm ha (v := .ref r) (fun z b => by subst hfc; simp [fv, hr, tr, hg, ro_ne h0]) kk
/-- a field's word changes: the cell behind it -/
theorem RP.field {z : Nat} {cy : Nat → ClassId} {D : va_G} {H H1 : Heap} {a ci k i : Nat} {v : Value} {F' : MI} {G' : MN} {cell : Cell} (h : RP z cy D T F G A B H) (ha : At T a ci) (h9 : ci < 9) (hk : k < cN ci) (hap : ∀ x y, x < cN ci → y < cN ci → x ≠ y → D.2 ci x ≠ D.2 ci y)
    (q2 : cell.cls = D.1 ci) (q3 : cell.vm = .none) (q4 : ∀ k, k < cN ci → cell.slots[D.2 ci k]? = some (fv z F G a ci k)) (hi : i = D.2 ci k) (e1 : H1[z + a]? = some (cell.setSlot i v)) (hz : H1.size = H.size) (oq : ∀ q, q ≠ z + a → H1[q]? = H[q]?)
    (hF : ∀ k x, x ≠ a → F' k x = F k x) (hG : ∀ k x, x ≠ a → G' k x = G k x) (hv : ∀ j, j < cN ci → fv z F' G' a ci j = if j = k then v else fv z F G a ci j) : RP z cy D T F' G' A B H1 := by
  refine h.put hz oq hF hG (fun _ _ _ => rfl) (fun _ _ _ => rfl) ?_
  rw [ha.2.2]
  unfold cOk
  rw [if_pos h9]
  subst hi
  exact t_OB.to (V := updV (fv z F G a ci) k v) ⟨_, e1, q2, q3, t_set q4 hap hk v⟩ (fun j hj => (hv j hj).symm)
theorem z_putv {ci k a idx : Nat} {C : String} {TT : u_T} {N : Nat} {ty : Nat → FieldType} {v : Value} {F' : MI} {G' : MN} (hd : decode M.2.1 pc = .ok (.putfield idx, 3)) (hcl : ClsOk ci C TT N ty) (hk : k < N) (hm : Cond.fieldLink M.1.cls idx (TT k).1 (TT k).2.1 (TT k).2.2.1 ∈ lw_g) (hfin : (TT k).2.2.2 = false) (ha : At T a ci)
    (hn : ∀ z b, narrow (ty k) (tr z b v) = tr z b v) (hfit : ∀ z b, fits (ty k) (tr z b v) = true) (hF : ∀ k x, x ≠ a → F' k x = F k x) (hG : ∀ k x, x ≠ a → G' k x = G k x) (hv : ∀ z b j, j < cN ci → fv z F' G' a ci j = if j = k then tr z b v else fv z F G a ci j)
    (kk : Z l M L ac az rc rs Q (pc + 3) lv st T F' G' A B) : Z l M L ac az rc rs Q pc lv (v :: .ref a :: st) T F G A B := by
  intro p e R s m args below meth c H locs cells slots z b D cy ls X Y
  obtain ⟨hc, h9, hN, hin, hty, hnm, hrf⟩ := hcl
  have hts := X.2.2.2.2.1
  have hK := X.2.2.2.2.2.2.2.2.2.1
  have hap := va_apart (own := M.1.cls) hts hin ty hty hnm hK hc
  obtain ⟨cell, q1, q2, q3, q4⟩ := Y.1.obj ha h9
  obtain ⟨hS, hfc, kC, hkC, hkind⟩ := hK.1 ci _ hc
  obtain ⟨cf, kf, fi, f, hi, hsl⟩ := hS k hk
  have hlay := hts _ (hin _ (u_in_lay hk))
  unfold u_lay at hlay
  rw [if_neg (by rw [hfin]; decide)] at hlay
  have hst := (u_facts hfc hkC (u_lays hts hin hk) hi).1
  have h6 := u_store hfc hkC hkind hlay hi (hty k hk) (hn z b) (hfit z b)
  have hk2 : k < cN ci := by rw [← hN]; exact hk
  refine W.putK X.1 X.2.1 (f := f) ⟨X.2.2.2.1, hts _ hm, ⟨_, _, _, hi⟩, hst⟩ (by rw [q2]; exact h6) q1 q3 (by rw [hsl]; exact k2_hasslot (q4 k hk2)) rfl rfl hd fun H' e1 e2 e3 => ?_
  have hR := Y.1.field ha h9 hk2 (by rw [← hN]; exact hap) q2 q3 q4 hsl e1 e2 e3 hF hG (hv z b)
  exact kk p e R s m args below meth c H' _ cells slots z b D cy ls X ⟨hR, Y.2.1.put e2 e3 (by have := ha.1; omega), Y.2.2⟩
theorem z_putFv {ci k a idx : Nat} {C : String} {TT : u_T} {N : Nat} {ty : Nat → FieldType} {v : Value} {F' : MI} {G' : MN} (hd : decode M.2.1 pc = .ok (.putfield idx, 3)) (hcl : ClsOk ci C TT N ty) (hk : k < N) (hm : Cond.fieldLink M.1.cls idx (TT k).1 (TT k).2.1 (TT k).2.2.1 ∈ lw_g) (hfin : (TT k).2.2.2 = true) (hini : M.1.name = "<init>") (hdecl : (TT k).1 = M.1.cls) (ha : At T a ci)
    (hn : ∀ z b, narrow (ty k) (tr z b v) = tr z b v) (hfit : ∀ z b, fits (ty k) (tr z b v) = true) (hF : ∀ k x, x ≠ a → F' k x = F k x) (hG : ∀ k x, x ≠ a → G' k x = G k x) (hv : ∀ z b j, j < cN ci → fv z F' G' a ci j = if j = k then tr z b v else fv z F G a ci j)
    (kk : Z l M L ac az rc rs Q (pc + 3) lv st T F' G' A B) : Z l M L ac az rc rs Q pc lv (v :: .ref a :: st) T F G A B := by
  intro p e R s m args below meth c H locs cells slots z b D cy ls X Y
  obtain ⟨hc, h9, hN, hin, hty, hnm, hrf⟩ := hcl
  have hts := X.2.2.2.2.1
  have hown := X.2.2.2.1
  have hK := X.2.2.2.2.2.2.2.2.2.1
  have hap := va_apart (own := M.1.cls) hts hin ty hty hnm hK hc
  obtain ⟨cell, q1, q2, q3, q4⟩ := Y.1.obj ha h9
  obtain ⟨hS, hfc, kC, hkC, hkind⟩ := hK.1 ci _ hc
  obtain ⟨cf, kf, fi, f, hi, hsl⟩ := hS k hk
  have hlay := hts _ (hin _ (u_in_lay hk))
  unfold u_lay at hlay
  rw [if_pos hfin] at hlay
  have hst := (u_facts hfc hkC (u_lays hts hin hk) hi).1
  have hcf : m.cls = cf := by
    obtain ⟨_, _, c', _, _, _, -, -, hf', -, -, -, hown2, -⟩ := Cond.laysFinal_spec hlay
    have e1 : c' = cf := by have := hi.symm.trans hf'; simp at this; exact this.1.symm
    rw [hdecl] at hown2
    rw [← e1]; exact Option.some.inj (hown.symm.trans hown2)
  have h6 := u_fits hfc hkC hkind (Or.inr hlay) hi (hty k hk) (hn z b) (hfit z b)
  have hk2 : k < cN ci := by rw [← hN]; exact hk
  refine W.putFinK X.1 X.2.1 hown (hts _ hm) hi hst hcf (X.2.2.2.2.2.2.2.1.trans hini) (by rw [q2]; exact h6) q1 q3 (by rw [hsl]; exact k2_hasslot (q4 k hk2)) rfl rfl hd fun H' e1 e2 e3 => ?_
  have hR := Y.1.field ha h9 hk2 (by rw [← hN]; exact hap) q2 q3 q4 hsl e1 e2 e3 hF hG (hv z b)
  exact kk p e R s m args below meth c H' _ cells slots z b D cy ls X ⟨hR, Y.2.1.put e2 e3 (by have := ha.1; omega), Y.2.2⟩
theorem fv_putF {ci k a fc : Nat} {x : Int32} (hr : isR ci k = false) (hfc : 40 * ci + k = fc) (z b j : Nat) : fv z (u2 F fc a x) G a ci j = if j = k then tr z b (.int x) else fv z F G a ci j := by
  subst hfc
  by_cases e : j = k
  · subst e
    simp [fv, hr, tr, u2]
  · have : ¬ (40 * ci + j = 40 * ci + k) := by omega
    simp [fv, e, u2]
theorem fv_putG {ci k a fc r : Nat} (hr : isR ci k = true) (hfc : 40 * ci + k = fc) (h0 : r ≠ 0) (z b j : Nat) : fv z F (u2 G fc a r) a ci j = if j = k then tr z b (.ref r) else fv z F G a ci j := by
  subst hfc
  by_cases e : j = k
  · subst e
    simp [fv, hr, tr, u2, ro_ne h0]
  · have : ¬ (40 * ci + j = 40 * ci + k) := by omega
    simp [fv, e, u2]
theorem cls_int {ci k : Nat} {C : String} {TT : u_T} {N : Nat} {ty : Nat → FieldType} (hcl : ClsOk ci C TT N ty) (hk : k < N) (hr : isR ci k = false) : ty k = .int := by
  rcases hcl.2.2.2.2.2.2 k hk with h | h
  · exact h.2
  · rw [hr] at h; exact absurd h.1 (by decide)
theorem cls_ref {ci k : Nat} {C : String} {TT : u_T} {N : Nat} {ty : Nat → FieldType} (hcl : ClsOk ci C TT N ty) (hk : k < N) (hr : isR ci k = true) (a : Nat) : narrow (ty k) (.ref a) = .ref a ∧ fits (ty k) (.ref a) = true := by
  rcases hcl.2.2.2.2.2.2 k hk with h | h
  · rw [hr] at h; exact absurd h.1 (by decide)
  · have h2 := h.2
    cases e : ty k <;> rw [e] at h2 <;> first | (exact absurd h2 (by decide)) | exact ⟨rfl, rfl⟩
theorem z_puti {ci k a fc idx : Nat} {C : String} {TT : u_T} {N : Nat} {ty : Nat → FieldType} {x : Int32} (hd : decode M.2.1 pc = .ok (.putfield idx, 3)) (hcl : ClsOk ci C TT N ty) (hk : k < N) (hm : Cond.fieldLink M.1.cls idx (TT k).1 (TT k).2.1 (TT k).2.2.1 ∈ lw_g) (hfin : (TT k).2.2.2 = false) (hr : isR ci k = false) (hfc : 40 * ci + k = fc) (ha : At T a ci)
    (kk : Z l M L ac az rc rs Q (pc + 3) lv st T (u2 F fc a x) G A B) : Z l M L ac az rc rs Q pc lv (.int x :: .ref a :: st) T F G A B :=
  z_putv hd hcl hk hm hfin ha (fun z b => by rw [cls_int hcl hk hr]; rfl) (fun z b => by rw [cls_int hcl hk hr]; rfl) (fun k y h => u2_n2 h) (fun _ _ _ => rfl) (fun z b j _ => fv_putF hr hfc z b j) kk
theorem z_putr {ci k a fc idx r : Nat} {C : String} {TT : u_T} {N : Nat} {ty : Nat → FieldType} (hd : decode M.2.1 pc = .ok (.putfield idx, 3)) (hcl : ClsOk ci C TT N ty) (hk : k < N) (hm : Cond.fieldLink M.1.cls idx (TT k).1 (TT k).2.1 (TT k).2.2.1 ∈ lw_g) (hfin : (TT k).2.2.2 = false) (hr : isR ci k = true) (hfc : 40 * ci + k = fc) (ha : At T a ci) (h0 : r ≠ 0)
    (kk : Z l M L ac az rc rs Q (pc + 3) lv st T F (u2 G fc a r) A B) : Z l M L ac az rc rs Q pc lv (.ref r :: .ref a :: st) T F G A B :=
  z_putv hd hcl hk hm hfin ha (fun z b => (cls_ref hcl hk hr _).1) (fun z b => (cls_ref hcl hk hr _).2) (fun _ _ _ => rfl) (fun k y h => u2_n2 h) (fun z b j _ => fv_putG hr hfc h0 z b j) kk
theorem z_putFi {ci k a fc idx : Nat} {C : String} {TT : u_T} {N : Nat} {ty : Nat → FieldType} {x : Int32} (hd : decode M.2.1 pc = .ok (.putfield idx, 3)) (hcl : ClsOk ci C TT N ty) (hk : k < N) (hm : Cond.fieldLink M.1.cls idx (TT k).1 (TT k).2.1 (TT k).2.2.1 ∈ lw_g) (hfin : (TT k).2.2.2 = true) (hini : M.1.name = "<init>") (hdecl : (TT k).1 = M.1.cls) (hr : isR ci k = false) (hfc : 40 * ci + k = fc) (ha : At T a ci)
    (kk : Z l M L ac az rc rs Q (pc + 3) lv st T (u2 F fc a x) G A B) : Z l M L ac az rc rs Q pc lv (.int x :: .ref a :: st) T F G A B :=
  z_putFv hd hcl hk hm hfin hini hdecl ha (fun z b => by rw [cls_int hcl hk hr]; rfl) (fun z b => by rw [cls_int hcl hk hr]; rfl) (fun k y h => u2_n2 h) (fun _ _ _ => rfl) (fun z b j _ => fv_putF hr hfc z b j) kk
theorem z_putFr {ci k a fc idx r : Nat} {C : String} {TT : u_T} {N : Nat} {ty : Nat → FieldType} (hd : decode M.2.1 pc = .ok (.putfield idx, 3)) (hcl : ClsOk ci C TT N ty) (hk : k < N) (hm : Cond.fieldLink M.1.cls idx (TT k).1 (TT k).2.1 (TT k).2.2.1 ∈ lw_g) (hfin : (TT k).2.2.2 = true) (hini : M.1.name = "<init>") (hdecl : (TT k).1 = M.1.cls) (hr : isR ci k = true) (hfc : 40 * ci + k = fc) (ha : At T a ci) (h0 : r ≠ 0)
    (kk : Z l M L ac az rc rs Q (pc + 3) lv st T F (u2 G fc a r) A B) : Z l M L ac az rc rs Q pc lv (.ref r :: .ref a :: st) T F G A B :=
  z_putFv hd hcl hk hm hfin hini hdecl ha (fun z b => (cls_ref hcl hk hr _).1) (fun z b => (cls_ref hcl hk hr _).2) (fun _ _ _ => rfl) (fun k y h => u2_n2 h) (fun z b j _ => fv_putG hr hfc h0 z b j) kk
/-- rows of numbers -/
theorem z_iald {a : Nat} {i : Int32} (hd : decode M.2.1 pc = .ok (.iaload, 1)) (ha : At T a 10) (hin : vp_in i (T.2.1 a)) (kk : Z l M L ac az rc rs Q (pc + 1) lv (.int (A a i.toNatClampNeg) :: st) T F G A B) : Z l M L ac az rc rs Q pc lv (.int i :: .ref a :: st) T F G A B := by
  intro p e R s m args below meth c H locs cells slots z b D cy ls X Y
  have hlt : i.toNatClampNeg < T.2.1 a := Nat.not_le.mp fun q => hin (Or.inr q)
  have hK := X.2.2.2.2.2.2.2.2.2.1
  exact W.iald (v := .int (A a i.toNatClampNeg)) X.1 X.2.1 (Y.1.ints ha (by decide) (by decide)) ((hK.2 1 (cy 10, .int) rfl).1 _ (fun j => .int (A a j))) (fun q => by cases q) (by rw [arrV_size]; exact hin) (by rw [arrV_read _ _ hlt]) rfl rfl hd (kk p e R s m args below meth c H locs cells slots z b D cy ls X Y)
theorem z_bald {a : Nat} {i : Int32} (hd : decode M.2.1 pc = .ok (.baload, 1)) (ha : At T a 9) (hin : vp_in i (T.2.1 a)) (kk : Z l M L ac az rc rs Q (pc + 1) lv (.int (A a i.toNatClampNeg) :: st) T F G A B) : Z l M L ac az rc rs Q pc lv (.int i :: .ref a :: st) T F G A B := by
  intro p e R s m args below meth c H locs cells slots z b D cy ls X Y
  have hlt : i.toNatClampNeg < T.2.1 a := Nat.not_le.mp fun q => hin (Or.inr q)
  have hK := X.2.2.2.2.2.2.2.2.2.1
  exact W.bald (v := .int (A a i.toNatClampNeg)) X.1 X.2.1 (Y.1.ints ha (by decide) (by decide)) ((hK.2 0 (cy 9, .byte) rfl).1 _ (fun j => .int (A a j))) (fun q => by cases q) (by rw [arrV_size]; exact hin) (by rw [arrV_read _ _ hlt]) rfl rfl hd (kk p e R s m args below meth c H locs cells slots z b D cy ls X Y)
theorem RP.row {z : Nat} {cy : Nat → ClassId} {D : va_G} {H H1 : Heap} {a ci j : Nat} {x : Int32} (h : RP z cy D T F G A B H) (ha : At T a ci) (hc : ¬ ci < 9) (hc2 : ci < 11) (e : H1[z + a]? = some ((arrV (cy ci) (T.2.1 a) (fun j => .int (A a j))).setSlot j (.int x))) (hz : H1.size = H.size) (oq : ∀ q, q ≠ z + a → H1[q]? = H[q]?) : RP z cy D T F G (u2 A a j x) B H1 := by
  refine h.put hz oq (fun _ _ _ => rfl) (fun _ _ _ => rfl) (fun _ _ h => u2_n1 h) (fun _ _ _ => rfl) ?_
  rw [ha.2.2]
  unfold cOk
  rw [if_neg hc, if_pos hc2, e, arrV_store]
  congr 2
  funext q
  by_cases hq : q = j
  · subst hq
    simp [updV, u2]
  · simp [updV, u2, hq]
theorem z_iast {a : Nat} {i x : Int32} (hd : decode M.2.1 pc = .ok (.iastore, 1)) (ha : At T a 10) (hin : vp_in i (T.2.1 a)) (kk : Z l M L ac az rc rs Q (pc + 1) lv st T F G (u2 A a i.toNatClampNeg x) B) : Z l M L ac az rc rs Q pc lv (.int x :: .int i :: .ref a :: st) T F G A B := by
  intro p e R s m args below meth c H locs cells slots z b D cy ls X Y
  have hK := X.2.2.2.2.2.2.2.2.2.1
  refine W.iast X.1 X.2.1 (Y.1.ints ha (by decide) (by decide)) ((hK.2 1 (cy 10, .int) rfl).1 _ (fun j => .int (A a j))) (fun q => by cases q) (by rw [arrV_size]; exact hin) rfl rfl hd fun H1 e1 hz oq => ?_
  exact kk p e R s m args below meth c H1 _ cells slots z b D cy ls X ⟨Y.1.row ha (by decide) (by decide) e1 hz oq, Y.2.1.put hz oq (by have := ha.1; omega), Y.2.2⟩
theorem z_bast {a : Nat} {i x : Int32} (hd : decode M.2.1 pc = .ok (.bastore, 1)) (ha : At T a 9) (hin : vp_in i (T.2.1 a)) (kk : Z l M L ac az rc rs Q (pc + 1) lv st T F G (u2 A a i.toNatClampNeg x.toInt8.toInt32) B) : Z l M L ac az rc rs Q pc lv (.int x :: .int i :: .ref a :: st) T F G A B := by
  intro p e R s m args below meth c H locs cells slots z b D cy ls X Y
  have hK := X.2.2.2.2.2.2.2.2.2.1
  refine W.bast X.1 X.2.1 (Y.1.ints ha (by decide) (by decide)) ((hK.2 0 (cy 9, .byte) rfl).1 _ (fun j => .int (A a j))) (fun q => by cases q) (by rw [arrV_size]; exact hin) rfl rfl hd fun H1 e1 hz oq => ?_
  exact kk p e R s m args below meth c H1 _ cells slots z b D cy ls X ⟨Y.1.row ha (by decide) (by decide) e1 hz oq, Y.2.1.put hz oq (by have := ha.1; omega), Y.2.2⟩
/-- rows of references -/
theorem z_aald {a r ci : Nat} {i : Int32} (hd : decode M.2.1 pc = .ok (.aaload, 1)) (ha : At T a ci) (hc : 11 ≤ ci ∧ ci ≤ 13) (hin : vp_in i (T.2.1 a)) (hb : B a i.toNatClampNeg = r) (h0 : r ≠ 0) (kk : Z l M L ac az rc rs Q (pc + 1) lv (.ref r :: st) T F G A B) : Z l M L ac az rc rs Q pc lv (.int i :: .ref a :: st) T F G A B := by
  intro p e R s m args below meth c H locs cells slots z b D cy ls X Y
  have hlt : i.toNatClampNeg < T.2.1 a := Nat.not_le.mp fun q => hin (Or.inr q)
  have hK := X.2.2.2.2.2.2.2.2.2.1
  have key : ∀ ty : FieldType, ArrOfT s (cy ci) ty → ty.isReference = true → W p l e R s m args below meth c H locs cells slots (MQ below (QC z b cy D Q) args s ac az (fun q => z < q)) (F0 m pc ls (.int i :: .ref (z + a) :: st.map (tr z b))) := fun ty h1 h2 =>
    W.aald (v := tr z b (.ref r)) (ty := ty) X.1 X.2.1 (Y.1.refs ha (by omega)) (h1 _ (fun j => va_rf (ro z (B a j)))) h2 (fun q => by cases q) (by rw [arrV_size]; exact hin) (by rw [arrV_read _ _ hlt, hb, ro_ne h0]; rfl) rfl rfl hd (kk p e R s m args below meth c H locs cells slots z b D cy ls X Y)
  rcases (show ci = 11 ∨ ci = 12 ∨ ci = 13 by omega) with rfl | rfl | rfl
  · exact key _ (hK.2 2 (cy 11, .object RX0) rfl).1 rfl
  · exact key _ (hK.2 3 (cy 12, .object RX4) rfl).1 rfl
  · exact key _ (hK.2 4 (cy 13, .array .int) rfl).1 rfl
theorem z_alen {a : Nat} {v : Int32} (hd : decode M.2.1 pc = .ok (.arraylength, 1)) (ha : At T a 10) (hv : Int32.ofNat (T.2.1 a) = v) (kk : Z l M L ac az rc rs Q (pc + 1) lv (.int v :: st) T F G A B) : Z l M L ac az rc rs Q pc lv (.ref a :: st) T F G A B := by
  intro p e R s m args below meth c H locs cells slots z b D cy ls X Y
  have hK := X.2.2.2.2.2.2.2.2.2.1
  exact W.alen X.1 X.2.1 (Y.1.ints ha (by decide) (by decide)) ((hK.2 1 (cy 10, .int) rfl).1 _ (fun j => .int (A a j))) (by rw [arrV_size]; exact hv) rfl rfl hd (kk p e R s m args below meth c H locs cells slots z b D cy ls X Y)
end MEM
end
section
def MOk (M : MD) (n : Nat) : Prop := Cond.code M.1 M.2.1 M.2.2.1 M.2.2.2 ∈ lw_g ∧ Cond.initialized M.1.cls ∈ lw_g ∧ (M.1.cls ≠ "java/lang/invoke/MethodHandle" ∧ M.1.cls ≠ "java/lang/invoke/VarHandle" ∧ (parseMethodDescriptor M.1.desc).map (fun d => d.parameters.length) = some n) ∧ M.2.2.1 ≤ 40
def IOk (M : MD) : Prop := Cond.instanceMethod M.1 ∈ lw_g ∧ Cond.selects M.1.cls M.1 M.1 ∈ lw_g
section CALL
variable {l : Launch} {M : MD} {L ac az rc rs : Nat} {Q : PQ} {pc : Nat} {lv : List (Nat × Value)} {st : List Value} {T : SH} {F : MI} {G : MN} {A : MI} {B : MN}
theorem z_iret {v : Int32} (hd : decode M.2.1 pc = .ok (.ireturn, 1)) (hret : M.2.2.2 = some .int) (hq : Q (some (.int v)) T F G A B) : Z l M L ac az rc rs Q pc lv [.int v] T F G A B := by
  intro p e R s m args below meth c H locs cells slots z b D cy ls X Y
  refine W.widen (k := ac) (n := az) (by have := Y.2.2.1; omega) (by have := Y.2.2.2.1; omega) ?_
  exact W.iret X.1 X.2.1 (X.2.2.2.2.2.2.1.trans hret) (fun t ht _ => ⟨⟨some (.int v), T, F, G, A, B, rfl, hq, by rw [ht]; exact Y.1⟩, Y.2.1.F ht⟩) Y.2.1.2.2 hd (hlocks := X.2.2.2.2.2.1)
theorem z_zret {v : Int32} (hd : decode M.2.1 pc = .ok (.ireturn, 1)) (hret : M.2.2.2 = some .boolean) (hv : v = 0 ∨ v = 1) (hq : Q (some (.int v)) T F G A B) : Z l M L ac az rc rs Q pc lv [.int v] T F G A B := by
  intro p e R s m args below meth c H locs cells slots z b D cy ls X Y
  refine W.widen (k := ac) (n := az) (by have := Y.2.2.1; omega) (by have := Y.2.2.2.1; omega) ?_
  have hn : narrow .boolean (.int v) = .int v := by rcases hv with rfl | rfl <;> rfl
  exact W.zret X.1 X.2.1 (X.2.2.2.2.2.2.1.trans hret) hn (fun t ht _ => ⟨⟨some (.int v), T, F, G, A, B, rfl, hq, by rw [ht]; exact Y.1⟩, Y.2.1.F ht⟩) Y.2.1.2.2 hd (hlocks := X.2.2.2.2.2.1)
theorem z_vret (hd : decode M.2.1 pc = .ok (.return_, 1)) (hret : M.2.2.2 = none) (hq : Q none T F G A B) : Z l M L ac az rc rs Q pc lv [] T F G A B := by
  intro p e R s m args below meth c H locs cells slots z b D cy ls X Y
  refine W.widen (k := ac) (n := az) (by have := Y.2.2.1; omega) (by have := Y.2.2.2.1; omega) ?_
  exact W.vret X.1 X.2.1 (X.2.2.2.2.2.2.1.trans hret) (fun t ht _ => ⟨⟨none, T, F, G, A, B, rfl, hq, by rw [ht]; exact Y.1⟩, Y.2.1.F ht⟩) Y.2.1.2.2 hd (hlocks := X.2.2.2.2.2.1)
theorem z_aret {v : Value} {C : String} (hd : decode M.2.1 pc = .ok (.areturn, 1)) (hret : M.2.2.2 = some (.object C)) (hv : v = .null ∨ ∃ a, v = .ref a) (hq : Q (some v) T F G A B) : Z l M L ac az rc rs Q pc lv [v] T F G A B := by
  intro p e R s m args below meth c H locs cells slots z b D cy ls X Y
  refine W.widen (k := ac) (n := az) (by have := Y.2.2.1; omega) (by have := Y.2.2.2.1; omega) ?_
  have hv2 : tr z b v = .null ∨ ∃ a, tr z b v = .ref a := by
    rcases hv with rfl | ⟨a, rfl⟩
    · exact Or.inl rfl
    · exact Or.inr ⟨_, rfl⟩
  exact W.aret X.1 X.2.1 (X.2.2.2.2.2.2.1.trans hret) (Or.inl ⟨C, rfl⟩) hv2 (fun t ht _ => ⟨⟨some v, T, F, G, A, B, rfl, hq, by rw [ht]; exact Y.1⟩, Y.2.1.F ht⟩) Y.2.1.2.2 hd (hlocks := X.2.2.2.2.2.1)
/-- behind a call -/
theorem z_back {p : Program} {e : Env} {R : Room} {s : State} {m : MethodId} {args a : Array Value} {below : List Frame} {meth : Method} {c : Code} {H : Heap} {locs : List Loc} {cells slots z b : Nat} {D : va_G} {cy : Nat → ClassId} {ls : Array Slot} {ac' az' rc' rs' : Nat} {rest st0 : List Value} {lvn : List (Nat × Value)}
    (X : ZC M L ac az p R s m args meth c z D cy) (Y : ZH M ac az rc rs lv T F G A B s H locs cells slots z b D cy ls) (hac : ac' + rc' ≤ rc) (haz : az' + rs' ≤ rs)
    (hr : va_Run p l e R s m args below meth c H locs cells slots ac' az' (F0 m pc ls st0) (rest.map (tr z b)) (QC z b cy D (fun v T F G A B => Z l M L ac az rc' rs' Q (pc + 3) lv (v.toList ++ rest) T F G A B) a) (fun q => z < q)) :
    W p l e R s m args below meth c H locs cells slots (MQ below (QC z b cy D Q) args s ac az (fun q => z < q)) (F0 m pc ls st0) := by
  intro T0 hT X0
  obtain ⟨v, st₀, t, T', Lc, h0, X', hL, e1, e2, ⟨⟨v2, T2, F2, G2, A2, B2, hv, hq, hRP⟩, hF⟩, stp⟩ := hr T0 hT X0
  cases hv
  have hS := Y.2.1
  have hS2 : va_S (fun q => z < q) s.heap T'.heap (locs ++ Lc) := by
    refine ⟨by rw [e1]; exact Nat.le_trans hS.1 (by rw [← h0]; exact hF.1), fun q h1 h2 => ?_, fun q hq => ?_⟩
    · rw [e1, hF.2 q (by rw [h0]; exact Nat.lt_of_lt_of_le h1 hS.1) h2, h0]
      exact hS.2.1 q h1 h2
    · rcases List.mem_append.mp hq with h | h
      · exact hS.2.2 q h
      · exact hL q h
  obtain ⟨t2, a1, b1⟩ := hq p e R s m args below meth c T'.heap (locs ++ Lc) (cells + ac') (slots + az') z b D cy ls X ⟨by rw [e1]; exact hRP, hS2, by have := Y.2.2.1; omega, by have := Y.2.2.2.1; omega, Y.2.2.2.2⟩ T' rfl X'
  refine ⟨t2, stp t2 ?_, b1⟩
  cases v2 <;> exact a1
theorem z_callB {p : Program} {R : Room} {s : State} {m : MethodId} {args : Array Value} {meth : Method} {c : Code} {z : Nat} {D : va_G} {cy : Nat → ClassId} {M' : MD} {n idx L' ac' az' : Nat} (X : ZC M L ac az p R s m args meth c z D cy) (hM : MOk M' n) (hl : Cond.methodLink M.1.cls idx M'.1 ∈ lw_g) (hL : L' + 1 ≤ L) :
    CallB R s args M.1.cls idx M'.1 M'.2.1 M'.2.2.1 M'.2.2.2 (.code M'.1 M'.2.1 M'.2.2.1 M'.2.2.2 :: lw_g) (rmL L' ac' az') ac' az' n := by
  obtain ⟨-, -, -, -, hts, -, -, -, -, -, hfr, hlo, -⟩ := X
  obtain ⟨h1, h2, h3, h4⟩ := hM
  have hG : GoodIn lw_g (.code M'.1 M'.2.1 M'.2.2.1 M'.2.2.2 :: lw_g) := fun w hw => by
    rcases List.mem_cons.mp hw with h | h
    · rw [h]; exact lw_good _ h1
    · exact lw_good _ h
  exact callB_of n hts hG rfl rfl rfl (hts _ h2) (hts _ hl) h3 ⟨Nat.le_trans hL hfr, by show 8 + (M'.2.2.1 + 11) + 64 * L' ≤ R.locals; omega⟩
theorem z_blind {z b : Nat} {cy : Nat → ClassId} {D : va_G} {av : List Value} : FrameBlind (va_Pc (av.map (tr z b)) (fun U => z < U.heap.size ∧ RP z cy D T F G A B U.heap ∧ va_K D vwCl (tyL cy) U ∧ NW U)) :=
  fun a U g mk q => by obtain ⟨q0, q1, q2, q3, q4⟩ := q; exact ⟨q0, q1, q2, va_K.moved (u := U) (U := U.calling g mk a) (Vm.Alike.refl U.vm) q3, NW.same (u := U) (U := U.calling g mk a) rfl q4⟩
theorem z_start {p : Program} {R : Room} {s U : State} {m : MethodId} {args : Array Value} {meth : Method} {c : Code} {H : Heap} {locs : List Loc} {cells slots z b : Nat} {D : va_G} {cy : Nat → ClassId} {ls : Array Slot} (X : ZC M L ac az p R s m args meth c z D cy) (Y : ZH M ac az rc rs lv T F G A B s H locs cells slots z b D cy ls) (hU : U.heap = H) (hW : s.WarmedH U.vm) :
    z < U.heap.size ∧ RP z cy D T F G A B U.heap ∧ va_K D vwCl (tyL cy) U ∧ NW U := by
  rw [hU]
  exact ⟨Nat.lt_of_lt_of_le X.2.2.2.2.2.2.2.2.1 Y.2.1.1, Y.1, va_K.moved hW.alike X.2.2.2.2.2.2.2.2.2.1, NW.warm hW X.2.2.2.2.2.2.2.2.2.2.2.2.2.2⟩
theorem catsum {z b : Nat} : ∀ {rest : List Value}, rest.length ≤ 8 → ((rest.map (tr z b)).map fun v => v.category).sum ≤ 8 := by
  intro rest h
  have : ((rest.map (tr z b)).map fun v => v.category).sum = rest.length := by
    clear h
    induction rest with
    | nil => rfl
    | cons x r ih => rw [List.map_cons, List.map_cons, List.sum_cons, ih, tr_cat, List.length_cons]; omega
  omega
theorem z_callV {M' : MD} {n idx L' ac' az' rc' rs' ci : Nat} {TT : u_T} {N a : Nat} {As rest : List Value} (hd : decode M.2.1 pc = .ok (.invokevirtual idx, 3)) (hM : MOk M' n) (hI : IOk M') (hl : Cond.methodLink M.1.cls idx M'.1 ∈ lw_g) (hcl : vwCl[ci]? = some (M'.1.cls, TT, N)) (h9 : ci < 9) (ha : At T a ci) (hn : As.length = n) (hst : st = As.reverse ++ .ref a :: rest) (hrest : rest.length ≤ 8) (hL : L' + 1 ≤ L) (hac : ac' + rc' ≤ rc) (haz : az' + rs' ≤ rs)
    (kk : Cn l M' L' ac' az' (.ref a :: As) T F G A B (fun v T F G A B => Z l M L ac az rc' rs' Q (pc + 3) lv (v.toList ++ rest) T F G A B)) : Z l M L ac az rc rs Q pc lv st T F G A B := by
  intro p e R s m args below meth c H locs cells slots z b D cy ls X Y
  subst hst
  have hts := X.2.2.2.2.1
  obtain ⟨cell, q1, q2, q3, q4⟩ := Y.1.obj ha h9
  obtain ⟨hS, hfc, -⟩ := X.2.2.2.2.2.2.2.2.2.1.1 ci _ hcl
  have Y2 := Y.2.2.1
  have Y3 := Y.2.2.2.1
  have X2 := X.2.2.2.2.2.2.2.2.2.2.2.2.1
  have X3 := X.2.2.2.2.2.2.2.2.2.2.2.2.2.1
  refine z_back (rest := rest) (a := (Value.ref (z + a) :: As.map (tr z b)).toArray) (lvn := lv) X Y hac haz ?_
  refine va_runV (C := M'.1.cls) (nL := M.2.2.1) (Ts := lw_g) (own := M.1.cls) (As := As.map (tr z b)) (rest := rest.map (tr z b)) (b := z + a) ⟨X.1, X.2.1, X.2.2.1, X.2.2.2.1, hts⟩ (kk z b cy D) ⟨z_callB X hM hl hL, hts _ hI.1, hts _ hI.2⟩ ⟨z_blind, ⟨cell, q1, by rw [q3]; rfl, by rw [q2]; exact hfc⟩, fun U hU hW => ⟨rfl, z_start X Y hU hW⟩⟩ rfl (by rw [List.length_map]; exact hn) Y.2.2.2.2.1 ?_ (lv_room (catsum hrest)) hd ⟨by omega, by omega⟩
  show List.map (tr z b) (As.reverse ++ Value.ref a :: rest) = _
  rw [List.map_append, List.map_reverse]
  rfl
theorem z_callS {M' : MD} {n idx L' ac' az' rc' rs' : Nat} {As rest : List Value} (hd : decode M.2.1 pc = .ok (.invokestatic idx, 3)) (hM : MOk M' n) (hs : Cond.static M'.1 ∈ lw_g) (hl : Cond.methodLink M.1.cls idx M'.1 ∈ lw_g) (hn : As.length = n) (hst : st = As.reverse ++ rest) (hrest : rest.length ≤ 8) (hL : L' + 1 ≤ L) (hac : ac' + rc' ≤ rc) (haz : az' + rs' ≤ rs)
    (kk : Cn l M' L' ac' az' As T F G A B (fun v T F G A B => Z l M L ac az rc' rs' Q (pc + 3) lv (v.toList ++ rest) T F G A B)) : Z l M L ac az rc rs Q pc lv st T F G A B := by
  intro p e R s m args below meth c H locs cells slots z b D cy ls X Y
  subst hst
  have hts := X.2.2.2.2.1
  have Y2 := Y.2.2.1
  have Y3 := Y.2.2.2.1
  have X2 := X.2.2.2.2.2.2.2.2.2.2.2.2.1
  have X3 := X.2.2.2.2.2.2.2.2.2.2.2.2.2.1
  refine z_back (rest := rest) (a := (As.map (tr z b)).toArray) (lvn := lv) X Y hac haz ?_
  refine va_runS (nL := M.2.2.1) (Ts := lw_g) (own := M.1.cls) (As := As.map (tr z b)) (rest := rest.map (tr z b)) ⟨X.1, X.2.1, X.2.2.1, X.2.2.2.1, hts⟩ (kk z b cy D) ⟨z_callB X hM hl hL, hts _ hs⟩ ⟨z_blind, fun U hU hW => ⟨rfl, z_start X Y hU hW⟩⟩ rfl (by rw [List.length_map]; exact hn) Y.2.2.2.2.1 ?_ (lv_room (catsum hrest)) hd ⟨by omega, by omega⟩
  show List.map (tr z b) (As.reverse ++ rest) = _
  rw [List.map_append, List.map_reverse]
theorem z_callI {M' : MD} {n idx L' ac' az' rc' rs' : Nat} {a : Nat} {As rest : List Value} (hd : decode M.2.1 pc = .ok (.invokespecial idx, 3)) (hM : MOk M' n) (hr : M'.2.2.2 = none) (hini : M'.1.name = "<init>") (hi : Cond.instanceMethod M'.1 ∈ lw_g) (hl : Cond.methodLink M.1.cls idx M'.1 ∈ lw_g) (hn : As.length = n) (hst : st = As.reverse ++ .ref a :: rest) (hrest : rest.length ≤ 8) (hL : L' + 1 ≤ L) (hac : ac' + rc' ≤ rc) (haz : az' + rs' ≤ rs)
    (kk : Cn l M' L' ac' az' (.ref a :: As) T F G A B (fun v T F G A B => Z l M L ac az rc' rs' Q (pc + 3) lv (v.toList ++ rest) T F G A B)) : Z l M L ac az rc rs Q pc lv st T F G A B := by
  intro p e R s m args below meth c H locs cells slots z b D cy ls X Y
  subst hst
  have hts := X.2.2.2.2.1
  have Y2 := Y.2.2.1
  have Y3 := Y.2.2.2.1
  have X2 := X.2.2.2.2.2.2.2.2.2.2.2.2.1
  have X3 := X.2.2.2.2.2.2.2.2.2.2.2.2.2.1
  have hB := z_callB (ac' := ac') (az' := az') X hM hl hL
  have hk := kk z b cy D
  rw [hr] at hB hk
  refine z_back (rest := rest) (a := (Value.ref (z + a) :: As.map (tr z b)).toArray) (lvn := lv) X Y hac haz ?_
  refine va_runI (nL := M.2.2.1) (Ts := lw_g) (own := M.1.cls) (As := As.map (tr z b)) (rest := rest.map (tr z b)) (b := z + a) ⟨X.1, X.2.1, X.2.2.1, X.2.2.2.1, hts⟩ hk ⟨hB, hini, hts _ hi⟩ ⟨z_blind (av := .ref a :: As), fun U hU hW => ⟨rfl, z_start X Y hU hW⟩⟩ rfl (by rw [List.length_map]; exact hn) Y.2.2.2.2.1 ?_ (lv_room (catsum hrest)) hd ⟨by omega, by omega⟩
  show List.map (tr z b) (As.reverse ++ Value.ref a :: rest) = _
  rw [List.map_append, List.map_reverse]
  rfl
theorem z_callSN {M' : MD} {n idx L' ac' az' rc' rs' : Nat} {As rest : List Value} (hd : decode M.2.1 pc = .ok (.invokestatic idx, 3)) (hM : MOk M' n) (hs : Cond.static M'.1 ∈ lw_g) (hl : (M.1.cls, idx, M'.1) ∈ nestL) (hn : As.length = n) (hst : st = As.reverse ++ rest) (hrest : rest.length ≤ 8) (hL : L' + 1 ≤ L) (hac : ac' + rc' ≤ rc) (haz : az' + rs' ≤ rs)
    (kk : Cn l M' L' ac' az' As T F G A B (fun v T F G A B => Z l M L ac az rc' rs' Q (pc + 3) lv (v.toList ++ rest) T F G A B)) : Z l M L ac az rc rs Q pc lv st T F G A B := by
  intro p e R s m args below meth c H locs cells slots z b D cy ls X Y
  subst hst
  have hts := X.2.2.2.2.1
  have Y2 := Y.2.2.1
  have Y3 := Y.2.2.2.1
  have X2 := X.2.2.2.2.2.2.2.2.2.2.2.2.1
  have X3 := X.2.2.2.2.2.2.2.2.2.2.2.2.2.1
  have hNW := X.2.2.2.2.2.2.2.2.2.2.2.2.2.2
  have hfr := X.2.2.2.2.2.2.2.2.2.2.1
  have hlo := X.2.2.2.2.2.2.2.2.2.2.2.1
  obtain ⟨h1, h2, h3, h4⟩ := hM
  have hG : GoodIn lw_g (.code M'.1 M'.2.1 M'.2.2.1 M'.2.2.2 :: lw_g) := fun w hw => by
    rcases List.mem_cons.mp hw with h | h
    · rw [h]; exact lw_good _ h1
    · exact lw_good _ h
  refine z_back (rest := rest) (a := (As.map (tr z b)).toArray) (lvn := lv) X Y hac haz ?_
  refine va_runSN (host := RX7) (nL := M.2.2.1) (Ts := lw_g) (own := M.1.cls) (As := As.map (tr z b)) (rest := rest.map (tr z b)) ⟨X.1, X.2.1, X.2.2.1, X.2.2.2.1, hts⟩ (kk z b cy D) ⟨va_cnB n hts hG rfl rfl rfl (hNW.1 _ hl) (hts _ h2) h3 ⟨Nat.le_trans hL hfr, by show 8 + (M'.2.2.1 + 11) + 64 * L' ≤ R.locals; omega⟩, hts _ hs, trivial⟩ ⟨z_blind, fun U hU hW => ⟨rfl, z_start X Y hU hW⟩⟩ rfl (by rw [List.length_map]; exact hn) Y.2.2.2.2.1 ?_ (lv_room (catsum hrest)) hd ⟨by omega, by omega⟩
  show List.map (tr z b) (As.reverse ++ rest) = _
  rw [List.map_append, List.map_reverse]
theorem z_callIN {M' : MD} {n idx L' ac' az' rc' rs' : Nat} {a : Nat} {As rest : List Value} (hd : decode M.2.1 pc = .ok (.invokespecial idx, 3)) (hM : MOk M' n) (hr : M'.2.2.2 = none) (hini : M'.1.name = "<init>") (hi : Cond.instanceMethod M'.1 ∈ lw_g) (hl : (M.1.cls, idx, M'.1) ∈ nestL) (hn : As.length = n) (hst : st = As.reverse ++ .ref a :: rest) (hrest : rest.length ≤ 8) (hL : L' + 1 ≤ L) (hac : ac' + rc' ≤ rc) (haz : az' + rs' ≤ rs)
    (kk : Cn l M' L' ac' az' (.ref a :: As) T F G A B (fun v T F G A B => Z l M L ac az rc' rs' Q (pc + 3) lv (v.toList ++ rest) T F G A B)) : Z l M L ac az rc rs Q pc lv st T F G A B := by
  intro p e R s m args below meth c H locs cells slots z b D cy ls X Y
  subst hst
  have hts := X.2.2.2.2.1
  have Y2 := Y.2.2.1
  have Y3 := Y.2.2.2.1
  have X2 := X.2.2.2.2.2.2.2.2.2.2.2.2.1
  have X3 := X.2.2.2.2.2.2.2.2.2.2.2.2.2.1
  have hNW := X.2.2.2.2.2.2.2.2.2.2.2.2.2.2
  have hfr := X.2.2.2.2.2.2.2.2.2.2.1
  have hlo := X.2.2.2.2.2.2.2.2.2.2.2.1
  obtain ⟨h1, h2, h3, h4⟩ := hM
  rw [hr] at h1
  have hk := kk z b cy D
  rw [hr] at hk
  have hG : GoodIn lw_g (.code M'.1 M'.2.1 M'.2.2.1 none :: lw_g) := fun w hw => by
    rcases List.mem_cons.mp hw with h | h
    · rw [h]; exact lw_good _ h1
    · exact lw_good _ h
  refine z_back (rest := rest) (a := (Value.ref (z + a) :: As.map (tr z b)).toArray) (lvn := lv) X Y hac haz ?_
  refine va_runIN (host := RX7) (nL := M.2.2.1) (Ts := lw_g) (own := M.1.cls) (As := As.map (tr z b)) (rest := rest.map (tr z b)) (b := z + a) ⟨X.1, X.2.1, X.2.2.1, X.2.2.2.1, hts⟩ hk ⟨va_cnB n hts hG rfl rfl rfl (hNW.1 _ hl) (hts _ h2) h3 ⟨Nat.le_trans hL hfr, by show 8 + (M'.2.2.1 + 11) + 64 * L' ≤ R.locals; omega⟩, hini, hts _ hi⟩ ⟨z_blind (av := .ref a :: As), fun U hU hW => ⟨rfl, z_start X Y hU hW⟩⟩ rfl (by rw [List.length_map]; exact hn) Y.2.2.2.2.1 ?_ (lv_room (catsum hrest)) hd ⟨by omega, by omega⟩
  show List.map (tr z b) (As.reverse ++ Value.ref a :: rest) = _
  rw [List.map_append, List.map_reverse]
  rfl
theorem Cn.ofZ {av : List Value} (hy : plainName M.1.cls = true) (hlv : ∀ z b, lv_args 0 (av.map (tr z b)) = lv.map (tq z b)) (hlen : ∀ z b, (lg_sl (av.map (tr z b))).length ≤ M.2.2.1) (h : Z l M L ac az ac az Q 0 lv [] T F G A B) : Cn l M L ac az av T F G A B Q := by
  intro z b cy D
  refine Met.ofW (cc := M.2.1) (maxL := M.2.2.1) (ret := M.2.2.2) hy rfl ?_
  intro p e s m args below meth c s₁ Bd hml hv
  obtain ⟨rfl, hz, hRP, hK, hNW⟩ := hv
  have hts := atoms_spec (ws := .code M.1 M.2.1 M.2.2.1 M.2.2.2 :: lw_g) Bd.pre
  have hl := lv_entry (av.map (tr z b)) (n := M.2.2.1) (hlen z b)
  rw [hlv z b] at hl
  rw [lg_entry_eq]
  exact h p e (rmL L ac az) s m _ below meth c s.heap [] 0 0 z b D cy _ ⟨Bd.exec, Bd.bytes, hml, findClass_of_methodNamed Bd.named, fun w hw => hts w (List.mem_cons_of_mem _ hw), Bd.notSynchronized, Bd.returns, (name_of_methodNamed Bd.named Bd.method).1, hz, hK, Nat.le_refl _, Nat.le_refl _, Nat.le_refl _, Nat.le_refl _, hNW⟩ ⟨hRP, va_S.rf, by omega, by omega, hl⟩
end CALL
end
section
theorem in_X0 : Cond.initialized RX0 ∈ lw_g := lw_gm (List.mem_of_getElem? (i := 61) rfl) rfl
theorem in_X1 : Cond.initialized RX1 ∈ lw_g := lw_gm (List.mem_of_getElem? (i := 56) rfl) rfl
theorem in_X2 : Cond.initialized RX2 ∈ lw_g := lw_gm (List.mem_of_getElem? (i := 53) rfl) rfl
theorem in_X3 : Cond.initialized RX3 ∈ lw_g := lw_gm (List.mem_of_getElem? (i := 55) rfl) rfl
theorem in_X4 : Cond.initialized RX4 ∈ lw_g := lw_gm (List.mem_of_getElem? (i := 58) rfl) rfl
theorem in_X5 : Cond.initialized RX5 ∈ lw_g := lw_gm (List.mem_of_getElem? (i := 52) rfl) rfl
theorem in_X6 : Cond.initialized RX6 ∈ lw_g := lw_gm (List.mem_of_getElem? (i := 54) rfl) rfl
theorem in_X7 : Cond.initialized RX7 ∈ lw_g := lw_gm (List.mem_of_getElem? (i := 51) rfl) rfl
theorem in_X8 : Cond.initialized RX8 ∈ lw_g := lw_gm (List.mem_of_getElem? (i := 59) rfl) rfl
theorem in_J6 : Cond.initialized RJ6 ∈ lw_g := lw_gm (List.mem_of_getElem? (i := 62) rfl) rfl
theorem in_J9 : Cond.initialized RJ9 ∈ lw_g := lw_gm (List.mem_of_getElem? (i := 60) rfl) rfl
theorem in_J7 : Cond.initialized RJ7 ∈ lw_g := lw_gm (List.mem_of_getElem? (i := 57) rfl) rfl
theorem in_L : Cond.initialized RL ∈ lw_g := lw_gm (List.mem_of_getElem? (i := 50) rfl) rfl
set_option maxRecDepth 20000 in
theorem ckX0 : ClsOk 0 RX0 TX0 5 tyX0 := ⟨rfl, by decide, rfl, by decide +kernel, tyX0_ok, nmX0, by decide +kernel⟩
set_option maxRecDepth 20000 in
theorem ckX1 : ClsOk 1 RX1 TX1 3 tyX1 := ⟨rfl, by decide, rfl, by decide +kernel, tyX1_ok, nmX1, by decide +kernel⟩
set_option maxRecDepth 20000 in
theorem ckX2 : ClsOk 2 RX2 TX2 6 tyX2 := ⟨rfl, by decide, rfl, by decide +kernel, tyX2_ok, nmX2, by decide +kernel⟩
set_option maxRecDepth 20000 in
theorem ckX3 : ClsOk 3 RX3 TX3 1 tyX3 := ⟨rfl, by decide, rfl, by decide +kernel, tyX3_ok, nmX3, by decide +kernel⟩
set_option maxRecDepth 20000 in
theorem ckX4 : ClsOk 4 RX4 TX4 9 tyX4 := ⟨rfl, by decide, rfl, by decide +kernel, tyX4_ok, nmX4, by decide +kernel⟩
set_option maxRecDepth 20000 in
theorem ckX5 : ClsOk 5 RX5 TX5 4 tyX5 := ⟨rfl, by decide, rfl, by decide +kernel, tyX5_ok, nmX5, by decide +kernel⟩
set_option maxRecDepth 20000 in
theorem ckX6 : ClsOk 6 RX6 TX6 4 tyX6 := ⟨rfl, by decide, rfl, by decide +kernel, tyX6_ok, nmX6, by decide +kernel⟩
set_option maxRecDepth 20000 in
theorem ckX7 : ClsOk 7 RX7 TX7 10 tyX7 := ⟨rfl, by decide, rfl, by decide +kernel, tyX7_ok, nmX7, by decide +kernel⟩
set_option maxRecDepth 20000 in
theorem ckX8 : ClsOk 8 RX8 TX8 34 tyX8 := ⟨rfl, by decide, rfl, by decide +kernel, tyX8_ok, nmX8, by decide +kernel⟩
abbrev mX0_init : MD := (yX0_init, cX0_init, 5, none)
theorem okX0_init : MOk mX0_init 4 := ⟨lw_gm (List.mem_of_getElem? (i := 377) rfl) rfl, in_X0, by decide +kernel, by decide⟩
theorem imX0_init : Cond.instanceMethod yX0_init ∈ lw_g := lw_gm (List.mem_of_getElem? (i := 376) rfl) rfl
abbrev mX1_init : MD := (yX1_init, cX1_init, 1, none)
theorem okX1_init : MOk mX1_init 0 := ⟨lw_gm (List.mem_of_getElem? (i := 156) rfl) rfl, in_X1, by decide +kernel, by decide⟩
theorem imX1_init : Cond.instanceMethod yX1_init ∈ lw_g := lw_gm (List.mem_of_getElem? (i := 155) rfl) rfl
abbrev mX1_admits : MD := (yX1_admits, cX1_admits, 3, some FieldType.boolean)
set_option maxRecDepth 20000 in
theorem okX1_admits : MOk mX1_admits 1 := ⟨lw_gm (List.mem_of_getElem? (i := 424) rfl) rfl, in_X1, by decide +kernel, by decide⟩
set_option maxRecDepth 20000 in
theorem imX1_admits : Cond.instanceMethod yX1_admits ∈ lw_g := lw_gm (List.mem_of_getElem? (i := 422) rfl) rfl
set_option maxRecDepth 20000 in
theorem ioX1_admits : IOk mX1_admits := ⟨imX1_admits, lw_gm (List.mem_of_getElem? (i := 423) rfl) rfl⟩
abbrev mX1_readFrom : MD := (yX1_readFrom, cX1_readFrom, 4, some FieldType.int)
theorem okX1_readFrom : MOk mX1_readFrom 1 := ⟨lw_gm (List.mem_of_getElem? (i := 296) rfl) rfl, in_X1, by decide +kernel, by decide⟩
theorem imX1_readFrom : Cond.instanceMethod yX1_readFrom ∈ lw_g := lw_gm (List.mem_of_getElem? (i := 294) rfl) rfl
theorem ioX1_readFrom : IOk mX1_readFrom := ⟨imX1_readFrom, lw_gm (List.mem_of_getElem? (i := 295) rfl) rfl⟩
abbrev mX1_letAll : MD := (yX1_letAll, cX1_letAll, 1, none)
theorem okX1_letAll : MOk mX1_letAll 0 := ⟨lw_gm (List.mem_of_getElem? (i := 161) rfl) rfl, in_X1, by decide +kernel, by decide⟩
theorem imX1_letAll : Cond.instanceMethod yX1_letAll ∈ lw_g := lw_gm (List.mem_of_getElem? (i := 160) rfl) rfl
theorem ioX1_letAll : IOk mX1_letAll := ⟨imX1_letAll, lw_gm (List.mem_of_getElem? (i := 0) rfl) rfl⟩
abbrev mX1_isWithin : MD := (yX1_isWithin, cX1_isWithin, 3, some FieldType.boolean)
set_option maxRecDepth 20000 in
theorem okX1_isWithin : MOk mX1_isWithin 2 := ⟨lw_gm (List.mem_of_getElem? (i := 428) rfl) rfl, in_X1, by decide +kernel, by decide⟩
set_option maxRecDepth 20000 in
theorem imX1_isWithin : Cond.instanceMethod yX1_isWithin ∈ lw_g := lw_gm (List.mem_of_getElem? (i := 427) rfl) rfl
theorem ioX1_isWithin : IOk mX1_isWithin := ⟨imX1_isWithin, lw_gm (List.mem_of_getElem? (i := 8) rfl) rfl⟩
abbrev mX1_isClauseLetter : MD := (yX1_isClauseLetter, cX1_isClauseLetter, 1, some FieldType.boolean)
theorem okX1_isClauseLetter : MOk mX1_isClauseLetter 1 := ⟨lw_gm (List.mem_of_getElem? (i := 360) rfl) rfl, in_X1, by decide +kernel, by decide⟩
theorem smX1_isClauseLetter : Cond.static yX1_isClauseLetter ∈ lw_g := lw_gm (List.mem_of_getElem? (i := 359) rfl) rfl
abbrev mX1_readClause : MD := (yX1_readClause, cX1_readClause, 2, some FieldType.int)
theorem okX1_readClause : MOk mX1_readClause 1 := ⟨lw_gm (List.mem_of_getElem? (i := 304) rfl) rfl, in_X1, by decide +kernel, by decide⟩
theorem imX1_readClause : Cond.instanceMethod yX1_readClause ∈ lw_g := lw_gm (List.mem_of_getElem? (i := 303) rfl) rfl
theorem ioX1_readClause : IOk mX1_readClause := ⟨imX1_readClause, lw_gm (List.mem_of_getElem? (i := 2) rfl) rfl⟩
abbrev mX1_readBreeds : MD := (yX1_readBreeds, cX1_readBreeds, 5, some FieldType.int)
theorem okX1_readBreeds : MOk mX1_readBreeds 1 := ⟨lw_gm (List.mem_of_getElem? (i := 320) rfl) rfl, in_X1, by decide +kernel, by decide⟩
theorem imX1_readBreeds : Cond.instanceMethod yX1_readBreeds ∈ lw_g := lw_gm (List.mem_of_getElem? (i := 319) rfl) rfl
theorem ioX1_readBreeds : IOk mX1_readBreeds := ⟨imX1_readBreeds, lw_gm (List.mem_of_getElem? (i := 3) rfl) rfl⟩
abbrev mX1_readMeasure : MD := (yX1_readMeasure, cX1_readMeasure, 3, some FieldType.int)
theorem okX1_readMeasure : MOk mX1_readMeasure 1 := ⟨lw_gm (List.mem_of_getElem? (i := 357) rfl) rfl, in_X1, by decide +kernel, by decide⟩
theorem imX1_readMeasure : Cond.instanceMethod yX1_readMeasure ∈ lw_g := lw_gm (List.mem_of_getElem? (i := 356) rfl) rfl
theorem ioX1_readMeasure : IOk mX1_readMeasure := ⟨imX1_readMeasure, lw_gm (List.mem_of_getElem? (i := 6) rfl) rfl⟩
abbrev mX1_readLeast : MD := (yX1_readLeast, cX1_readLeast, 5, some FieldType.int)
theorem okX1_readLeast : MOk mX1_readLeast 3 := ⟨lw_gm (List.mem_of_getElem? (i := 338) rfl) rfl, in_X1, by decide +kernel, by decide⟩
theorem imX1_readLeast : Cond.instanceMethod yX1_readLeast ∈ lw_g := lw_gm (List.mem_of_getElem? (i := 337) rfl) rfl
theorem ioX1_readLeast : IOk mX1_readLeast := ⟨imX1_readLeast, lw_gm (List.mem_of_getElem? (i := 4) rfl) rfl⟩
abbrev mX1_readMost : MD := (yX1_readMost, cX1_readMost, 5, some FieldType.int)
theorem okX1_readMost : MOk mX1_readMost 3 := ⟨lw_gm (List.mem_of_getElem? (i := 350) rfl) rfl, in_X1, by decide +kernel, by decide⟩
theorem imX1_readMost : Cond.instanceMethod yX1_readMost ∈ lw_g := lw_gm (List.mem_of_getElem? (i := 349) rfl) rfl
theorem ioX1_readMost : IOk mX1_readMost := ⟨imX1_readMost, lw_gm (List.mem_of_getElem? (i := 5) rfl) rfl⟩
abbrev mX2_init : MD := (yX2_init, cX2_init, 1, none)
theorem okX2_init : MOk mX2_init 0 := ⟨lw_gm (List.mem_of_getElem? (i := 99) rfl) rfl, in_X2, by decide +kernel, by decide⟩
theorem imX2_init : Cond.instanceMethod yX2_init ∈ lw_g := lw_gm (List.mem_of_getElem? (i := 98) rfl) rfl
abbrev mX2_join : MD := (yX2_join, cX2_join, 5, none)
set_option maxRecDepth 20000 in
theorem okX2_join : MOk mX2_join 1 := ⟨lw_gm (List.mem_of_getElem? (i := 445) rfl) rfl, in_X2, by decide +kernel, by decide⟩
set_option maxRecDepth 20000 in
theorem imX2_join : Cond.instanceMethod yX2_join ∈ lw_g := lw_gm (List.mem_of_getElem? (i := 443) rfl) rfl
set_option maxRecDepth 20000 in
theorem ioX2_join : IOk mX2_join := ⟨imX2_join, lw_gm (List.mem_of_getElem? (i := 444) rfl) rfl⟩
abbrev mX2_findInRing : MD := (yX2_findInRing, cX2_findInRing, 6, some FieldType.int)
set_option maxRecDepth 20000 in
theorem okX2_findInRing : MOk mX2_findInRing 2 := ⟨lw_gm (List.mem_of_getElem? (i := 529) rfl) rfl, in_X2, by decide +kernel, by decide⟩
set_option maxRecDepth 20000 in
theorem imX2_findInRing : Cond.instanceMethod yX2_findInRing ∈ lw_g := lw_gm (List.mem_of_getElem? (i := 527) rfl) rfl
set_option maxRecDepth 20000 in
theorem ioX2_findInRing : IOk mX2_findInRing := ⟨imX2_findInRing, lw_gm (List.mem_of_getElem? (i := 528) rfl) rfl⟩
abbrev mX2_beats : MD := (yX2_beats, cX2_beats, 3, some FieldType.boolean)
set_option maxRecDepth 20000 in
theorem okX2_beats : MOk mX2_beats 2 := ⟨lw_gm (List.mem_of_getElem? (i := 533) rfl) rfl, in_X2, by decide +kernel, by decide⟩
set_option maxRecDepth 20000 in
theorem imX2_beats : Cond.instanceMethod yX2_beats ∈ lw_g := lw_gm (List.mem_of_getElem? (i := 532) rfl) rfl
theorem ioX2_beats : IOk mX2_beats := ⟨imX2_beats, lw_gm (List.mem_of_getElem? (i := 15) rfl) rfl⟩
abbrev mX2_tally : MD := (yX2_tally, cX2_tally, 3, none)
set_option maxRecDepth 20000 in
theorem okX2_tally : MOk mX2_tally 1 := ⟨lw_gm (List.mem_of_getElem? (i := 449) rfl) rfl, in_X2, by decide +kernel, by decide⟩
set_option maxRecDepth 20000 in
theorem imX2_tally : Cond.instanceMethod yX2_tally ∈ lw_g := lw_gm (List.mem_of_getElem? (i := 448) rfl) rfl
theorem ioX2_tally : IOk mX2_tally := ⟨imX2_tally, lw_gm (List.mem_of_getElem? (i := 9) rfl) rfl⟩
abbrev mX2_tallyOrder : MD := (yX2_tallyOrder, cX2_tallyOrder, 7, none)
set_option maxRecDepth 20000 in
theorem okX2_tallyOrder : MOk mX2_tallyOrder 2 := ⟨lw_gm (List.mem_of_getElem? (i := 458) rfl) rfl, in_X2, by decide +kernel, by decide⟩
set_option maxRecDepth 20000 in
theorem imX2_tallyOrder : Cond.instanceMethod yX2_tallyOrder ∈ lw_g := lw_gm (List.mem_of_getElem? (i := 457) rfl) rfl
theorem ioX2_tallyOrder : IOk mX2_tallyOrder := ⟨imX2_tallyOrder, lw_gm (List.mem_of_getElem? (i := 10) rfl) rfl⟩
abbrev mX2_sumLost : MD := (yX2_sumLost, cX2_sumLost, 4, none)
set_option maxRecDepth 20000 in
theorem okX2_sumLost : MOk mX2_sumLost 0 := ⟨lw_gm (List.mem_of_getElem? (i := 462) rfl) rfl, in_X2, by decide +kernel, by decide⟩
set_option maxRecDepth 20000 in
theorem imX2_sumLost : Cond.instanceMethod yX2_sumLost ∈ lw_g := lw_gm (List.mem_of_getElem? (i := 461) rfl) rfl
theorem ioX2_sumLost : IOk mX2_sumLost := ⟨imX2_sumLost, lw_gm (List.mem_of_getElem? (i := 11) rfl) rfl⟩
abbrev mX2_findFewest : MD := (yX2_findFewest, cX2_findFewest, 4, none)
set_option maxRecDepth 20000 in
theorem okX2_findFewest : MOk mX2_findFewest 0 := ⟨lw_gm (List.mem_of_getElem? (i := 466) rfl) rfl, in_X2, by decide +kernel, by decide⟩
set_option maxRecDepth 20000 in
theorem imX2_findFewest : Cond.instanceMethod yX2_findFewest ∈ lw_g := lw_gm (List.mem_of_getElem? (i := 465) rfl) rfl
theorem ioX2_findFewest : IOk mX2_findFewest := ⟨imX2_findFewest, lw_gm (List.mem_of_getElem? (i := 12) rfl) rfl⟩
abbrev mX2_swapsWithFirst : MD := (yX2_swapsWithFirst, cX2_swapsWithFirst, 3, some FieldType.int)
set_option maxRecDepth 20000 in
theorem okX2_swapsWithFirst : MOk mX2_swapsWithFirst 2 := ⟨lw_gm (List.mem_of_getElem? (i := 471) rfl) rfl, in_X2, by decide +kernel, by decide⟩
set_option maxRecDepth 20000 in
theorem imX2_swapsWithFirst : Cond.instanceMethod yX2_swapsWithFirst ∈ lw_g := lw_gm (List.mem_of_getElem? (i := 470) rfl) rfl
theorem ioX2_swapsWithFirst : IOk mX2_swapsWithFirst := ⟨imX2_swapsWithFirst, lw_gm (List.mem_of_getElem? (i := 13) rfl) rfl⟩
abbrev mX2_leastFirst : MD := (yX2_leastFirst, cX2_leastFirst, 3, some FieldType.int)
set_option maxRecDepth 20000 in
theorem okX2_leastFirst : MOk mX2_leastFirst 1 := ⟨lw_gm (List.mem_of_getElem? (i := 476) rfl) rfl, in_X2, by decide +kernel, by decide⟩
set_option maxRecDepth 20000 in
theorem imX2_leastFirst : Cond.instanceMethod yX2_leastFirst ∈ lw_g := lw_gm (List.mem_of_getElem? (i := 475) rfl) rfl
theorem ioX2_leastFirst : IOk mX2_leastFirst := ⟨imX2_leastFirst, lw_gm (List.mem_of_getElem? (i := 14) rfl) rfl⟩
abbrev mX3_init : MD := (yX3_init, cX3_init, 1, none)
theorem okX3_init : MOk mX3_init 0 := ⟨lw_gm (List.mem_of_getElem? (i := 146) rfl) rfl, in_X3, by decide +kernel, by decide⟩
theorem imX3_init : Cond.instanceMethod yX3_init ∈ lw_g := lw_gm (List.mem_of_getElem? (i := 145) rfl) rfl
abbrev mX3_score : MD := (yX3_score, cX3_score, 5, some FieldType.int)
set_option maxRecDepth 20000 in
theorem okX3_score : MOk mX3_score 3 := ⟨lw_gm (List.mem_of_getElem? (i := 572) rfl) rfl, in_X3, by decide +kernel, by decide⟩
set_option maxRecDepth 20000 in
theorem imX3_score : Cond.instanceMethod yX3_score ∈ lw_g := lw_gm (List.mem_of_getElem? (i := 570) rfl) rfl
set_option maxRecDepth 20000 in
theorem ioX3_score : IOk mX3_score := ⟨imX3_score, lw_gm (List.mem_of_getElem? (i := 571) rfl) rfl⟩
abbrev mX3_readPairs : MD := (yX3_readPairs, cX3_readPairs, 6, some FieldType.int)
set_option maxRecDepth 20000 in
theorem okX3_readPairs : MOk mX3_readPairs 3 := ⟨lw_gm (List.mem_of_getElem? (i := 576) rfl) rfl, in_X3, by decide +kernel, by decide⟩
set_option maxRecDepth 20000 in
theorem imX3_readPairs : Cond.instanceMethod yX3_readPairs ∈ lw_g := lw_gm (List.mem_of_getElem? (i := 575) rfl) rfl
theorem ioX3_readPairs : IOk mX3_readPairs := ⟨imX3_readPairs, lw_gm (List.mem_of_getElem? (i := 17) rfl) rfl⟩
abbrev mX3_readPair : MD := (yX3_readPair, cX3_readPair, 8, some FieldType.int)
set_option maxRecDepth 20000 in
theorem okX3_readPair : MOk mX3_readPair 3 := ⟨lw_gm (List.mem_of_getElem? (i := 580) rfl) rfl, in_X3, by decide +kernel, by decide⟩
set_option maxRecDepth 20000 in
theorem imX3_readPair : Cond.instanceMethod yX3_readPair ∈ lw_g := lw_gm (List.mem_of_getElem? (i := 579) rfl) rfl
theorem ioX3_readPair : IOk mX3_readPair := ⟨imX3_readPair, lw_gm (List.mem_of_getElem? (i := 18) rfl) rfl⟩
abbrev mX3_placeNamed : MD := (yX3_placeNamed, cX3_placeNamed, 1, some FieldType.int)
set_option maxRecDepth 20000 in
theorem okX3_placeNamed : MOk mX3_placeNamed 1 := ⟨lw_gm (List.mem_of_getElem? (i := 587) rfl) rfl, in_X3, by decide +kernel, by decide⟩
set_option maxRecDepth 20000 in
theorem smX3_placeNamed : Cond.static yX3_placeNamed ∈ lw_g := lw_gm (List.mem_of_getElem? (i := 586) rfl) rfl
abbrev mX3_faultOfPlace : MD := (yX3_faultOfPlace, cX3_faultOfPlace, 3, some FieldType.int)
set_option maxRecDepth 20000 in
theorem okX3_faultOfPlace : MOk mX3_faultOfPlace 3 := ⟨lw_gm (List.mem_of_getElem? (i := 591) rfl) rfl, in_X3, by decide +kernel, by decide⟩
set_option maxRecDepth 20000 in
theorem smX3_faultOfPlace : Cond.static yX3_faultOfPlace ∈ lw_g := lw_gm (List.mem_of_getElem? (i := 590) rfl) rfl
abbrev mX3_readTerms : MD := (yX3_readTerms, cX3_readTerms, 8, some FieldType.int)
set_option maxRecDepth 20000 in
theorem okX3_readTerms : MOk mX3_readTerms 3 := ⟨lw_gm (List.mem_of_getElem? (i := 599) rfl) rfl, in_X3, by decide +kernel, by decide⟩
set_option maxRecDepth 20000 in
theorem imX3_readTerms : Cond.instanceMethod yX3_readTerms ∈ lw_g := lw_gm (List.mem_of_getElem? (i := 598) rfl) rfl
theorem ioX3_readTerms : IOk mX3_readTerms := ⟨imX3_readTerms, lw_gm (List.mem_of_getElem? (i := 19) rfl) rfl⟩
abbrev mX3_isAtTerm : MD := (yX3_isAtTerm, cX3_isAtTerm, 1, some FieldType.boolean)
set_option maxRecDepth 20000 in
theorem okX3_isAtTerm : MOk mX3_isAtTerm 1 := ⟨lw_gm (List.mem_of_getElem? (i := 602) rfl) rfl, in_X3, by decide +kernel, by decide⟩
set_option maxRecDepth 20000 in
theorem smX3_isAtTerm : Cond.static yX3_isAtTerm ∈ lw_g := lw_gm (List.mem_of_getElem? (i := 601) rfl) rfl
abbrev mX3_isAtMeasure : MD := (yX3_isAtMeasure, cX3_isAtMeasure, 1, some FieldType.boolean)
set_option maxRecDepth 20000 in
theorem okX3_isAtMeasure : MOk mX3_isAtMeasure 1 := ⟨lw_gm (List.mem_of_getElem? (i := 605) rfl) rfl, in_X3, by decide +kernel, by decide⟩
set_option maxRecDepth 20000 in
theorem smX3_isAtMeasure : Cond.static yX3_isAtMeasure ∈ lw_g := lw_gm (List.mem_of_getElem? (i := 604) rfl) rfl
abbrev mX4_init : MD := (yX4_init, cX4_init, 1, none)
theorem okX4_init : MOk mX4_init 0 := ⟨lw_gm (List.mem_of_getElem? (i := 179) rfl) rfl, in_X4, by decide +kernel, by decide⟩
theorem imX4_init : Cond.instanceMethod yX4_init ∈ lw_g := lw_gm (List.mem_of_getElem? (i := 178) rfl) rfl
abbrev mX4_swapText : MD := (yX4_swapText, cX4_swapText, 3, some (FieldType.object "CattleShow$ClassText"))
theorem okX4_swapText : MOk mX4_swapText 1 := ⟨lw_gm (List.mem_of_getElem? (i := 369) rfl) rfl, in_X4, by decide +kernel, by decide⟩
theorem imX4_swapText : Cond.instanceMethod yX4_swapText ∈ lw_g := lw_gm (List.mem_of_getElem? (i := 367) rfl) rfl
theorem ioX4_swapText : IOk mX4_swapText := ⟨imX4_swapText, lw_gm (List.mem_of_getElem? (i := 368) rfl) rfl⟩
abbrev mX4_admits : MD := (yX4_admits, cX4_admits, 2, some FieldType.boolean)
set_option maxRecDepth 20000 in
theorem okX4_admits : MOk mX4_admits 1 := ⟨lw_gm (List.mem_of_getElem? (i := 420) rfl) rfl, in_X4, by decide +kernel, by decide⟩
set_option maxRecDepth 20000 in
theorem imX4_admits : Cond.instanceMethod yX4_admits ∈ lw_g := lw_gm (List.mem_of_getElem? (i := 418) rfl) rfl
set_option maxRecDepth 20000 in
theorem ioX4_admits : IOk mX4_admits := ⟨imX4_admits, lw_gm (List.mem_of_getElem? (i := 419) rfl) rfl⟩
abbrev mX4_holds : MD := (yX4_holds, cX4_holds, 2, some FieldType.boolean)
set_option maxRecDepth 20000 in
theorem okX4_holds : MOk mX4_holds 1 := ⟨lw_gm (List.mem_of_getElem? (i := 453) rfl) rfl, in_X4, by decide +kernel, by decide⟩
set_option maxRecDepth 20000 in
theorem imX4_holds : Cond.instanceMethod yX4_holds ∈ lw_g := lw_gm (List.mem_of_getElem? (i := 451) rfl) rfl
set_option maxRecDepth 20000 in
theorem ioX4_holds : IOk mX4_holds := ⟨imX4_holds, lw_gm (List.mem_of_getElem? (i := 452) rfl) rfl⟩
abbrev mX4_canTake : MD := (yX4_canTake, cX4_canTake, 2, some FieldType.boolean)
set_option maxRecDepth 20000 in
theorem okX4_canTake : MOk mX4_canTake 1 := ⟨lw_gm (List.mem_of_getElem? (i := 437) rfl) rfl, in_X4, by decide +kernel, by decide⟩
set_option maxRecDepth 20000 in
theorem imX4_canTake : Cond.instanceMethod yX4_canTake ∈ lw_g := lw_gm (List.mem_of_getElem? (i := 435) rfl) rfl
set_option maxRecDepth 20000 in
theorem ioX4_canTake : IOk mX4_canTake := ⟨imX4_canTake, lw_gm (List.mem_of_getElem? (i := 436) rfl) rfl⟩
abbrev mX4_take : MD := (yX4_take, cX4_take, 2, none)
set_option maxRecDepth 20000 in
theorem okX4_take : MOk mX4_take 1 := ⟨lw_gm (List.mem_of_getElem? (i := 441) rfl) rfl, in_X4, by decide +kernel, by decide⟩
set_option maxRecDepth 20000 in
theorem imX4_take : Cond.instanceMethod yX4_take ∈ lw_g := lw_gm (List.mem_of_getElem? (i := 439) rfl) rfl
set_option maxRecDepth 20000 in
theorem ioX4_take : IOk mX4_take := ⟨imX4_take, lw_gm (List.mem_of_getElem? (i := 440) rfl) rfl⟩
abbrev mX4_putOut : MD := (yX4_putOut, cX4_putOut, 2, none)
set_option maxRecDepth 20000 in
theorem okX4_putOut : MOk mX4_putOut 1 := ⟨lw_gm (List.mem_of_getElem? (i := 485) rfl) rfl, in_X4, by decide +kernel, by decide⟩
set_option maxRecDepth 20000 in
theorem imX4_putOut : Cond.instanceMethod yX4_putOut ∈ lw_g := lw_gm (List.mem_of_getElem? (i := 483) rfl) rfl
set_option maxRecDepth 20000 in
theorem ioX4_putOut : IOk mX4_putOut := ⟨imX4_putOut, lw_gm (List.mem_of_getElem? (i := 484) rfl) rfl⟩
abbrev mX4_keepOrder : MD := (yX4_keepOrder, cX4_keepOrder, 4, none)
set_option maxRecDepth 20000 in
theorem okX4_keepOrder : MOk mX4_keepOrder 2 := ⟨lw_gm (List.mem_of_getElem? (i := 512) rfl) rfl, in_X4, by decide +kernel, by decide⟩
set_option maxRecDepth 20000 in
theorem imX4_keepOrder : Cond.instanceMethod yX4_keepOrder ∈ lw_g := lw_gm (List.mem_of_getElem? (i := 510) rfl) rfl
set_option maxRecDepth 20000 in
theorem ioX4_keepOrder : IOk mX4_keepOrder := ⟨imX4_keepOrder, lw_gm (List.mem_of_getElem? (i := 511) rfl) rfl⟩
abbrev mX4_countOrders : MD := (yX4_countOrders, cX4_countOrders, 3, some FieldType.int)
set_option maxRecDepth 20000 in
theorem okX4_countOrders : MOk mX4_countOrders 0 := ⟨lw_gm (List.mem_of_getElem? (i := 655) rfl) rfl, in_X4, by decide +kernel, by decide⟩
set_option maxRecDepth 20000 in
theorem imX4_countOrders : Cond.instanceMethod yX4_countOrders ∈ lw_g := lw_gm (List.mem_of_getElem? (i := 653) rfl) rfl
set_option maxRecDepth 20000 in
theorem ioX4_countOrders : IOk mX4_countOrders := ⟨imX4_countOrders, lw_gm (List.mem_of_getElem? (i := 654) rfl) rfl⟩
abbrev mX4_placeOf : MD := (yX4_placeOf, cX4_placeOf, 3, some FieldType.int)
set_option maxRecDepth 20000 in
theorem okX4_placeOf : MOk mX4_placeOf 1 := ⟨lw_gm (List.mem_of_getElem? (i := 559) rfl) rfl, in_X4, by decide +kernel, by decide⟩
set_option maxRecDepth 20000 in
theorem imX4_placeOf : Cond.instanceMethod yX4_placeOf ∈ lw_g := lw_gm (List.mem_of_getElem? (i := 557) rfl) rfl
set_option maxRecDepth 20000 in
theorem ioX4_placeOf : IOk mX4_placeOf := ⟨imX4_placeOf, lw_gm (List.mem_of_getElem? (i := 558) rfl) rfl⟩
abbrev mX4_cardLength : MD := (yX4_cardLength, cX4_cardLength, 1, some FieldType.int)
set_option maxRecDepth 20000 in
theorem okX4_cardLength : MOk mX4_cardLength 0 := ⟨lw_gm (List.mem_of_getElem? (i := 545) rfl) rfl, in_X4, by decide +kernel, by decide⟩
set_option maxRecDepth 20000 in
theorem imX4_cardLength : Cond.instanceMethod yX4_cardLength ∈ lw_g := lw_gm (List.mem_of_getElem? (i := 543) rfl) rfl
set_option maxRecDepth 20000 in
theorem ioX4_cardLength : IOk mX4_cardLength := ⟨imX4_cardLength, lw_gm (List.mem_of_getElem? (i := 544) rfl) rfl⟩
abbrev mX4_cardBeasts : MD := (yX4_cardBeasts, cX4_cardBeasts, 3, some FieldType.int)
set_option maxRecDepth 20000 in
theorem okX4_cardBeasts : MOk mX4_cardBeasts 0 := ⟨lw_gm (List.mem_of_getElem? (i := 550) rfl) rfl, in_X4, by decide +kernel, by decide⟩
set_option maxRecDepth 20000 in
theorem imX4_cardBeasts : Cond.instanceMethod yX4_cardBeasts ∈ lw_g := lw_gm (List.mem_of_getElem? (i := 548) rfl) rfl
set_option maxRecDepth 20000 in
theorem ioX4_cardBeasts : IOk mX4_cardBeasts := ⟨imX4_cardBeasts, lw_gm (List.mem_of_getElem? (i := 549) rfl) rfl⟩
abbrev mX4_scoreCard : MD := (yX4_scoreCard, cX4_scoreCard, 5, some FieldType.int)
set_option maxRecDepth 20000 in
theorem okX4_scoreCard : MOk mX4_scoreCard 1 := ⟨lw_gm (List.mem_of_getElem? (i := 555) rfl) rfl, in_X4, by decide +kernel, by decide⟩
set_option maxRecDepth 20000 in
theorem imX4_scoreCard : Cond.instanceMethod yX4_scoreCard ∈ lw_g := lw_gm (List.mem_of_getElem? (i := 553) rfl) rfl
set_option maxRecDepth 20000 in
theorem ioX4_scoreCard : IOk mX4_scoreCard := ⟨imX4_scoreCard, lw_gm (List.mem_of_getElem? (i := 554) rfl) rfl⟩
abbrev mX4_cutsBetween : MD := (yX4_cutsBetween, cX4_cutsBetween, 5, some FieldType.int)
set_option maxRecDepth 20000 in
theorem okX4_cutsBetween : MOk mX4_cutsBetween 2 := ⟨lw_gm (List.mem_of_getElem? (i := 563) rfl) rfl, in_X4, by decide +kernel, by decide⟩
set_option maxRecDepth 20000 in
theorem imX4_cutsBetween : Cond.instanceMethod yX4_cutsBetween ∈ lw_g := lw_gm (List.mem_of_getElem? (i := 562) rfl) rfl
theorem ioX4_cutsBetween : IOk mX4_cutsBetween := ⟨imX4_cutsBetween, lw_gm (List.mem_of_getElem? (i := 16) rfl) rfl⟩
abbrev mX5_init : MD := (yX5_init, cX5_init, 1, none)
theorem okX5_init : MOk mX5_init 0 := ⟨lw_gm (List.mem_of_getElem? (i := 75) rfl) rfl, in_X5, by decide +kernel, by decide⟩
theorem imX5_init : Cond.instanceMethod yX5_init ∈ lw_g := lw_gm (List.mem_of_getElem? (i := 74) rfl) rfl
abbrev mX5_length : MD := (yX5_length, cX5_length, 1, some FieldType.int)
theorem okX5_length : MOk mX5_length 0 := ⟨lw_gm (List.mem_of_getElem? (i := 272) rfl) rfl, in_X5, by decide +kernel, by decide⟩
theorem imX5_length : Cond.instanceMethod yX5_length ∈ lw_g := lw_gm (List.mem_of_getElem? (i := 270) rfl) rfl
theorem ioX5_length : IOk mX5_length := ⟨imX5_length, lw_gm (List.mem_of_getElem? (i := 271) rfl) rfl⟩
abbrev mX5_hasRoom : MD := (yX5_hasRoom, cX5_hasRoom, 1, some FieldType.boolean)
theorem okX5_hasRoom : MOk mX5_hasRoom 0 := ⟨lw_gm (List.mem_of_getElem? (i := 264) rfl) rfl, in_X5, by decide +kernel, by decide⟩
theorem imX5_hasRoom : Cond.instanceMethod yX5_hasRoom ∈ lw_g := lw_gm (List.mem_of_getElem? (i := 262) rfl) rfl
theorem ioX5_hasRoom : IOk mX5_hasRoom := ⟨imX5_hasRoom, lw_gm (List.mem_of_getElem? (i := 263) rfl) rfl⟩
abbrev mX5_has : MD := (yX5_has, cX5_has, 2, some FieldType.boolean)
theorem okX5_has : MOk mX5_has 1 := ⟨lw_gm (List.mem_of_getElem? (i := 287) rfl) rfl, in_X5, by decide +kernel, by decide⟩
theorem imX5_has : Cond.instanceMethod yX5_has ∈ lw_g := lw_gm (List.mem_of_getElem? (i := 285) rfl) rfl
theorem ioX5_has : IOk mX5_has := ⟨imX5_has, lw_gm (List.mem_of_getElem? (i := 286) rfl) rfl⟩
abbrev mX5_append : MD := (yX5_append, cX5_append, 3, none)
theorem okX5_append : MOk mX5_append 1 := ⟨lw_gm (List.mem_of_getElem? (i := 268) rfl) rfl, in_X5, by decide +kernel, by decide⟩
theorem imX5_append : Cond.instanceMethod yX5_append ∈ lw_g := lw_gm (List.mem_of_getElem? (i := 266) rfl) rfl
theorem ioX5_append : IOk mX5_append := ⟨imX5_append, lw_gm (List.mem_of_getElem? (i := 267) rfl) rfl⟩
abbrev mX5_clear : MD := (yX5_clear, cX5_clear, 1, none)
theorem okX5_clear : MOk mX5_clear 0 := ⟨lw_gm (List.mem_of_getElem? (i := 364) rfl) rfl, in_X5, by decide +kernel, by decide⟩
theorem imX5_clear : Cond.instanceMethod yX5_clear ∈ lw_g := lw_gm (List.mem_of_getElem? (i := 362) rfl) rfl
theorem ioX5_clear : IOk mX5_clear := ⟨imX5_clear, lw_gm (List.mem_of_getElem? (i := 363) rfl) rfl⟩
abbrev mX5_byteAt : MD := (yX5_byteAt, cX5_byteAt, 2, some FieldType.int)
set_option maxRecDepth 20000 in
theorem okX5_byteAt : MOk mX5_byteAt 1 := ⟨lw_gm (List.mem_of_getElem? (i := 507) rfl) rfl, in_X5, by decide +kernel, by decide⟩
set_option maxRecDepth 20000 in
theorem imX5_byteAt : Cond.instanceMethod yX5_byteAt ∈ lw_g := lw_gm (List.mem_of_getElem? (i := 505) rfl) rfl
set_option maxRecDepth 20000 in
theorem ioX5_byteAt : IOk mX5_byteAt := ⟨imX5_byteAt, lw_gm (List.mem_of_getElem? (i := 506) rfl) rfl⟩
abbrev mX5_namesEachOf : MD := (yX5_namesEachOf, cX5_namesEachOf, 6, some FieldType.boolean)
set_option maxRecDepth 20000 in
theorem okX5_namesEachOf : MOk mX5_namesEachOf 1 := ⟨lw_gm (List.mem_of_getElem? (i := 497) rfl) rfl, in_X5, by decide +kernel, by decide⟩
set_option maxRecDepth 20000 in
theorem imX5_namesEachOf : Cond.instanceMethod yX5_namesEachOf ∈ lw_g := lw_gm (List.mem_of_getElem? (i := 495) rfl) rfl
set_option maxRecDepth 20000 in
theorem ioX5_namesEachOf : IOk mX5_namesEachOf := ⟨imX5_namesEachOf, lw_gm (List.mem_of_getElem? (i := 496) rfl) rfl⟩
abbrev mX5_startReading : MD := (yX5_startReading, cX5_startReading, 2, none)
theorem okX5_startReading : MOk mX5_startReading 1 := ⟨lw_gm (List.mem_of_getElem? (i := 291) rfl) rfl, in_X5, by decide +kernel, by decide⟩
theorem imX5_startReading : Cond.instanceMethod yX5_startReading ∈ lw_g := lw_gm (List.mem_of_getElem? (i := 289) rfl) rfl
theorem ioX5_startReading : IOk mX5_startReading := ⟨imX5_startReading, lw_gm (List.mem_of_getElem? (i := 290) rfl) rfl⟩
abbrev mX5_place : MD := (yX5_place, cX5_place, 1, some FieldType.int)
set_option maxRecDepth 20000 in
theorem okX5_place : MOk mX5_place 0 := ⟨lw_gm (List.mem_of_getElem? (i := 584) rfl) rfl, in_X5, by decide +kernel, by decide⟩
set_option maxRecDepth 20000 in
theorem imX5_place : Cond.instanceMethod yX5_place ∈ lw_g := lw_gm (List.mem_of_getElem? (i := 582) rfl) rfl
set_option maxRecDepth 20000 in
theorem ioX5_place : IOk mX5_place := ⟨imX5_place, lw_gm (List.mem_of_getElem? (i := 583) rfl) rfl⟩
abbrev mX5_isAtEnd : MD := (yX5_isAtEnd, cX5_isAtEnd, 1, some FieldType.boolean)
theorem okX5_isAtEnd : MOk mX5_isAtEnd 0 := ⟨lw_gm (List.mem_of_getElem? (i := 300) rfl) rfl, in_X5, by decide +kernel, by decide⟩
theorem imX5_isAtEnd : Cond.instanceMethod yX5_isAtEnd ∈ lw_g := lw_gm (List.mem_of_getElem? (i := 298) rfl) rfl
theorem ioX5_isAtEnd : IOk mX5_isAtEnd := ⟨imX5_isAtEnd, lw_gm (List.mem_of_getElem? (i := 299) rfl) rfl⟩
abbrev mX5_peek : MD := (yX5_peek, cX5_peek, 1, some FieldType.int)
theorem okX5_peek : MOk mX5_peek 0 := ⟨lw_gm (List.mem_of_getElem? (i := 312) rfl) rfl, in_X5, by decide +kernel, by decide⟩
theorem imX5_peek : Cond.instanceMethod yX5_peek ∈ lw_g := lw_gm (List.mem_of_getElem? (i := 310) rfl) rfl
theorem ioX5_peek : IOk mX5_peek := ⟨imX5_peek, lw_gm (List.mem_of_getElem? (i := 311) rfl) rfl⟩
abbrev mX5_skip : MD := (yX5_skip, cX5_skip, 1, none)
theorem okX5_skip : MOk mX5_skip 0 := ⟨lw_gm (List.mem_of_getElem? (i := 316) rfl) rfl, in_X5, by decide +kernel, by decide⟩
theorem imX5_skip : Cond.instanceMethod yX5_skip ∈ lw_g := lw_gm (List.mem_of_getElem? (i := 314) rfl) rfl
theorem ioX5_skip : IOk mX5_skip := ⟨imX5_skip, lw_gm (List.mem_of_getElem? (i := 315) rfl) rfl⟩
abbrev mX5_skipIf : MD := (yX5_skipIf, cX5_skipIf, 3, some FieldType.boolean)
theorem okX5_skipIf : MOk mX5_skipIf 1 := ⟨lw_gm (List.mem_of_getElem? (i := 308) rfl) rfl, in_X5, by decide +kernel, by decide⟩
theorem imX5_skipIf : Cond.instanceMethod yX5_skipIf ∈ lw_g := lw_gm (List.mem_of_getElem? (i := 306) rfl) rfl
theorem ioX5_skipIf : IOk mX5_skipIf := ⟨imX5_skipIf, lw_gm (List.mem_of_getElem? (i := 307) rfl) rfl⟩
abbrev mX5_isAtDigit : MD := (yX5_isAtDigit, cX5_isAtDigit, 1, some FieldType.boolean)
theorem okX5_isAtDigit : MOk mX5_isAtDigit 0 := ⟨lw_gm (List.mem_of_getElem? (i := 324) rfl) rfl, in_X5, by decide +kernel, by decide⟩
theorem imX5_isAtDigit : Cond.instanceMethod yX5_isAtDigit ∈ lw_g := lw_gm (List.mem_of_getElem? (i := 322) rfl) rfl
theorem ioX5_isAtDigit : IOk mX5_isAtDigit := ⟨imX5_isAtDigit, lw_gm (List.mem_of_getElem? (i := 323) rfl) rfl⟩
abbrev mX5_readNumber : MD := (yX5_readNumber, cX5_readNumber, 3, some FieldType.int)
theorem okX5_readNumber : MOk mX5_readNumber 0 := ⟨lw_gm (List.mem_of_getElem? (i := 342) rfl) rfl, in_X5, by decide +kernel, by decide⟩
theorem imX5_readNumber : Cond.instanceMethod yX5_readNumber ∈ lw_g := lw_gm (List.mem_of_getElem? (i := 340) rfl) rfl
theorem ioX5_readNumber : IOk mX5_readNumber := ⟨imX5_readNumber, lw_gm (List.mem_of_getElem? (i := 341) rfl) rfl⟩
abbrev mX5_faultHere : MD := (yX5_faultHere, cX5_faultHere, 2, some FieldType.int)
theorem okX5_faultHere : MOk mX5_faultHere 1 := ⟨lw_gm (List.mem_of_getElem? (i := 328) rfl) rfl, in_X5, by decide +kernel, by decide⟩
theorem imX5_faultHere : Cond.instanceMethod yX5_faultHere ∈ lw_g := lw_gm (List.mem_of_getElem? (i := 326) rfl) rfl
theorem ioX5_faultHere : IOk mX5_faultHere := ⟨imX5_faultHere, lw_gm (List.mem_of_getElem? (i := 327) rfl) rfl⟩
abbrev mX5_faultAt : MD := (yX5_faultAt, cX5_faultAt, 3, some FieldType.int)
theorem okX5_faultAt : MOk mX5_faultAt 2 := ⟨lw_gm (List.mem_of_getElem? (i := 332) rfl) rfl, in_X5, by decide +kernel, by decide⟩
theorem imX5_faultAt : Cond.instanceMethod yX5_faultAt ∈ lw_g := lw_gm (List.mem_of_getElem? (i := 330) rfl) rfl
theorem ioX5_faultAt : IOk mX5_faultAt := ⟨imX5_faultAt, lw_gm (List.mem_of_getElem? (i := 331) rfl) rfl⟩
abbrev mX6_init : MD := (yX6_init, cX6_init, 1, none)
theorem okX6_init : MOk mX6_init 0 := ⟨lw_gm (List.mem_of_getElem? (i := 126) rfl) rfl, in_X6, by decide +kernel, by decide⟩
theorem imX6_init : Cond.instanceMethod yX6_init ∈ lw_g := lw_gm (List.mem_of_getElem? (i := 125) rfl) rfl
abbrev mX6_plan : MD := (yX6_plan, cX6_plan, 6, none)
set_option maxRecDepth 20000 in
theorem okX6_plan : MOk mX6_plan 3 := ⟨lw_gm (List.mem_of_getElem? (i := 620) rfl) rfl, in_X6, by decide +kernel, by decide⟩
set_option maxRecDepth 20000 in
theorem imX6_plan : Cond.instanceMethod yX6_plan ∈ lw_g := lw_gm (List.mem_of_getElem? (i := 618) rfl) rfl
set_option maxRecDepth 20000 in
theorem ioX6_plan : IOk mX6_plan := ⟨imX6_plan, lw_gm (List.mem_of_getElem? (i := 619) rfl) rfl⟩
abbrev mX6_lastHour : MD := (yX6_lastHour, cX6_lastHour, 3, some FieldType.int)
set_option maxRecDepth 20000 in
theorem okX6_lastHour : MOk mX6_lastHour 0 := ⟨lw_gm (List.mem_of_getElem? (i := 659) rfl) rfl, in_X6, by decide +kernel, by decide⟩
set_option maxRecDepth 20000 in
theorem imX6_lastHour : Cond.instanceMethod yX6_lastHour ∈ lw_g := lw_gm (List.mem_of_getElem? (i := 657) rfl) rfl
set_option maxRecDepth 20000 in
theorem ioX6_lastHour : IOk mX6_lastHour := ⟨imX6_lastHour, lw_gm (List.mem_of_getElem? (i := 658) rfl) rfl⟩
abbrev mX6_handlersOf : MD := (yX6_handlersOf, cX6_handlersOf, 4, some FieldType.int)
set_option maxRecDepth 20000 in
theorem okX6_handlersOf : MOk mX6_handlersOf 2 := ⟨lw_gm (List.mem_of_getElem? (i := 623) rfl) rfl, in_X6, by decide +kernel, by decide⟩
set_option maxRecDepth 20000 in
theorem smX6_handlersOf : Cond.static yX6_handlersOf ∈ lw_g := lw_gm (List.mem_of_getElem? (i := 622) rfl) rfl
abbrev mX6_fitFrom : MD := (yX6_fitFrom, cX6_fitFrom, 6, some FieldType.boolean)
set_option maxRecDepth 20000 in
theorem okX6_fitFrom : MOk mX6_fitFrom 4 := ⟨lw_gm (List.mem_of_getElem? (i := 626) rfl) rfl, in_X6, by decide +kernel, by decide⟩
set_option maxRecDepth 20000 in
theorem smX6_fitFrom : Cond.static yX6_fitFrom ∈ lw_g := lw_gm (List.mem_of_getElem? (i := 625) rfl) rfl
abbrev mX7_init : MD := (yX7_init, cX7_init, 2, none)
theorem okX7_init : MOk mX7_init 0 := ⟨lw_gm (List.mem_of_getElem? (i := 67) rfl) rfl, in_X7, by decide +kernel, by decide⟩
theorem imX7_init : Cond.instanceMethod yX7_init ∈ lw_g := lw_gm (List.mem_of_getElem? (i := 66) rfl) rfl
abbrev mX7_feed : MD := (yX7_feed, cX7_feed, 6, some FieldType.int)
theorem okX7_feed : MOk mX7_feed 5 := ⟨lw_gm (List.mem_of_getElem? (i := 260) rfl) rfl, in_X7, by decide +kernel, by decide⟩
theorem imX7_feed : Cond.instanceMethod yX7_feed ∈ lw_g := lw_gm (List.mem_of_getElem? (i := 258) rfl) rfl
theorem ioX7_feed : IOk mX7_feed := ⟨imX7_feed, lw_gm (List.mem_of_getElem? (i := 259) rfl) rfl⟩
abbrev mX7_text : MD := (yX7_text, cX7_text, 5, some FieldType.int)
theorem okX7_text : MOk mX7_text 2 := ⟨lw_gm (List.mem_of_getElem? (i := 276) rfl) rfl, in_X7, by decide +kernel, by decide⟩
theorem imX7_text : Cond.instanceMethod yX7_text ∈ lw_g := lw_gm (List.mem_of_getElem? (i := 274) rfl) rfl
theorem ioX7_text : IOk mX7_text := ⟨imX7_text, lw_gm (List.mem_of_getElem? (i := 275) rfl) rfl⟩
abbrev mX7_beast : MD := (yX7_beast, cX7_beast, 5, some FieldType.int)
theorem okX7_beast : MOk mX7_beast 4 := ⟨lw_gm (List.mem_of_getElem? (i := 373) rfl) rfl, in_X7, by decide +kernel, by decide⟩
theorem imX7_beast : Cond.instanceMethod yX7_beast ∈ lw_g := lw_gm (List.mem_of_getElem? (i := 371) rfl) rfl
theorem ioX7_beast : IOk mX7_beast := ⟨imX7_beast, lw_gm (List.mem_of_getElem? (i := 372) rfl) rfl⟩
abbrev mX7_measure : MD := (yX7_measure, cX7_measure, 5, some FieldType.boolean)
set_option maxRecDepth 20000 in
theorem okX7_measure : MOk mX7_measure 3 := ⟨lw_gm (List.mem_of_getElem? (i := 408) rfl) rfl, in_X7, by decide +kernel, by decide⟩
set_option maxRecDepth 20000 in
theorem imX7_measure : Cond.instanceMethod yX7_measure ∈ lw_g := lw_gm (List.mem_of_getElem? (i := 406) rfl) rfl
set_option maxRecDepth 20000 in
theorem ioX7_measure : IOk mX7_measure := ⟨imX7_measure, lw_gm (List.mem_of_getElem? (i := 407) rfl) rfl⟩
abbrev mX7_lets : MD := (yX7_lets, cX7_lets, 5, some FieldType.int)
set_option maxRecDepth 20000 in
theorem okX7_lets : MOk mX7_lets 2 := ⟨lw_gm (List.mem_of_getElem? (i := 416) rfl) rfl, in_X7, by decide +kernel, by decide⟩
set_option maxRecDepth 20000 in
theorem imX7_lets : Cond.instanceMethod yX7_lets ∈ lw_g := lw_gm (List.mem_of_getElem? (i := 414) rfl) rfl
set_option maxRecDepth 20000 in
theorem ioX7_lets : IOk mX7_lets := ⟨imX7_lets, lw_gm (List.mem_of_getElem? (i := 415) rfl) rfl⟩
abbrev mX7_enter : MD := (yX7_enter, cX7_enter, 4, some FieldType.boolean)
set_option maxRecDepth 20000 in
theorem okX7_enter : MOk mX7_enter 2 := ⟨lw_gm (List.mem_of_getElem? (i := 432) rfl) rfl, in_X7, by decide +kernel, by decide⟩
set_option maxRecDepth 20000 in
theorem imX7_enter : Cond.instanceMethod yX7_enter ∈ lw_g := lw_gm (List.mem_of_getElem? (i := 430) rfl) rfl
set_option maxRecDepth 20000 in
theorem ioX7_enter : IOk mX7_enter := ⟨imX7_enter, lw_gm (List.mem_of_getElem? (i := 431) rfl) rfl⟩
abbrev mX7_protest : MD := (yX7_protest, cX7_protest, 4, some FieldType.boolean)
set_option maxRecDepth 20000 in
theorem okX7_protest : MOk mX7_protest 2 := ⟨lw_gm (List.mem_of_getElem? (i := 480) rfl) rfl, in_X7, by decide +kernel, by decide⟩
set_option maxRecDepth 20000 in
theorem imX7_protest : Cond.instanceMethod yX7_protest ∈ lw_g := lw_gm (List.mem_of_getElem? (i := 478) rfl) rfl
set_option maxRecDepth 20000 in
theorem ioX7_protest : IOk mX7_protest := ⟨imX7_protest, lw_gm (List.mem_of_getElem? (i := 479) rfl) rfl⟩
abbrev mX7_bar : MD := (yX7_bar, cX7_bar, 3, some FieldType.boolean)
set_option maxRecDepth 20000 in
theorem okX7_bar : MOk mX7_bar 2 := ⟨lw_gm (List.mem_of_getElem? (i := 489) rfl) rfl, in_X7, by decide +kernel, by decide⟩
set_option maxRecDepth 20000 in
theorem imX7_bar : Cond.instanceMethod yX7_bar ∈ lw_g := lw_gm (List.mem_of_getElem? (i := 487) rfl) rfl
set_option maxRecDepth 20000 in
theorem ioX7_bar : IOk mX7_bar := ⟨imX7_bar, lw_gm (List.mem_of_getElem? (i := 488) rfl) rfl⟩
abbrev mX7_order : MD := (yX7_order, cX7_order, 5, some FieldType.boolean)
set_option maxRecDepth 20000 in
theorem okX7_order : MOk mX7_order 2 := ⟨lw_gm (List.mem_of_getElem? (i := 493) rfl) rfl, in_X7, by decide +kernel, by decide⟩
set_option maxRecDepth 20000 in
theorem imX7_order : Cond.instanceMethod yX7_order ∈ lw_g := lw_gm (List.mem_of_getElem? (i := 491) rfl) rfl
set_option maxRecDepth 20000 in
theorem ioX7_order : IOk mX7_order := ⟨imX7_order, lw_gm (List.mem_of_getElem? (i := 492) rfl) rfl⟩
abbrev mX7_placed : MD := (yX7_placed, cX7_placed, 4, some FieldType.int)
set_option maxRecDepth 20000 in
theorem okX7_placed : MOk mX7_placed 2 := ⟨lw_gm (List.mem_of_getElem? (i := 517) rfl) rfl, in_X7, by decide +kernel, by decide⟩
set_option maxRecDepth 20000 in
theorem imX7_placed : Cond.instanceMethod yX7_placed ∈ lw_g := lw_gm (List.mem_of_getElem? (i := 515) rfl) rfl
set_option maxRecDepth 20000 in
theorem ioX7_placed : IOk mX7_placed := ⟨imX7_placed, lw_gm (List.mem_of_getElem? (i := 516) rfl) rfl⟩
abbrev mX7_swaps : MD := (yX7_swaps, cX7_swaps, 3, some FieldType.int)
set_option maxRecDepth 20000 in
theorem okX7_swaps : MOk mX7_swaps 1 := ⟨lw_gm (List.mem_of_getElem? (i := 521) rfl) rfl, in_X7, by decide +kernel, by decide⟩
set_option maxRecDepth 20000 in
theorem imX7_swaps : Cond.instanceMethod yX7_swaps ∈ lw_g := lw_gm (List.mem_of_getElem? (i := 519) rfl) rfl
set_option maxRecDepth 20000 in
theorem ioX7_swaps : IOk mX7_swaps := ⟨imX7_swaps, lw_gm (List.mem_of_getElem? (i := 520) rfl) rfl⟩
abbrev mX7_ring : MD := (yX7_ring, cX7_ring, 4, some FieldType.int)
set_option maxRecDepth 20000 in
theorem okX7_ring : MOk mX7_ring 2 := ⟨lw_gm (List.mem_of_getElem? (i := 525) rfl) rfl, in_X7, by decide +kernel, by decide⟩
set_option maxRecDepth 20000 in
theorem imX7_ring : Cond.instanceMethod yX7_ring ∈ lw_g := lw_gm (List.mem_of_getElem? (i := 523) rfl) rfl
set_option maxRecDepth 20000 in
theorem ioX7_ring : IOk mX7_ring := ⟨imX7_ring, lw_gm (List.mem_of_getElem? (i := 524) rfl) rfl⟩
abbrev mX7_cut : MD := (yX7_cut, cX7_cut, 5, some FieldType.boolean)
set_option maxRecDepth 20000 in
theorem okX7_cut : MOk mX7_cut 3 := ⟨lw_gm (List.mem_of_getElem? (i := 537) rfl) rfl, in_X7, by decide +kernel, by decide⟩
set_option maxRecDepth 20000 in
theorem imX7_cut : Cond.instanceMethod yX7_cut ∈ lw_g := lw_gm (List.mem_of_getElem? (i := 535) rfl) rfl
set_option maxRecDepth 20000 in
theorem ioX7_cut : IOk mX7_cut := ⟨imX7_cut, lw_gm (List.mem_of_getElem? (i := 536) rfl) rfl⟩
abbrev mX7_card : MD := (yX7_card, cX7_card, 4, some FieldType.int)
set_option maxRecDepth 20000 in
theorem okX7_card : MOk mX7_card 1 := ⟨lw_gm (List.mem_of_getElem? (i := 541) rfl) rfl, in_X7, by decide +kernel, by decide⟩
set_option maxRecDepth 20000 in
theorem imX7_card : Cond.instanceMethod yX7_card ∈ lw_g := lw_gm (List.mem_of_getElem? (i := 539) rfl) rfl
set_option maxRecDepth 20000 in
theorem ioX7_card : IOk mX7_card := ⟨imX7_card, lw_gm (List.mem_of_getElem? (i := 540) rfl) rfl⟩
abbrev mX7_reasons : MD := (yX7_reasons, cX7_reasons, 5, some FieldType.int)
set_option maxRecDepth 20000 in
theorem okX7_reasons : MOk mX7_reasons 2 := ⟨lw_gm (List.mem_of_getElem? (i := 568) rfl) rfl, in_X7, by decide +kernel, by decide⟩
set_option maxRecDepth 20000 in
theorem imX7_reasons : Cond.instanceMethod yX7_reasons ∈ lw_g := lw_gm (List.mem_of_getElem? (i := 566) rfl) rfl
set_option maxRecDepth 20000 in
theorem ioX7_reasons : IOk mX7_reasons := ⟨imX7_reasons, lw_gm (List.mem_of_getElem? (i := 567) rfl) rfl⟩
abbrev mX7_sand : MD := (yX7_sand, cX7_sand, 2, some FieldType.boolean)
set_option maxRecDepth 20000 in
theorem okX7_sand : MOk mX7_sand 1 := ⟨lw_gm (List.mem_of_getElem? (i := 612) rfl) rfl, in_X7, by decide +kernel, by decide⟩
set_option maxRecDepth 20000 in
theorem imX7_sand : Cond.instanceMethod yX7_sand ∈ lw_g := lw_gm (List.mem_of_getElem? (i := 610) rfl) rfl
set_option maxRecDepth 20000 in
theorem ioX7_sand : IOk mX7_sand := ⟨imX7_sand, lw_gm (List.mem_of_getElem? (i := 611) rfl) rfl⟩
abbrev mX7_hour : MD := (yX7_hour, cX7_hour, 2, some FieldType.int)
set_option maxRecDepth 20000 in
theorem okX7_hour : MOk mX7_hour 1 := ⟨lw_gm (List.mem_of_getElem? (i := 616) rfl) rfl, in_X7, by decide +kernel, by decide⟩
set_option maxRecDepth 20000 in
theorem imX7_hour : Cond.instanceMethod yX7_hour ∈ lw_g := lw_gm (List.mem_of_getElem? (i := 614) rfl) rfl
set_option maxRecDepth 20000 in
theorem ioX7_hour : IOk mX7_hour := ⟨imX7_hour, lw_gm (List.mem_of_getElem? (i := 615) rfl) rfl⟩
abbrev mX7_team : MD := (yX7_team, cX7_team, 6, some FieldType.int)
set_option maxRecDepth 20000 in
theorem okX7_team : MOk mX7_team 1 := ⟨lw_gm (List.mem_of_getElem? (i := 630) rfl) rfl, in_X7, by decide +kernel, by decide⟩
set_option maxRecDepth 20000 in
theorem imX7_team : Cond.instanceMethod yX7_team ∈ lw_g := lw_gm (List.mem_of_getElem? (i := 628) rfl) rfl
set_option maxRecDepth 20000 in
theorem ioX7_team : IOk mX7_team := ⟨imX7_team, lw_gm (List.mem_of_getElem? (i := 629) rfl) rfl⟩
abbrev mX7_price : MD := (yX7_price, cX7_price, 5, some FieldType.int)
set_option maxRecDepth 20000 in
theorem okX7_price : MOk mX7_price 1 := ⟨lw_gm (List.mem_of_getElem? (i := 639) rfl) rfl, in_X7, by decide +kernel, by decide⟩
set_option maxRecDepth 20000 in
theorem imX7_price : Cond.instanceMethod yX7_price ∈ lw_g := lw_gm (List.mem_of_getElem? (i := 637) rfl) rfl
set_option maxRecDepth 20000 in
theorem ioX7_price : IOk mX7_price := ⟨imX7_price, lw_gm (List.mem_of_getElem? (i := 638) rfl) rfl⟩
abbrev mX7_look : MD := (yX7_look, cX7_look, 4, some FieldType.int)
set_option maxRecDepth 20000 in
theorem okX7_look : MOk mX7_look 2 := ⟨lw_gm (List.mem_of_getElem? (i := 643) rfl) rfl, in_X7, by decide +kernel, by decide⟩
set_option maxRecDepth 20000 in
theorem imX7_look : Cond.instanceMethod yX7_look ∈ lw_g := lw_gm (List.mem_of_getElem? (i := 641) rfl) rfl
set_option maxRecDepth 20000 in
theorem ioX7_look : IOk mX7_look := ⟨imX7_look, lw_gm (List.mem_of_getElem? (i := 642) rfl) rfl⟩
abbrev mX7_count : MD := (yX7_count, cX7_count, 2, some FieldType.int)
set_option maxRecDepth 20000 in
theorem okX7_count : MOk mX7_count 1 := ⟨lw_gm (List.mem_of_getElem? (i := 651) rfl) rfl, in_X7, by decide +kernel, by decide⟩
set_option maxRecDepth 20000 in
theorem imX7_count : Cond.instanceMethod yX7_count ∈ lw_g := lw_gm (List.mem_of_getElem? (i := 649) rfl) rfl
set_option maxRecDepth 20000 in
theorem ioX7_count : IOk mX7_count := ⟨imX7_count, lw_gm (List.mem_of_getElem? (i := 650) rfl) rfl⟩
abbrev mX7_isBelow : MD := (yX7_isBelow, cX7_isBelow, 2, some FieldType.boolean)
theorem okX7_isBelow : MOk mX7_isBelow 2 := ⟨lw_gm (List.mem_of_getElem? (i := 283) rfl) rfl, in_X7, by decide +kernel, by decide⟩
theorem smX7_isBelow : Cond.static yX7_isBelow ∈ lw_g := lw_gm (List.mem_of_getElem? (i := 282) rfl) rfl
abbrev mX7_classAt : MD := (yX7_classAt, cX7_classAt, 2, some (FieldType.object "CattleShow$ShowClass"))
theorem okX7_classAt : MOk mX7_classAt 1 := ⟨lw_gm (List.mem_of_getElem? (i := 280) rfl) rfl, in_X7, by decide +kernel, by decide⟩
theorem imX7_classAt : Cond.instanceMethod yX7_classAt ∈ lw_g := lw_gm (List.mem_of_getElem? (i := 279) rfl) rfl
theorem ioX7_classAt : IOk mX7_classAt := ⟨imX7_classAt, lw_gm (List.mem_of_getElem? (i := 1) rfl) rfl⟩
abbrev mX7_beastAt : MD := (yX7_beastAt, cX7_beastAt, 2, some (FieldType.object "CattleShow$Beast"))
set_option maxRecDepth 20000 in
theorem okX7_beastAt : MOk mX7_beastAt 1 := ⟨lw_gm (List.mem_of_getElem? (i := 412) rfl) rfl, in_X7, by decide +kernel, by decide⟩
set_option maxRecDepth 20000 in
theorem imX7_beastAt : Cond.instanceMethod yX7_beastAt ∈ lw_g := lw_gm (List.mem_of_getElem? (i := 411) rfl) rfl
theorem ioX7_beastAt : IOk mX7_beastAt := ⟨imX7_beastAt, lw_gm (List.mem_of_getElem? (i := 7) rfl) rfl⟩
abbrev mX7_leastPlace : MD := (yX7_leastPlace, cX7_leastPlace, 5, some FieldType.int)
set_option maxRecDepth 20000 in
theorem okX7_leastPlace : MOk mX7_leastPlace 1 := ⟨lw_gm (List.mem_of_getElem? (i := 634) rfl) rfl, in_X7, by decide +kernel, by decide⟩
set_option maxRecDepth 20000 in
theorem imX7_leastPlace : Cond.instanceMethod yX7_leastPlace ∈ lw_g := lw_gm (List.mem_of_getElem? (i := 633) rfl) rfl
theorem ioX7_leastPlace : IOk mX7_leastPlace := ⟨imX7_leastPlace, lw_gm (List.mem_of_getElem? (i := 20) rfl) rfl⟩
abbrev mX7_classesOf : MD := (yX7_classesOf, cX7_classesOf, 4, some FieldType.int)
set_option maxRecDepth 20000 in
theorem okX7_classesOf : MOk mX7_classesOf 1 := ⟨lw_gm (List.mem_of_getElem? (i := 647) rfl) rfl, in_X7, by decide +kernel, by decide⟩
set_option maxRecDepth 20000 in
theorem imX7_classesOf : Cond.instanceMethod yX7_classesOf ∈ lw_g := lw_gm (List.mem_of_getElem? (i := 646) rfl) rfl
theorem ioX7_classesOf : IOk mX7_classesOf := ⟨imX7_classesOf, lw_gm (List.mem_of_getElem? (i := 21) rfl) rfl⟩
abbrev mX8_init : MD := (yX8_init, cX8_init, 2, none)
set_option maxRecDepth 20000 in
theorem okX8_init : MOk mX8_init 0 := ⟨lw_gm (List.mem_of_getElem? (i := 665) rfl) rfl, in_X8, by decide +kernel, by decide⟩
set_option maxRecDepth 20000 in
theorem imX8_init : Cond.instanceMethod yX8_init ∈ lw_g := lw_gm (List.mem_of_getElem? (i := 664) rfl) rfl
abbrev mX8_lies : MD := (yX8_lies, cX8_lies, 3, some FieldType.boolean)
set_option maxRecDepth 20000 in
theorem okX8_lies : MOk mX8_lies 3 := ⟨lw_gm (List.mem_of_getElem? (i := 788) rfl) rfl, in_X8, by decide +kernel, by decide⟩
set_option maxRecDepth 20000 in
theorem smX8_lies : Cond.static yX8_lies ∈ lw_g := lw_gm (List.mem_of_getElem? (i := 787) rfl) rfl
abbrev mX8_isClass : MD := (yX8_isClass, cX8_isClass, 1, some FieldType.boolean)
set_option maxRecDepth 20000 in
theorem okX8_isClass : MOk mX8_isClass 1 := ⟨lw_gm (List.mem_of_getElem? (i := 785) rfl) rfl, in_X8, by decide +kernel, by decide⟩
set_option maxRecDepth 20000 in
theorem smX8_isClass : Cond.static yX8_isClass ∈ lw_g := lw_gm (List.mem_of_getElem? (i := 784) rfl) rfl
abbrev mX8_isBeast : MD := (yX8_isBeast, cX8_isBeast, 2, some FieldType.boolean)
set_option maxRecDepth 20000 in
theorem okX8_isBeast : MOk mX8_isBeast 1 := ⟨lw_gm (List.mem_of_getElem? (i := 836) rfl) rfl, in_X8, by decide +kernel, by decide⟩
set_option maxRecDepth 20000 in
theorem imX8_isBeast : Cond.instanceMethod yX8_isBeast ∈ lw_g := lw_gm (List.mem_of_getElem? (i := 835) rfl) rfl
theorem ioX8_isBeast : IOk mX8_isBeast := ⟨imX8_isBeast, lw_gm (List.mem_of_getElem? (i := 32) rfl) rfl⟩
abbrev mX8_has : MD := (yX8_has, cX8_has, 2, some FieldType.boolean)
set_option maxRecDepth 20000 in
theorem okX8_has : MOk mX8_has 2 := ⟨lw_gm (List.mem_of_getElem? (i := 851) rfl) rfl, in_X8, by decide +kernel, by decide⟩
set_option maxRecDepth 20000 in
theorem smX8_has : Cond.static yX8_has ∈ lw_g := lw_gm (List.mem_of_getElem? (i := 850) rfl) rfl
abbrev mX8_sizeOf : MD := (yX8_sizeOf, cX8_sizeOf, 3, some FieldType.int)
set_option maxRecDepth 20000 in
theorem okX8_sizeOf : MOk mX8_sizeOf 1 := ⟨lw_gm (List.mem_of_getElem? (i := 858) rfl) rfl, in_X8, by decide +kernel, by decide⟩
set_option maxRecDepth 20000 in
theorem smX8_sizeOf : Cond.static yX8_sizeOf ∈ lw_g := lw_gm (List.mem_of_getElem? (i := 857) rfl) rfl
abbrev mX8_push : MD := (yX8_push, cX8_push, 3, none)
set_option maxRecDepth 20000 in
theorem okX8_push : MOk mX8_push 1 := ⟨lw_gm (List.mem_of_getElem? (i := 778) rfl) rfl, in_X8, by decide +kernel, by decide⟩
set_option maxRecDepth 20000 in
theorem imX8_push : Cond.instanceMethod yX8_push ∈ lw_g := lw_gm (List.mem_of_getElem? (i := 777) rfl) rfl
theorem ioX8_push : IOk mX8_push := ⟨imX8_push, lw_gm (List.mem_of_getElem? (i := 22) rfl) rfl⟩
abbrev mX8_feed : MD := (yX8_feed, cX8_feed, 6, some FieldType.int)
set_option maxRecDepth 20000 in
theorem okX8_feed : MOk mX8_feed 5 := ⟨lw_gm (List.mem_of_getElem? (i := 774) rfl) rfl, in_X8, by decide +kernel, by decide⟩
set_option maxRecDepth 20000 in
theorem imX8_feed : Cond.instanceMethod yX8_feed ∈ lw_g := lw_gm (List.mem_of_getElem? (i := 772) rfl) rfl
set_option maxRecDepth 20000 in
theorem ioX8_feed : IOk mX8_feed := ⟨imX8_feed, lw_gm (List.mem_of_getElem? (i := 773) rfl) rfl⟩
abbrev mX8_here : MD := (yX8_here, cX8_here, 1, some FieldType.int)
set_option maxRecDepth 20000 in
theorem okX8_here : MOk mX8_here 0 := ⟨lw_gm (List.mem_of_getElem? (i := 800) rfl) rfl, in_X8, by decide +kernel, by decide⟩
set_option maxRecDepth 20000 in
theorem imX8_here : Cond.instanceMethod yX8_here ∈ lw_g := lw_gm (List.mem_of_getElem? (i := 799) rfl) rfl
theorem ioX8_here : IOk mX8_here := ⟨imX8_here, lw_gm (List.mem_of_getElem? (i := 25) rfl) rfl⟩
abbrev mX8_fails : MD := (yX8_fails, cX8_fails, 3, none)
set_option maxRecDepth 20000 in
theorem okX8_fails : MOk mX8_fails 2 := ⟨lw_gm (List.mem_of_getElem? (i := 804) rfl) rfl, in_X8, by decide +kernel, by decide⟩
set_option maxRecDepth 20000 in
theorem imX8_fails : Cond.instanceMethod yX8_fails ∈ lw_g := lw_gm (List.mem_of_getElem? (i := 803) rfl) rfl
theorem ioX8_fails : IOk mX8_fails := ⟨imX8_fails, lw_gm (List.mem_of_getElem? (i := 26) rfl) rfl⟩
abbrev mX8_begins : MD := (yX8_begins, cX8_begins, 2, none)
set_option maxRecDepth 20000 in
theorem okX8_begins : MOk mX8_begins 1 := ⟨lw_gm (List.mem_of_getElem? (i := 792) rfl) rfl, in_X8, by decide +kernel, by decide⟩
set_option maxRecDepth 20000 in
theorem imX8_begins : Cond.instanceMethod yX8_begins ∈ lw_g := lw_gm (List.mem_of_getElem? (i := 791) rfl) rfl
theorem ioX8_begins : IOk mX8_begins := ⟨imX8_begins, lw_gm (List.mem_of_getElem? (i := 23) rfl) rfl⟩
abbrev mX8_seesDigit : MD := (yX8_seesDigit, cX8_seesDigit, 1, some FieldType.boolean)
set_option maxRecDepth 20000 in
theorem okX8_seesDigit : MOk mX8_seesDigit 0 := ⟨lw_gm (List.mem_of_getElem? (i := 812) rfl) rfl, in_X8, by decide +kernel, by decide⟩
set_option maxRecDepth 20000 in
theorem imX8_seesDigit : Cond.instanceMethod yX8_seesDigit ∈ lw_g := lw_gm (List.mem_of_getElem? (i := 811) rfl) rfl
theorem ioX8_seesDigit : IOk mX8_seesDigit := ⟨imX8_seesDigit, lw_gm (List.mem_of_getElem? (i := 28) rfl) rfl⟩
abbrev mX8_readNumber : MD := (yX8_readNumber, cX8_readNumber, 3, some FieldType.int)
set_option maxRecDepth 20000 in
theorem okX8_readNumber : MOk mX8_readNumber 0 := ⟨lw_gm (List.mem_of_getElem? (i := 824) rfl) rfl, in_X8, by decide +kernel, by decide⟩
set_option maxRecDepth 20000 in
theorem imX8_readNumber : Cond.instanceMethod yX8_readNumber ∈ lw_g := lw_gm (List.mem_of_getElem? (i := 823) rfl) rfl
theorem ioX8_readNumber : IOk mX8_readNumber := ⟨imX8_readNumber, lw_gm (List.mem_of_getElem? (i := 31) rfl) rfl⟩
abbrev mX8_keeps : MD := (yX8_keeps, cX8_keeps, 3, none)
set_option maxRecDepth 20000 in
theorem okX8_keeps : MOk mX8_keeps 2 := ⟨lw_gm (List.mem_of_getElem? (i := 816) rfl) rfl, in_X8, by decide +kernel, by decide⟩
set_option maxRecDepth 20000 in
theorem imX8_keeps : Cond.instanceMethod yX8_keeps ∈ lw_g := lw_gm (List.mem_of_getElem? (i := 815) rfl) rfl
theorem ioX8_keeps : IOk mX8_keeps := ⟨imX8_keeps, lw_gm (List.mem_of_getElem? (i := 29) rfl) rfl⟩
abbrev mX8_breeds : MD := (yX8_breeds, cX8_breeds, 4, none)
set_option maxRecDepth 20000 in
theorem okX8_breeds : MOk mX8_breeds 0 := ⟨lw_gm (List.mem_of_getElem? (i := 808) rfl) rfl, in_X8, by decide +kernel, by decide⟩
set_option maxRecDepth 20000 in
theorem imX8_breeds : Cond.instanceMethod yX8_breeds ∈ lw_g := lw_gm (List.mem_of_getElem? (i := 807) rfl) rfl
theorem ioX8_breeds : IOk mX8_breeds := ⟨imX8_breeds, lw_gm (List.mem_of_getElem? (i := 27) rfl) rfl⟩
abbrev mX8_measures : MD := (yX8_measures, cX8_measures, 4, none)
set_option maxRecDepth 20000 in
theorem okX8_measures : MOk mX8_measures 0 := ⟨lw_gm (List.mem_of_getElem? (i := 820) rfl) rfl, in_X8, by decide +kernel, by decide⟩
set_option maxRecDepth 20000 in
theorem imX8_measures : Cond.instanceMethod yX8_measures ∈ lw_g := lw_gm (List.mem_of_getElem? (i := 819) rfl) rfl
theorem ioX8_measures : IOk mX8_measures := ⟨imX8_measures, lw_gm (List.mem_of_getElem? (i := 30) rfl) rfl⟩
abbrev mX8_clause : MD := (yX8_clause, cX8_clause, 2, none)
set_option maxRecDepth 20000 in
theorem okX8_clause : MOk mX8_clause 0 := ⟨lw_gm (List.mem_of_getElem? (i := 796) rfl) rfl, in_X8, by decide +kernel, by decide⟩
set_option maxRecDepth 20000 in
theorem imX8_clause : Cond.instanceMethod yX8_clause ∈ lw_g := lw_gm (List.mem_of_getElem? (i := 795) rfl) rfl
theorem ioX8_clause : IOk mX8_clause := ⟨imX8_clause, lw_gm (List.mem_of_getElem? (i := 24) rfl) rfl⟩
abbrev mX8_text : MD := (yX8_text, cX8_text, 5, some FieldType.int)
set_option maxRecDepth 20000 in
theorem okX8_text : MOk mX8_text 2 := ⟨lw_gm (List.mem_of_getElem? (i := 782) rfl) rfl, in_X8, by decide +kernel, by decide⟩
set_option maxRecDepth 20000 in
theorem imX8_text : Cond.instanceMethod yX8_text ∈ lw_g := lw_gm (List.mem_of_getElem? (i := 780) rfl) rfl
set_option maxRecDepth 20000 in
theorem ioX8_text : IOk mX8_text := ⟨imX8_text, lw_gm (List.mem_of_getElem? (i := 781) rfl) rfl⟩
abbrev mX8_beast : MD := (yX8_beast, cX8_beast, 5, some FieldType.int)
set_option maxRecDepth 20000 in
theorem okX8_beast : MOk mX8_beast 4 := ⟨lw_gm (List.mem_of_getElem? (i := 828) rfl) rfl, in_X8, by decide +kernel, by decide⟩
set_option maxRecDepth 20000 in
theorem imX8_beast : Cond.instanceMethod yX8_beast ∈ lw_g := lw_gm (List.mem_of_getElem? (i := 826) rfl) rfl
set_option maxRecDepth 20000 in
theorem ioX8_beast : IOk mX8_beast := ⟨imX8_beast, lw_gm (List.mem_of_getElem? (i := 827) rfl) rfl⟩
abbrev mX8_measure : MD := (yX8_measure, cX8_measure, 4, some FieldType.boolean)
set_option maxRecDepth 20000 in
theorem okX8_measure : MOk mX8_measure 3 := ⟨lw_gm (List.mem_of_getElem? (i := 832) rfl) rfl, in_X8, by decide +kernel, by decide⟩
set_option maxRecDepth 20000 in
theorem imX8_measure : Cond.instanceMethod yX8_measure ∈ lw_g := lw_gm (List.mem_of_getElem? (i := 830) rfl) rfl
set_option maxRecDepth 20000 in
theorem ioX8_measure : IOk mX8_measure := ⟨imX8_measure, lw_gm (List.mem_of_getElem? (i := 831) rfl) rfl⟩
abbrev mX8_holds : MD := (yX8_holds, cX8_holds, 4, some FieldType.boolean)
set_option maxRecDepth 20000 in
theorem okX8_holds : MOk mX8_holds 3 := ⟨lw_gm (List.mem_of_getElem? (i := 848) rfl) rfl, in_X8, by decide +kernel, by decide⟩
set_option maxRecDepth 20000 in
theorem imX8_holds : Cond.instanceMethod yX8_holds ∈ lw_g := lw_gm (List.mem_of_getElem? (i := 847) rfl) rfl
theorem ioX8_holds : IOk mX8_holds := ⟨imX8_holds, lw_gm (List.mem_of_getElem? (i := 34) rfl) rfl⟩
abbrev mX8_isLet : MD := (yX8_isLet, cX8_isLet, 4, some FieldType.boolean)
set_option maxRecDepth 20000 in
theorem okX8_isLet : MOk mX8_isLet 2 := ⟨lw_gm (List.mem_of_getElem? (i := 844) rfl) rfl, in_X8, by decide +kernel, by decide⟩
set_option maxRecDepth 20000 in
theorem imX8_isLet : Cond.instanceMethod yX8_isLet ∈ lw_g := lw_gm (List.mem_of_getElem? (i := 843) rfl) rfl
theorem ioX8_isLet : IOk mX8_isLet := ⟨imX8_isLet, lw_gm (List.mem_of_getElem? (i := 33) rfl) rfl⟩
abbrev mX8_lets : MD := (yX8_lets, cX8_lets, 3, some FieldType.int)
set_option maxRecDepth 20000 in
theorem okX8_lets : MOk mX8_lets 2 := ⟨lw_gm (List.mem_of_getElem? (i := 840) rfl) rfl, in_X8, by decide +kernel, by decide⟩
set_option maxRecDepth 20000 in
theorem imX8_lets : Cond.instanceMethod yX8_lets ∈ lw_g := lw_gm (List.mem_of_getElem? (i := 838) rfl) rfl
set_option maxRecDepth 20000 in
theorem ioX8_lets : IOk mX8_lets := ⟨imX8_lets, lw_gm (List.mem_of_getElem? (i := 839) rfl) rfl⟩
abbrev mX8_enter : MD := (yX8_enter, cX8_enter, 4, some FieldType.boolean)
set_option maxRecDepth 20000 in
theorem okX8_enter : MOk mX8_enter 2 := ⟨lw_gm (List.mem_of_getElem? (i := 855) rfl) rfl, in_X8, by decide +kernel, by decide⟩
set_option maxRecDepth 20000 in
theorem imX8_enter : Cond.instanceMethod yX8_enter ∈ lw_g := lw_gm (List.mem_of_getElem? (i := 853) rfl) rfl
set_option maxRecDepth 20000 in
theorem ioX8_enter : IOk mX8_enter := ⟨imX8_enter, lw_gm (List.mem_of_getElem? (i := 854) rfl) rfl⟩
abbrev mX8_protest : MD := (yX8_protest, cX8_protest, 3, some FieldType.boolean)
set_option maxRecDepth 20000 in
theorem okX8_protest : MOk mX8_protest 2 := ⟨lw_gm (List.mem_of_getElem? (i := 862) rfl) rfl, in_X8, by decide +kernel, by decide⟩
set_option maxRecDepth 20000 in
theorem imX8_protest : Cond.instanceMethod yX8_protest ∈ lw_g := lw_gm (List.mem_of_getElem? (i := 860) rfl) rfl
set_option maxRecDepth 20000 in
theorem ioX8_protest : IOk mX8_protest := ⟨imX8_protest, lw_gm (List.mem_of_getElem? (i := 861) rfl) rfl⟩
abbrev mX8_bar : MD := (yX8_bar, cX8_bar, 3, some FieldType.boolean)
set_option maxRecDepth 20000 in
theorem okX8_bar : MOk mX8_bar 2 := ⟨lw_gm (List.mem_of_getElem? (i := 866) rfl) rfl, in_X8, by decide +kernel, by decide⟩
set_option maxRecDepth 20000 in
theorem imX8_bar : Cond.instanceMethod yX8_bar ∈ lw_g := lw_gm (List.mem_of_getElem? (i := 864) rfl) rfl
set_option maxRecDepth 20000 in
theorem ioX8_bar : IOk mX8_bar := ⟨imX8_bar, lw_gm (List.mem_of_getElem? (i := 865) rfl) rfl⟩
abbrev mX8_isRowOf : MD := (yX8_isRowOf, cX8_isRowOf, 5, some FieldType.boolean)
set_option maxRecDepth 20000 in
theorem okX8_isRowOf : MOk mX8_isRowOf 1 := ⟨lw_gm (List.mem_of_getElem? (i := 874) rfl) rfl, in_X8, by decide +kernel, by decide⟩
set_option maxRecDepth 20000 in
theorem imX8_isRowOf : Cond.instanceMethod yX8_isRowOf ∈ lw_g := lw_gm (List.mem_of_getElem? (i := 873) rfl) rfl
theorem ioX8_isRowOf : IOk mX8_isRowOf := ⟨imX8_isRowOf, lw_gm (List.mem_of_getElem? (i := 35) rfl) rfl⟩
abbrev mX8_order : MD := (yX8_order, cX8_order, 5, some FieldType.boolean)
set_option maxRecDepth 20000 in
theorem okX8_order : MOk mX8_order 2 := ⟨lw_gm (List.mem_of_getElem? (i := 870) rfl) rfl, in_X8, by decide +kernel, by decide⟩
set_option maxRecDepth 20000 in
theorem imX8_order : Cond.instanceMethod yX8_order ∈ lw_g := lw_gm (List.mem_of_getElem? (i := 868) rfl) rfl
set_option maxRecDepth 20000 in
theorem ioX8_order : IOk mX8_order := ⟨imX8_order, lw_gm (List.mem_of_getElem? (i := 869) rfl) rfl⟩
abbrev mX8_counts : MD := (yX8_counts, cX8_counts, 3, some FieldType.boolean)
set_option maxRecDepth 20000 in
theorem okX8_counts : MOk mX8_counts 2 := ⟨lw_gm (List.mem_of_getElem? (i := 890) rfl) rfl, in_X8, by decide +kernel, by decide⟩
set_option maxRecDepth 20000 in
theorem imX8_counts : Cond.instanceMethod yX8_counts ∈ lw_g := lw_gm (List.mem_of_getElem? (i := 889) rfl) rfl
theorem ioX8_counts : IOk mX8_counts := ⟨imX8_counts, lw_gm (List.mem_of_getElem? (i := 38) rfl) rfl⟩
abbrev mX8_placeIn : MD := (yX8_placeIn, cX8_placeIn, 5, some FieldType.int)
set_option maxRecDepth 20000 in
theorem okX8_placeIn : MOk mX8_placeIn 3 := ⟨lw_gm (List.mem_of_getElem? (i := 894) rfl) rfl, in_X8, by decide +kernel, by decide⟩
set_option maxRecDepth 20000 in
theorem imX8_placeIn : Cond.instanceMethod yX8_placeIn ∈ lw_g := lw_gm (List.mem_of_getElem? (i := 893) rfl) rfl
theorem ioX8_placeIn : IOk mX8_placeIn := ⟨imX8_placeIn, lw_gm (List.mem_of_getElem? (i := 39) rfl) rfl⟩
abbrev mX8_ahead : MD := (yX8_ahead, cX8_ahead, 6, some FieldType.int)
set_option maxRecDepth 20000 in
theorem okX8_ahead : MOk mX8_ahead 3 := ⟨lw_gm (List.mem_of_getElem? (i := 886) rfl) rfl, in_X8, by decide +kernel, by decide⟩
set_option maxRecDepth 20000 in
theorem imX8_ahead : Cond.instanceMethod yX8_ahead ∈ lw_g := lw_gm (List.mem_of_getElem? (i := 885) rfl) rfl
theorem ioX8_ahead : IOk mX8_ahead := ⟨imX8_ahead, lw_gm (List.mem_of_getElem? (i := 37) rfl) rfl⟩
abbrev mX8_cost : MD := (yX8_cost, cX8_cost, 5, some FieldType.int)
set_option maxRecDepth 20000 in
theorem okX8_cost : MOk mX8_cost 2 := ⟨lw_gm (List.mem_of_getElem? (i := 898) rfl) rfl, in_X8, by decide +kernel, by decide⟩
set_option maxRecDepth 20000 in
theorem imX8_cost : Cond.instanceMethod yX8_cost ∈ lw_g := lw_gm (List.mem_of_getElem? (i := 897) rfl) rfl
theorem ioX8_cost : IOk mX8_cost := ⟨imX8_cost, lw_gm (List.mem_of_getElem? (i := 40) rfl) rfl⟩
abbrev mX8_joins : MD := (yX8_joins, cX8_joins, 5, none)
set_option maxRecDepth 20000 in
theorem okX8_joins : MOk mX8_joins 1 := ⟨lw_gm (List.mem_of_getElem? (i := 882) rfl) rfl, in_X8, by decide +kernel, by decide⟩
set_option maxRecDepth 20000 in
theorem imX8_joins : Cond.instanceMethod yX8_joins ∈ lw_g := lw_gm (List.mem_of_getElem? (i := 881) rfl) rfl
theorem ioX8_joins : IOk mX8_joins := ⟨imX8_joins, lw_gm (List.mem_of_getElem? (i := 36) rfl) rfl⟩
abbrev mX8_placed : MD := (yX8_placed, cX8_placed, 3, some FieldType.int)
set_option maxRecDepth 20000 in
theorem okX8_placed : MOk mX8_placed 2 := ⟨lw_gm (List.mem_of_getElem? (i := 878) rfl) rfl, in_X8, by decide +kernel, by decide⟩
set_option maxRecDepth 20000 in
theorem imX8_placed : Cond.instanceMethod yX8_placed ∈ lw_g := lw_gm (List.mem_of_getElem? (i := 876) rfl) rfl
set_option maxRecDepth 20000 in
theorem ioX8_placed : IOk mX8_placed := ⟨imX8_placed, lw_gm (List.mem_of_getElem? (i := 877) rfl) rfl⟩
abbrev mX8_swaps : MD := (yX8_swaps, cX8_swaps, 2, some FieldType.int)
set_option maxRecDepth 20000 in
theorem okX8_swaps : MOk mX8_swaps 1 := ⟨lw_gm (List.mem_of_getElem? (i := 902) rfl) rfl, in_X8, by decide +kernel, by decide⟩
set_option maxRecDepth 20000 in
theorem imX8_swaps : Cond.instanceMethod yX8_swaps ∈ lw_g := lw_gm (List.mem_of_getElem? (i := 900) rfl) rfl
set_option maxRecDepth 20000 in
theorem ioX8_swaps : IOk mX8_swaps := ⟨imX8_swaps, lw_gm (List.mem_of_getElem? (i := 901) rfl) rfl⟩
abbrev mX8_ring : MD := (yX8_ring, cX8_ring, 6, some FieldType.int)
set_option maxRecDepth 20000 in
theorem okX8_ring : MOk mX8_ring 2 := ⟨lw_gm (List.mem_of_getElem? (i := 906) rfl) rfl, in_X8, by decide +kernel, by decide⟩
set_option maxRecDepth 20000 in
theorem imX8_ring : Cond.instanceMethod yX8_ring ∈ lw_g := lw_gm (List.mem_of_getElem? (i := 904) rfl) rfl
set_option maxRecDepth 20000 in
theorem ioX8_ring : IOk mX8_ring := ⟨imX8_ring, lw_gm (List.mem_of_getElem? (i := 905) rfl) rfl⟩
abbrev mX8_isMore : MD := (yX8_isMore, cX8_isMore, 3, some FieldType.boolean)
set_option maxRecDepth 20000 in
theorem okX8_isMore : MOk mX8_isMore 2 := ⟨lw_gm (List.mem_of_getElem? (i := 910) rfl) rfl, in_X8, by decide +kernel, by decide⟩
set_option maxRecDepth 20000 in
theorem imX8_isMore : Cond.instanceMethod yX8_isMore ∈ lw_g := lw_gm (List.mem_of_getElem? (i := 909) rfl) rfl
theorem ioX8_isMore : IOk mX8_isMore := ⟨imX8_isMore, lw_gm (List.mem_of_getElem? (i := 41) rfl) rfl⟩
abbrev mX8_placeNow : MD := (yX8_placeNow, cX8_placeNow, 3, some FieldType.int)
set_option maxRecDepth 20000 in
theorem okX8_placeNow : MOk mX8_placeNow 1 := ⟨lw_gm (List.mem_of_getElem? (i := 922) rfl) rfl, in_X8, by decide +kernel, by decide⟩
set_option maxRecDepth 20000 in
theorem imX8_placeNow : Cond.instanceMethod yX8_placeNow ∈ lw_g := lw_gm (List.mem_of_getElem? (i := 921) rfl) rfl
theorem ioX8_placeNow : IOk mX8_placeNow := ⟨imX8_placeNow, lw_gm (List.mem_of_getElem? (i := 42) rfl) rfl⟩
abbrev mX8_cut : MD := (yX8_cut, cX8_cut, 4, some FieldType.boolean)
set_option maxRecDepth 20000 in
theorem okX8_cut : MOk mX8_cut 3 := ⟨lw_gm (List.mem_of_getElem? (i := 914) rfl) rfl, in_X8, by decide +kernel, by decide⟩
set_option maxRecDepth 20000 in
theorem imX8_cut : Cond.instanceMethod yX8_cut ∈ lw_g := lw_gm (List.mem_of_getElem? (i := 912) rfl) rfl
set_option maxRecDepth 20000 in
theorem ioX8_cut : IOk mX8_cut := ⟨imX8_cut, lw_gm (List.mem_of_getElem? (i := 913) rfl) rfl⟩
abbrev mX8_card : MD := (yX8_card, cX8_card, 10, some FieldType.int)
set_option maxRecDepth 20000 in
theorem okX8_card : MOk mX8_card 1 := ⟨lw_gm (List.mem_of_getElem? (i := 918) rfl) rfl, in_X8, by decide +kernel, by decide⟩
set_option maxRecDepth 20000 in
theorem imX8_card : Cond.instanceMethod yX8_card ∈ lw_g := lw_gm (List.mem_of_getElem? (i := 916) rfl) rfl
set_option maxRecDepth 20000 in
theorem ioX8_card : IOk mX8_card := ⟨imX8_card, lw_gm (List.mem_of_getElem? (i := 917) rfl) rfl⟩
abbrev mX8_place : MD := (yX8_place, cX8_place, 3, some FieldType.int)
set_option maxRecDepth 20000 in
theorem okX8_place : MOk mX8_place 1 := ⟨lw_gm (List.mem_of_getElem? (i := 934) rfl) rfl, in_X8, by decide +kernel, by decide⟩
set_option maxRecDepth 20000 in
theorem imX8_place : Cond.instanceMethod yX8_place ∈ lw_g := lw_gm (List.mem_of_getElem? (i := 933) rfl) rfl
theorem ioX8_place : IOk mX8_place := ⟨imX8_place, lw_gm (List.mem_of_getElem? (i := 44) rfl) rfl⟩
abbrev mX8_must : MD := (yX8_must, cX8_must, 2, none)
set_option maxRecDepth 20000 in
theorem okX8_must : MOk mX8_must 1 := ⟨lw_gm (List.mem_of_getElem? (i := 938) rfl) rfl, in_X8, by decide +kernel, by decide⟩
set_option maxRecDepth 20000 in
theorem imX8_must : Cond.instanceMethod yX8_must ∈ lw_g := lw_gm (List.mem_of_getElem? (i := 937) rfl) rfl
theorem ioX8_must : IOk mX8_must := ⟨imX8_must, lw_gm (List.mem_of_getElem? (i := 45) rfl) rfl⟩
abbrev mX8_pair : MD := (yX8_pair, cX8_pair, 9, none)
set_option maxRecDepth 20000 in
theorem okX8_pair : MOk mX8_pair 0 := ⟨lw_gm (List.mem_of_getElem? (i := 930) rfl) rfl, in_X8, by decide +kernel, by decide⟩
set_option maxRecDepth 20000 in
theorem imX8_pair : Cond.instanceMethod yX8_pair ∈ lw_g := lw_gm (List.mem_of_getElem? (i := 929) rfl) rfl
theorem ioX8_pair : IOk mX8_pair := ⟨imX8_pair, lw_gm (List.mem_of_getElem? (i := 43) rfl) rfl⟩
abbrev mX8_reasons : MD := (yX8_reasons, cX8_reasons, 4, some FieldType.int)
set_option maxRecDepth 20000 in
theorem okX8_reasons : MOk mX8_reasons 2 := ⟨lw_gm (List.mem_of_getElem? (i := 926) rfl) rfl, in_X8, by decide +kernel, by decide⟩
set_option maxRecDepth 20000 in
theorem imX8_reasons : Cond.instanceMethod yX8_reasons ∈ lw_g := lw_gm (List.mem_of_getElem? (i := 924) rfl) rfl
set_option maxRecDepth 20000 in
theorem ioX8_reasons : IOk mX8_reasons := ⟨imX8_reasons, lw_gm (List.mem_of_getElem? (i := 925) rfl) rfl⟩
abbrev mX8_sand : MD := (yX8_sand, cX8_sand, 2, some FieldType.boolean)
set_option maxRecDepth 20000 in
theorem okX8_sand : MOk mX8_sand 1 := ⟨lw_gm (List.mem_of_getElem? (i := 942) rfl) rfl, in_X8, by decide +kernel, by decide⟩
set_option maxRecDepth 20000 in
theorem imX8_sand : Cond.instanceMethod yX8_sand ∈ lw_g := lw_gm (List.mem_of_getElem? (i := 940) rfl) rfl
set_option maxRecDepth 20000 in
theorem ioX8_sand : IOk mX8_sand := ⟨imX8_sand, lw_gm (List.mem_of_getElem? (i := 941) rfl) rfl⟩
abbrev mX8_isGood : MD := (yX8_isGood, cX8_isGood, 4, some FieldType.boolean)
set_option maxRecDepth 20000 in
theorem okX8_isGood : MOk mX8_isGood 0 := ⟨lw_gm (List.mem_of_getElem? (i := 954) rfl) rfl, in_X8, by decide +kernel, by decide⟩
set_option maxRecDepth 20000 in
theorem imX8_isGood : Cond.instanceMethod yX8_isGood ∈ lw_g := lw_gm (List.mem_of_getElem? (i := 953) rfl) rfl
theorem ioX8_isGood : IOk mX8_isGood := ⟨imX8_isGood, lw_gm (List.mem_of_getElem? (i := 47) rfl) rfl⟩
abbrev mX8_isNext : MD := (yX8_isNext, cX8_isNext, 3, some FieldType.boolean)
set_option maxRecDepth 20000 in
theorem okX8_isNext : MOk mX8_isNext 1 := ⟨lw_gm (List.mem_of_getElem? (i := 958) rfl) rfl, in_X8, by decide +kernel, by decide⟩
set_option maxRecDepth 20000 in
theorem imX8_isNext : Cond.instanceMethod yX8_isNext ∈ lw_g := lw_gm (List.mem_of_getElem? (i := 957) rfl) rfl
theorem ioX8_isNext : IOk mX8_isNext := ⟨imX8_isNext, lw_gm (List.mem_of_getElem? (i := 48) rfl) rfl⟩
abbrev mX8_lays : MD := (yX8_lays, cX8_lays, 4, some FieldType.int)
set_option maxRecDepth 20000 in
theorem okX8_lays : MOk mX8_lays 0 := ⟨lw_gm (List.mem_of_getElem? (i := 950) rfl) rfl, in_X8, by decide +kernel, by decide⟩
set_option maxRecDepth 20000 in
theorem imX8_lays : Cond.instanceMethod yX8_lays ∈ lw_g := lw_gm (List.mem_of_getElem? (i := 949) rfl) rfl
theorem ioX8_lays : IOk mX8_lays := ⟨imX8_lays, lw_gm (List.mem_of_getElem? (i := 46) rfl) rfl⟩
abbrev mX8_hour : MD := (yX8_hour, cX8_hour, 2, some FieldType.int)
set_option maxRecDepth 20000 in
theorem okX8_hour : MOk mX8_hour 1 := ⟨lw_gm (List.mem_of_getElem? (i := 946) rfl) rfl, in_X8, by decide +kernel, by decide⟩
set_option maxRecDepth 20000 in
theorem imX8_hour : Cond.instanceMethod yX8_hour ∈ lw_g := lw_gm (List.mem_of_getElem? (i := 944) rfl) rfl
set_option maxRecDepth 20000 in
theorem ioX8_hour : IOk mX8_hour := ⟨imX8_hour, lw_gm (List.mem_of_getElem? (i := 945) rfl) rfl⟩
abbrev mX8_ranks : MD := (yX8_ranks, cX8_ranks, 3, none)
set_option maxRecDepth 20000 in
theorem okX8_ranks : MOk mX8_ranks 0 := ⟨lw_gm (List.mem_of_getElem? (i := 966) rfl) rfl, in_X8, by decide +kernel, by decide⟩
set_option maxRecDepth 20000 in
theorem imX8_ranks : Cond.instanceMethod yX8_ranks ∈ lw_g := lw_gm (List.mem_of_getElem? (i := 965) rfl) rfl
theorem ioX8_ranks : IOk mX8_ranks := ⟨imX8_ranks, lw_gm (List.mem_of_getElem? (i := 49) rfl) rfl⟩
abbrev mX8_team : MD := (yX8_team, cX8_team, 6, some FieldType.int)
set_option maxRecDepth 20000 in
theorem okX8_team : MOk mX8_team 1 := ⟨lw_gm (List.mem_of_getElem? (i := 962) rfl) rfl, in_X8, by decide +kernel, by decide⟩
set_option maxRecDepth 20000 in
theorem imX8_team : Cond.instanceMethod yX8_team ∈ lw_g := lw_gm (List.mem_of_getElem? (i := 960) rfl) rfl
set_option maxRecDepth 20000 in
theorem ioX8_team : IOk mX8_team := ⟨imX8_team, lw_gm (List.mem_of_getElem? (i := 961) rfl) rfl⟩
abbrev mX8_price : MD := (yX8_price, cX8_price, 4, some FieldType.int)
set_option maxRecDepth 20000 in
theorem okX8_price : MOk mX8_price 1 := ⟨lw_gm (List.mem_of_getElem? (i := 970) rfl) rfl, in_X8, by decide +kernel, by decide⟩
set_option maxRecDepth 20000 in
theorem imX8_price : Cond.instanceMethod yX8_price ∈ lw_g := lw_gm (List.mem_of_getElem? (i := 968) rfl) rfl
set_option maxRecDepth 20000 in
theorem ioX8_price : IOk mX8_price := ⟨imX8_price, lw_gm (List.mem_of_getElem? (i := 969) rfl) rfl⟩
abbrev mX8_look : MD := (yX8_look, cX8_look, 5, some FieldType.int)
set_option maxRecDepth 20000 in
theorem okX8_look : MOk mX8_look 2 := ⟨lw_gm (List.mem_of_getElem? (i := 974) rfl) rfl, in_X8, by decide +kernel, by decide⟩
set_option maxRecDepth 20000 in
theorem imX8_look : Cond.instanceMethod yX8_look ∈ lw_g := lw_gm (List.mem_of_getElem? (i := 972) rfl) rfl
set_option maxRecDepth 20000 in
theorem ioX8_look : IOk mX8_look := ⟨imX8_look, lw_gm (List.mem_of_getElem? (i := 973) rfl) rfl⟩
abbrev mX8_count : MD := (yX8_count, cX8_count, 4, some FieldType.int)
set_option maxRecDepth 20000 in
theorem okX8_count : MOk mX8_count 1 := ⟨lw_gm (List.mem_of_getElem? (i := 978) rfl) rfl, in_X8, by decide +kernel, by decide⟩
set_option maxRecDepth 20000 in
theorem imX8_count : Cond.instanceMethod yX8_count ∈ lw_g := lw_gm (List.mem_of_getElem? (i := 976) rfl) rfl
set_option maxRecDepth 20000 in
theorem ioX8_count : IOk mX8_count := ⟨imX8_count, lw_gm (List.mem_of_getElem? (i := 977) rfl) rfl⟩
abbrev mJ6_bitCount_0f7a4 : MD := (yJ6_bitCount_0f7a4, cJ6_bitCount_0f7a4, 1, some FieldType.int)
set_option maxRecDepth 20000 in
theorem okJ6_bitCount_0f7a4 : MOk mJ6_bitCount_0f7a4 1 := ⟨lw_gm (List.mem_of_getElem? (i := 500) rfl) rfl, in_J6, by decide +kernel, by decide⟩
set_option maxRecDepth 20000 in
theorem smJ6_bitCount_0f7a4 : Cond.static yJ6_bitCount_0f7a4 ∈ lw_g := lw_gm (List.mem_of_getElem? (i := 499) rfl) rfl
abbrev mJ9_max_7cf53 : MD := (yJ9_max_7cf53, cJ9_max_7cf53, 2, some FieldType.int)
theorem okJ9_max_7cf53 : MOk mJ9_max_7cf53 2 := ⟨lw_gm (List.mem_of_getElem? (i := 346) rfl) rfl, in_J9, by decide +kernel, by decide⟩
theorem smJ9_max_7cf53 : Cond.static yJ9_max_7cf53 ∈ lw_g := lw_gm (List.mem_of_getElem? (i := 345) rfl) rfl
abbrev mJ9_min_7cf53 : MD := (yJ9_min_7cf53, cJ9_min_7cf53, 2, some FieldType.int)
theorem okJ9_min_7cf53 : MOk mJ9_min_7cf53 2 := ⟨lw_gm (List.mem_of_getElem? (i := 353) rfl) rfl, in_J9, by decide +kernel, by decide⟩
theorem smJ9_min_7cf53 : Cond.static yJ9_min_7cf53 ∈ lw_g := lw_gm (List.mem_of_getElem? (i := 352) rfl) rfl
abbrev mJ7_fill_53178 : MD := (yJ7_fill_53178, cJ7_fill_53178, 4, none)
theorem okJ7_fill_53178 : MOk mJ7_fill_53178 2 := ⟨lw_gm (List.mem_of_getElem? (i := 164) rfl) rfl, in_J7, by decide +kernel, by decide⟩
theorem smJ7_fill_53178 : Cond.static yJ7_fill_53178 ∈ lw_g := lw_gm (List.mem_of_getElem? (i := 163) rfl) rfl
theorem fk_X5_9 : Cond.fieldLink RX5 9 (TX5 0).1 (TX5 0).2.1 (TX5 0).2.2.1 ∈ lw_g := lw_gm (List.mem_of_getElem? (i := 77) rfl) rfl
theorem fk_X5_15 : Cond.fieldLink RX5 15 (TX5 1).1 (TX5 1).2.1 (TX5 1).2.2.1 ∈ lw_g := lw_gm (List.mem_of_getElem? (i := 78) rfl) rfl
theorem fk_X5_19 : Cond.fieldLink RX5 19 (TX5 2).1 (TX5 2).2.1 (TX5 2).2.2.1 ∈ lw_g := lw_gm (List.mem_of_getElem? (i := 79) rfl) rfl
theorem fk_X5_22 : Cond.fieldLink RX5 22 (TX5 3).1 (TX5 3).2.1 (TX5 3).2.2.1 ∈ lw_g := lw_gm (List.mem_of_getElem? (i := 80) rfl) rfl
theorem fk_X2_9 : Cond.fieldLink RX2 9 (TX2 0).1 (TX2 0).2.1 (TX2 0).2.2.1 ∈ lw_g := lw_gm (List.mem_of_getElem? (i := 103) rfl) rfl
theorem fk_X2_15 : Cond.fieldLink RX2 15 (TX2 1).1 (TX2 1).2.1 (TX2 1).2.2.1 ∈ lw_g := lw_gm (List.mem_of_getElem? (i := 104) rfl) rfl
theorem fk_X2_18 : Cond.fieldLink RX2 18 (TX2 2).1 (TX2 2).2.1 (TX2 2).2.2.1 ∈ lw_g := lw_gm (List.mem_of_getElem? (i := 105) rfl) rfl
theorem fk_X2_24 : Cond.fieldLink RX2 24 (TX2 3).1 (TX2 3).2.1 (TX2 3).2.2.1 ∈ lw_g := lw_gm (List.mem_of_getElem? (i := 106) rfl) rfl
theorem fk_X2_27 : Cond.fieldLink RX2 27 (TX2 4).1 (TX2 4).2.1 (TX2 4).2.2.1 ∈ lw_g := lw_gm (List.mem_of_getElem? (i := 107) rfl) rfl
theorem fk_X2_30 : Cond.fieldLink RX2 30 (TX2 5).1 (TX2 5).2.1 (TX2 5).2.2.1 ∈ lw_g := lw_gm (List.mem_of_getElem? (i := 108) rfl) rfl
theorem fk_X6_9 : Cond.fieldLink RX6 9 (TX6 0).1 (TX6 0).2.1 (TX6 0).2.2.1 ∈ lw_g := lw_gm (List.mem_of_getElem? (i := 128) rfl) rfl
theorem fk_X6_15 : Cond.fieldLink RX6 15 (TX6 1).1 (TX6 1).2.1 (TX6 1).2.2.1 ∈ lw_g := lw_gm (List.mem_of_getElem? (i := 129) rfl) rfl
theorem fk_X7_183 : Cond.fieldLink RX7 183 (TX6 1).1 (TX6 1).2.1 (TX6 1).2.2.1 ∈ lw_g := lw_gm (List.mem_of_getElem? (i := 130) rfl) rfl
theorem fk_X6_18 : Cond.fieldLink RX6 18 (TX6 2).1 (TX6 2).2.1 (TX6 2).2.2.1 ∈ lw_g := lw_gm (List.mem_of_getElem? (i := 131) rfl) rfl
theorem fk_X6_21 : Cond.fieldLink RX6 21 (TX6 3).1 (TX6 3).2.1 (TX6 3).2.2.1 ∈ lw_g := lw_gm (List.mem_of_getElem? (i := 132) rfl) rfl
theorem fk_X3_9 : Cond.fieldLink RX3 9 (TX3 0).1 (TX3 0).2.1 (TX3 0).2.2.1 ∈ lw_g := lw_gm (List.mem_of_getElem? (i := 148) rfl) rfl
theorem fk_X1_11 : Cond.fieldLink RX1 11 (TX1 0).1 (TX1 0).2.1 (TX1 0).2.2.1 ∈ lw_g := lw_gm (List.mem_of_getElem? (i := 166) rfl) rfl
theorem fk_X1_15 : Cond.fieldLink RX1 15 (TX1 1).1 (TX1 1).2.1 (TX1 1).2.2.1 ∈ lw_g := lw_gm (List.mem_of_getElem? (i := 167) rfl) rfl
theorem fk_X1_18 : Cond.fieldLink RX1 18 (TX1 2).1 (TX1 2).2.1 (TX1 2).2.2.1 ∈ lw_g := lw_gm (List.mem_of_getElem? (i := 168) rfl) rfl
theorem fk_X4_9 : Cond.fieldLink RX4 9 (TX4 0).1 (TX4 0).2.1 (TX4 0).2.2.1 ∈ lw_g := lw_gm (List.mem_of_getElem? (i := 185) rfl) rfl
theorem fk_X7_143 : Cond.fieldLink RX7 143 (TX4 0).1 (TX4 0).2.1 (TX4 0).2.2.1 ∈ lw_g := lw_gm (List.mem_of_getElem? (i := 186) rfl) rfl
theorem fk_X4_15 : Cond.fieldLink RX4 15 (TX4 1).1 (TX4 1).2.1 (TX4 1).2.2.1 ∈ lw_g := lw_gm (List.mem_of_getElem? (i := 187) rfl) rfl
theorem fk_X6_38 : Cond.fieldLink RX6 38 (TX4 1).1 (TX4 1).2.1 (TX4 1).2.2.1 ∈ lw_g := lw_gm (List.mem_of_getElem? (i := 188) rfl) rfl
theorem fk_X3_50 : Cond.fieldLink RX3 50 (TX4 1).1 (TX4 1).2.1 (TX4 1).2.2.1 ∈ lw_g := lw_gm (List.mem_of_getElem? (i := 189) rfl) rfl
theorem fk_X7_140 : Cond.fieldLink RX7 140 (TX4 1).1 (TX4 1).2.1 (TX4 1).2.2.1 ∈ lw_g := lw_gm (List.mem_of_getElem? (i := 190) rfl) rfl
theorem fk_X4_18 : Cond.fieldLink RX4 18 (TX4 2).1 (TX4 2).2.1 (TX4 2).2.2.1 ∈ lw_g := lw_gm (List.mem_of_getElem? (i := 191) rfl) rfl
theorem fk_X4_24 : Cond.fieldLink RX4 24 (TX4 3).1 (TX4 3).2.1 (TX4 3).2.2.1 ∈ lw_g := lw_gm (List.mem_of_getElem? (i := 192) rfl) rfl
theorem fk_X4_30 : Cond.fieldLink RX4 30 (TX4 4).1 (TX4 4).2.1 (TX4 4).2.2.1 ∈ lw_g := lw_gm (List.mem_of_getElem? (i := 193) rfl) rfl
theorem fk_X2_69 : Cond.fieldLink RX2 69 (TX4 4).1 (TX4 4).2.1 (TX4 4).2.2.1 ∈ lw_g := lw_gm (List.mem_of_getElem? (i := 194) rfl) rfl
theorem fk_X4_33 : Cond.fieldLink RX4 33 (TX4 5).1 (TX4 5).2.1 (TX4 5).2.2.1 ∈ lw_g := lw_gm (List.mem_of_getElem? (i := 195) rfl) rfl
theorem fk_X2_72 : Cond.fieldLink RX2 72 (TX4 5).1 (TX4 5).2.1 (TX4 5).2.2.1 ∈ lw_g := lw_gm (List.mem_of_getElem? (i := 196) rfl) rfl
theorem fk_X4_37 : Cond.fieldLink RX4 37 (TX4 6).1 (TX4 6).2.1 (TX4 6).2.2.1 ∈ lw_g := lw_gm (List.mem_of_getElem? (i := 197) rfl) rfl
theorem fk_X2_52 : Cond.fieldLink RX2 52 (TX4 6).1 (TX4 6).2.1 (TX4 6).2.2.1 ∈ lw_g := lw_gm (List.mem_of_getElem? (i := 198) rfl) rfl
theorem fk_X6_44 : Cond.fieldLink RX6 44 (TX4 6).1 (TX4 6).2.1 (TX4 6).2.2.1 ∈ lw_g := lw_gm (List.mem_of_getElem? (i := 199) rfl) rfl
theorem fk_X3_65 : Cond.fieldLink RX3 65 (TX4 6).1 (TX4 6).2.1 (TX4 6).2.2.1 ∈ lw_g := lw_gm (List.mem_of_getElem? (i := 200) rfl) rfl
theorem fk_X7_153 : Cond.fieldLink RX7 153 (TX4 6).1 (TX4 6).2.1 (TX4 6).2.2.1 ∈ lw_g := lw_gm (List.mem_of_getElem? (i := 201) rfl) rfl
theorem fk_X4_40 : Cond.fieldLink RX4 40 (TX4 7).1 (TX4 7).2.1 (TX4 7).2.2.1 ∈ lw_g := lw_gm (List.mem_of_getElem? (i := 202) rfl) rfl
theorem fk_X2_43 : Cond.fieldLink RX2 43 (TX4 7).1 (TX4 7).2.1 (TX4 7).2.2.1 ∈ lw_g := lw_gm (List.mem_of_getElem? (i := 203) rfl) rfl
theorem fk_X7_156 : Cond.fieldLink RX7 156 (TX4 7).1 (TX4 7).2.1 (TX4 7).2.2.1 ∈ lw_g := lw_gm (List.mem_of_getElem? (i := 204) rfl) rfl
theorem fk_X4_43 : Cond.fieldLink RX4 43 (TX4 8).1 (TX4 8).2.1 (TX4 8).2.2.1 ∈ lw_g := lw_gm (List.mem_of_getElem? (i := 205) rfl) rfl
theorem fk_X7_163 : Cond.fieldLink RX7 163 (TX4 8).1 (TX4 8).2.1 (TX4 8).2.2.1 ∈ lw_g := lw_gm (List.mem_of_getElem? (i := 206) rfl) rfl
theorem fk_X7_10 : Cond.fieldLink RX7 10 (TX7 0).1 (TX7 0).2.1 (TX7 0).2.2.1 ∈ lw_g := lw_gm (List.mem_of_getElem? (i := 226) rfl) rfl
theorem fk_X7_18 : Cond.fieldLink RX7 18 (TX7 1).1 (TX7 1).2.1 (TX7 1).2.2.1 ∈ lw_g := lw_gm (List.mem_of_getElem? (i := 227) rfl) rfl
theorem fk_X7_24 : Cond.fieldLink RX7 24 (TX7 2).1 (TX7 2).2.1 (TX7 2).2.2.1 ∈ lw_g := lw_gm (List.mem_of_getElem? (i := 228) rfl) rfl
theorem fk_X7_28 : Cond.fieldLink RX7 28 (TX7 3).1 (TX7 3).2.1 (TX7 3).2.2.1 ∈ lw_g := lw_gm (List.mem_of_getElem? (i := 229) rfl) rfl
theorem fk_X7_35 : Cond.fieldLink RX7 35 (TX7 4).1 (TX7 4).2.1 (TX7 4).2.2.1 ∈ lw_g := lw_gm (List.mem_of_getElem? (i := 230) rfl) rfl
theorem fk_X7_42 : Cond.fieldLink RX7 42 (TX7 5).1 (TX7 5).2.1 (TX7 5).2.2.1 ∈ lw_g := lw_gm (List.mem_of_getElem? (i := 231) rfl) rfl
theorem fk_X7_49 : Cond.fieldLink RX7 49 (TX7 6).1 (TX7 6).2.1 (TX7 6).2.2.1 ∈ lw_g := lw_gm (List.mem_of_getElem? (i := 232) rfl) rfl
theorem fk_X7_56 : Cond.fieldLink RX7 56 (TX7 7).1 (TX7 7).2.1 (TX7 7).2.2.1 ∈ lw_g := lw_gm (List.mem_of_getElem? (i := 233) rfl) rfl
theorem fk_X7_60 : Cond.fieldLink RX7 60 (TX7 8).1 (TX7 8).2.1 (TX7 8).2.2.1 ∈ lw_g := lw_gm (List.mem_of_getElem? (i := 234) rfl) rfl
theorem fk_X7_64 : Cond.fieldLink RX7 64 (TX7 9).1 (TX7 9).2.1 (TX7 9).2.2.1 ∈ lw_g := lw_gm (List.mem_of_getElem? (i := 235) rfl) rfl
theorem fk_X0_15 : Cond.fieldLink RX0 15 (TX0 0).1 (TX0 0).2.1 (TX0 0).2.2.1 ∈ lw_g := lw_gm (List.mem_of_getElem? (i := 379) rfl) rfl
theorem fk_X1_25 : Cond.fieldLink RX1 25 (TX0 0).1 (TX0 0).2.1 (TX0 0).2.2.1 ∈ lw_g := lw_gm (List.mem_of_getElem? (i := 380) rfl) rfl
theorem fk_X7_196 : Cond.fieldLink RX7 196 (TX0 0).1 (TX0 0).2.1 (TX0 0).2.2.1 ∈ lw_g := lw_gm (List.mem_of_getElem? (i := 381) rfl) rfl
theorem fk_X0_19 : Cond.fieldLink RX0 19 (TX0 1).1 (TX0 1).2.1 (TX0 1).2.2.1 ∈ lw_g := lw_gm (List.mem_of_getElem? (i := 382) rfl) rfl
theorem fk_X1_30 : Cond.fieldLink RX1 30 (TX0 1).1 (TX0 1).2.1 (TX0 1).2.2.1 ∈ lw_g := lw_gm (List.mem_of_getElem? (i := 383) rfl) rfl
theorem fk_X7_199 : Cond.fieldLink RX7 199 (TX0 1).1 (TX0 1).2.1 (TX0 1).2.2.1 ∈ lw_g := lw_gm (List.mem_of_getElem? (i := 384) rfl) rfl
theorem fk_X0_22 : Cond.fieldLink RX0 22 (TX0 2).1 (TX0 2).2.1 (TX0 2).2.2.1 ∈ lw_g := lw_gm (List.mem_of_getElem? (i := 385) rfl) rfl
theorem fk_X7_186 : Cond.fieldLink RX7 186 (TX0 2).1 (TX0 2).2.1 (TX0 2).2.2.1 ∈ lw_g := lw_gm (List.mem_of_getElem? (i := 386) rfl) rfl
theorem fk_X0_25 : Cond.fieldLink RX0 25 (TX0 3).1 (TX0 3).2.1 (TX0 3).2.2.1 ∈ lw_g := lw_gm (List.mem_of_getElem? (i := 387) rfl) rfl
theorem fk_X6_47 : Cond.fieldLink RX6 47 (TX0 3).1 (TX0 3).2.1 (TX0 3).2.2.1 ∈ lw_g := lw_gm (List.mem_of_getElem? (i := 388) rfl) rfl
theorem fk_X7_202 : Cond.fieldLink RX7 202 (TX0 3).1 (TX0 3).2.1 (TX0 3).2.2.1 ∈ lw_g := lw_gm (List.mem_of_getElem? (i := 389) rfl) rfl
theorem fk_X0_9 : Cond.fieldLink RX0 9 (TX0 4).1 (TX0 4).2.1 (TX0 4).2.2.1 ∈ lw_g := lw_gm (List.mem_of_getElem? (i := 390) rfl) rfl
theorem fk_X1_37 : Cond.fieldLink RX1 37 (TX0 4).1 (TX0 4).2.1 (TX0 4).2.2.1 ∈ lw_g := lw_gm (List.mem_of_getElem? (i := 391) rfl) rfl
theorem fk_X7_113 : Cond.fieldLink RX7 113 (TX0 4).1 (TX0 4).2.1 (TX0 4).2.2.1 ∈ lw_g := lw_gm (List.mem_of_getElem? (i := 392) rfl) rfl
theorem fk_X3_83 : Cond.fieldLink RX3 83 (TX0 4).1 (TX0 4).2.1 (TX0 4).2.2.1 ∈ lw_g := lw_gm (List.mem_of_getElem? (i := 393) rfl) rfl
set_option maxRecDepth 20000 in
theorem fk_X8_7 : Cond.fieldLink RX8 7 (TX8 0).1 (TX8 0).2.1 (TX8 0).2.2.1 ∈ lw_g := lw_gm (List.mem_of_getElem? (i := 667) rfl) rfl
set_option maxRecDepth 20000 in
theorem fk_X8_94 : Cond.fieldLink RX8 94 (TX8 1).1 (TX8 1).2.1 (TX8 1).2.2.1 ∈ lw_g := lw_gm (List.mem_of_getElem? (i := 668) rfl) rfl
set_option maxRecDepth 20000 in
theorem fk_X8_91 : Cond.fieldLink RX8 91 (TX8 2).1 (TX8 2).2.1 (TX8 2).2.2.1 ∈ lw_g := lw_gm (List.mem_of_getElem? (i := 669) rfl) rfl
set_option maxRecDepth 20000 in
theorem fk_X8_13 : Cond.fieldLink RX8 13 (TX8 3).1 (TX8 3).2.1 (TX8 3).2.2.1 ∈ lw_g := lw_gm (List.mem_of_getElem? (i := 670) rfl) rfl
set_option maxRecDepth 20000 in
theorem fk_X8_17 : Cond.fieldLink RX8 17 (TX8 4).1 (TX8 4).2.1 (TX8 4).2.2.1 ∈ lw_g := lw_gm (List.mem_of_getElem? (i := 671) rfl) rfl
set_option maxRecDepth 20000 in
theorem fk_X8_21 : Cond.fieldLink RX8 21 (TX8 5).1 (TX8 5).2.1 (TX8 5).2.2.1 ∈ lw_g := lw_gm (List.mem_of_getElem? (i := 672) rfl) rfl
set_option maxRecDepth 20000 in
theorem fk_X8_24 : Cond.fieldLink RX8 24 (TX8 6).1 (TX8 6).2.1 (TX8 6).2.2.1 ∈ lw_g := lw_gm (List.mem_of_getElem? (i := 673) rfl) rfl
set_option maxRecDepth 20000 in
theorem fk_X8_27 : Cond.fieldLink RX8 27 (TX8 7).1 (TX8 7).2.1 (TX8 7).2.2.1 ∈ lw_g := lw_gm (List.mem_of_getElem? (i := 674) rfl) rfl
set_option maxRecDepth 20000 in
theorem fk_X8_30 : Cond.fieldLink RX8 30 (TX8 8).1 (TX8 8).2.1 (TX8 8).2.2.1 ∈ lw_g := lw_gm (List.mem_of_getElem? (i := 675) rfl) rfl
set_option maxRecDepth 20000 in
theorem fk_X8_33 : Cond.fieldLink RX8 33 (TX8 9).1 (TX8 9).2.1 (TX8 9).2.2.1 ∈ lw_g := lw_gm (List.mem_of_getElem? (i := 676) rfl) rfl
set_option maxRecDepth 20000 in
theorem fk_X8_36 : Cond.fieldLink RX8 36 (TX8 10).1 (TX8 10).2.1 (TX8 10).2.2.1 ∈ lw_g := lw_gm (List.mem_of_getElem? (i := 677) rfl) rfl
set_option maxRecDepth 20000 in
theorem fk_X8_39 : Cond.fieldLink RX8 39 (TX8 11).1 (TX8 11).2.1 (TX8 11).2.2.1 ∈ lw_g := lw_gm (List.mem_of_getElem? (i := 678) rfl) rfl
set_option maxRecDepth 20000 in
theorem fk_X8_125 : Cond.fieldLink RX8 125 (TX8 12).1 (TX8 12).2.1 (TX8 12).2.2.1 ∈ lw_g := lw_gm (List.mem_of_getElem? (i := 679) rfl) rfl
set_option maxRecDepth 20000 in
theorem fk_X8_42 : Cond.fieldLink RX8 42 (TX8 13).1 (TX8 13).2.1 (TX8 13).2.2.1 ∈ lw_g := lw_gm (List.mem_of_getElem? (i := 680) rfl) rfl
set_option maxRecDepth 20000 in
theorem fk_X8_45 : Cond.fieldLink RX8 45 (TX8 14).1 (TX8 14).2.1 (TX8 14).2.2.1 ∈ lw_g := lw_gm (List.mem_of_getElem? (i := 681) rfl) rfl
set_option maxRecDepth 20000 in
theorem fk_X8_48 : Cond.fieldLink RX8 48 (TX8 15).1 (TX8 15).2.1 (TX8 15).2.2.1 ∈ lw_g := lw_gm (List.mem_of_getElem? (i := 682) rfl) rfl
set_option maxRecDepth 20000 in
theorem fk_X8_51 : Cond.fieldLink RX8 51 (TX8 16).1 (TX8 16).2.1 (TX8 16).2.2.1 ∈ lw_g := lw_gm (List.mem_of_getElem? (i := 683) rfl) rfl
set_option maxRecDepth 20000 in
theorem fk_X8_54 : Cond.fieldLink RX8 54 (TX8 17).1 (TX8 17).2.1 (TX8 17).2.2.1 ∈ lw_g := lw_gm (List.mem_of_getElem? (i := 684) rfl) rfl
set_option maxRecDepth 20000 in
theorem fk_X8_57 : Cond.fieldLink RX8 57 (TX8 18).1 (TX8 18).2.1 (TX8 18).2.2.1 ∈ lw_g := lw_gm (List.mem_of_getElem? (i := 685) rfl) rfl
set_option maxRecDepth 20000 in
theorem fk_X8_60 : Cond.fieldLink RX8 60 (TX8 19).1 (TX8 19).2.1 (TX8 19).2.2.1 ∈ lw_g := lw_gm (List.mem_of_getElem? (i := 686) rfl) rfl
set_option maxRecDepth 20000 in
theorem fk_X8_63 : Cond.fieldLink RX8 63 (TX8 20).1 (TX8 20).2.1 (TX8 20).2.2.1 ∈ lw_g := lw_gm (List.mem_of_getElem? (i := 687) rfl) rfl
set_option maxRecDepth 20000 in
theorem fk_X8_101 : Cond.fieldLink RX8 101 (TX8 21).1 (TX8 21).2.1 (TX8 21).2.2.1 ∈ lw_g := lw_gm (List.mem_of_getElem? (i := 688) rfl) rfl
set_option maxRecDepth 20000 in
theorem fk_X8_104 : Cond.fieldLink RX8 104 (TX8 22).1 (TX8 22).2.1 (TX8 22).2.2.1 ∈ lw_g := lw_gm (List.mem_of_getElem? (i := 689) rfl) rfl
set_option maxRecDepth 20000 in
theorem fk_X8_107 : Cond.fieldLink RX8 107 (TX8 23).1 (TX8 23).2.1 (TX8 23).2.2.1 ∈ lw_g := lw_gm (List.mem_of_getElem? (i := 690) rfl) rfl
set_option maxRecDepth 20000 in
theorem fk_X8_110 : Cond.fieldLink RX8 110 (TX8 24).1 (TX8 24).2.1 (TX8 24).2.2.1 ∈ lw_g := lw_gm (List.mem_of_getElem? (i := 691) rfl) rfl
set_option maxRecDepth 20000 in
theorem fk_X8_176 : Cond.fieldLink RX8 176 (TX8 25).1 (TX8 25).2.1 (TX8 25).2.2.1 ∈ lw_g := lw_gm (List.mem_of_getElem? (i := 692) rfl) rfl
set_option maxRecDepth 20000 in
theorem fk_X8_66 : Cond.fieldLink RX8 66 (TX8 26).1 (TX8 26).2.1 (TX8 26).2.2.1 ∈ lw_g := lw_gm (List.mem_of_getElem? (i := 693) rfl) rfl
set_option maxRecDepth 20000 in
theorem fk_X8_69 : Cond.fieldLink RX8 69 (TX8 27).1 (TX8 27).2.1 (TX8 27).2.2.1 ∈ lw_g := lw_gm (List.mem_of_getElem? (i := 694) rfl) rfl
set_option maxRecDepth 20000 in
theorem fk_X8_72 : Cond.fieldLink RX8 72 (TX8 28).1 (TX8 28).2.1 (TX8 28).2.2.1 ∈ lw_g := lw_gm (List.mem_of_getElem? (i := 695) rfl) rfl
set_option maxRecDepth 20000 in
theorem fk_X8_75 : Cond.fieldLink RX8 75 (TX8 29).1 (TX8 29).2.1 (TX8 29).2.2.1 ∈ lw_g := lw_gm (List.mem_of_getElem? (i := 696) rfl) rfl
set_option maxRecDepth 20000 in
theorem fk_X8_201 : Cond.fieldLink RX8 201 (TX8 30).1 (TX8 30).2.1 (TX8 30).2.2.1 ∈ lw_g := lw_gm (List.mem_of_getElem? (i := 697) rfl) rfl
set_option maxRecDepth 20000 in
theorem fk_X8_78 : Cond.fieldLink RX8 78 (TX8 31).1 (TX8 31).2.1 (TX8 31).2.2.1 ∈ lw_g := lw_gm (List.mem_of_getElem? (i := 698) rfl) rfl
set_option maxRecDepth 20000 in
theorem fk_X8_81 : Cond.fieldLink RX8 81 (TX8 32).1 (TX8 32).2.1 (TX8 32).2.2.1 ∈ lw_g := lw_gm (List.mem_of_getElem? (i := 699) rfl) rfl
set_option maxRecDepth 20000 in
theorem fk_X8_84 : Cond.fieldLink RX8 84 (TX8 33).1 (TX8 33).2.1 (TX8 33).2.2.1 ∈ lw_g := lw_gm (List.mem_of_getElem? (i := 700) rfl) rfl
theorem mk_L_9 : Cond.methodLink RL 9 yX7_init ∈ lw_g := lw_gm (List.mem_of_getElem? (i := 65) rfl) rfl
theorem mk_X7_55 : Cond.methodLink RX7 55 yX1_init ∈ lw_g := lw_gm (List.mem_of_getElem? (i := 154) rfl) rfl
theorem mk_X1_22 : Cond.methodLink RX1 22 yX1_letAll ∈ lw_g := lw_gm (List.mem_of_getElem? (i := 158) rfl) rfl
theorem mk_X1_66 : Cond.methodLink RX1 66 yJ7_fill_53178 ∈ lw_g := lw_gm (List.mem_of_getElem? (i := 162) rfl) rfl
theorem mk_X7_67 : Cond.methodLink RX7 67 yX4_init ∈ lw_g := lw_gm (List.mem_of_getElem? (i := 177) rfl) rfl
theorem mk_X4_23 : Cond.methodLink RX4 23 yX1_init ∈ lw_g := lw_gm (List.mem_of_getElem? (i := 182) rfl) rfl
theorem mk_X4_46 : Cond.methodLink RX4 46 yJ7_fill_53178 ∈ lw_g := lw_gm (List.mem_of_getElem? (i := 184) rfl) rfl
theorem mk_L_13 : Cond.methodLink RL 13 yX7_feed ∈ lw_g := lw_gm (List.mem_of_getElem? (i := 257) rfl) rfl
theorem mk_X7_68 : Cond.methodLink RX7 68 yX5_hasRoom ∈ lw_g := lw_gm (List.mem_of_getElem? (i := 261) rfl) rfl
theorem mk_X7_72 : Cond.methodLink RX7 72 yX5_append ∈ lw_g := lw_gm (List.mem_of_getElem? (i := 265) rfl) rfl
theorem mk_X7_76 : Cond.methodLink RX7 76 yX5_length ∈ lw_g := lw_gm (List.mem_of_getElem? (i := 269) rfl) rfl
theorem mk_L_18 : Cond.methodLink RL 18 yX7_text ∈ lw_g := lw_gm (List.mem_of_getElem? (i := 273) rfl) rfl
theorem mk_X7_80 : Cond.methodLink RX7 80 yX7_classAt ∈ lw_g := lw_gm (List.mem_of_getElem? (i := 277) rfl) rfl
theorem mk_X7_102 : Cond.methodLink RX7 102 yX7_isBelow ∈ lw_g := lw_gm (List.mem_of_getElem? (i := 281) rfl) rfl
theorem mk_X7_84 : Cond.methodLink RX7 84 yX5_has ∈ lw_g := lw_gm (List.mem_of_getElem? (i := 284) rfl) rfl
theorem mk_X7_88 : Cond.methodLink RX7 88 yX5_startReading ∈ lw_g := lw_gm (List.mem_of_getElem? (i := 288) rfl) rfl
theorem mk_X5_42 : Cond.methodLink RX5 42 yX5_has ∈ lw_g := lw_gm (List.mem_of_getElem? (i := 292) rfl) rfl
theorem mk_X7_91 : Cond.methodLink RX7 91 yX1_readFrom ∈ lw_g := lw_gm (List.mem_of_getElem? (i := 293) rfl) rfl
theorem mk_X1_40 : Cond.methodLink RX1 40 yX5_isAtEnd ∈ lw_g := lw_gm (List.mem_of_getElem? (i := 297) rfl) rfl
theorem mk_X1_46 : Cond.methodLink RX1 46 yX1_readClause ∈ lw_g := lw_gm (List.mem_of_getElem? (i := 301) rfl) rfl
theorem mk_X1_50 : Cond.methodLink RX1 50 yX5_skipIf ∈ lw_g := lw_gm (List.mem_of_getElem? (i := 305) rfl) rfl
theorem mk_X5_46 : Cond.methodLink RX5 46 yX5_peek ∈ lw_g := lw_gm (List.mem_of_getElem? (i := 309) rfl) rfl
theorem mk_X5_50 : Cond.methodLink RX5 50 yX5_skip ∈ lw_g := lw_gm (List.mem_of_getElem? (i := 313) rfl) rfl
theorem mk_X1_75 : Cond.methodLink RX1 75 yX1_readBreeds ∈ lw_g := lw_gm (List.mem_of_getElem? (i := 317) rfl) rfl
theorem mk_X1_88 : Cond.methodLink RX1 88 yX5_isAtDigit ∈ lw_g := lw_gm (List.mem_of_getElem? (i := 321) rfl) rfl
theorem mk_X1_54 : Cond.methodLink RX1 54 yX5_faultHere ∈ lw_g := lw_gm (List.mem_of_getElem? (i := 325) rfl) rfl
theorem mk_X5_57 : Cond.methodLink RX5 57 yX5_faultAt ∈ lw_g := lw_gm (List.mem_of_getElem? (i := 329) rfl) rfl
theorem mk_X1_58 : Cond.methodLink RX1 58 yX5_peek ∈ lw_g := lw_gm (List.mem_of_getElem? (i := 333) rfl) rfl
theorem mk_X1_91 : Cond.methodLink RX1 91 yX5_skip ∈ lw_g := lw_gm (List.mem_of_getElem? (i := 334) rfl) rfl
theorem mk_X1_78 : Cond.methodLink RX1 78 yX1_readLeast ∈ lw_g := lw_gm (List.mem_of_getElem? (i := 335) rfl) rfl
theorem mk_X1_94 : Cond.methodLink RX1 94 yX5_readNumber ∈ lw_g := lw_gm (List.mem_of_getElem? (i := 339) rfl) rfl
theorem mk_X5_53 : Cond.methodLink RX5 53 yX5_isAtDigit ∈ lw_g := lw_gm (List.mem_of_getElem? (i := 343) rfl) rfl
theorem mk_X1_97 : Cond.methodLink RX1 97 yJ9_max_7cf53 ∈ lw_g := lw_gm (List.mem_of_getElem? (i := 344) rfl) rfl
theorem mk_X1_82 : Cond.methodLink RX1 82 yX1_readMost ∈ lw_g := lw_gm (List.mem_of_getElem? (i := 347) rfl) rfl
theorem mk_X1_103 : Cond.methodLink RX1 103 yJ9_min_7cf53 ∈ lw_g := lw_gm (List.mem_of_getElem? (i := 351) rfl) rfl
theorem mk_X1_85 : Cond.methodLink RX1 85 yX1_readMeasure ∈ lw_g := lw_gm (List.mem_of_getElem? (i := 354) rfl) rfl
theorem mk_X1_62 : Cond.methodLink RX1 62 yX1_isClauseLetter ∈ lw_g := lw_gm (List.mem_of_getElem? (i := 358) rfl) rfl
theorem mk_X7_95 : Cond.methodLink RX7 95 yX5_clear ∈ lw_g := lw_gm (List.mem_of_getElem? (i := 361) rfl) rfl
theorem mk_X5_25 : Cond.methodLink RX5 25 yX5_startReading ∈ lw_g := lw_gm (List.mem_of_getElem? (i := 365) rfl) rfl
theorem mk_X7_98 : Cond.methodLink RX7 98 yX4_swapText ∈ lw_g := lw_gm (List.mem_of_getElem? (i := 366) rfl) rfl
theorem mk_L_23 : Cond.methodLink RL 23 yX7_beast ∈ lw_g := lw_gm (List.mem_of_getElem? (i := 370) rfl) rfl
theorem mk_X7_106 : Cond.methodLink RX7 106 yX0_init ∈ lw_g := lw_gm (List.mem_of_getElem? (i := 375) rfl) rfl
set_option maxRecDepth 20000 in
theorem mk_L_28 : Cond.methodLink RL 28 yX7_measure ∈ lw_g := lw_gm (List.mem_of_getElem? (i := 405) rfl) rfl
set_option maxRecDepth 20000 in
theorem mk_X7_109 : Cond.methodLink RX7 109 yX7_beastAt ∈ lw_g := lw_gm (List.mem_of_getElem? (i := 409) rfl) rfl
set_option maxRecDepth 20000 in
theorem mk_L_33 : Cond.methodLink RL 33 yX7_lets ∈ lw_g := lw_gm (List.mem_of_getElem? (i := 413) rfl) rfl
set_option maxRecDepth 20000 in
theorem mk_X7_116 : Cond.methodLink RX7 116 yX4_admits ∈ lw_g := lw_gm (List.mem_of_getElem? (i := 417) rfl) rfl
set_option maxRecDepth 20000 in
theorem mk_X4_52 : Cond.methodLink RX4 52 yX1_admits ∈ lw_g := lw_gm (List.mem_of_getElem? (i := 421) rfl) rfl
set_option maxRecDepth 20000 in
theorem mk_X1_33 : Cond.methodLink RX1 33 yX1_isWithin ∈ lw_g := lw_gm (List.mem_of_getElem? (i := 425) rfl) rfl
set_option maxRecDepth 20000 in
theorem mk_L_37 : Cond.methodLink RL 37 yX7_enter ∈ lw_g := lw_gm (List.mem_of_getElem? (i := 429) rfl) rfl
set_option maxRecDepth 20000 in
theorem mk_X7_120 : Cond.methodLink RX7 120 yX7_lets ∈ lw_g := lw_gm (List.mem_of_getElem? (i := 433) rfl) rfl
set_option maxRecDepth 20000 in
theorem mk_X7_124 : Cond.methodLink RX7 124 yX4_canTake ∈ lw_g := lw_gm (List.mem_of_getElem? (i := 434) rfl) rfl
set_option maxRecDepth 20000 in
theorem mk_X7_127 : Cond.methodLink RX7 127 yX4_take ∈ lw_g := lw_gm (List.mem_of_getElem? (i := 438) rfl) rfl
set_option maxRecDepth 20000 in
theorem mk_X7_130 : Cond.methodLink RX7 130 yX2_join ∈ lw_g := lw_gm (List.mem_of_getElem? (i := 442) rfl) rfl
set_option maxRecDepth 20000 in
theorem mk_X2_33 : Cond.methodLink RX2 33 yX2_tally ∈ lw_g := lw_gm (List.mem_of_getElem? (i := 446) rfl) rfl
set_option maxRecDepth 20000 in
theorem mk_X2_59 : Cond.methodLink RX2 59 yX4_holds ∈ lw_g := lw_gm (List.mem_of_getElem? (i := 450) rfl) rfl
set_option maxRecDepth 20000 in
theorem mk_X2_63 : Cond.methodLink RX2 63 yJ7_fill_53178 ∈ lw_g := lw_gm (List.mem_of_getElem? (i := 454) rfl) rfl
set_option maxRecDepth 20000 in
theorem mk_X2_75 : Cond.methodLink RX2 75 yX2_tallyOrder ∈ lw_g := lw_gm (List.mem_of_getElem? (i := 455) rfl) rfl
set_option maxRecDepth 20000 in
theorem mk_X2_37 : Cond.methodLink RX2 37 yX2_sumLost ∈ lw_g := lw_gm (List.mem_of_getElem? (i := 459) rfl) rfl
set_option maxRecDepth 20000 in
theorem mk_X2_40 : Cond.methodLink RX2 40 yX2_findFewest ∈ lw_g := lw_gm (List.mem_of_getElem? (i := 463) rfl) rfl
set_option maxRecDepth 20000 in
theorem mk_X2_81 : Cond.methodLink RX2 81 yX2_swapsWithFirst ∈ lw_g := lw_gm (List.mem_of_getElem? (i := 468) rfl) rfl
set_option maxRecDepth 20000 in
theorem mk_X2_85 : Cond.methodLink RX2 85 yJ9_min_7cf53 ∈ lw_g := lw_gm (List.mem_of_getElem? (i := 472) rfl) rfl
set_option maxRecDepth 20000 in
theorem mk_X2_48 : Cond.methodLink RX2 48 yX2_leastFirst ∈ lw_g := lw_gm (List.mem_of_getElem? (i := 473) rfl) rfl
set_option maxRecDepth 20000 in
theorem mk_L_42 : Cond.methodLink RL 42 yX7_protest ∈ lw_g := lw_gm (List.mem_of_getElem? (i := 477) rfl) rfl
set_option maxRecDepth 20000 in
theorem mk_X7_134 : Cond.methodLink RX7 134 yX4_holds ∈ lw_g := lw_gm (List.mem_of_getElem? (i := 481) rfl) rfl
set_option maxRecDepth 20000 in
theorem mk_X7_137 : Cond.methodLink RX7 137 yX4_putOut ∈ lw_g := lw_gm (List.mem_of_getElem? (i := 482) rfl) rfl
set_option maxRecDepth 20000 in
theorem mk_L_46 : Cond.methodLink RL 46 yX7_bar ∈ lw_g := lw_gm (List.mem_of_getElem? (i := 486) rfl) rfl
set_option maxRecDepth 20000 in
theorem mk_L_50 : Cond.methodLink RL 50 yX7_order ∈ lw_g := lw_gm (List.mem_of_getElem? (i := 490) rfl) rfl
set_option maxRecDepth 20000 in
theorem mk_X7_146 : Cond.methodLink RX7 146 yX5_namesEachOf ∈ lw_g := lw_gm (List.mem_of_getElem? (i := 494) rfl) rfl
set_option maxRecDepth 20000 in
theorem mk_X5_33 : Cond.methodLink RX5 33 yJ6_bitCount_0f7a4 ∈ lw_g := lw_gm (List.mem_of_getElem? (i := 498) rfl) rfl
set_option maxRecDepth 20000 in
theorem mk_X5_39 : Cond.methodLink RX5 39 yX5_byteAt ∈ lw_g := lw_gm (List.mem_of_getElem? (i := 504) rfl) rfl
set_option maxRecDepth 20000 in
theorem mk_X7_149 : Cond.methodLink RX7 149 yX4_keepOrder ∈ lw_g := lw_gm (List.mem_of_getElem? (i := 509) rfl) rfl
set_option maxRecDepth 20000 in
theorem mk_X4_56 : Cond.methodLink RX4 56 yX5_byteAt ∈ lw_g := lw_gm (List.mem_of_getElem? (i := 513) rfl) rfl
set_option maxRecDepth 20000 in
theorem mk_L_54 : Cond.methodLink RL 54 yX7_placed ∈ lw_g := lw_gm (List.mem_of_getElem? (i := 514) rfl) rfl
set_option maxRecDepth 20000 in
theorem mk_L_58 : Cond.methodLink RL 58 yX7_swaps ∈ lw_g := lw_gm (List.mem_of_getElem? (i := 518) rfl) rfl
set_option maxRecDepth 20000 in
theorem mk_L_63 : Cond.methodLink RL 63 yX7_ring ∈ lw_g := lw_gm (List.mem_of_getElem? (i := 522) rfl) rfl
set_option maxRecDepth 20000 in
theorem mk_X7_159 : Cond.methodLink RX7 159 yX2_findInRing ∈ lw_g := lw_gm (List.mem_of_getElem? (i := 526) rfl) rfl
set_option maxRecDepth 20000 in
theorem mk_X2_55 : Cond.methodLink RX2 55 yX2_beats ∈ lw_g := lw_gm (List.mem_of_getElem? (i := 530) rfl) rfl
set_option maxRecDepth 20000 in
theorem mk_L_67 : Cond.methodLink RL 67 yX7_cut ∈ lw_g := lw_gm (List.mem_of_getElem? (i := 534) rfl) rfl
set_option maxRecDepth 20000 in
theorem mk_L_71 : Cond.methodLink RL 71 yX7_card ∈ lw_g := lw_gm (List.mem_of_getElem? (i := 538) rfl) rfl
set_option maxRecDepth 20000 in
theorem mk_X7_166 : Cond.methodLink RX7 166 yX4_cardLength ∈ lw_g := lw_gm (List.mem_of_getElem? (i := 542) rfl) rfl
set_option maxRecDepth 20000 in
theorem mk_X4_62 : Cond.methodLink RX4 62 yJ9_min_7cf53 ∈ lw_g := lw_gm (List.mem_of_getElem? (i := 546) rfl) rfl
set_option maxRecDepth 20000 in
theorem mk_X7_169 : Cond.methodLink RX7 169 yX4_cardBeasts ∈ lw_g := lw_gm (List.mem_of_getElem? (i := 547) rfl) rfl
set_option maxRecDepth 20000 in
theorem mk_X4_68 : Cond.methodLink RX4 68 yX4_cardLength ∈ lw_g := lw_gm (List.mem_of_getElem? (i := 551) rfl) rfl
set_option maxRecDepth 20000 in
theorem mk_X7_172 : Cond.methodLink RX7 172 yX4_scoreCard ∈ lw_g := lw_gm (List.mem_of_getElem? (i := 552) rfl) rfl
set_option maxRecDepth 20000 in
theorem mk_X4_72 : Cond.methodLink RX4 72 yX4_placeOf ∈ lw_g := lw_gm (List.mem_of_getElem? (i := 556) rfl) rfl
set_option maxRecDepth 20000 in
theorem mk_X4_75 : Cond.methodLink RX4 75 yX4_cutsBetween ∈ lw_g := lw_gm (List.mem_of_getElem? (i := 560) rfl) rfl
set_option maxRecDepth 20000 in
theorem mk_X4_78 : Cond.methodLink RX4 78 yJ9_max_7cf53 ∈ lw_g := lw_gm (List.mem_of_getElem? (i := 564) rfl) rfl
set_option maxRecDepth 20000 in
theorem mk_L_75 : Cond.methodLink RL 75 yX7_reasons ∈ lw_g := lw_gm (List.mem_of_getElem? (i := 565) rfl) rfl
set_option maxRecDepth 20000 in
theorem mk_X7_175 : Cond.methodLink RX7 175 yX3_score ∈ lw_g := lw_gm (List.mem_of_getElem? (i := 569) rfl) rfl
set_option maxRecDepth 20000 in
theorem mk_X3_15 : Cond.methodLink RX3 15 yX3_readPairs ∈ lw_g := lw_gm (List.mem_of_getElem? (i := 573) rfl) rfl
set_option maxRecDepth 20000 in
theorem mk_X3_25 : Cond.methodLink RX3 25 yX3_readPair ∈ lw_g := lw_gm (List.mem_of_getElem? (i := 577) rfl) rfl
set_option maxRecDepth 20000 in
theorem mk_X3_42 : Cond.methodLink RX3 42 yX5_place ∈ lw_g := lw_gm (List.mem_of_getElem? (i := 581) rfl) rfl
set_option maxRecDepth 20000 in
theorem mk_X3_46 : Cond.methodLink RX3 46 yX3_placeNamed ∈ lw_g := lw_gm (List.mem_of_getElem? (i := 585) rfl) rfl
set_option maxRecDepth 20000 in
theorem mk_X3_73 : Cond.methodLink RX3 73 yX5_peek ∈ lw_g := lw_gm (List.mem_of_getElem? (i := 588) rfl) rfl
set_option maxRecDepth 20000 in
theorem mk_X3_55 : Cond.methodLink RX3 55 yX3_faultOfPlace ∈ lw_g := lw_gm (List.mem_of_getElem? (i := 589) rfl) rfl
set_option maxRecDepth 20000 in
theorem mk_X3_38 : Cond.methodLink RX3 38 yX5_faultHere ∈ lw_g := lw_gm (List.mem_of_getElem? (i := 592) rfl) rfl
set_option maxRecDepth 20000 in
theorem mk_X3_59 : Cond.methodLink RX3 59 yX5_skip ∈ lw_g := lw_gm (List.mem_of_getElem? (i := 593) rfl) rfl
set_option maxRecDepth 20000 in
theorem mk_X3_34 : Cond.methodLink RX3 34 yX5_skipIf ∈ lw_g := lw_gm (List.mem_of_getElem? (i := 594) rfl) rfl
set_option maxRecDepth 20000 in
theorem mk_X3_62 : Cond.methodLink RX3 62 yX5_faultAt ∈ lw_g := lw_gm (List.mem_of_getElem? (i := 595) rfl) rfl
set_option maxRecDepth 20000 in
theorem mk_X3_69 : Cond.methodLink RX3 69 yX3_readTerms ∈ lw_g := lw_gm (List.mem_of_getElem? (i := 596) rfl) rfl
set_option maxRecDepth 20000 in
theorem mk_X3_76 : Cond.methodLink RX3 76 yX3_isAtTerm ∈ lw_g := lw_gm (List.mem_of_getElem? (i := 600) rfl) rfl
set_option maxRecDepth 20000 in
theorem mk_X3_80 : Cond.methodLink RX3 80 yX3_isAtMeasure ∈ lw_g := lw_gm (List.mem_of_getElem? (i := 603) rfl) rfl
set_option maxRecDepth 20000 in
theorem mk_X3_28 : Cond.methodLink RX3 28 yX5_isAtEnd ∈ lw_g := lw_gm (List.mem_of_getElem? (i := 607) rfl) rfl
set_option maxRecDepth 20000 in
theorem mk_X3_19 : Cond.methodLink RX3 19 yJ9_max_7cf53 ∈ lw_g := lw_gm (List.mem_of_getElem? (i := 608) rfl) rfl
set_option maxRecDepth 20000 in
theorem mk_L_79 : Cond.methodLink RL 79 yX7_sand ∈ lw_g := lw_gm (List.mem_of_getElem? (i := 609) rfl) rfl
set_option maxRecDepth 20000 in
theorem mk_L_84 : Cond.methodLink RL 84 yX7_hour ∈ lw_g := lw_gm (List.mem_of_getElem? (i := 613) rfl) rfl
set_option maxRecDepth 20000 in
theorem mk_X7_179 : Cond.methodLink RX7 179 yX6_plan ∈ lw_g := lw_gm (List.mem_of_getElem? (i := 617) rfl) rfl
set_option maxRecDepth 20000 in
theorem mk_X6_24 : Cond.methodLink RX6 24 yX6_handlersOf ∈ lw_g := lw_gm (List.mem_of_getElem? (i := 621) rfl) rfl
set_option maxRecDepth 20000 in
theorem mk_X6_28 : Cond.methodLink RX6 28 yX6_fitFrom ∈ lw_g := lw_gm (List.mem_of_getElem? (i := 624) rfl) rfl
set_option maxRecDepth 20000 in
theorem mk_L_88 : Cond.methodLink RL 88 yX7_team ∈ lw_g := lw_gm (List.mem_of_getElem? (i := 627) rfl) rfl
set_option maxRecDepth 20000 in
theorem mk_X7_189 : Cond.methodLink RX7 189 yX7_leastPlace ∈ lw_g := lw_gm (List.mem_of_getElem? (i := 631) rfl) rfl
set_option maxRecDepth 20000 in
theorem mk_X7_193 : Cond.methodLink RX7 193 yX4_placeOf ∈ lw_g := lw_gm (List.mem_of_getElem? (i := 635) rfl) rfl
set_option maxRecDepth 20000 in
theorem mk_L_92 : Cond.methodLink RL 92 yX7_price ∈ lw_g := lw_gm (List.mem_of_getElem? (i := 636) rfl) rfl
set_option maxRecDepth 20000 in
theorem mk_L_96 : Cond.methodLink RL 96 yX7_look ∈ lw_g := lw_gm (List.mem_of_getElem? (i := 640) rfl) rfl
set_option maxRecDepth 20000 in
theorem mk_X7_205 : Cond.methodLink RX7 205 yX7_classesOf ∈ lw_g := lw_gm (List.mem_of_getElem? (i := 644) rfl) rfl
set_option maxRecDepth 20000 in
theorem mk_L_100 : Cond.methodLink RL 100 yX7_count ∈ lw_g := lw_gm (List.mem_of_getElem? (i := 648) rfl) rfl
set_option maxRecDepth 20000 in
theorem mk_X7_208 : Cond.methodLink RX7 208 yX4_countOrders ∈ lw_g := lw_gm (List.mem_of_getElem? (i := 652) rfl) rfl
set_option maxRecDepth 20000 in
theorem mk_X7_211 : Cond.methodLink RX7 211 yX6_lastHour ∈ lw_g := lw_gm (List.mem_of_getElem? (i := 656) rfl) rfl
set_option maxRecDepth 20000 in
theorem mk_X6_32 : Cond.methodLink RX6 32 yJ9_max_7cf53 ∈ lw_g := lw_gm (List.mem_of_getElem? (i := 660) rfl) rfl
set_option maxRecDepth 20000 in
theorem mk_L_12 : Cond.methodLink RL 12 yX8_init ∈ lw_g := lw_gm (List.mem_of_getElem? (i := 663) rfl) rfl
set_option maxRecDepth 20000 in
theorem mk_L_17 : Cond.methodLink RL 17 yX8_feed ∈ lw_g := lw_gm (List.mem_of_getElem? (i := 771) rfl) rfl
set_option maxRecDepth 20000 in
theorem mk_X8_97 : Cond.methodLink RX8 97 yX8_push ∈ lw_g := lw_gm (List.mem_of_getElem? (i := 775) rfl) rfl
set_option maxRecDepth 20000 in
theorem mk_L_22 : Cond.methodLink RL 22 yX8_text ∈ lw_g := lw_gm (List.mem_of_getElem? (i := 779) rfl) rfl
set_option maxRecDepth 20000 in
theorem mk_X8_139 : Cond.methodLink RX8 139 yX8_isClass ∈ lw_g := lw_gm (List.mem_of_getElem? (i := 783) rfl) rfl
set_option maxRecDepth 20000 in
theorem mk_X8_87 : Cond.methodLink RX8 87 yX8_lies ∈ lw_g := lw_gm (List.mem_of_getElem? (i := 786) rfl) rfl
set_option maxRecDepth 20000 in
theorem mk_X8_143 : Cond.methodLink RX8 143 yX8_begins ∈ lw_g := lw_gm (List.mem_of_getElem? (i := 789) rfl) rfl
set_option maxRecDepth 20000 in
theorem mk_X8_146 : Cond.methodLink RX8 146 yX8_clause ∈ lw_g := lw_gm (List.mem_of_getElem? (i := 793) rfl) rfl
set_option maxRecDepth 20000 in
theorem mk_X8_113 : Cond.methodLink RX8 113 yX8_here ∈ lw_g := lw_gm (List.mem_of_getElem? (i := 797) rfl) rfl
set_option maxRecDepth 20000 in
theorem mk_X8_121 : Cond.methodLink RX8 121 yX8_fails ∈ lw_g := lw_gm (List.mem_of_getElem? (i := 801) rfl) rfl
set_option maxRecDepth 20000 in
theorem mk_X8_133 : Cond.methodLink RX8 133 yX8_breeds ∈ lw_g := lw_gm (List.mem_of_getElem? (i := 805) rfl) rfl
set_option maxRecDepth 20000 in
theorem mk_X8_117 : Cond.methodLink RX8 117 yX8_seesDigit ∈ lw_g := lw_gm (List.mem_of_getElem? (i := 809) rfl) rfl
set_option maxRecDepth 20000 in
theorem mk_X8_128 : Cond.methodLink RX8 128 yX8_keeps ∈ lw_g := lw_gm (List.mem_of_getElem? (i := 813) rfl) rfl
set_option maxRecDepth 20000 in
theorem mk_X8_136 : Cond.methodLink RX8 136 yX8_measures ∈ lw_g := lw_gm (List.mem_of_getElem? (i := 817) rfl) rfl
set_option maxRecDepth 20000 in
theorem mk_X8_131 : Cond.methodLink RX8 131 yX8_readNumber ∈ lw_g := lw_gm (List.mem_of_getElem? (i := 821) rfl) rfl
set_option maxRecDepth 20000 in
theorem mk_L_27 : Cond.methodLink RL 27 yX8_beast ∈ lw_g := lw_gm (List.mem_of_getElem? (i := 825) rfl) rfl
set_option maxRecDepth 20000 in
theorem mk_L_32 : Cond.methodLink RL 32 yX8_measure ∈ lw_g := lw_gm (List.mem_of_getElem? (i := 829) rfl) rfl
set_option maxRecDepth 20000 in
theorem mk_X8_149 : Cond.methodLink RX8 149 yX8_isBeast ∈ lw_g := lw_gm (List.mem_of_getElem? (i := 833) rfl) rfl
set_option maxRecDepth 20000 in
theorem mk_L_36 : Cond.methodLink RL 36 yX8_lets ∈ lw_g := lw_gm (List.mem_of_getElem? (i := 837) rfl) rfl
set_option maxRecDepth 20000 in
theorem mk_X8_159 : Cond.methodLink RX8 159 yX8_isLet ∈ lw_g := lw_gm (List.mem_of_getElem? (i := 841) rfl) rfl
set_option maxRecDepth 20000 in
theorem mk_X8_156 : Cond.methodLink RX8 156 yX8_holds ∈ lw_g := lw_gm (List.mem_of_getElem? (i := 845) rfl) rfl
set_option maxRecDepth 20000 in
theorem mk_X8_152 : Cond.methodLink RX8 152 yX8_has ∈ lw_g := lw_gm (List.mem_of_getElem? (i := 849) rfl) rfl
set_option maxRecDepth 20000 in
theorem mk_L_41 : Cond.methodLink RL 41 yX8_enter ∈ lw_g := lw_gm (List.mem_of_getElem? (i := 852) rfl) rfl
set_option maxRecDepth 20000 in
theorem mk_X8_162 : Cond.methodLink RX8 162 yX8_sizeOf ∈ lw_g := lw_gm (List.mem_of_getElem? (i := 856) rfl) rfl
set_option maxRecDepth 20000 in
theorem mk_L_45 : Cond.methodLink RL 45 yX8_protest ∈ lw_g := lw_gm (List.mem_of_getElem? (i := 859) rfl) rfl
set_option maxRecDepth 20000 in
theorem mk_L_49 : Cond.methodLink RL 49 yX8_bar ∈ lw_g := lw_gm (List.mem_of_getElem? (i := 863) rfl) rfl
set_option maxRecDepth 20000 in
theorem mk_L_53 : Cond.methodLink RL 53 yX8_order ∈ lw_g := lw_gm (List.mem_of_getElem? (i := 867) rfl) rfl
set_option maxRecDepth 20000 in
theorem mk_X8_166 : Cond.methodLink RX8 166 yX8_isRowOf ∈ lw_g := lw_gm (List.mem_of_getElem? (i := 871) rfl) rfl
set_option maxRecDepth 20000 in
theorem mk_L_57 : Cond.methodLink RL 57 yX8_placed ∈ lw_g := lw_gm (List.mem_of_getElem? (i := 875) rfl) rfl
set_option maxRecDepth 20000 in
theorem mk_X8_186 : Cond.methodLink RX8 186 yX8_joins ∈ lw_g := lw_gm (List.mem_of_getElem? (i := 879) rfl) rfl
set_option maxRecDepth 20000 in
theorem mk_X8_179 : Cond.methodLink RX8 179 yX8_ahead ∈ lw_g := lw_gm (List.mem_of_getElem? (i := 883) rfl) rfl
set_option maxRecDepth 20000 in
theorem mk_X8_169 : Cond.methodLink RX8 169 yX8_counts ∈ lw_g := lw_gm (List.mem_of_getElem? (i := 887) rfl) rfl
set_option maxRecDepth 20000 in
theorem mk_X8_172 : Cond.methodLink RX8 172 yX8_placeIn ∈ lw_g := lw_gm (List.mem_of_getElem? (i := 891) rfl) rfl
set_option maxRecDepth 20000 in
theorem mk_X8_182 : Cond.methodLink RX8 182 yX8_cost ∈ lw_g := lw_gm (List.mem_of_getElem? (i := 895) rfl) rfl
set_option maxRecDepth 20000 in
theorem mk_L_62 : Cond.methodLink RL 62 yX8_swaps ∈ lw_g := lw_gm (List.mem_of_getElem? (i := 899) rfl) rfl
set_option maxRecDepth 20000 in
theorem mk_L_66 : Cond.methodLink RL 66 yX8_ring ∈ lw_g := lw_gm (List.mem_of_getElem? (i := 903) rfl) rfl
set_option maxRecDepth 20000 in
theorem mk_X8_189 : Cond.methodLink RX8 189 yX8_isMore ∈ lw_g := lw_gm (List.mem_of_getElem? (i := 907) rfl) rfl
set_option maxRecDepth 20000 in
theorem mk_L_70 : Cond.methodLink RL 70 yX8_cut ∈ lw_g := lw_gm (List.mem_of_getElem? (i := 911) rfl) rfl
set_option maxRecDepth 20000 in
theorem mk_L_74 : Cond.methodLink RL 74 yX8_card ∈ lw_g := lw_gm (List.mem_of_getElem? (i := 915) rfl) rfl
set_option maxRecDepth 20000 in
theorem mk_X8_192 : Cond.methodLink RX8 192 yX8_placeNow ∈ lw_g := lw_gm (List.mem_of_getElem? (i := 919) rfl) rfl
set_option maxRecDepth 20000 in
theorem mk_L_78 : Cond.methodLink RL 78 yX8_reasons ∈ lw_g := lw_gm (List.mem_of_getElem? (i := 923) rfl) rfl
set_option maxRecDepth 20000 in
theorem mk_X8_204 : Cond.methodLink RX8 204 yX8_pair ∈ lw_g := lw_gm (List.mem_of_getElem? (i := 927) rfl) rfl
set_option maxRecDepth 20000 in
theorem mk_X8_195 : Cond.methodLink RX8 195 yX8_place ∈ lw_g := lw_gm (List.mem_of_getElem? (i := 931) rfl) rfl
set_option maxRecDepth 20000 in
theorem mk_X8_198 : Cond.methodLink RX8 198 yX8_must ∈ lw_g := lw_gm (List.mem_of_getElem? (i := 935) rfl) rfl
set_option maxRecDepth 20000 in
theorem mk_L_83 : Cond.methodLink RL 83 yX8_sand ∈ lw_g := lw_gm (List.mem_of_getElem? (i := 939) rfl) rfl
set_option maxRecDepth 20000 in
theorem mk_L_87 : Cond.methodLink RL 87 yX8_hour ∈ lw_g := lw_gm (List.mem_of_getElem? (i := 943) rfl) rfl
set_option maxRecDepth 20000 in
theorem mk_X8_213 : Cond.methodLink RX8 213 yX8_lays ∈ lw_g := lw_gm (List.mem_of_getElem? (i := 947) rfl) rfl
set_option maxRecDepth 20000 in
theorem mk_X8_207 : Cond.methodLink RX8 207 yX8_isGood ∈ lw_g := lw_gm (List.mem_of_getElem? (i := 951) rfl) rfl
set_option maxRecDepth 20000 in
theorem mk_X8_210 : Cond.methodLink RX8 210 yX8_isNext ∈ lw_g := lw_gm (List.mem_of_getElem? (i := 955) rfl) rfl
set_option maxRecDepth 20000 in
theorem mk_L_91 : Cond.methodLink RL 91 yX8_team ∈ lw_g := lw_gm (List.mem_of_getElem? (i := 959) rfl) rfl
set_option maxRecDepth 20000 in
theorem mk_X8_216 : Cond.methodLink RX8 216 yX8_ranks ∈ lw_g := lw_gm (List.mem_of_getElem? (i := 963) rfl) rfl
set_option maxRecDepth 20000 in
theorem mk_L_95 : Cond.methodLink RL 95 yX8_price ∈ lw_g := lw_gm (List.mem_of_getElem? (i := 967) rfl) rfl
set_option maxRecDepth 20000 in
theorem mk_L_99 : Cond.methodLink RL 99 yX8_look ∈ lw_g := lw_gm (List.mem_of_getElem? (i := 971) rfl) rfl
set_option maxRecDepth 20000 in
theorem mk_L_103 : Cond.methodLink RL 103 yX8_count ∈ lw_g := lw_gm (List.mem_of_getElem? (i := 975) rfl) rfl
theorem kk_X1_74 : Cond.constant RX1 74 (2147483647) ∈ lw_g := lw_gm (List.mem_of_getElem? (i := 165) rfl) rfl
set_option maxRecDepth 20000 in
theorem kk_X2_80 : Cond.constant RX2 80 (2147483647) ∈ lw_g := lw_gm (List.mem_of_getElem? (i := 467) rfl) rfl
set_option maxRecDepth 20000 in
theorem kk_J6_265 : Cond.constant RJ6 265 (1431655765) ∈ lw_g := lw_gm (List.mem_of_getElem? (i := 501) rfl) rfl
set_option maxRecDepth 20000 in
theorem kk_J6_266 : Cond.constant RJ6 266 (858993459) ∈ lw_g := lw_gm (List.mem_of_getElem? (i := 502) rfl) rfl
set_option maxRecDepth 20000 in
theorem kk_J6_267 : Cond.constant RJ6 267 (252645135) ∈ lw_g := lw_gm (List.mem_of_getElem? (i := 503) rfl) rfl
theorem cl_L_7 : Cond.classLink RL 7 RX7 ∈ lw_g := lw_gm (List.mem_of_getElem? (i := 63) rfl) rfl
theorem cl_X7_7 : Cond.classLink RX7 7 RX5 ∈ lw_g := lw_gm (List.mem_of_getElem? (i := 71) rfl) rfl
theorem cl_X7_16 : Cond.classLink RX7 16 RX0 ∈ lw_g := lw_gm (List.mem_of_getElem? (i := 91) rfl) rfl
theorem cl_X7_22 : Cond.classLink RX7 22 RX4 ∈ lw_g := lw_gm (List.mem_of_getElem? (i := 93) rfl) rfl
theorem cl_X7_32 : Cond.classLink RX7 32 RX2 ∈ lw_g := lw_gm (List.mem_of_getElem? (i := 95) rfl) rfl
theorem cl_X2_22 : Cond.classLink RX2 22 "[[I" ∈ lw_g := lw_gm (List.mem_of_getElem? (i := 101) rfl) rfl
theorem cl_X7_39 : Cond.classLink RX7 39 RX6 ∈ lw_g := lw_gm (List.mem_of_getElem? (i := 122) rfl) rfl
theorem cl_X7_46 : Cond.classLink RX7 46 RX3 ∈ lw_g := lw_gm (List.mem_of_getElem? (i := 142) rfl) rfl
theorem cl_X7_53 : Cond.classLink RX7 53 RX1 ∈ lw_g := lw_gm (List.mem_of_getElem? (i := 152) rfl) rfl
theorem cl_X4_21 : Cond.classLink RX4 21 RX1 ∈ lw_g := lw_gm (List.mem_of_getElem? (i := 181) rfl) rfl
theorem cl_X4_28 : Cond.classLink RX4 28 "[[I" ∈ lw_g := lw_gm (List.mem_of_getElem? (i := 183) rfl) rfl
set_option maxRecDepth 20000 in
theorem cl_L_10 : Cond.classLink RL 10 RX8 ∈ lw_g := lw_gm (List.mem_of_getElem? (i := 661) rfl) rfl
end
section
/-! the cells behind the two constructors: kind and length of each (cells 1 .. 146; BEAST i lies at 147 + 2 * i, its MEASURES behind it) -/
def lyT : List (Nat × Nat) := [(0, 0), (7, 0), (5, 0), (10, 80), (11, 20), (12, 6), (10, 6), (2, 0), (10, 8), (10, 20), (13, 8), (10, 8), (10, 8), (10, 8), (10, 8), (10, 8), (10, 8), (10, 8), (10, 8), (13, 8), (10, 256), (10, 256), (10, 256), (10, 256), (10, 256), (10, 256), (10, 256), (10, 256), (10, 256), (6, 0), (10, 6), (10, 6), (10, 6), (10, 6), (3, 0), (1, 0), (10, 4), (10, 4), (4, 0), (1, 0), (10, 4), (10, 4), (13, 6), (10, 8), (10, 8), (10, 8), (10, 8), (10, 8), (10, 8), (10, 6), (10, 8), (10, 3), (4, 0), (1, 0), (10, 4), (10, 4), (13, 6), (10, 8), (10, 8), (10, 8), (10, 8), (10, 8), (10, 8), (10, 6), (10, 8), (10, 3), (4, 0), (1, 0), (10, 4), (10, 4), (13, 6), (10, 8), (10, 8), (10, 8), (10, 8), (10, 8), (10, 8), (10, 6), (10, 8), (10, 3), (4, 0), (1, 0), (10, 4), (10, 4), (13, 6), (10, 8), (10, 8), (10, 8), (10, 8), (10, 8), (10, 8), (10, 6), (10, 8), (10, 3), (4, 0), (1, 0), (10, 4), (10, 4), (13, 6), (10, 8), (10, 8), (10, 8), (10, 8), (10, 8), (10, 8), (10, 6), (10, 8), (10, 3), (4, 0), (1, 0), (10, 4), (10, 4), (13, 6), (10, 8), (10, 8), (10, 8), (10, 8), (10, 8), (10, 8), (10, 6), (10, 8), (10, 3), (8, 0), (9, 80), (10, 20), (10, 20), (10, 20), (10, 20), (10, 60), (10, 6), (10, 48), (10, 48), (10, 8), (10, 8), (10, 6), (10, 6), (10, 6), (10, 36), (10, 288), (10, 18), (10, 8), (10, 64), (10, 256), (10, 8), (10, 6), (10, 6), (10, 20)]
def lyG : List (Nat × Nat × Nat) := [(280, 1, 2), (200, 2, 3), (281, 1, 4), (282, 1, 5), (283, 1, 6), (284, 1, 7), (80, 7, 8), (81, 7, 9), (83, 7, 10), (84, 7, 19), (85, 7, 28), (285, 1, 29), (240, 29, 30), (241, 29, 31), (242, 29, 32), (243, 29, 33), (286, 1, 34), (40, 35, 36), (41, 35, 37), (40, 39, 40), (41, 39, 41), (164, 38, 42), (165, 38, 49), (166, 38, 50), (168, 38, 51), (40, 53, 54), (41, 53, 55), (164, 52, 56), (165, 52, 63), (166, 52, 64), (168, 52, 65), (40, 67, 68), (41, 67, 69), (164, 66, 70), (165, 66, 77), (166, 66, 78), (168, 66, 79), (40, 81, 82), (41, 81, 83), (164, 80, 84), (165, 80, 91), (166, 80, 92), (168, 80, 93), (40, 95, 96), (41, 95, 97), (164, 94, 98), (165, 94, 105), (166, 94, 106), (168, 94, 107), (40, 109, 110), (41, 109, 111), (164, 108, 112), (165, 108, 119), (166, 108, 120), (168, 108, 121), (320, 122, 123), (324, 122, 124), (325, 122, 125), (326, 122, 126), (327, 122, 127), (328, 122, 128), (329, 122, 129), (330, 122, 130), (331, 122, 131), (333, 122, 132), (334, 122, 133), (335, 122, 134), (336, 122, 135), (337, 122, 136), (338, 122, 137), (339, 122, 138), (340, 122, 139), (346, 122, 140), (347, 122, 141), (348, 122, 142), (349, 122, 143), (351, 122, 144), (352, 122, 145), (353, 122, 146)]
def lyB : List (Nat × Nat × Nat) := [(10, 0, 11), (10, 1, 12), (10, 2, 13), (10, 3, 14), (10, 4, 15), (10, 5, 16), (10, 6, 17), (10, 7, 18), (19, 0, 20), (19, 1, 21), (19, 2, 22), (19, 3, 23), (19, 4, 24), (19, 5, 25), (19, 6, 26), (19, 7, 27), (5, 0, 38), (42, 0, 43), (42, 1, 44), (42, 2, 45), (42, 3, 46), (42, 4, 47), (42, 5, 48), (5, 1, 52), (56, 0, 57), (56, 1, 58), (56, 2, 59), (56, 3, 60), (56, 4, 61), (56, 5, 62), (5, 2, 66), (70, 0, 71), (70, 1, 72), (70, 2, 73), (70, 3, 74), (70, 4, 75), (70, 5, 76), (5, 3, 80), (84, 0, 85), (84, 1, 86), (84, 2, 87), (84, 3, 88), (84, 4, 89), (84, 5, 90), (5, 4, 94), (98, 0, 99), (98, 1, 100), (98, 2, 101), (98, 3, 102), (98, 4, 103), (98, 5, 104), (5, 5, 108), (112, 0, 113), (112, 1, 114), (112, 2, 115), (112, 3, 116), (112, 4, 117), (112, 5, 118)]
def isTx (t : Nat) : Prop := t = 35 ∨ ∃ c, c < 6 ∧ t = 39 + 14 * c
def LY (w : Nat → Nat) (nb : Nat) (T : SH) (G B : MN) : Prop :=
  (∀ a, 1 ≤ a → a ≤ 146 → T.1 a = (lyT.getD a (0, 0)).1 ∧ T.2.1 a = (lyT.getD a (0, 0)).2) ∧ T.2.2 = 146 + 2 * nb ∧ (∀ q ∈ lyG, G q.1 q.2.1 = q.2.2) ∧ (∀ q ∈ lyB, B q.1 q.2.1 = q.2.2) ∧
  (∀ c, c < 6 → G 163 (38 + 14 * c) = w c) ∧ G 287 1 = w 6 ∧ (∀ c, c < 7 → isTx (w c)) ∧ (∀ c d, c < 7 → d < 7 → w c = w d → c = d) ∧
  nb ≤ 20 ∧ (∀ i, i < nb → B 4 i = 147 + 2 * i ∧ T.1 (147 + 2 * i) = 0 ∧ T.1 (148 + 2 * i) = 10 ∧ T.2.1 (148 + 2 * i) = 3 ∧ G 4 (147 + 2 * i) = 148 + 2 * i)
section LAY
variable {w : Nat → Nat} {nb : Nat} {T : SH} {G B : MN}
def latB (a k : Nat) : Bool := decide (1 ≤ a) && decide (a ≤ 146) && ((lyT.getD a (0, 0)).1 == k)
def lnB (a n : Nat) : Bool := decide (1 ≤ a) && decide (a ≤ 146) && ((lyT.getD a (0, 0)).2 == n)
theorem lat (h : LY w nb T G B) {a k : Nat} (hb : latB a k = true) : At T a k := by
  simp only [latB, Bool.and_eq_true, decide_eq_true_eq, beq_iff_eq] at hb
  have h2 := h.2.1
  exact ⟨hb.1.1, by omega, (h.1 a hb.1.1 hb.1.2).1.trans hb.2⟩
theorem lln (h : LY w nb T G B) {a n : Nat} (hb : lnB a n = true) : T.2.1 a = n := by
  simp only [lnB, Bool.and_eq_true, decide_eq_true_eq, beq_iff_eq] at hb
  exact (h.1 a hb.1.1 hb.1.2).2.trans hb.2
theorem lgg (h : LY w nb T G B) {f a r : Nat} (hb : lyG.contains (f, a, r) = true) : G f a = r := h.2.2.1 (f, a, r) (List.contains_iff_mem.mp hb)
theorem lbb (h : LY w nb T G B) {a j r : Nat} (hb : lyB.contains (a, j, r) = true) : B a j = r := h.2.2.2.1 (a, j, r) (List.contains_iff_mem.mp hb)
theorem latc (h : LY w nb T G B) {c k : Nat} (hc : c < 6) (d : Nat) (hb : ∀ c, c < 6 → latB (38 + 14 * c + d) k = true) : At T (38 + 14 * c + d) k := lat h (hb c hc)
theorem llnc (h : LY w nb T G B) {c n : Nat} (hc : c < 6) (d : Nat) (hb : ∀ c, c < 6 → lnB (38 + 14 * c + d) n = true) : T.2.1 (38 + 14 * c + d) = n := lln h (hb c hc)
theorem lat4 (h : LY w nb T G B) {c : Nat} (hc : c < 6) : At T (38 + 14 * c) 4 := latc h hc 0 (by decide)
theorem lggc (h : LY w nb T G B) {c : Nat} (f d : Nat) (hc : c < 6) (hb : ∀ c, c < 6 → lyG.contains (f, 38 + 14 * c, 38 + 14 * c + d) = true) : G f (38 + 14 * c) = 38 + 14 * c + d := lgg h (hb c hc)
theorem lbbc (h : LY w nb T G B) {c j : Nat} (hc : c < 6) (hj : j < 6) : B (38 + 14 * c + 4) j = 38 + 14 * c + 5 + j :=
  lbb h ((show ∀ c, c < 6 → ∀ j, j < 6 → lyB.contains (38 + 14 * c + 4, j, 38 + 14 * c + 5 + j) = true by decide) c hc j hj)
theorem lat0 (h : LY w nb T G B) {i : Nat} (hi : i < nb) : At T (147 + 2 * i) 0 := ⟨by omega, by have := h.2.1; omega, (h.2.2.2.2.2.2.2.2.2 i hi).2.1⟩
theorem lat0m (h : LY w nb T G B) {i : Nat} (hi : i < nb) : At T (148 + 2 * i) 10 := ⟨by omega, by have := h.2.1; omega, (h.2.2.2.2.2.2.2.2.2 i hi).2.2.1⟩
theorem lln0 (h : LY w nb T G B) {i : Nat} (hi : i < nb) : T.2.1 (148 + 2 * i) = 3 := (h.2.2.2.2.2.2.2.2.2 i hi).2.2.2.1
theorem lgg0 (h : LY w nb T G B) {i : Nat} (hi : i < nb) : G 4 (147 + 2 * i) = 148 + 2 * i := (h.2.2.2.2.2.2.2.2.2 i hi).2.2.2.2
theorem lbb0 (h : LY w nb T G B) {i : Nat} (hi : i < nb) : B 4 i = 147 + 2 * i := (h.2.2.2.2.2.2.2.2.2 i hi).1
theorem lwc (h : LY w nb T G B) {c : Nat} (hc : c < 6) : G 163 (38 + 14 * c) = w c := h.2.2.2.2.1 c hc
theorem lw6 (h : LY w nb T G B) : G 287 1 = w 6 := h.2.2.2.2.2.1
theorem ltx (h : LY w nb T G B) {c : Nat} (hc : c < 7) : isTx (w c) := h.2.2.2.2.2.2.1 c hc
theorem tx_all (P : Nat → Prop) (h0 : P 35) (hc : ∀ c, c < 6 → P (39 + 14 * c)) {t : Nat} (ht : isTx t) : P t := by
  rcases ht with rfl | ⟨c, hc2, rfl⟩
  · exact h0
  · exact hc c hc2
theorem lat1 (h : LY w nb T G B) {t : Nat} (ht : isTx t) : At T t 1 := lat h (tx_all (fun t => latB t 1 = true) (by decide) (by decide) ht)
theorem lat1a (h : LY w nb T G B) {t : Nat} (ht : isTx t) : At T (t + 1) 10 := lat h (tx_all (fun t => latB (t + 1) 10 = true) (by decide) (by decide) ht)
theorem lat1b (h : LY w nb T G B) {t : Nat} (ht : isTx t) : At T (t + 2) 10 := lat h (tx_all (fun t => latB (t + 2) 10 = true) (by decide) (by decide) ht)
theorem lln1a (h : LY w nb T G B) {t : Nat} (ht : isTx t) : T.2.1 (t + 1) = 4 := lln h (tx_all (fun t => lnB (t + 1) 4 = true) (by decide) (by decide) ht)
theorem lln1b (h : LY w nb T G B) {t : Nat} (ht : isTx t) : T.2.1 (t + 2) = 4 := lln h (tx_all (fun t => lnB (t + 2) 4 = true) (by decide) (by decide) ht)
theorem lgg1a (h : LY w nb T G B) {t : Nat} (ht : isTx t) : G 40 t = t + 1 := lgg h (tx_all (fun t => lyG.contains (40, t, t + 1) = true) (by decide) (by decide) ht)
theorem lgg1b (h : LY w nb T G B) {t : Nat} (ht : isTx t) : G 41 t = t + 2 := lgg h (tx_all (fun t => lyG.contains (41, t, t + 2) = true) (by decide) (by decide) ht)
theorem tx_pos {t : Nat} (ht : isTx t) : t ≠ 0 := by rcases ht with rfl | ⟨c, hc, rfl⟩ <;> omega
theorem lbb5 (h : LY w nb T G B) {c : Nat} (hc : c < 6) : B 5 c = 38 + 14 * c := lbb h ((show ∀ c, c < 6 → lyB.contains (5, c, 38 + 14 * c) = true by decide) c hc)
theorem lbb10 (h : LY w nb T G B) {j : Nat} (hj : j < 8) : B 10 j = 11 + j := lbb h ((show ∀ j, j < 8 → lyB.contains (10, j, 11 + j) = true by decide) j hj)
theorem lbb19 (h : LY w nb T G B) {j : Nat} (hj : j < 8) : B 19 j = 20 + j := lbb h ((show ∀ j, j < 8 → lyB.contains (19, j, 20 + j) = true by decide) j hj)
theorem lat11 (h : LY w nb T G B) {j : Nat} (hj : j < 8) : At T (11 + j) 10 := lat h ((show ∀ j, j < 8 → latB (11 + j) 10 = true by decide) j hj)
theorem lln11 (h : LY w nb T G B) {j : Nat} (hj : j < 8) : T.2.1 (11 + j) = 8 := lln h ((show ∀ j, j < 8 → lnB (11 + j) 8 = true by decide) j hj)
theorem lat20 (h : LY w nb T G B) {j : Nat} (hj : j < 8) : At T (20 + j) 10 := lat h ((show ∀ j, j < 8 → latB (20 + j) 10 = true by decide) j hj)
theorem lln20 (h : LY w nb T G B) {j : Nat} (hj : j < 8) : T.2.1 (20 + j) = 256 := lln h ((show ∀ j, j < 8 → lnB (20 + j) 256 = true by decide) j hj)
theorem lat43 (h : LY w nb T G B) {c j : Nat} (hc : c < 6) (hj : j < 6) : At T (38 + 14 * c + 5 + j) 10 := lat h ((show ∀ c, c < 6 → ∀ j, j < 6 → latB (38 + 14 * c + 5 + j) 10 = true by decide) c hc j hj)
theorem lln43 (h : LY w nb T G B) {c j : Nat} (hc : c < 6) (hj : j < 6) : T.2.1 (38 + 14 * c + 5 + j) = 8 := lln h ((show ∀ c, c < 6 → ∀ j, j < 6 → lnB (38 + 14 * c + 5 + j) 8 = true by decide) c hc j hj)
end LAY
end
section
abbrev PM : Type := Option Value → MI → MI → Prop
def QM (T : SH) (G B : MN) (Q : PM) : PQ := fun v T' F' G' A' B' => T' = T ∧ G' = G ∧ B' = B ∧ Q v F' A'
/-- a contract over the layout: only int fields and rows may change -/
def CM (l : Launch) (M : MD) (L : Nat) (w : Nat → Nat) (nb : Nat) (av : List Value) (F A : MI) (Q : PM) : Prop := ∀ (T : SH) (G B : MN), LY w nb T G B → Cn l M L 0 0 av T F G A B (QM T G B Q)
def ZM (l : Launch) (M : MD) (L : Nat) (w : Nat → Nat) (nb : Nat) (Q : PM) (pc : Nat) (lv : List (Nat × Value)) (st : List Value) (F A : MI) : Prop := ∀ (T : SH) (G B : MN), LY w nb T G B → Z l M L 0 0 0 0 (QM T G B Q) pc lv st T F G A B
def qi (P : Int32 → MI → MI → Prop) : PM := fun v F A => ∃ x, v = some (.int x) ∧ P x F A
def qv (P : MI → MI → Prop) : PM := fun v F A => v = none ∧ P F A
theorem Cn.mono {l : Launch} {M : MD} {L ac az : Nat} {av : List Value} {T : SH} {F : MI} {G : MN} {A : MI} {B : MN} {Q Q' : PQ} (h : ∀ v T F G A B, Q v T F G A B → Q' v T F G A B) (hc : Cn l M L ac az av T F G A B Q) : Cn l M L ac az av T F G A B Q' := by
  intro z b cy D p e ha hca hk s m args below hf happ hP hK
  obtain ⟨n, o, h1, h2, h3, ⟨⟨⟨v, T2, F2, G2, A2, B2, e1, e2, e3⟩, hF⟩, h5⟩⟩ := hc z b cy D p e ha hca hk s m args below hf happ hP hK
  exact ⟨n, o, h1, h2, h3, ⟨⟨v, T2, F2, G2, A2, B2, e1, h _ _ _ _ _ _ e2, e3⟩, hF⟩, h5⟩
theorem CM.mono {l : Launch} {M : MD} {L : Nat} {w : Nat → Nat} {nb : Nat} {av : List Value} {F A : MI} {Q Q' : PM} (h : ∀ v F A, Q v F A → Q' v F A) (hc : CM l M L w nb av F A Q) : CM l M L w nb av F A Q' :=
  fun T G B hL => (hc T G B hL).mono (fun v _ F' _ A' _ q => ⟨q.1, q.2.1, q.2.2.1, h v F' A' q.2.2.2⟩)
theorem CM.monoi {l : Launch} {M : MD} {L : Nat} {w : Nat → Nat} {nb : Nat} {av : List Value} {F A : MI} {P P' : Int32 → MI → MI → Prop} (hc : CM l M L w nb av F A (qi P)) (h : ∀ x F A, P x F A → P' x F A) : CM l M L w nb av F A (qi P') :=
  hc.mono (fun _ F A q => by obtain ⟨x, e, q⟩ := q; exact ⟨x, e, h x F A q⟩)
theorem CM.monov {l : Launch} {M : MD} {L : Nat} {w : Nat → Nat} {nb : Nat} {av : List Value} {F A : MI} {P P' : MI → MI → Prop} (hc : CM l M L w nb av F A (qv P)) (h : ∀ F A, P F A → P' F A) : CM l M L w nb av F A (qv P') :=
  hc.mono (fun _ F A q => ⟨q.1, h F A q.2⟩)
theorem CM.ofZ {l : Launch} {M : MD} {L : Nat} {w : Nat → Nat} {nb : Nat} {av : List Value} {lv : List (Nat × Value)} {F A : MI} {Q : PM} (hy : plainName M.1.cls = true) (hlv : ∀ z b, lv_args 0 (av.map (tr z b)) = lv.map (tq z b)) (hlen : ∀ z b, (lg_sl (av.map (tr z b))).length ≤ M.2.2.1) (h : ZM l M L w nb Q 0 lv [] F A) : CM l M L w nb av F A Q :=
  fun T G B hL => Cn.ofZ hy hlv hlen (h T G B hL)

section ZMC
variable {l : Launch} {M : MD} {L : Nat} {w : Nat → Nat} {nb : Nat} {Q : PM} {pc : Nat} {lv : List (Nat × Value)} {st : List Value} {T : SH} {F : MI} {G : MN} {A : MI} {B : MN}
theorem z_pick {rc rs ac az : Nat} {Q : PQ} {lv' : List (Nat × Value)} (ks : List Nat) (h : lv_pick lv ks = lv') (kk : Z l M L ac az rc rs Q pc lv' st T F G A B) : Z l M L ac az rc rs Q pc lv st T F G A B := by
  intro p e R s m args below meth c H locs cells slots z b D cy ls X Y
  refine kk p e R s m args below meth c H locs cells slots z b D cy ls X ⟨Y.1, Y.2.1, Y.2.2.1, Y.2.2.2.1, lv_mono Y.2.2.2.2 (fun q hq => ?_)⟩
  subst h
  obtain ⟨x, hx, rfl⟩ := List.mem_map.mp hq
  obtain ⟨k, -, hk⟩ := List.mem_filterMap.mp hx
  exact List.mem_map.mpr ⟨x, List.mem_of_getElem? hk, rfl⟩
theorem cm_Z {M' : MD} {L' : Nat} {av : List Value} {P : PM} (hL : LY w nb T G B) (kk : CM l M' L' w nb av F A P) {R : PQ} (h : ∀ v F A, P v F A → R v T F G A B) : Cn l M' L' 0 0 av T F G A B R :=
  (kk T G B hL).mono (fun v T2 F2 G2 A2 B2 q => by obtain ⟨rfl, rfl, rfl, q⟩ := q; exact h v F2 A2 q)
theorem zm_Vi {M' : MD} {n idx L' ci : Nat} {TT : u_T} {N a : Nat} {As rest : List Value} (hd : decode M.2.1 pc = .ok (.invokevirtual idx, 3)) (hM : MOk M' n) (hI : IOk M') (hl : Cond.methodLink M.1.cls idx M'.1 ∈ lw_g) (hcl : vwCl[ci]? = some (M'.1.cls, TT, N)) (h9 : ci < 9) (ha : At T a ci) (hn : As.length = n) (hst : st = As.reverse ++ .ref a :: rest) (hrest : rest.length ≤ 8) (hL : L' + 1 ≤ L) (hY : LY w nb T G B)
    (kk : CM l M' L' w nb (.ref a :: As) F A (qi fun x F A => Z l M L 0 0 0 0 (QM T G B Q) (pc + 3) lv (.int x :: rest) T F G A B)) : Z l M L 0 0 0 0 (QM T G B Q) pc lv st T F G A B :=
  z_callV hd hM hI hl hcl h9 ha hn hst hrest hL (Nat.le_refl 0) (Nat.le_refl 0) (cm_Z hY kk (fun v F A q => by obtain ⟨x, rfl, q⟩ := q; exact q))
theorem zm_Vv {M' : MD} {n idx L' ci : Nat} {TT : u_T} {N a : Nat} {As rest : List Value} (hd : decode M.2.1 pc = .ok (.invokevirtual idx, 3)) (hM : MOk M' n) (hI : IOk M') (hl : Cond.methodLink M.1.cls idx M'.1 ∈ lw_g) (hcl : vwCl[ci]? = some (M'.1.cls, TT, N)) (h9 : ci < 9) (ha : At T a ci) (hn : As.length = n) (hst : st = As.reverse ++ .ref a :: rest) (hrest : rest.length ≤ 8) (hL : L' + 1 ≤ L) (hY : LY w nb T G B)
    (kk : CM l M' L' w nb (.ref a :: As) F A (qv fun F A => Z l M L 0 0 0 0 (QM T G B Q) (pc + 3) lv rest T F G A B)) : Z l M L 0 0 0 0 (QM T G B Q) pc lv st T F G A B :=
  z_callV hd hM hI hl hcl h9 ha hn hst hrest hL (Nat.le_refl 0) (Nat.le_refl 0) (cm_Z hY kk (fun v F A q => by obtain ⟨rfl, q⟩ := q; exact q))
/-- an answer that is a CLASS' cell, or null -/
def qc (P0 : MI → MI → Prop) (P1 : Nat → MI → MI → Prop) : PM := fun v F A => (v = some .null ∧ P0 F A) ∨ ∃ c, c < 6 ∧ v = some (.ref (38 + 14 * c)) ∧ P1 c F A
/-- an answer that is a BEAST's cell, or null -/
def qb (nb : Nat) (P0 : MI → MI → Prop) (P1 : Nat → MI → MI → Prop) : PM := fun v F A => (v = some .null ∧ P0 F A) ∨ ∃ i, i < nb ∧ v = some (.ref (147 + 2 * i)) ∧ P1 i F A
theorem zm_Vc {M' : MD} {n idx L' ci : Nat} {TT : u_T} {N a : Nat} {As rest : List Value} (hd : decode M.2.1 pc = .ok (.invokevirtual idx, 3)) (hM : MOk M' n) (hI : IOk M') (hl : Cond.methodLink M.1.cls idx M'.1 ∈ lw_g) (hcl : vwCl[ci]? = some (M'.1.cls, TT, N)) (h9 : ci < 9) (ha : At T a ci) (hn : As.length = n) (hst : st = As.reverse ++ .ref a :: rest) (hrest : rest.length ≤ 8) (hL : L' + 1 ≤ L) (hY : LY w nb T G B)
    (kk : CM l M' L' w nb (.ref a :: As) F A (qc (fun F A => Z l M L 0 0 0 0 (QM T G B Q) (pc + 3) lv (.null :: rest) T F G A B) (fun c F A => Z l M L 0 0 0 0 (QM T G B Q) (pc + 3) lv (.ref (38 + 14 * c) :: rest) T F G A B))) : Z l M L 0 0 0 0 (QM T G B Q) pc lv st T F G A B :=
  z_callV hd hM hI hl hcl h9 ha hn hst hrest hL (Nat.le_refl 0) (Nat.le_refl 0) (cm_Z hY kk (fun v F A q => by rcases q with ⟨rfl, q⟩ | ⟨c, -, rfl, q⟩ <;> exact q))
theorem zm_Vb {M' : MD} {n idx L' ci : Nat} {TT : u_T} {N a : Nat} {As rest : List Value} (hd : decode M.2.1 pc = .ok (.invokevirtual idx, 3)) (hM : MOk M' n) (hI : IOk M') (hl : Cond.methodLink M.1.cls idx M'.1 ∈ lw_g) (hcl : vwCl[ci]? = some (M'.1.cls, TT, N)) (h9 : ci < 9) (ha : At T a ci) (hn : As.length = n) (hst : st = As.reverse ++ .ref a :: rest) (hrest : rest.length ≤ 8) (hL : L' + 1 ≤ L) (hY : LY w nb T G B)
    (kk : CM l M' L' w nb (.ref a :: As) F A (qb nb (fun F A => Z l M L 0 0 0 0 (QM T G B Q) (pc + 3) lv (.null :: rest) T F G A B) (fun i F A => Z l M L 0 0 0 0 (QM T G B Q) (pc + 3) lv (.ref (147 + 2 * i) :: rest) T F G A B))) : Z l M L 0 0 0 0 (QM T G B Q) pc lv st T F G A B :=
  z_callV hd hM hI hl hcl h9 ha hn hst hrest hL (Nat.le_refl 0) (Nat.le_refl 0) (cm_Z hY kk (fun v F A q => by rcases q with ⟨rfl, q⟩ | ⟨c, -, rfl, q⟩ <;> exact q))
theorem CM.monoc {M' : MD} {L' : Nat} {av : List Value} {P0 P0' : MI → MI → Prop} {P1 P1' : Nat → MI → MI → Prop} (hc : CM l M' L' w nb av F A (qc P0 P1)) (h0 : ∀ F A, P0 F A → P0' F A) (h1 : ∀ c F A, c < 6 → P1 c F A → P1' c F A) : CM l M' L' w nb av F A (qc P0' P1') :=
  hc.mono (fun _ F A q => by
    rcases q with ⟨e, q⟩ | ⟨c, hc, e, q⟩
    · exact Or.inl ⟨e, h0 F A q⟩
    · exact Or.inr ⟨c, hc, e, h1 c F A hc q⟩)
theorem CM.monob {M' : MD} {L' : Nat} {av : List Value} {P0 P0' : MI → MI → Prop} {P1 P1' : Nat → MI → MI → Prop} (hc : CM l M' L' w nb av F A (qb nb P0 P1)) (h0 : ∀ F A, P0 F A → P0' F A) (h1 : ∀ c F A, c < nb → P1 c F A → P1' c F A) : CM l M' L' w nb av F A (qb nb P0' P1') :=
  hc.mono (fun _ F A q => by
    rcases q with ⟨e, q⟩ | ⟨c, hc, e, q⟩
    · exact Or.inl ⟨e, h0 F A q⟩
    · exact Or.inr ⟨c, hc, e, h1 c F A hc q⟩)
theorem zm_Si {M' : MD} {n idx L' : Nat} {As rest : List Value} (hd : decode M.2.1 pc = .ok (.invokestatic idx, 3)) (hM : MOk M' n) (hs : Cond.static M'.1 ∈ lw_g) (hl : Cond.methodLink M.1.cls idx M'.1 ∈ lw_g) (hn : As.length = n) (hst : st = As.reverse ++ rest) (hrest : rest.length ≤ 8) (hL : L' + 1 ≤ L) (hY : LY w nb T G B)
    (kk : CM l M' L' w nb As F A (qi fun x F A => Z l M L 0 0 0 0 (QM T G B Q) (pc + 3) lv (.int x :: rest) T F G A B)) : Z l M L 0 0 0 0 (QM T G B Q) pc lv st T F G A B :=
  z_callS hd hM hs hl hn hst hrest hL (Nat.le_refl 0) (Nat.le_refl 0) (cm_Z hY kk (fun v F A q => by obtain ⟨x, rfl, q⟩ := q; exact q))
theorem zm_Sv {M' : MD} {n idx L' : Nat} {As rest : List Value} (hd : decode M.2.1 pc = .ok (.invokestatic idx, 3)) (hM : MOk M' n) (hs : Cond.static M'.1 ∈ lw_g) (hl : Cond.methodLink M.1.cls idx M'.1 ∈ lw_g) (hn : As.length = n) (hst : st = As.reverse ++ rest) (hrest : rest.length ≤ 8) (hL : L' + 1 ≤ L) (hY : LY w nb T G B)
    (kk : CM l M' L' w nb As F A (qv fun F A => Z l M L 0 0 0 0 (QM T G B Q) (pc + 3) lv rest T F G A B)) : Z l M L 0 0 0 0 (QM T G B Q) pc lv st T F G A B :=
  z_callS hd hM hs hl hn hst hrest hL (Nat.le_refl 0) (Nat.le_refl 0) (cm_Z hY kk (fun v F A q => by obtain ⟨rfl, q⟩ := q; exact q))
theorem zm_SNi {M' : MD} {n idx L' : Nat} {As rest : List Value} (hd : decode M.2.1 pc = .ok (.invokestatic idx, 3)) (hM : MOk M' n) (hs : Cond.static M'.1 ∈ lw_g) (hl : (M.1.cls, idx, M'.1) ∈ nestL) (hn : As.length = n) (hst : st = As.reverse ++ rest) (hrest : rest.length ≤ 8) (hL : L' + 1 ≤ L) (hY : LY w nb T G B)
    (kk : CM l M' L' w nb As F A (qi fun x F A => Z l M L 0 0 0 0 (QM T G B Q) (pc + 3) lv (.int x :: rest) T F G A B)) : Z l M L 0 0 0 0 (QM T G B Q) pc lv st T F G A B :=
  z_callSN hd hM hs hl hn hst hrest hL (Nat.le_refl 0) (Nat.le_refl 0) (cm_Z hY kk (fun v F A q => by obtain ⟨x, rfl, q⟩ := q; exact q))
theorem z_iretM {v : Int32} (hd : decode M.2.1 pc = .ok (.ireturn, 1)) (hret : M.2.2.2 = some .int) (hq : Q (some (.int v)) F A) : Z l M L 0 0 0 0 (QM T G B Q) pc lv [.int v] T F G A B := z_iret hd hret ⟨rfl, rfl, rfl, hq⟩
theorem z_zretM {v : Int32} (hd : decode M.2.1 pc = .ok (.ireturn, 1)) (hret : M.2.2.2 = some .boolean) (hv : v = 0 ∨ v = 1) (hq : Q (some (.int v)) F A) : Z l M L 0 0 0 0 (QM T G B Q) pc lv [.int v] T F G A B := z_zret hd hret hv ⟨rfl, rfl, rfl, hq⟩
theorem z_vretM (hd : decode M.2.1 pc = .ok (.return_, 1)) (hret : M.2.2.2 = none) (hq : Q none F A) : Z l M L 0 0 0 0 (QM T G B Q) pc lv [] T F G A B := z_vret hd hret ⟨rfl, rfl, rfl, hq⟩
theorem z_aretM {v : Value} {C : String} (hd : decode M.2.1 pc = .ok (.areturn, 1)) (hret : M.2.2.2 = some (.object C)) (hv : v = .null ∨ ∃ a, v = .ref a) (hq : Q (some v) F A) : Z l M L 0 0 0 0 (QM T G B Q) pc lv [v] T F G A B := z_aret hd hret hv ⟨rfl, rfl, rfl, hq⟩
/-- reads with the value told -/
theorem z_geti' {ci k a fc idx : Nat} {C : String} {TT : u_T} {N : Nat} {ty : Nat → FieldType} {ac az rc rs : Nat} {Q : PQ} {x : Int32} (hd : decode M.2.1 pc = .ok (.getfield idx, 3)) (hcl : ClsOk ci C TT N ty) (hk : k < N) (hm : Cond.fieldLink M.1.cls idx (TT k).1 (TT k).2.1 (TT k).2.2.1 ∈ lw_g) (hr : isR ci k = false) (hfc : 40 * ci + k = fc) (ha : At T a ci) (hx : F fc a = x)
    (kk : Z l M L ac az rc rs Q (pc + 3) lv (.int x :: st) T F G A B) : Z l M L ac az rc rs Q pc lv (.ref a :: st) T F G A B := z_geti hd hcl hk hm hr hfc ha (by rw [hx]; exact kk)
theorem z_iald' {a : Nat} {i x : Int32} {n : Nat} {ac az rc rs : Nat} {Q : PQ} (hd : decode M.2.1 pc = .ok (.iaload, 1)) (ha : At T a 10) (hn : T.2.1 a = n) (hin : vp_in i n) (hx : A a i.toNatClampNeg = x) (kk : Z l M L ac az rc rs Q (pc + 1) lv (.int x :: st) T F G A B) : Z l M L ac az rc rs Q pc lv (.int i :: .ref a :: st) T F G A B := z_iald hd ha (by rw [hn]; exact hin) (by rw [hx]; exact kk)
theorem z_bald' {a : Nat} {i x : Int32} {n : Nat} {ac az rc rs : Nat} {Q : PQ} (hd : decode M.2.1 pc = .ok (.baload, 1)) (ha : At T a 9) (hn : T.2.1 a = n) (hin : vp_in i n) (hx : A a i.toNatClampNeg = x) (kk : Z l M L ac az rc rs Q (pc + 1) lv (.int x :: st) T F G A B) : Z l M L ac az rc rs Q pc lv (.int i :: .ref a :: st) T F G A B := z_bald hd ha (by rw [hn]; exact hin) (by rw [hx]; exact kk)
theorem z_iast' {a : Nat} {i x : Int32} {n : Nat} {ac az rc rs : Nat} {Q : PQ} (hd : decode M.2.1 pc = .ok (.iastore, 1)) (ha : At T a 10) (hn : T.2.1 a = n) (hin : vp_in i n) (kk : Z l M L ac az rc rs Q (pc + 1) lv st T F G (u2 A a i.toNatClampNeg x) B) : Z l M L ac az rc rs Q pc lv (.int x :: .int i :: .ref a :: st) T F G A B := z_iast hd ha (by rw [hn]; exact hin) kk
theorem z_bast' {a : Nat} {i x : Int32} {n : Nat} {ac az rc rs : Nat} {Q : PQ} (hd : decode M.2.1 pc = .ok (.bastore, 1)) (ha : At T a 9) (hn : T.2.1 a = n) (hin : vp_in i n) (kk : Z l M L ac az rc rs Q (pc + 1) lv st T F G (u2 A a i.toNatClampNeg x.toInt8.toInt32) B) : Z l M L ac az rc rs Q pc lv (.int x :: .int i :: .ref a :: st) T F G A B := z_bast hd ha (by rw [hn]; exact hin) kk
theorem z_aald' {a r ci n : Nat} {i : Int32} {ac az rc rs : Nat} {Q : PQ} (hd : decode M.2.1 pc = .ok (.aaload, 1)) (ha : At T a ci) (hc : 11 ≤ ci ∧ ci ≤ 13) (hn : T.2.1 a = n) (hin : vp_in i n) (hb : B a i.toNatClampNeg = r) (h0 : r ≠ 0) (kk : Z l M L ac az rc rs Q (pc + 1) lv (.ref r :: st) T F G A B) : Z l M L ac az rc rs Q pc lv (.int i :: .ref a :: st) T F G A B := z_aald hd ha hc (by rw [hn]; exact hin) hb h0 kk
end ZMC
end
section
theorem vin {i : Int32} {n : Nat} (h : vp_in i n) : i.toNatClampNeg < n := Nat.not_le.mp fun q => h (Or.inr q)
theorem i_ne {x y : Int32} {n : Int} (h : ¬ x = y) (hy : y.toInt = n) : x.toInt ≠ n := fun e => h (Int32.toInt_inj.mp (e.trans hy.symm))
set_option maxHeartbeats 4000000 in
set_option maxRecDepth 100000 in
theorem vJ6_bitCount_0f7a4_0 {l : Launch} {w : Nat → Nat} {nb : Nat} {Q : PM} {x0 : Int32} {F A : MI}  (h : Q (some (.int ((((((((x0 - (((x0.toUInt32 >>> ((1 : Int32).toUInt32 &&& Int32.toUInt32 31)).toInt32) &&& 1431655765)) &&& 858993459) + ((((x0 - (((x0.toUInt32 >>> ((1 : Int32).toUInt32 &&& Int32.toUInt32 31)).toInt32) &&& 1431655765)).toUInt32 >>> ((2 : Int32).toUInt32 &&& Int32.toUInt32 31)).toInt32) &&& 858993459)) + (((((x0 - (((x0.toUInt32 >>> ((1 : Int32).toUInt32 &&& Int32.toUInt32 31)).toInt32) &&& 1431655765)) &&& 858993459) + ((((x0 - (((x0.toUInt32 >>> ((1 : Int32).toUInt32 &&& Int32.toUInt32 31)).toInt32) &&& 1431655765)).toUInt32 >>> ((2 : Int32).toUInt32 &&& Int32.toUInt32 31)).toInt32) &&& 858993459)).toUInt32 >>> ((4 : Int32).toUInt32 &&& Int32.toUInt32 31)).toInt32)) &&& 252645135) + (((((((x0 - (((x0.toUInt32 >>> ((1 : Int32).toUInt32 &&& Int32.toUInt32 31)).toInt32) &&& 1431655765)) &&& 858993459) + ((((x0 - (((x0.toUInt32 >>> ((1 : Int32).toUInt32 &&& Int32.toUInt32 31)).toInt32) &&& 1431655765)).toUInt32 >>> ((2 : Int32).toUInt32 &&& Int32.toUInt32 31)).toInt32) &&& 858993459)) + (((((x0 - (((x0.toUInt32 >>> ((1 : Int32).toUInt32 &&& Int32.toUInt32 31)).toInt32) &&& 1431655765)) &&& 858993459) + ((((x0 - (((x0.toUInt32 >>> ((1 : Int32).toUInt32 &&& Int32.toUInt32 31)).toInt32) &&& 1431655765)).toUInt32 >>> ((2 : Int32).toUInt32 &&& Int32.toUInt32 31)).toInt32) &&& 858993459)).toUInt32 >>> ((4 : Int32).toUInt32 &&& Int32.toUInt32 31)).toInt32)) &&& 252645135).toUInt32 >>> ((8 : Int32).toUInt32 &&& Int32.toUInt32 31)).toInt32)) + ((((((((x0 - (((x0.toUInt32 >>> ((1 : Int32).toUInt32 &&& Int32.toUInt32 31)).toInt32) &&& 1431655765)) &&& 858993459) + ((((x0 - (((x0.toUInt32 >>> ((1 : Int32).toUInt32 &&& Int32.toUInt32 31)).toInt32) &&& 1431655765)).toUInt32 >>> ((2 : Int32).toUInt32 &&& Int32.toUInt32 31)).toInt32) &&& 858993459)) + (((((x0 - (((x0.toUInt32 >>> ((1 : Int32).toUInt32 &&& Int32.toUInt32 31)).toInt32) &&& 1431655765)) &&& 858993459) + ((((x0 - (((x0.toUInt32 >>> ((1 : Int32).toUInt32 &&& Int32.toUInt32 31)).toInt32) &&& 1431655765)).toUInt32 >>> ((2 : Int32).toUInt32 &&& Int32.toUInt32 31)).toInt32) &&& 858993459)).toUInt32 >>> ((4 : Int32).toUInt32 &&& Int32.toUInt32 31)).toInt32)) &&& 252645135) + (((((((x0 - (((x0.toUInt32 >>> ((1 : Int32).toUInt32 &&& Int32.toUInt32 31)).toInt32) &&& 1431655765)) &&& 858993459) + ((((x0 - (((x0.toUInt32 >>> ((1 : Int32).toUInt32 &&& Int32.toUInt32 31)).toInt32) &&& 1431655765)).toUInt32 >>> ((2 : Int32).toUInt32 &&& Int32.toUInt32 31)).toInt32) &&& 858993459)) + (((((x0 - (((x0.toUInt32 >>> ((1 : Int32).toUInt32 &&& Int32.toUInt32 31)).toInt32) &&& 1431655765)) &&& 858993459) + ((((x0 - (((x0.toUInt32 >>> ((1 : Int32).toUInt32 &&& Int32.toUInt32 31)).toInt32) &&& 1431655765)).toUInt32 >>> ((2 : Int32).toUInt32 &&& Int32.toUInt32 31)).toInt32) &&& 858993459)).toUInt32 >>> ((4 : Int32).toUInt32 &&& Int32.toUInt32 31)).toInt32)) &&& 252645135).toUInt32 >>> ((8 : Int32).toUInt32 &&& Int32.toUInt32 31)).toInt32)).toUInt32 >>> ((16 : Int32).toUInt32 &&& Int32.toUInt32 31)).toInt32)) &&& 63))) F A) : ZM l mJ6_bitCount_0f7a4 1 w nb Q 0 [(0, .int x0)] [] F A := by
  intro T G B hY
  refine z_iload_n dJ6_bitCount_0f7a4_0 0 rfl rfl ?_
  refine z_iload_n dJ6_bitCount_0f7a4_1 0 rfl rfl ?_
  refine z_iconst (v := 1) dJ6_bitCount_0f7a4_2 rfl ?_
  refine z_iushr dJ6_bitCount_0f7a4_3 ?_
  refine z_ldcw dJ6_bitCount_0f7a4_4 kk_J6_265 ?_
  refine z_iand dJ6_bitCount_0f7a4_7 ?_
  refine z_isub dJ6_bitCount_0f7a4_8 ?_
  refine z_istore_n (lv' := [(0, .int (x0 - (((x0.toUInt32 >>> ((1 : Int32).toUInt32 &&& Int32.toUInt32 31)).toInt32) &&& 1431655765)))]) dJ6_bitCount_0f7a4_9 rfl (by decide) rfl ?_
  refine z_iload_n dJ6_bitCount_0f7a4_10 0 rfl rfl ?_
  refine z_ldcw dJ6_bitCount_0f7a4_11 kk_J6_266 ?_
  refine z_iand dJ6_bitCount_0f7a4_14 ?_
  refine z_iload_n dJ6_bitCount_0f7a4_15 0 rfl rfl ?_
  refine z_iconst (v := 2) dJ6_bitCount_0f7a4_16 rfl ?_
  refine z_iushr dJ6_bitCount_0f7a4_17 ?_
  refine z_ldcw dJ6_bitCount_0f7a4_18 kk_J6_266 ?_
  refine z_iand dJ6_bitCount_0f7a4_21 ?_
  refine z_iadd dJ6_bitCount_0f7a4_22 ?_
  refine z_istore_n (lv' := [(0, .int (((x0 - (((x0.toUInt32 >>> ((1 : Int32).toUInt32 &&& Int32.toUInt32 31)).toInt32) &&& 1431655765)) &&& 858993459) + ((((x0 - (((x0.toUInt32 >>> ((1 : Int32).toUInt32 &&& Int32.toUInt32 31)).toInt32) &&& 1431655765)).toUInt32 >>> ((2 : Int32).toUInt32 &&& Int32.toUInt32 31)).toInt32) &&& 858993459)))]) dJ6_bitCount_0f7a4_23 rfl (by decide) rfl ?_
  refine z_iload_n dJ6_bitCount_0f7a4_24 0 rfl rfl ?_
  refine z_iload_n dJ6_bitCount_0f7a4_25 0 rfl rfl ?_
  refine z_iconst (v := 4) dJ6_bitCount_0f7a4_26 rfl ?_
  refine z_iushr dJ6_bitCount_0f7a4_27 ?_
  refine z_iadd dJ6_bitCount_0f7a4_28 ?_
  refine z_ldcw dJ6_bitCount_0f7a4_29 kk_J6_267 ?_
  refine z_iand dJ6_bitCount_0f7a4_32 ?_
  refine z_istore_n (lv' := [(0, .int (((((x0 - (((x0.toUInt32 >>> ((1 : Int32).toUInt32 &&& Int32.toUInt32 31)).toInt32) &&& 1431655765)) &&& 858993459) + ((((x0 - (((x0.toUInt32 >>> ((1 : Int32).toUInt32 &&& Int32.toUInt32 31)).toInt32) &&& 1431655765)).toUInt32 >>> ((2 : Int32).toUInt32 &&& Int32.toUInt32 31)).toInt32) &&& 858993459)) + (((((x0 - (((x0.toUInt32 >>> ((1 : Int32).toUInt32 &&& Int32.toUInt32 31)).toInt32) &&& 1431655765)) &&& 858993459) + ((((x0 - (((x0.toUInt32 >>> ((1 : Int32).toUInt32 &&& Int32.toUInt32 31)).toInt32) &&& 1431655765)).toUInt32 >>> ((2 : Int32).toUInt32 &&& Int32.toUInt32 31)).toInt32) &&& 858993459)).toUInt32 >>> ((4 : Int32).toUInt32 &&& Int32.toUInt32 31)).toInt32)) &&& 252645135))]) dJ6_bitCount_0f7a4_33 rfl (by decide) rfl ?_
  refine z_iload_n dJ6_bitCount_0f7a4_34 0 rfl rfl ?_
  refine z_iload_n dJ6_bitCount_0f7a4_35 0 rfl rfl ?_
  refine z_bipush (v := 8) dJ6_bitCount_0f7a4_36 rfl ?_
  refine z_iushr dJ6_bitCount_0f7a4_38 ?_
  refine z_iadd dJ6_bitCount_0f7a4_39 ?_
  refine z_istore_n (lv' := [(0, .int ((((((x0 - (((x0.toUInt32 >>> ((1 : Int32).toUInt32 &&& Int32.toUInt32 31)).toInt32) &&& 1431655765)) &&& 858993459) + ((((x0 - (((x0.toUInt32 >>> ((1 : Int32).toUInt32 &&& Int32.toUInt32 31)).toInt32) &&& 1431655765)).toUInt32 >>> ((2 : Int32).toUInt32 &&& Int32.toUInt32 31)).toInt32) &&& 858993459)) + (((((x0 - (((x0.toUInt32 >>> ((1 : Int32).toUInt32 &&& Int32.toUInt32 31)).toInt32) &&& 1431655765)) &&& 858993459) + ((((x0 - (((x0.toUInt32 >>> ((1 : Int32).toUInt32 &&& Int32.toUInt32 31)).toInt32) &&& 1431655765)).toUInt32 >>> ((2 : Int32).toUInt32 &&& Int32.toUInt32 31)).toInt32) &&& 858993459)).toUInt32 >>> ((4 : Int32).toUInt32 &&& Int32.toUInt32 31)).toInt32)) &&& 252645135) + (((((((x0 - (((x0.toUInt32 >>> ((1 : Int32).toUInt32 &&& Int32.toUInt32 31)).toInt32) &&& 1431655765)) &&& 858993459) + ((((x0 - (((x0.toUInt32 >>> ((1 : Int32).toUInt32 &&& Int32.toUInt32 31)).toInt32) &&& 1431655765)).toUInt32 >>> ((2 : Int32).toUInt32 &&& Int32.toUInt32 31)).toInt32) &&& 858993459)) + (((((x0 - (((x0.toUInt32 >>> ((1 : Int32).toUInt32 &&& Int32.toUInt32 31)).toInt32) &&& 1431655765)) &&& 858993459) + ((((x0 - (((x0.toUInt32 >>> ((1 : Int32).toUInt32 &&& Int32.toUInt32 31)).toInt32) &&& 1431655765)).toUInt32 >>> ((2 : Int32).toUInt32 &&& Int32.toUInt32 31)).toInt32) &&& 858993459)).toUInt32 >>> ((4 : Int32).toUInt32 &&& Int32.toUInt32 31)).toInt32)) &&& 252645135).toUInt32 >>> ((8 : Int32).toUInt32 &&& Int32.toUInt32 31)).toInt32)))]) dJ6_bitCount_0f7a4_40 rfl (by decide) rfl ?_
  refine z_iload_n dJ6_bitCount_0f7a4_41 0 rfl rfl ?_
  refine z_iload_n dJ6_bitCount_0f7a4_42 0 rfl rfl ?_
  refine z_bipush (v := 16) dJ6_bitCount_0f7a4_43 rfl ?_
  refine z_iushr dJ6_bitCount_0f7a4_45 ?_
  refine z_iadd dJ6_bitCount_0f7a4_46 ?_
  refine z_istore_n (lv' := [(0, .int (((((((x0 - (((x0.toUInt32 >>> ((1 : Int32).toUInt32 &&& Int32.toUInt32 31)).toInt32) &&& 1431655765)) &&& 858993459) + ((((x0 - (((x0.toUInt32 >>> ((1 : Int32).toUInt32 &&& Int32.toUInt32 31)).toInt32) &&& 1431655765)).toUInt32 >>> ((2 : Int32).toUInt32 &&& Int32.toUInt32 31)).toInt32) &&& 858993459)) + (((((x0 - (((x0.toUInt32 >>> ((1 : Int32).toUInt32 &&& Int32.toUInt32 31)).toInt32) &&& 1431655765)) &&& 858993459) + ((((x0 - (((x0.toUInt32 >>> ((1 : Int32).toUInt32 &&& Int32.toUInt32 31)).toInt32) &&& 1431655765)).toUInt32 >>> ((2 : Int32).toUInt32 &&& Int32.toUInt32 31)).toInt32) &&& 858993459)).toUInt32 >>> ((4 : Int32).toUInt32 &&& Int32.toUInt32 31)).toInt32)) &&& 252645135) + (((((((x0 - (((x0.toUInt32 >>> ((1 : Int32).toUInt32 &&& Int32.toUInt32 31)).toInt32) &&& 1431655765)) &&& 858993459) + ((((x0 - (((x0.toUInt32 >>> ((1 : Int32).toUInt32 &&& Int32.toUInt32 31)).toInt32) &&& 1431655765)).toUInt32 >>> ((2 : Int32).toUInt32 &&& Int32.toUInt32 31)).toInt32) &&& 858993459)) + (((((x0 - (((x0.toUInt32 >>> ((1 : Int32).toUInt32 &&& Int32.toUInt32 31)).toInt32) &&& 1431655765)) &&& 858993459) + ((((x0 - (((x0.toUInt32 >>> ((1 : Int32).toUInt32 &&& Int32.toUInt32 31)).toInt32) &&& 1431655765)).toUInt32 >>> ((2 : Int32).toUInt32 &&& Int32.toUInt32 31)).toInt32) &&& 858993459)).toUInt32 >>> ((4 : Int32).toUInt32 &&& Int32.toUInt32 31)).toInt32)) &&& 252645135).toUInt32 >>> ((8 : Int32).toUInt32 &&& Int32.toUInt32 31)).toInt32)) + ((((((((x0 - (((x0.toUInt32 >>> ((1 : Int32).toUInt32 &&& Int32.toUInt32 31)).toInt32) &&& 1431655765)) &&& 858993459) + ((((x0 - (((x0.toUInt32 >>> ((1 : Int32).toUInt32 &&& Int32.toUInt32 31)).toInt32) &&& 1431655765)).toUInt32 >>> ((2 : Int32).toUInt32 &&& Int32.toUInt32 31)).toInt32) &&& 858993459)) + (((((x0 - (((x0.toUInt32 >>> ((1 : Int32).toUInt32 &&& Int32.toUInt32 31)).toInt32) &&& 1431655765)) &&& 858993459) + ((((x0 - (((x0.toUInt32 >>> ((1 : Int32).toUInt32 &&& Int32.toUInt32 31)).toInt32) &&& 1431655765)).toUInt32 >>> ((2 : Int32).toUInt32 &&& Int32.toUInt32 31)).toInt32) &&& 858993459)).toUInt32 >>> ((4 : Int32).toUInt32 &&& Int32.toUInt32 31)).toInt32)) &&& 252645135) + (((((((x0 - (((x0.toUInt32 >>> ((1 : Int32).toUInt32 &&& Int32.toUInt32 31)).toInt32) &&& 1431655765)) &&& 858993459) + ((((x0 - (((x0.toUInt32 >>> ((1 : Int32).toUInt32 &&& Int32.toUInt32 31)).toInt32) &&& 1431655765)).toUInt32 >>> ((2 : Int32).toUInt32 &&& Int32.toUInt32 31)).toInt32) &&& 858993459)) + (((((x0 - (((x0.toUInt32 >>> ((1 : Int32).toUInt32 &&& Int32.toUInt32 31)).toInt32) &&& 1431655765)) &&& 858993459) + ((((x0 - (((x0.toUInt32 >>> ((1 : Int32).toUInt32 &&& Int32.toUInt32 31)).toInt32) &&& 1431655765)).toUInt32 >>> ((2 : Int32).toUInt32 &&& Int32.toUInt32 31)).toInt32) &&& 858993459)).toUInt32 >>> ((4 : Int32).toUInt32 &&& Int32.toUInt32 31)).toInt32)) &&& 252645135).toUInt32 >>> ((8 : Int32).toUInt32 &&& Int32.toUInt32 31)).toInt32)).toUInt32 >>> ((16 : Int32).toUInt32 &&& Int32.toUInt32 31)).toInt32)))]) dJ6_bitCount_0f7a4_47 rfl (by decide) rfl ?_
  refine z_iload_n dJ6_bitCount_0f7a4_48 0 rfl rfl ?_
  refine z_bipush (v := 63) dJ6_bitCount_0f7a4_49 rfl ?_
  refine z_iand dJ6_bitCount_0f7a4_51 ?_
  exact z_iretM dJ6_bitCount_0f7a4_52 rfl h
set_option maxHeartbeats 4000000 in
set_option maxRecDepth 100000 in
theorem vJ7_fill_53178_0 {l : Launch} {w : Nat → Nat} {nb : Nat} {Q : PM} {x1 : Int32} {F A : MI} {a n : Nat} (hn : n < 1000) (ha : ∀ T G B, LY w nb T G B → At T a 10 ∧ T.2.1 a = n) (h : ZM l mJ7_fill_53178 1 w nb Q 5 [(0, .ref a), (1, .int x1), (2, .int 0), (3, .int (nI n))] [] F A) : ZM l mJ7_fill_53178 1 w nb Q 0 [(0, .ref a), (1, .int x1)] [] F A := by
  intro T G B hY
  refine z_iconst (v := 0) dJ7_fill_53178_0 rfl ?_
  refine z_istore_n (lv' := [(0, .ref a), (1, .int x1), (2, .int 0)]) dJ7_fill_53178_1 rfl (by decide) rfl ?_
  refine z_aload_n dJ7_fill_53178_2 0 rfl rfl ?_
  refine z_alen (v := nI n) dJ7_fill_53178_3 ((ha T G B hY).1) (by rw [((ha T G B hY).2)]; rfl) ?_
  refine z_istore_n (lv' := [(0, .ref a), (1, .int x1), (2, .int 0), (3, .int (nI n))]) dJ7_fill_53178_4 rfl (by decide) rfl ?_
  exact z_pick [0, 1, 2, 3] rfl (h T G B hY)
set_option maxHeartbeats 4000000 in
set_option maxRecDepth 100000 in
theorem vJ7_fill_53178_5 {l : Launch} {w : Nat → Nat} {nb : Nat} {Q : PM} {x1 x2 x3 : Int32} {F A : MI} {a n : Nat} (hn : n < 1000) (ha : ∀ T G B, LY w nb T G B → At T a 10 ∧ T.2.1 a = n) (h : ((x3 ≤ x2 → Q none F A) ∧ (¬ x3 ≤ x2 → (vp_in x2 n ∧ ZM l mJ7_fill_53178 1 w nb Q 5 [(0, .ref a), (1, .int x1), (2, .int (x2 + 1)), (3, .int x3)] [] F (u2 A a x2.toNatClampNeg x1))))) : ZM l mJ7_fill_53178 1 w nb Q 5 [(0, .ref a), (1, .int x1), (2, .int x2), (3, .int x3)] [] F A := by
  intro T G B hY
  refine z_iload_n dJ7_fill_53178_5 2 rfl rfl ?_
  refine z_iload_n dJ7_fill_53178_6 3 rfl rfl ?_
  refine z_icmp_ge (tgt := 20) dJ7_fill_53178_7 (by decide) (fun hb => ?_) (fun hb => ?_)
  · have h := h.1 hb
    exact z_vretM dJ7_fill_53178_20 rfl h
  · have h := h.2 hb
    refine z_aload_n dJ7_fill_53178_10 0 rfl rfl ?_
    refine z_iload_n dJ7_fill_53178_11 2 rfl rfl ?_
    refine z_iload_n dJ7_fill_53178_12 1 rfl rfl ?_
    have hin1 := h.1
    have h := h.2
    refine z_iast' (n := n) dJ7_fill_53178_13 ((ha T G B hY).1) ((ha T G B hY).2) hin1 ?_
    refine z_iinc (v := (x2 + 1)) (lv' := [(0, .ref a), (1, .int x1), (2, .int (x2 + 1)), (3, .int x3)]) dJ7_fill_53178_14 2 rfl rfl (by decide) rfl ?_
    refine z_goto (tgt := 5) dJ7_fill_53178_17 (by decide) ?_
    exact z_pick [0, 1, 2, 3] rfl (h T G B hY)
set_option maxHeartbeats 4000000 in
set_option maxRecDepth 100000 in
theorem vJ9_max_7cf53_0 {l : Launch} {w : Nat → Nat} {nb : Nat} {Q : PM} {x0 x1 : Int32} {F A : MI}  (h : ((x0 < x1 → Q (some (.int x1)) F A) ∧ (¬ x0 < x1 → Q (some (.int x0)) F A))) : ZM l mJ9_max_7cf53 1 w nb Q 0 [(0, .int x0), (1, .int x1)] [] F A := by
  intro T G B hY
  refine z_iload_n dJ9_max_7cf53_0 0 rfl rfl ?_
  refine z_iload_n dJ9_max_7cf53_1 1 rfl rfl ?_
  refine z_icmp_lt (tgt := 9) dJ9_max_7cf53_2 (by decide) (fun hb => ?_) (fun hb => ?_)
  · have h := h.1 hb
    refine z_iload_n dJ9_max_7cf53_9 1 rfl rfl ?_
    exact z_iretM dJ9_max_7cf53_10 rfl h
  · have h := h.2 hb
    refine z_iload_n dJ9_max_7cf53_5 0 rfl rfl ?_
    refine z_goto (tgt := 10) dJ9_max_7cf53_6 (by decide) ?_
    exact z_iretM dJ9_max_7cf53_10 rfl h
set_option maxHeartbeats 4000000 in
set_option maxRecDepth 100000 in
theorem vJ9_min_7cf53_0 {l : Launch} {w : Nat → Nat} {nb : Nat} {Q : PM} {x0 x1 : Int32} {F A : MI}  (h : ((x1 < x0 → Q (some (.int x1)) F A) ∧ (¬ x1 < x0 → Q (some (.int x0)) F A))) : ZM l mJ9_min_7cf53 1 w nb Q 0 [(0, .int x0), (1, .int x1)] [] F A := by
  intro T G B hY
  refine z_iload_n dJ9_min_7cf53_0 0 rfl rfl ?_
  refine z_iload_n dJ9_min_7cf53_1 1 rfl rfl ?_
  refine z_icmp_gt (tgt := 9) dJ9_min_7cf53_2 (by decide) (fun hb => ?_) (fun hb => ?_)
  · have h := h.1 hb
    refine z_iload_n dJ9_min_7cf53_9 1 rfl rfl ?_
    exact z_iretM dJ9_min_7cf53_10 rfl h
  · have h := h.2 hb
    refine z_iload_n dJ9_min_7cf53_5 0 rfl rfl ?_
    refine z_goto (tgt := 10) dJ9_min_7cf53_6 (by decide) ?_
    exact z_iretM dJ9_min_7cf53_10 rfl h
end
