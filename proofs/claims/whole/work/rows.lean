section
-- ===== PART A: goes FIRST, ahead of the names: the tables' words, and 'selects' of the private methods out of them =====
/-- a private method of a class that the tables say can be made, by its rows of tables_1 -/
def lw_okq (q : MethodName × Nat) : Prop := (q.1.cls ≠ "java/lang/invoke/MethodHandle" ∧ q.1.cls ≠ "java/lang/invoke/VarHandle") ∧ Cond.instantiable q.1.cls q.2 ∈ tables_1 ∧ Cond.privateMethod q.1 ∈ tables_1 ∧ Cond.instanceMethod q.1 ∈ tables_1
theorem lw_p0 : lw_okq (⟨"MovedLines", "readTape", "(Z)Z"⟩, 11) := ⟨⟨by decide +kernel, by decide +kernel⟩, List.mem_of_getElem? (i := 19) (by decide +kernel), List.mem_of_getElem? (i := 335) (by decide +kernel), List.mem_of_getElem? (i := 336) (by decide +kernel)⟩
theorem lw_p1 : lw_okq (⟨"MovedLines$Reader", "readByte", "(IZ)I"⟩, 5) := ⟨⟨by decide +kernel, by decide +kernel⟩, List.mem_of_getElem? (i := 44) (by decide +kernel), List.mem_of_getElem? (i := 343) (by decide +kernel), List.mem_of_getElem? (i := 344) (by decide +kernel)⟩
theorem lw_p2 : lw_okq (⟨"MovedLines$Reader", "readLetter", "(I)I"⟩, 5) := ⟨⟨by decide +kernel, by decide +kernel⟩, List.mem_of_getElem? (i := 44) (by decide +kernel), List.mem_of_getElem? (i := 347) (by decide +kernel), List.mem_of_getElem? (i := 348) (by decide +kernel)⟩
theorem lw_p3 : lw_okq (⟨"MovedLines$Reader", "closeLine", "()I"⟩, 5) := ⟨⟨by decide +kernel, by decide +kernel⟩, List.mem_of_getElem? (i := 44) (by decide +kernel), List.mem_of_getElem? (i := 351) (by decide +kernel), List.mem_of_getElem? (i := 352) (by decide +kernel)⟩
theorem lw_p4 : lw_okq (⟨"MovedLines$Reader", "readEnd", "(Z)I"⟩, 5) := ⟨⟨by decide +kernel, by decide +kernel⟩, List.mem_of_getElem? (i := 44) (by decide +kernel), List.mem_of_getElem? (i := 355) (by decide +kernel), List.mem_of_getElem? (i := 356) (by decide +kernel)⟩
theorem lw_p5 : lw_okq (⟨"MovedLines", "editionOf", "(I)LMovedLines$Edition;"⟩, 11) := ⟨⟨by decide +kernel, by decide +kernel⟩, List.mem_of_getElem? (i := 19) (by decide +kernel), List.mem_of_getElem? (i := 359) (by decide +kernel), List.mem_of_getElem? (i := 360) (by decide +kernel)⟩
theorem lw_p6 : lw_okq (⟨"MovedLines", "compared", "()LMovedLines$Told;"⟩, 11) := ⟨⟨by decide +kernel, by decide +kernel⟩, List.mem_of_getElem? (i := 19) (by decide +kernel), List.mem_of_getElem? (i := 390) (by decide +kernel), List.mem_of_getElem? (i := 391) (by decide +kernel)⟩
theorem lw_p7 : lw_okq (⟨"MovedLines$Keeper", "addRange", "(IIII)V"⟩, 9) := ⟨⟨by decide +kernel, by decide +kernel⟩, List.mem_of_getElem? (i := 154) (by decide +kernel), List.mem_of_getElem? (i := 417) (by decide +kernel), List.mem_of_getElem? (i := 418) (by decide +kernel)⟩
theorem lw_p8 : lw_okq (⟨"MovedLines$Keeper", "keepEnds", "(ILMovedLines$Kinds;LMovedLines$Told;)V"⟩, 9) := ⟨⟨by decide +kernel, by decide +kernel⟩, List.mem_of_getElem? (i := 154) (by decide +kernel), List.mem_of_getElem? (i := 421) (by decide +kernel), List.mem_of_getElem? (i := 422) (by decide +kernel)⟩
theorem lw_p9 : lw_okq (⟨"MovedLines$Keeper", "findAnchors", "(ILMovedLines$Kinds;)V"⟩, 9) := ⟨⟨by decide +kernel, by decide +kernel⟩, List.mem_of_getElem? (i := 154) (by decide +kernel), List.mem_of_getElem? (i := 437) (by decide +kernel), List.mem_of_getElem? (i := 438) (by decide +kernel)⟩
theorem lw_p10 : lw_okq (⟨"MovedLines$Keeper", "measureRuns", "()I"⟩, 9) := ⟨⟨by decide +kernel, by decide +kernel⟩, List.mem_of_getElem? (i := 154) (by decide +kernel), List.mem_of_getElem? (i := 444) (by decide +kernel), List.mem_of_getElem? (i := 445) (by decide +kernel)⟩
theorem lw_p11 : lw_okq (⟨"MovedLines$Keeper", "keepRun", "(IILMovedLines$Told;)V"⟩, 9) := ⟨⟨by decide +kernel, by decide +kernel⟩, List.mem_of_getElem? (i := 154) (by decide +kernel), List.mem_of_getElem? (i := 451) (by decide +kernel), List.mem_of_getElem? (i := 452) (by decide +kernel)⟩
theorem lw_p12 : lw_okq (⟨"MovedLines$Comparer", "moveLongest", "(LMovedLines$Told;)Z"⟩, 4) := ⟨⟨by decide +kernel, by decide +kernel⟩, List.mem_of_getElem? (i := 121) (by decide +kernel), List.mem_of_getElem? (i := 455) (by decide +kernel), List.mem_of_getElem? (i := 456) (by decide +kernel)⟩
theorem lw_p13 : lw_okq (⟨"MovedLines$Comparer", "looseRow", "(IILMovedLines$Told;)I"⟩, 4) := ⟨⟨by decide +kernel, by decide +kernel⟩, List.mem_of_getElem? (i := 121) (by decide +kernel), List.mem_of_getElem? (i := 459) (by decide +kernel), List.mem_of_getElem? (i := 460) (by decide +kernel)⟩
theorem lw_p14 : lw_okq (⟨"MovedLines$Comparer", "measureLikeness", "(LMovedLines$Edition;LMovedLines$Edition;LMovedLines$Told;)V"⟩, 4) := ⟨⟨by decide +kernel, by decide +kernel⟩, List.mem_of_getElem? (i := 121) (by decide +kernel), List.mem_of_getElem? (i := 470) (by decide +kernel), List.mem_of_getElem? (i := 471) (by decide +kernel)⟩
theorem lw_p15 : lw_okq (⟨"MovedLines$Comparer", "likenessTo", "(LMovedLines$Edition;II)I"⟩, 4) := ⟨⟨by decide +kernel, by decide +kernel⟩, List.mem_of_getElem? (i := 121) (by decide +kernel), List.mem_of_getElem? (i := 486) (by decide +kernel), List.mem_of_getElem? (i := 487) (by decide +kernel)⟩
def lw_privs_1 : List (MethodName × Nat) := [(⟨"MovedLines", "readTape", "(Z)Z"⟩, 11), (⟨"MovedLines$Reader", "readByte", "(IZ)I"⟩, 5), (⟨"MovedLines$Reader", "readLetter", "(I)I"⟩, 5), (⟨"MovedLines$Reader", "closeLine", "()I"⟩, 5), (⟨"MovedLines$Reader", "readEnd", "(Z)I"⟩, 5), (⟨"MovedLines", "editionOf", "(I)LMovedLines$Edition;"⟩, 11), (⟨"MovedLines", "compared", "()LMovedLines$Told;"⟩, 11), (⟨"MovedLines$Keeper", "addRange", "(IIII)V"⟩, 9), (⟨"MovedLines$Keeper", "keepEnds", "(ILMovedLines$Kinds;LMovedLines$Told;)V"⟩, 9), (⟨"MovedLines$Keeper", "findAnchors", "(ILMovedLines$Kinds;)V"⟩, 9), (⟨"MovedLines$Keeper", "measureRuns", "()I"⟩, 9), (⟨"MovedLines$Keeper", "keepRun", "(IILMovedLines$Told;)V"⟩, 9), (⟨"MovedLines$Comparer", "moveLongest", "(LMovedLines$Told;)Z"⟩, 4), (⟨"MovedLines$Comparer", "looseRow", "(IILMovedLines$Told;)I"⟩, 4), (⟨"MovedLines$Comparer", "measureLikeness", "(LMovedLines$Edition;LMovedLines$Edition;LMovedLines$Told;)V"⟩, 4), (⟨"MovedLines$Comparer", "likenessTo", "(LMovedLines$Edition;II)I"⟩, 4)]
theorem lw_r1 : ∀ q ∈ lw_privs_1, lw_okq q := List.forall_mem_cons.mpr ⟨lw_p0, List.forall_mem_cons.mpr ⟨lw_p1, List.forall_mem_cons.mpr ⟨lw_p2, List.forall_mem_cons.mpr ⟨lw_p3, List.forall_mem_cons.mpr ⟨lw_p4, List.forall_mem_cons.mpr ⟨lw_p5, List.forall_mem_cons.mpr ⟨lw_p6, List.forall_mem_cons.mpr ⟨lw_p7, List.forall_mem_cons.mpr ⟨lw_p8, List.forall_mem_cons.mpr ⟨lw_p9, List.forall_mem_cons.mpr ⟨lw_p10, List.forall_mem_cons.mpr ⟨lw_p11, List.forall_mem_cons.mpr ⟨lw_p12, List.forall_mem_cons.mpr ⟨lw_p13, List.forall_mem_cons.mpr ⟨lw_p14, List.forall_mem_cons.mpr ⟨lw_p15, fun _ h => absurd h List.not_mem_nil⟩⟩⟩⟩⟩⟩⟩⟩⟩⟩⟩⟩⟩⟩⟩⟩
theorem lw_p16 : lw_okq (⟨"MovedLines$Comparer", "editLikest", "(LMovedLines$Edition;LMovedLines$Edition;LMovedLines$Told;)Z"⟩, 4) := ⟨⟨by decide +kernel, by decide +kernel⟩, List.mem_of_getElem? (i := 121) (by decide +kernel), List.mem_of_getElem? (i := 502) (by decide +kernel), List.mem_of_getElem? (i := 503) (by decide +kernel)⟩
theorem lw_p17 : lw_okq (⟨"MovedLines", "hasLine", "(II)Z"⟩, 11) := ⟨⟨by decide +kernel, by decide +kernel⟩, List.mem_of_getElem? (i := 19) (by decide +kernel), List.mem_of_getElem? (i := 518) (by decide +kernel), List.mem_of_getElem? (i := 519) (by decide +kernel)⟩
theorem lw_p18 : lw_okq (⟨"MovedLines", "measureWords", "(II)I"⟩, 11) := ⟨⟨by decide +kernel, by decide +kernel⟩, List.mem_of_getElem? (i := 19) (by decide +kernel), List.mem_of_getElem? (i := 545) (by decide +kernel), List.mem_of_getElem? (i := 546) (by decide +kernel)⟩
theorem lw_p19 : lw_okq (⟨"MovedLines$CommonRow", "nextLike", "(II)I"⟩, 5) := ⟨⟨by decide +kernel, by decide +kernel⟩, List.mem_of_getElem? (i := 188) (by decide +kernel), List.mem_of_getElem? (i := 561) (by decide +kernel), List.mem_of_getElem? (i := 562) (by decide +kernel)⟩
theorem lw_p20 : lw_okq (⟨"MovedLines", "startStep", "(I)LMovedLines$Edition;"⟩, 11) := ⟨⟨by decide +kernel, by decide +kernel⟩, List.mem_of_getElem? (i := 19) (by decide +kernel), List.mem_of_getElem? (i := 597) (by decide +kernel), List.mem_of_getElem? (i := 598) (by decide +kernel)⟩
theorem lw_p21 : lw_okq (⟨"java/lang/Throwable", "fillInStackTrace", "(I)Ljava/lang/Throwable;"⟩, 6) := ⟨⟨by decide +kernel, by decide +kernel⟩, List.mem_of_getElem? (i := 691) (by decide +kernel), List.mem_of_getElem? (i := 689) (by decide +kernel), List.mem_of_getElem? (i := 690) (by decide +kernel)⟩
theorem lw_p22 : lw_okq (⟨"MovedLinesModel", "lays", "(I)V"⟩, 20) := ⟨⟨by decide +kernel, by decide +kernel⟩, List.mem_of_getElem? (i := 731) (by decide +kernel), List.mem_of_getElem? (i := 729) (by decide +kernel), List.mem_of_getElem? (i := 730) (by decide +kernel)⟩
theorem lw_p23 : lw_okq (⟨"MovedLinesModel", "reads", "(IZ)Z"⟩, 20) := ⟨⟨by decide +kernel, by decide +kernel⟩, List.mem_of_getElem? (i := 731) (by decide +kernel), List.mem_of_getElem? (i := 814) (by decide +kernel), List.mem_of_getElem? (i := 815) (by decide +kernel)⟩
theorem lw_p24 : lw_okq (⟨"MovedLinesModel", "bad", "(II)Z"⟩, 20) := ⟨⟨by decide +kernel, by decide +kernel⟩, List.mem_of_getElem? (i := 731) (by decide +kernel), List.mem_of_getElem? (i := 818) (by decide +kernel), List.mem_of_getElem? (i := 819) (by decide +kernel)⟩
theorem lw_p25 : lw_okq (⟨"MovedLinesModel", "readLetter", "(III)Z"⟩, 20) := ⟨⟨by decide +kernel, by decide +kernel⟩, List.mem_of_getElem? (i := 731) (by decide +kernel), List.mem_of_getElem? (i := 825) (by decide +kernel), List.mem_of_getElem? (i := 826) (by decide +kernel)⟩
theorem lw_p26 : lw_okq (⟨"MovedLinesModel", "readEnd", "(I)Z"⟩, 20) := ⟨⟨by decide +kernel, by decide +kernel⟩, List.mem_of_getElem? (i := 731) (by decide +kernel), List.mem_of_getElem? (i := 829) (by decide +kernel), List.mem_of_getElem? (i := 830) (by decide +kernel)⟩
theorem lw_p27 : lw_okq (⟨"MovedLinesModel", "many", "(I)I"⟩, 20) := ⟨⟨by decide +kernel, by decide +kernel⟩, List.mem_of_getElem? (i := 731) (by decide +kernel), List.mem_of_getElem? (i := 833) (by decide +kernel), List.mem_of_getElem? (i := 834) (by decide +kernel)⟩
theorem lw_p28 : lw_okq (⟨"MovedLinesModel", "laysAll", "()V"⟩, 20) := ⟨⟨by decide +kernel, by decide +kernel⟩, List.mem_of_getElem? (i := 731) (by decide +kernel), List.mem_of_getElem? (i := 845) (by decide +kernel), List.mem_of_getElem? (i := 846) (by decide +kernel)⟩
theorem lw_p29 : lw_okq (⟨"MovedLinesModel", "goesInto", "(IIIIZ)V"⟩, 20) := ⟨⟨by decide +kernel, by decide +kernel⟩, List.mem_of_getElem? (i := 731) (by decide +kernel), List.mem_of_getElem? (i := 849) (by decide +kernel), List.mem_of_getElem? (i := 850) (by decide +kernel)⟩
theorem lw_p30 : lw_okq (⟨"MovedLinesModel", "areAlike", "(II)Z"⟩, 20) := ⟨⟨by decide +kernel, by decide +kernel⟩, List.mem_of_getElem? (i := 731) (by decide +kernel), List.mem_of_getElem? (i := 853) (by decide +kernel), List.mem_of_getElem? (i := 854) (by decide +kernel)⟩
theorem lw_p31 : lw_okq (⟨"MovedLinesModel", "areAlike", "(IIII)Z"⟩, 20) := ⟨⟨by decide +kernel, by decide +kernel⟩, List.mem_of_getElem? (i := 731) (by decide +kernel), List.mem_of_getElem? (i := 857) (by decide +kernel), List.mem_of_getElem? (i := 858) (by decide +kernel)⟩
def lw_privs_2 : List (MethodName × Nat) := [(⟨"MovedLines$Comparer", "editLikest", "(LMovedLines$Edition;LMovedLines$Edition;LMovedLines$Told;)Z"⟩, 4), (⟨"MovedLines", "hasLine", "(II)Z"⟩, 11), (⟨"MovedLines", "measureWords", "(II)I"⟩, 11), (⟨"MovedLines$CommonRow", "nextLike", "(II)I"⟩, 5), (⟨"MovedLines", "startStep", "(I)LMovedLines$Edition;"⟩, 11), (⟨"java/lang/Throwable", "fillInStackTrace", "(I)Ljava/lang/Throwable;"⟩, 6), (⟨"MovedLinesModel", "lays", "(I)V"⟩, 20), (⟨"MovedLinesModel", "reads", "(IZ)Z"⟩, 20), (⟨"MovedLinesModel", "bad", "(II)Z"⟩, 20), (⟨"MovedLinesModel", "readLetter", "(III)Z"⟩, 20), (⟨"MovedLinesModel", "readEnd", "(I)Z"⟩, 20), (⟨"MovedLinesModel", "many", "(I)I"⟩, 20), (⟨"MovedLinesModel", "laysAll", "()V"⟩, 20), (⟨"MovedLinesModel", "goesInto", "(IIIIZ)V"⟩, 20), (⟨"MovedLinesModel", "areAlike", "(II)Z"⟩, 20), (⟨"MovedLinesModel", "areAlike", "(IIII)Z"⟩, 20)]
theorem lw_r2 : ∀ q ∈ lw_privs_2, lw_okq q := List.forall_mem_cons.mpr ⟨lw_p16, List.forall_mem_cons.mpr ⟨lw_p17, List.forall_mem_cons.mpr ⟨lw_p18, List.forall_mem_cons.mpr ⟨lw_p19, List.forall_mem_cons.mpr ⟨lw_p20, List.forall_mem_cons.mpr ⟨lw_p21, List.forall_mem_cons.mpr ⟨lw_p22, List.forall_mem_cons.mpr ⟨lw_p23, List.forall_mem_cons.mpr ⟨lw_p24, List.forall_mem_cons.mpr ⟨lw_p25, List.forall_mem_cons.mpr ⟨lw_p26, List.forall_mem_cons.mpr ⟨lw_p27, List.forall_mem_cons.mpr ⟨lw_p28, List.forall_mem_cons.mpr ⟨lw_p29, List.forall_mem_cons.mpr ⟨lw_p30, List.forall_mem_cons.mpr ⟨lw_p31, fun _ h => absurd h List.not_mem_nil⟩⟩⟩⟩⟩⟩⟩⟩⟩⟩⟩⟩⟩⟩⟩⟩
theorem lw_p32 : lw_okq (⟨"MovedLinesModel", "wordsOf", "(II)I"⟩, 20) := ⟨⟨by decide +kernel, by decide +kernel⟩, List.mem_of_getElem? (i := 731) (by decide +kernel), List.mem_of_getElem? (i := 861) (by decide +kernel), List.mem_of_getElem? (i := 862) (by decide +kernel)⟩
theorem lw_p33 : lw_okq (⟨"MovedLinesModel", "word", "(III)I"⟩, 20) := ⟨⟨by decide +kernel, by decide +kernel⟩, List.mem_of_getElem? (i := 731) (by decide +kernel), List.mem_of_getElem? (i := 868) (by decide +kernel), List.mem_of_getElem? (i := 869) (by decide +kernel)⟩
theorem lw_p34 : lw_okq (⟨"MovedLinesModel", "couples", "(III)V"⟩, 20) := ⟨⟨by decide +kernel, by decide +kernel⟩, List.mem_of_getElem? (i := 731) (by decide +kernel), List.mem_of_getElem? (i := 872) (by decide +kernel), List.mem_of_getElem? (i := 873) (by decide +kernel)⟩
theorem lw_p35 : lw_okq (⟨"MovedLinesModel", "anchorOf", "(IIIII)I"⟩, 20) := ⟨⟨by decide +kernel, by decide +kernel⟩, List.mem_of_getElem? (i := 731) (by decide +kernel), List.mem_of_getElem? (i := 876) (by decide +kernel), List.mem_of_getElem? (i := 877) (by decide +kernel)⟩
theorem lw_p36 : lw_okq (⟨"MovedLinesModel", "laysBlocks", "()V"⟩, 20) := ⟨⟨by decide +kernel, by decide +kernel⟩, List.mem_of_getElem? (i := 731) (by decide +kernel), List.mem_of_getElem? (i := 880) (by decide +kernel), List.mem_of_getElem? (i := 881) (by decide +kernel)⟩
theorem lw_p37 : lw_okq (⟨"MovedLinesModel", "blockFrom", "(II)I"⟩, 20) := ⟨⟨by decide +kernel, by decide +kernel⟩, List.mem_of_getElem? (i := 731) (by decide +kernel), List.mem_of_getElem? (i := 884) (by decide +kernel), List.mem_of_getElem? (i := 885) (by decide +kernel)⟩
theorem lw_p38 : lw_okq (⟨"MovedLinesModel", "isLoose", "(II)Z"⟩, 20) := ⟨⟨by decide +kernel, by decide +kernel⟩, List.mem_of_getElem? (i := 731) (by decide +kernel), List.mem_of_getElem? (i := 888) (by decide +kernel), List.mem_of_getElem? (i := 889) (by decide +kernel)⟩
theorem lw_p39 : lw_okq (⟨"MovedLinesModel", "laysEdits", "()V"⟩, 20) := ⟨⟨by decide +kernel, by decide +kernel⟩, List.mem_of_getElem? (i := 731) (by decide +kernel), List.mem_of_getElem? (i := 892) (by decide +kernel), List.mem_of_getElem? (i := 893) (by decide +kernel)⟩
theorem lw_p40 : lw_okq (⟨"MovedLinesModel", "sharedOf", "(II)I"⟩, 20) := ⟨⟨by decide +kernel, by decide +kernel⟩, List.mem_of_getElem? (i := 731) (by decide +kernel), List.mem_of_getElem? (i := 896) (by decide +kernel), List.mem_of_getElem? (i := 897) (by decide +kernel)⟩
theorem lw_p41 : lw_okq (⟨"MovedLinesModel", "having", "(II)I"⟩, 20) := ⟨⟨by decide +kernel, by decide +kernel⟩, List.mem_of_getElem? (i := 731) (by decide +kernel), List.mem_of_getElem? (i := 900) (by decide +kernel), List.mem_of_getElem? (i := 901) (by decide +kernel)⟩
theorem lw_p42 : lw_okq (⟨"MovedLinesModel", "isLine", "(II)Z"⟩, 20) := ⟨⟨by decide +kernel, by decide +kernel⟩, List.mem_of_getElem? (i := 731) (by decide +kernel), List.mem_of_getElem? (i := 908) (by decide +kernel), List.mem_of_getElem? (i := 909) (by decide +kernel)⟩
theorem lw_p43 : lw_okq (⟨"MovedLinesModel", "refuse", "()I"⟩, 20) := ⟨⟨by decide +kernel, by decide +kernel⟩, List.mem_of_getElem? (i := 731) (by decide +kernel), List.mem_of_getElem? (i := 912) (by decide +kernel), List.mem_of_getElem? (i := 913) (by decide +kernel)⟩
theorem lw_p44 : lw_okq (⟨"MovedLinesModel", "areLines", "(II)Z"⟩, 20) := ⟨⟨by decide +kernel, by decide +kernel⟩, List.mem_of_getElem? (i := 731) (by decide +kernel), List.mem_of_getElem? (i := 931) (by decide +kernel), List.mem_of_getElem? (i := 932) (by decide +kernel)⟩
theorem lw_p45 : lw_okq (⟨"MovedLinesModel", "copiesLine", "(II)V"⟩, 20) := ⟨⟨by decide +kernel, by decide +kernel⟩, List.mem_of_getElem? (i := 731) (by decide +kernel), List.mem_of_getElem? (i := 955) (by decide +kernel), List.mem_of_getElem? (i := 956) (by decide +kernel)⟩
theorem lw_p46 : lw_okq (⟨"MovedLinesModel", "snap", "()V"⟩, 20) := ⟨⟨by decide +kernel, by decide +kernel⟩, List.mem_of_getElem? (i := 731) (by decide +kernel), List.mem_of_getElem? (i := 963) (by decide +kernel), List.mem_of_getElem? (i := 964) (by decide +kernel)⟩
theorem lw_p47 : lw_okq (⟨"MovedLinesModel", "opens", "(II)V"⟩, 20) := ⟨⟨by decide +kernel, by decide +kernel⟩, List.mem_of_getElem? (i := 731) (by decide +kernel), List.mem_of_getElem? (i := 967) (by decide +kernel), List.mem_of_getElem? (i := 968) (by decide +kernel)⟩
def lw_privs_3 : List (MethodName × Nat) := [(⟨"MovedLinesModel", "wordsOf", "(II)I"⟩, 20), (⟨"MovedLinesModel", "word", "(III)I"⟩, 20), (⟨"MovedLinesModel", "couples", "(III)V"⟩, 20), (⟨"MovedLinesModel", "anchorOf", "(IIIII)I"⟩, 20), (⟨"MovedLinesModel", "laysBlocks", "()V"⟩, 20), (⟨"MovedLinesModel", "blockFrom", "(II)I"⟩, 20), (⟨"MovedLinesModel", "isLoose", "(II)Z"⟩, 20), (⟨"MovedLinesModel", "laysEdits", "()V"⟩, 20), (⟨"MovedLinesModel", "sharedOf", "(II)I"⟩, 20), (⟨"MovedLinesModel", "having", "(II)I"⟩, 20), (⟨"MovedLinesModel", "isLine", "(II)Z"⟩, 20), (⟨"MovedLinesModel", "refuse", "()I"⟩, 20), (⟨"MovedLinesModel", "areLines", "(II)Z"⟩, 20), (⟨"MovedLinesModel", "copiesLine", "(II)V"⟩, 20), (⟨"MovedLinesModel", "snap", "()V"⟩, 20), (⟨"MovedLinesModel", "opens", "(II)V"⟩, 20)]
theorem lw_r3 : ∀ q ∈ lw_privs_3, lw_okq q := List.forall_mem_cons.mpr ⟨lw_p32, List.forall_mem_cons.mpr ⟨lw_p33, List.forall_mem_cons.mpr ⟨lw_p34, List.forall_mem_cons.mpr ⟨lw_p35, List.forall_mem_cons.mpr ⟨lw_p36, List.forall_mem_cons.mpr ⟨lw_p37, List.forall_mem_cons.mpr ⟨lw_p38, List.forall_mem_cons.mpr ⟨lw_p39, List.forall_mem_cons.mpr ⟨lw_p40, List.forall_mem_cons.mpr ⟨lw_p41, List.forall_mem_cons.mpr ⟨lw_p42, List.forall_mem_cons.mpr ⟨lw_p43, List.forall_mem_cons.mpr ⟨lw_p44, List.forall_mem_cons.mpr ⟨lw_p45, List.forall_mem_cons.mpr ⟨lw_p46, List.forall_mem_cons.mpr ⟨lw_p47, fun _ h => absurd h List.not_mem_nil⟩⟩⟩⟩⟩⟩⟩⟩⟩⟩⟩⟩⟩⟩⟩⟩
theorem lw_p48 : lw_okq (⟨"MovedLinesModel", "laysRead", "(II)V"⟩, 20) := ⟨⟨by decide +kernel, by decide +kernel⟩, List.mem_of_getElem? (i := 731) (by decide +kernel), List.mem_of_getElem? (i := 971) (by decide +kernel), List.mem_of_getElem? (i := 972) (by decide +kernel)⟩
theorem lw_p49 : lw_okq (⟨"MovedLinesModel", "closes", "(II)V"⟩, 20) := ⟨⟨by decide +kernel, by decide +kernel⟩, List.mem_of_getElem? (i := 731) (by decide +kernel), List.mem_of_getElem? (i := 983) (by decide +kernel), List.mem_of_getElem? (i := 984) (by decide +kernel)⟩
def lw_privs_4 : List (MethodName × Nat) := [(⟨"MovedLinesModel", "laysRead", "(II)V"⟩, 20), (⟨"MovedLinesModel", "closes", "(II)V"⟩, 20)]
theorem lw_r4 : ∀ q ∈ lw_privs_4, lw_okq q := List.forall_mem_cons.mpr ⟨lw_p48, List.forall_mem_cons.mpr ⟨lw_p49, fun _ h => absurd h List.not_mem_nil⟩⟩
def lw_privs : List (MethodName × Nat) := lw_privs_1 ++ (lw_privs_2 ++ (lw_privs_3 ++ (lw_privs_4)))
def lw_tbl : List Cond := k2_sels lw_privs ++ tables_1
theorem lw_privs_ok : ∀ q ∈ lw_privs, lw_okq q := by
  show ∀ q ∈ lw_privs_1 ++ (lw_privs_2 ++ (lw_privs_3 ++ (lw_privs_4))), lw_okq q
  exact List.forall_mem_append.mpr ⟨lw_r1, List.forall_mem_append.mpr ⟨lw_r2, List.forall_mem_append.mpr ⟨lw_r3, lw_r4⟩⟩⟩
end
section
/-- an array class over an array type is there -/
def va_AOA (ty : FieldType) (U : State) : Prop := (Cond.arrayOver (.array ty)).before #[] U = true
theorem va_AOA.of {ty : FieldType} {A : Array Value} {U : State} (h : (Cond.arrayOver (.array ty)).before A U = true) : va_AOA ty U := h
theorem va_AOA.use {ty : FieldType} {A : Array Value} {U : State} (h : va_AOA ty U) : (Cond.arrayOver (.array ty)).before A U = true := h
end
section
/-! ===== BEGIN words of one list among another's, by their places ===== -/
theorem goodIn_r {big : List Cond} (ws : List Cond) (ps : List Nat) (hp : ws = ps.filterMap (fun i => big[i]?)) (h : ws.all goodWord = true) : GoodIn big ws := by
  intro w hw
  have h1 := List.all_eq_true.mp h w hw
  rw [hp] at hw
  obtain ⟨i, -, hi⟩ := List.mem_filterMap.mp hw
  have hm : w ∈ big := by first | exact List.mem_of_getElem? hi | exact List.getElem?_mem hi
  exact ⟨hm, good_of_word h1⟩
theorem goodIn_app {big a b : List Cond} (ha : GoodIn big a) (hb : GoodIn big b) : GoodIn big (a ++ b) := fun w h => (List.mem_append.mp h).elim (ha w) (hb w)
theorem goodIn_ca {big a b : List Cond} {c : Cond} (ha : GoodIn big (c :: a)) (hb : GoodIn big b) : GoodIn big (c :: (a ++ b)) := fun w h => (List.mem_cons.mp h).elim (fun e => ha w (List.mem_cons.mpr (Or.inl e))) (fun h => (List.mem_append.mp h).elim (fun h => ha w (List.mem_cons.mpr (Or.inr h))) (hb w))
theorem goodIn_sub {big ws : List Cond} (hm : ∀ w ∈ ws, w ∈ big) (h : ws.all goodWord = true) : GoodIn big ws := fun w hw => ⟨hm w hw, good_of_word (List.all_eq_true.mp h w hw)⟩
/-! ===== END ===== -/

/-! ===== BEGIN new T[n][m]: the outer array a place, the inner ones among the pooled ===== -/
/-- f, but v at every address of l -/
def vr_up {α : Type} (f : Nat → α) (l : List Nat) (v : α) : Nat → α := fun a => if a ∈ l then v else f a
theorem vr_up_in {α : Type} {f : Nat → α} {l : List Nat} {v : α} {a : Nat} (h : a ∈ l) : vr_up f l v a = v := if_pos h
theorem vr_up_ne {α : Type} {f : Nat → α} {l : List Nat} {v : α} {a : Nat} (h : a ∉ l) : vr_up f l v a = f a := if_neg h
theorem vr_rows {L l : List Nat} {f : Nat → va_E} {e : va_E} (h : ∀ a, a ∈ l → a ∉ L) : va_pl L f ++ l.map (fun a => (a, e)) = va_pl (L ++ l) (vr_up f l e) := by
  unfold va_pl
  rw [List.map_append]
  congr 1
  · apply List.map_congr_left
    intro a ha
    rw [vr_up_ne (fun q => h a q ha)]
  · apply List.map_congr_left
    intro a ha
    rw [vr_up_in ha]
theorem vr_lay {X rows : va_W} {x : Nat × va_E} {pl : va_W} {D : va_G} {cl : List vw_C} {H : Heap} (hP : va_P D cl (((X ++ pl) ++ [x]) ++ rows) H) : va_P D cl ((X ++ [x]) ++ (pl ++ rows)) H := by
  rw [List.append_assoc (X ++ pl)] at hP
  have h := va_P.swap hP
  rw [← List.append_assoc X] at h
  have h2 := va_P.swap h
  rw [List.append_assoc (X ++ [x])] at h2
  exact h2
theorem vr_layD {X rows : va_W} {x : Nat × va_E} {pl : va_W} {A : Nat → Prop} (hD : va_D A (((X ++ pl) ++ [x]) ++ rows)) : va_D A ((X ++ [x]) ++ (pl ++ rows)) := by
  rw [List.append_assoc (X ++ pl)] at hD
  have h := va_D.swap hD
  rw [← List.append_assoc X] at h
  have h2 := va_D.swap h
  rw [List.append_assoc (X ++ [x])] at h2
  exact h2
theorem vr_outer (c : ClassId) (N h0 : Nat) : ∀ i : Nat, Jvm.Free.Multi.outerC c N h0 i = arrV c N (fun j => va_rf (if j < i then some (h0 + 1 + j) else none))
  | 0 => by
    show ({ cls := c, slots := Array.replicate N .null, vm := .none } : Cell) = _
    rw [arrV_new]
    refine congrArg (arrV c N) (funext fun j => ?_)
    simp [va_rf]
  | i + 1 => by
    show (Jvm.Free.Multi.outerC c N h0 i).setSlot i (.ref (h0 + 1 + i)) = _
    rw [vr_outer c N h0 i, arrV_store]
    refine congrArg (arrV c N) (funext fun j => ?_)
    by_cases e : j = i
    · subst e
      simp [updV, va_rf]
    · by_cases h : j < i
      · simp [updV, e, h, Nat.lt_succ_of_lt h]
      · simp [updV, e, h, show ¬ j < i + 1 by omega]
section VGM
variable {p : Program} {l : Launch} {e : Env} {R : Room} {s : State} {m : MethodId} {args : Array Value} {below : List Frame} {meth : Method} {c : Code} {H : Heap} {locs : List Loc} {cells slots : Nat} {Q : State → Prop}
variable {cc : ByteArray} {pc : Nat} {ls : Array Slot} {rest : List Value} {D : va_G} {cl : List vw_C} {A : Nat → Prop} {a : Nat} {tys : List (ClassId × FieldType)} {ws : va_W} {H0 : Heap}
theorem va_mna {X : va_W} {L : List Nat} {f : Nat → va_E} {cc : ByteArray} (hexec : p.tables.exec = Jvm.exec) (hb : c.code = cc) {own : String} {index : Nat} {ty : FieldType} {cy : ClassId} (hown : s.vm.findClass own = some m.cls) (hclink : (Cond.classLink own index ("[" ++ (FieldType.array ty).toString)).before args s = true) (hover : va_AOA ty s) (harr : (Cond.arrayClass ty).before args s = true) (hcy : s.vm.findClass (FieldType.array ty).toString = some cy)
    (hK : va_K D cl tys s) (hP : va_P D cl (X ++ va_pl L f) H) (hD : va_D A (X ++ va_pl L f)) (hS : va_S A H0 H locs) (hA : ∀ q, H0.size ≤ q → A q) {n k : Int32} {N' K' : Nat} {z : vp_A} (hn : ¬ n < 0) (hk : ¬ k < 0) (hN : n.toNatClampNeg = N') (hM : k.toNatClampNeg = K')
    (hb1 : N' * 4 ≤ 536870912) (hb2 : K' * componentBytes ty ≤ 536870912) (hb3 : K' ≤ 536870912) (hdf : fits ty (defaultValue ty) = true) (hdd : (defaultValue ty).isDefault = true) (hcells : cells + (1 + N') ≤ R.cells) (hslots : slots + (N' + N' * K') ≤ R.slots) (hz : ∀ c : ClassId, Jvm.Free.Multi.innerC c K' (defaultValue ty) = vp_cell c z) (hdg : decode cc pc = .ok (.multianewarray index 2, 4))
    (kk : ∀ (q : Nat) (r : Nat → Nat) (cA : ClassId) (H1 : Heap), (∀ i j : Nat, i < N' → j < N' → r i = r j → i = j) → (∀ i : Nat, i < N' → r i ∉ L) → va_K D cl (tys ++ [(cA, .array ty)]) s →
      va_P D cl ((X ++ [(q, .inl (cA, N', .inr (.inr (.inr (.inr (fun i => if i < N' then some (r i) else none))))))]) ++ va_pl (L ++ (List.range N').map r) (vr_up f ((List.range N').map r) (.inl (cy, z)))) H1 → va_D A ((X ++ [(q, .inl (cA, N', .inr (.inr (.inr (.inr (fun i => if i < N' then some (r i) else none))))))]) ++ va_pl (L ++ (List.range N').map r) (vr_up f ((List.range N').map r) (.inl (cy, z)))) → va_S A H0 H1 locs →
      W p l e R s m args below meth c H1 locs (cells + 1 + N') (slots + N' + N' * K') Q (F0 m (pc + 4) ls (.ref q :: rest))) : W p l e R s m args below meth c H locs cells slots Q (F0 m pc ls (.int k :: .int n :: rest)) := by
  subst hN
  subst hM
  intro T hT Xs
  obtain ⟨vm₁, cA, comp, -, fA, fC, hO, -, X', step⟩ := Xs.multianewarray2F hexec hown hclink (va_AOA.use hover) harr (g := F0 m pc ls (.int k :: .int n :: rest)) rfl (by rw [hb]; exact hdg) rfl hn hk hb1 hb2 hb3 hdf hdd hcells hslots
  have ec : some cy = some comp := hcy.symm.trans fC
  cases ec
  generalize hF : Jvm.Free.Multi.fill (T.setVm vm₁) cA cy n.toNatClampNeg k.toNatClampNeg (defaultValue ty) n.toNatClampNeg = F at X' step
  have hTh : (T.setVm vm₁).heap = H := hT
  obtain ⟨f1, f2, -, -⟩ := Jvm.Free.Multi.fill_facts (T.setVm vm₁) cA cy n.toNatClampNeg k.toNatClampNeg (defaultValue ty) n.toNatClampNeg
  rw [hF, hTh] at f1 f2
  have hold : ∀ x : Nat, x < H.size → F.heap[x]? = H[x]? := fun x hx => by
    have := Jvm.Free.Multi.fill_old (T.setVm vm₁) cA cy n.toNatClampNeg k.toNatClampNeg (defaultValue ty) (a := x) (by rw [hTh]; exact hx) n.toNatClampNeg
    rw [hF, hTh] at this
    exact this
  have hrow : ∀ j : Nat, j < n.toNatClampNeg → F.heap[H.size + 1 + j]? = some (vp_cell cy z) := fun j hj => by
    have := Jvm.Free.Multi.fill_inner (T.setVm vm₁) cA cy n.toNatClampNeg k.toNatClampNeg (defaultValue ty) n.toNatClampNeg j hj
    rw [hF, hTh, hz] at this
    exact this
  have hout : Jvm.Free.Multi.outerC cA n.toNatClampNeg H.size n.toNatClampNeg = vp_cell cA (n.toNatClampNeg, .inr (.inr (.inr (.inr (fun i => if i < n.toNatClampNeg then some (H.size + 1 + i) else none))))) := by
    rw [vp_cell_q]
    exact vr_outer cA n.toNatClampNeg H.size n.toNatClampNeg
  rw [hout] at f2
  have hlt : ∀ a, a ∈ L → a < H.size := fun a ha => by
    obtain ⟨k9, hk9⟩ := va_pl_get (X := X) (f := f) ha
    exact (hP k9 _ hk9).lt
  have hnl : ∀ i : Nat, i < n.toNatClampNeg → H.size + 1 + i ∉ L := fun i _ h => by
    have := hlt _ h
    omega
  have hnm : ∀ a, a ∈ (List.range n.toNatClampNeg).map (fun i => H.size + 1 + i) → a ∉ L := fun a ha h => by
    obtain ⟨i, -, rfl⟩ := List.mem_map.mp ha
    have := hlt _ h
    omega
  have hP0 : va_P D cl (X ++ va_pl L f) F.heap := hP.kept (fun k9 x hx => hold x.1 ((hP k9 x hx).lt))
  have hP1 : va_P D cl ((X ++ va_pl L f) ++ [(H.size, .inl (cA, n.toNatClampNeg, .inr (.inr (.inr (.inr (fun i => if i < n.toNatClampNeg then some (H.size + 1 + i) else none))))))]) F.heap := hP0.app (fun k9 x hx => by
    have h0 : k9 < 1 := (List.getElem?_eq_some_iff.mp hx).1
    rw [show k9 = 0 by omega] at hx
    cases hx
    exact f2)
  have hP2 : va_P D cl (((X ++ va_pl L f) ++ [(H.size, .inl (cA, n.toNatClampNeg, .inr (.inr (.inr (.inr (fun i => if i < n.toNatClampNeg then some (H.size + 1 + i) else none))))))]) ++ ((List.range n.toNatClampNeg).map (fun i => H.size + 1 + i)).map (fun a => (a, .inl (cy, z)))) F.heap := hP1.app (fun k9 x hx => by
    obtain ⟨a, ha, rfl⟩ := List.mem_map.mp (List.mem_of_getElem? hx)
    obtain ⟨i, hi, rfl⟩ := List.mem_map.mp ha
    exact hrow i (List.mem_range.mp hi))
  have hD2 : va_D A (((X ++ va_pl L f) ++ [(H.size, .inl (cA, n.toNatClampNeg, .inr (.inr (.inr (.inr (fun i => if i < n.toNatClampNeg then some (H.size + 1 + i) else none))))))]) ++ ((List.range n.toNatClampNeg).map (fun i => H.size + 1 + i)).map (fun a => (a, .inl (cy, z)))) := by
    have hD1 := hD.push (e := .inl (cA, n.toNatClampNeg, .inr (.inr (.inr (.inr (fun i => if i < n.toNatClampNeg then some (H.size + 1 + i) else none)))))) hP rfl (hA _ hS.1)
    generalize hW1 : (X ++ va_pl L f) ++ [(H.size, .inl (cA, n.toNatClampNeg, .inr (.inr (.inr (.inr (fun i => if i < n.toNatClampNeg then some (H.size + 1 + i) else none))))))] = W1 at hD1 hP1 ⊢
    have hle : ∀ (k9 : Nat) (x : Nat × va_E), W1[k9]? = some x → x.1 ≤ H.size := fun k9 x hx => by
      rw [← hW1] at hx
      by_cases hl : k9 < (X ++ va_pl L f).length
      · rw [List.getElem?_append_left hl] at hx
        exact Nat.le_of_lt ((hP k9 x hx).lt)
      · rw [List.getElem?_append_right (by omega)] at hx
        have h0 : k9 - (X ++ va_pl L f).length < 1 := (List.getElem?_eq_some_iff.mp hx).1
        rw [show k9 - (X ++ va_pl L f).length = 0 by omega] at hx
        cases hx
        exact Nat.le_refl _
    have hr : ∀ (k9 : Nat) (x : Nat × va_E), (((List.range n.toNatClampNeg).map (fun i => H.size + 1 + i)).map (fun a => ((a, .inl (cy, z)) : Nat × va_E)))[k9]? = some x → x.1 = H.size + 1 + k9 := fun k9 x hx => by
      rw [List.getElem?_map, List.getElem?_map] at hx
      by_cases h9 : k9 < n.toNatClampNeg
      · rw [List.getElem?_range h9] at hx
        cases hx
        rfl
      · have hn0 : (List.range n.toNatClampNeg)[k9]? = none := List.getElem?_eq_none (by rw [List.length_range]; omega)
        rw [hn0] at hx
        cases hx
    refine ⟨fun i j x y hi hj hxy => ?_, fun k9 x hx => ?_⟩
    · by_cases h1 : i < W1.length <;> by_cases h2 : j < W1.length
      · rw [List.getElem?_append_left h1] at hi
        rw [List.getElem?_append_left h2] at hj
        exact hD1.1 i j x y hi hj hxy
      · rw [List.getElem?_append_left h1] at hi
        rw [List.getElem?_append_right (by omega)] at hj
        have := hle _ _ hi
        have := hr _ _ hj
        omega
      · rw [List.getElem?_append_right (by omega)] at hi
        rw [List.getElem?_append_left h2] at hj
        have := hle _ _ hj
        have := hr _ _ hi
        omega
      · rw [List.getElem?_append_right (by omega)] at hi hj
        have := hr _ _ hi
        have := hr _ _ hj
        omega
    · by_cases h1 : k9 < W1.length
      · rw [List.getElem?_append_left h1] at hx
        exact hD1.2 k9 x hx
      · rw [List.getElem?_append_right (by omega)] at hx
        have := hr _ _ hx
        exact hA _ (by have := hS.1; omega)
  have hAr : ArrOfT s cA (.array ty) := fun N9 z9 => by
    obtain ⟨-, k9, hk9, cm9, hkk9⟩ := (hO 0 0 0).1
    exact ⟨(fun q hq => by cases hq), k9, hk9, cm9, hkk9⟩
  have hK2 : va_K D cl (tys ++ [(cA, .array ty)]) s := ⟨hK.1, fun k9 x hx => by
    by_cases hl : k9 < tys.length
    · rw [List.getElem?_append_left hl] at hx
      exact hK.2 k9 x hx
    · rw [List.getElem?_append_right (by omega)] at hx
      have h0 : k9 - tys.length < 1 := (List.getElem?_eq_some_iff.mp hx).1
      rw [show k9 - tys.length = 0 by omega] at hx
      cases hx
      exact ⟨hAr, fA⟩⟩
  obtain ⟨t, a1, b1⟩ := kk H.size (fun i => H.size + 1 + i) cA F.heap (fun i j _ _ h => by have h9 : H.size + 1 + i = H.size + 1 + j := h; omega) hnl hK2 (by rw [← vr_rows hnm]; exact vr_lay hP2) (by rw [← vr_rows hnm]; exact vr_layD hD2) ⟨by rw [f1]; have := hS.1; omega, fun x h1 h2 => (hold x (Nat.lt_of_lt_of_le h1 hS.1)).trans (hS.2.1 x h1 h2), hS.2.2⟩ F rfl X'
  refine ⟨t, step t ?_, b1⟩
  have e : T.heap.size = H.size := by rw [hT]
  rw [e]
  exact a1
end VGM
/-! ===== END ===== -/

/-! ===== BEGIN exceptions that leave a method, and their catching by the caller (launches without stack traces) ===== -/
section VXA
/-! The laws vx_back, vx_callV, vx_callS, vx_callSW, vx_throw0, vx_throwS follow proofs of the library, with one case more: JvmDerived/Free/Laws.lean (Back.of_free), Shelf42/LK1.lean (callV, callS), Shelf/KitTraced.lean (throwNew0V, throwNewS). -/
/-- where a method has thrown q: the class by its name, the cell, what was written, the world -/
def vx_T (XC : String → State → State → Prop) (st : State) (q : Addr) (t : State) (mc ms : Nat) (free : Addr → Prop) : Prop :=
  ∃ (E : String) (ce : Cell) (L : List Loc), XC E st t ∧ t.heap[q]? = some ce ∧ ce.vm = .none ∧ st.vm.findClass E = some ce.cls ∧ st.WarmedH t.vm ∧ st.sameButNew ({ t with vm := st.vm } : State) L mc ms ∧ ∀ z ∈ L, free z.base
def vx_Q (Qc : Array Value → State → Outcome → State → Prop) (XC : String → State → State → Prop) (mc ms : Nat) (free : Addr → Prop) : Array Value → State → Outcome → State → Prop := fun a st o t =>
  (Qc a st o t ∧ ∃ L, FrameEnd st o t L mc ms ∧ ∀ q ∈ L, free q.base) ∨ ∃ q, o = .threw q ∧ vx_T XC st q t mc ms free
/-- a callee that returns or throws -/
def vx_Met (l : Launch) (y : MethodName) (ws : List Cond) (rm : Room) (Pc : Array Value → State → Prop) (Qc : Array Value → State → Outcome → State → Prop) (XC : String → State → State → Prop) (mc ms : Nat) (free : Addr → Prop) : Prop :=
  MetFree l y (headSpec ws rm) Pc (fun _ _ _ _ _ => True) (vx_Q Qc XC mc ms free)
def vx_Post (XC : String → State → State → Prop) (mc ms : Nat) (free : Addr → Prop) : Pt → Array Value → Addr → Pt → Prop := fun A a q B =>
  ∃ (g : JFrame) (mk : MethodId) (t : State) (L : List Loc) (E : String) (ce : Cell), B.U.heap = t.heap ∧ B.U.vm = t.vm ∧ XC E (A.U.calling g mk a) t ∧ t.heap[q]? = some ce ∧ ce.vm = .none ∧ A.U.vm.findClass E = some ce.cls ∧ B.locs = A.locs ++ L ∧ (∀ z ∈ L, free z.base) ∧ B.cells = A.cells + mc ∧ B.slots = A.slots + ms
def vx_Back (l : Launch) (R : Room) (p : Program) (e : Env) (below : List Frame) (s : State) (sargs : Array Value) (y : MethodName) (len W9 : Nat)
    (Pre : Pt → Array Value → Prop) (Post : Pt → Array Value → Option Value → Pt → Prop) (PostX : Pt → Array Value → Addr → Pt → Prop) : Prop :=
  ∀ (m : MethodId) (meth : Method) (c : Code) (A : Pt) (g : JFrame) (ig : Instr) (mk : MethodId) (a : Array Value),
    Stand p l e R s m sargs below meth c A.U A.locs A.cells A.slots → g.method = m → g.locals.size = c.maxLocals → decode c.code g.pc = .ok (ig, len) →
    2 * g.monitorRoom + (g.stack.map fun v => v.category).sum ≤ W9 → A.U.methodNamed? y = some mk → Pre A a →
    (∃ (v : Option Value) (B : Pt), Stand p l e R s m sargs below meth c B.U B.locs B.cells B.slots ∧ Post A a v B ∧
      Steps p.tables e below (doInvoke e (A.U.setTop g) [] mk a).1 (B.U.setTop { g with pc := g.pc + len, stack := v.toList ++ g.stack })) ∨
    (∃ (q : Addr) (B : Pt), Stand p l e R s m sargs below meth c B.U B.locs B.cells B.slots ∧ PostX A a q B ∧
      Steps p.tables e below (doInvoke e (A.U.setTop g) [] mk a).1 ((B.U.setTop g).pushFrame (.throwing q)))
section Payer
variable {l : Launch} {R : Room} {p : Program} {e : Env} {below : List Frame} {s : State} {sargs : Array Value} {y : MethodName} {len W9 : Nat}
theorem vx_back {ws : List Cond} {rm : Room} {Pc : Array Value → State → Prop} {Qc : Array Value → State → Outcome → State → Prop} {XC : String → State → State → Prop} {mc ms : Nat} {free : Addr → Prop} {bytes : ByteArray} {maxL : Nat} {ret : Option FieldType}
    (hM : vx_Met l y ws rm Pc Qc XC mc ms free) (hblind : FrameBlind Pc) (hrc : rm.cells = mc) (hrs : rm.slots = ms)
    (hframes : rm.frames + 1 ≤ R.frames) (hlocals : W9 + (maxL + 11) + rm.locals ≤ R.locals)
    (hws : ∀ w ∈ ws, ∀ a' U, s.WarmedH U.vm → w.before a' U = true) (hcode : Cond.code y bytes maxL ret ∈ ws) (hinit : ∀ a' U, s.WarmedH U.vm → (Cond.initialized y.cls).before a' U = true) :
    vx_Back l R p e below s sargs y len W9 (PreOf R mc ms Pc) (PostOf Qc mc ms free) (vx_Post XC mc ms free) := by
  intro m meth c A g ig mk a X hg hsize hdg hW hn hp
  have h1 : (headSpec ws rm).pre.before a A.U = true := atoms_intro fun w hw => hws w hw _ _ X.warmed
  have h2 : (Cond.code y bytes maxL ret).before a A.U = true := hws _ hcode _ _ X.warmed
  have h3 : (Cond.initialized y.cls).before a A.U = true := hinit _ _ X.warmed
  have h4 : A.cells + (headSpec ws rm).room.cells ≤ R.cells := by rw [show (headSpec ws rm).room.cells = mc from hrc]; exact hp.1
  have h5 : A.slots + (headSpec ws rm).room.slots ≤ R.slots := by rw [show (headSpec ws rm).room.slots = ms from hrs]; exact hp.2.1
  have hPc : Pc a (A.U.calling g mk a) := hblind _ _ _ _ hp.2.2
  obtain ⟨U, Ls, c0, s0⟩ := A
  dsimp only [Pt.U, Pt.locs, Pt.cells, Pt.slots] at h1 h2 h3 h4 h5 X hn hPc ⊢
  obtain ⟨methY, cY, hmY, hcY, -, hlY, -, -, -, -⟩ := Cond.code_spec hn h2
  obtain ⟨kY, hkY, -⟩ := className_of_methodNamed hn
  have hinitY : kY.init = .initialized := Cond.initialized_spec (findClass_of_methodNamed hn) hkY h3
  have h : At U g.method c below := by rw [hg]; exact X.here
  have hlocals9 : W9 + (maxL + 11) + (headSpec ws rm).room.locals ≤ R.locals := hlocals
  have happ : (headSpec ws rm).appliesLoose y e.platform (U.calling g mk a) = true :=
    Spec.appliesLoose_calling (g := g) h hdg hn hkY hinitY
      (X.room_calling (g := g) (R' := (headSpec ws rm).room) hsize hmY hcY hframes (by rw [hlY]; omega) h4 h5) h1
  obtain ⟨mid, hmid⟩ := h.above
  have hfr : (U.setTop g).frames = (.java g :: mid) ++ below := by rw [State.frames_setTop' g h.top, hmid]; rfl
  obtain ⟨o, s₂, hsteps, -, hend, hq⟩ := Steps.callFree hM p X.admits X.cas X.clock (acts := []) hfr happ hPc trivial
  have hq' : vx_Q Qc XC mc ms free a (U.calling g mk a) o s₂ := hq
  rw [State.frames_setTop' g h.top] at hend
  obtain ⟨g₀, hg0⟩ := Option.isSome_iff_exists.mp h.top
  obtain ⟨r, hr⟩ := State.topJava?_eq_some.mp hg0
  have hr' : (({ U with heap := s₂.heap, slotsUsed := s₂.slotsUsed } : State).setVm s₂.vm).frames = .java g₀ :: r := hr
  rcases hq' with ⟨hqc, L, hfe, hL⟩ | ⟨q, rfl, E, ce, L, hx, hce, hcv, hcl, hW₂, hsm, hL⟩
  · obtain ⟨⟨v, rfl⟩, hW₂, e2, q2, q3, q4, q5, q6⟩ := id hfe
    have e3 : s₂ = ({ (U.calling g mk a).setFrames s₂.frames with heap := s₂.heap, slotsUsed := s₂.slotsUsed } : State).setVm s₂.vm := by
      have : s₂ = ({ s₂ with vm := (U.calling g mk a).vm } : State).setVm s₂.vm := rfl
      rw [e2] at this
      exact this
    obtain ⟨c₂, i₂, len₂, hc₂, hd₂, hf₂⟩ := hend
    have hW' : U.WarmedH s₂.vm := hW₂
    have hcc : c₂ = c := by
      have h1 : s₂.code? g.method = U.code? g.method := by
        rw [State.code?_eq, State.code?_eq, hW'.alike.method?]
      exact Option.some.inj (hc₂.symm.trans (h1.trans h.code))
    subst hcc
    have hlen : len₂ = len := by rw [hdg] at hd₂; cases hd₂; rfl
    subst hlen
    have hs₂ : s₂ = (({ U with heap := s₂.heap, slotsUsed := s₂.slotsUsed } : State).setVm s₂.vm).setTop { g with pc := g.pc + len₂, stack := v.toList ++ g.stack } := by
      refine e3.trans ?_
      rw [hf₂, State.calling_eq h.top, State.setFrames_setFrames, State.setTop_of_frames _ hr', hr]
      rfl
    have hsame : U.sameButNew ({ U with heap := s₂.heap, slotsUsed := s₂.slotsUsed } : State) L mc ms := by
      refine ⟨?_, q2, q3, q4, q5, q6⟩
      obtain ⟨t, ht, -⟩ := State.frames_cons hr
      show ({ U with heap := s₂.heap, slotsUsed := s₂.slotsUsed } : State) = { U.setFrames U.frames with heap := s₂.heap, slotsUsed := s₂.slotsUsed }
      rw [State.setFrames_self ht]
    subst hg
    refine Or.inl ⟨v, ⟨(({ U with heap := s₂.heap, slotsUsed := s₂.slotsUsed } : State).setVm s₂.vm), Ls ++ L, c0 + mc, s0 + ms⟩,
      ⟨X.admits, X.cas, X.clock, X.frames, X.room, X.hears, X.method, X.code, (X.here.setHeapUsed s₂.heap s₂.slotsUsed).setVm hW'.alike, X.tail, State.WarmedH.trans X.warmed hW', X.limits, X.bytes, X.same.trans (hsame.setVm s.vm)⟩,
      ⟨g, mk, s₂, L, rfl, rfl, hqc, rfl, hL, rfl, rfl⟩, ?_⟩
    show Steps p.tables e below _ ((({ U with heap := s₂.heap, slotsUsed := s₂.slotsUsed } : State).setVm s₂.vm).setTop { g with pc := g.pc + len₂, stack := v.toList ++ g.stack })
    rw [← hs₂]
    exact hsteps
  · obtain ⟨e2, q2, q3, q4, q5, q6⟩ := id hsm
    have e3 : s₂ = ({ (U.calling g mk a).setFrames s₂.frames with heap := s₂.heap, slotsUsed := s₂.slotsUsed } : State).setVm s₂.vm := by
      have : s₂ = ({ s₂ with vm := (U.calling g mk a).vm } : State).setVm s₂.vm := rfl
      rw [e2] at this
      exact this
    have hf₂ : s₂.frames = .throwing q :: .java g :: U.frames.tail := hend
    have hW' : U.WarmedH s₂.vm := hW₂
    have hs₂ : s₂ = ((({ U with heap := s₂.heap, slotsUsed := s₂.slotsUsed } : State).setVm s₂.vm).setTop g).pushFrame (.throwing q) := by
      refine e3.trans ?_
      rw [hf₂, State.calling_eq h.top, State.setFrames_setFrames, State.pushFrame, State.frames_setTop _ hr', State.setTop_of_frames _ hr', State.setFrames_setFrames, hr]
      rfl
    have hsame : U.sameButNew ({ U with heap := s₂.heap, slotsUsed := s₂.slotsUsed } : State) L mc ms := by
      refine ⟨?_, q2, q3, q4, q5, q6⟩
      obtain ⟨t, ht, -⟩ := State.frames_cons hr
      show ({ U with heap := s₂.heap, slotsUsed := s₂.slotsUsed } : State) = { U.setFrames U.frames with heap := s₂.heap, slotsUsed := s₂.slotsUsed }
      rw [State.setFrames_self ht]
    subst hg
    refine Or.inr ⟨q, ⟨(({ U with heap := s₂.heap, slotsUsed := s₂.slotsUsed } : State).setVm s₂.vm), Ls ++ L, c0 + mc, s0 + ms⟩,
      ⟨X.admits, X.cas, X.clock, X.frames, X.room, X.hears, X.method, X.code, (X.here.setHeapUsed s₂.heap s₂.slotsUsed).setVm hW'.alike, X.tail, State.WarmedH.trans X.warmed hW', X.limits, X.bytes, X.same.trans (hsame.setVm s.vm)⟩,
      ⟨g, mk, s₂, L, E, ce, rfl, rfl, hx, hce, hcv, hcl, rfl, hL, rfl, rfl⟩, ?_⟩
    show Steps p.tables e below _ (((({ U with heap := s₂.heap, slotsUsed := s₂.slotsUsed } : State).setVm s₂.vm).setTop g).pushFrame (.throwing q))
    rw [← hs₂]
    exact hsteps
end Payer
section Calls
variable {p : Program} {l : Launch} {e : Env} {R : Room} {s : State} {m : MethodId} {args : Array Value} {below : List Frame} {meth : Method} {c : Code} {T : State} {locs : List Loc} {cells slots : Nat}
theorem vx_callV (X : Stand p l e R s m args below meth c T locs cells slots) (hexec : p.tables.exec = Jvm.exec) {own C : String} {index : Nat} {y : MethodName} {bytes : ByteArray} {maxL : Nat} {ret : Option FieldType}
    (hown : s.vm.findClass own = some m.cls) (hlink : (Cond.methodLink own index y).before args s = true) (hinst : (Cond.instanceMethod y).before args s = true) (hsel : (Cond.selects C y y).before args s = true)
    (hcode : (Cond.code y bytes maxL ret).before args s = true) (hy : y.cls ≠ "java/lang/invoke/MethodHandle" ∧ y.cls ≠ "java/lang/invoke/VarHandle")
    {W9 : Nat} {Pre : Pt → Array Value → Prop} {Post : Pt → Array Value → Option Value → Pt → Prop} {PostX : Pt → Array Value → Addr → Pt → Prop} (hK : vx_Back l R p e below s args y 3 W9 Pre Post PostX)
    {b : Addr} {cellB : Cell} (hcell : T.heap[b]? = some cellB) (hobj : cellB.vm.isStatics = false) (hcls : s.vm.findClass C = some cellB.cls)
    {g : JFrame} (hg : g.method = m) (hsize : g.locals.size = c.maxLocals) {argsL rest : List Value} (hlen : ∀ sig, parseMethodDescriptor y.desc = some sig → argsL.length = sig.parameters.length)
    (hstack : g.stack = argsL.reverse ++ .ref b :: rest) (hW : 2 * g.monitorRoom + (rest.map fun v => v.category).sum ≤ W9) (hdg : decode c.code g.pc = .ok (.invokevirtual index, 3))
    (hpre : ∀ vm₁, s.WarmedH vm₁ → Pre ⟨T.setVm vm₁, locs, cells, slots⟩ (Value.ref b :: argsL).toArray) :
    (∃ (v : Option Value) (vm₁ : Vm) (B : Pt), s.WarmedH vm₁ ∧ Stand p l e R s m args below meth c B.U B.locs B.cells B.slots ∧ Post ⟨T.setVm vm₁, locs, cells, slots⟩ (Value.ref b :: argsL).toArray v B ∧
      ∀ target, Steps p.tables e below (B.U.setTop { g with pc := g.pc + 3, stack := v.toList ++ rest }) target → Steps p.tables e below (T.setTop g) target) ∨
    (∃ (q : Addr) (vm₁ : Vm) (B : Pt), s.WarmedH vm₁ ∧ Stand p l e R s m args below meth c B.U B.locs B.cells B.slots ∧ PostX ⟨T.setVm vm₁, locs, cells, slots⟩ (Value.ref b :: argsL).toArray q B ∧
      Steps p.tables e below (T.setTop g) ((B.U.setTop { g with stack := rest }).pushFrame (.throwing q))) := by
  obtain ⟨mk, methM, hnamed, hmethM, hstM, habM⟩ := Cond.instanceMethod_spec hinst
  obtain ⟨methM', cM, hmethM', -, -, -, -, -, -, hsigM⟩ := Cond.code_spec hnamed hcode
  cases hmethM.symm.trans hmethM'
  obtain ⟨c2, r2, m2, q1, q2, q3, q4, kP, hkP, hkPi⟩ := Cond.selects_spec hsel
  cases hcls.symm.trans q1
  cases (State.methodFound?_of_named hnamed hy).symm.trans q2
  cases hnamed.symm.trans q3
  have hselP : selectMethod e.platform s.vm cellB.cls mk = .method mk := by rw [Launch.admits_selectMethod X.admits]; exact q4
  obtain ⟨vm₁, X₁, hstep₁⟩ := X.invokevirtual hexec hown hlink hnamed hmethM hstM hkP hkPi hy (a := b) (cell := cellB) hcell
    (fun z h => by rw [h] at hobj; cases hobj) hselP hmethM habM hkP hkPi (g := g) hg (argsL := argsL) (rest := rest) (hlen _ hsigM) hstack hdg
  rcases hK m meth c ⟨T.setVm vm₁, locs, cells, slots⟩ { g with stack := rest } (.invokevirtual index) mk (Value.ref b :: argsL).toArray X₁ hg hsize hdg hW (X₁.named hnamed) (hpre vm₁ X₁.warmed) with ⟨v, B, X', hpost, hsteps⟩ | ⟨q, B, X', hpost, hsteps⟩
  · exact Or.inl ⟨v, vm₁, B, X₁.warmed, X', hpost, fun target h => hstep₁ _ fun acts => by rw [doInvoke_state]; exact hsteps.trans h⟩
  · exact Or.inr ⟨q, vm₁, B, X₁.warmed, X', hpost, hstep₁ _ fun acts => by rw [doInvoke_state]; exact hsteps⟩
theorem vx_callS (X : Stand p l e R s m args below meth c T locs cells slots) (hexec : p.tables.exec = Jvm.exec) {own : String} {index : Nat} {y : MethodName} {bytes : ByteArray} {maxL : Nat} {ret : Option FieldType}
    (hown : s.vm.findClass own = some m.cls) (hlink : (Cond.methodLink own index y).before args s = true) (hstat : (Cond.static y).before args s = true) (hinit : (Cond.initialized y.cls).before args s = true)
    (hcode : (Cond.code y bytes maxL ret).before args s = true) (hy : y.cls ≠ "java/lang/invoke/MethodHandle" ∧ y.cls ≠ "java/lang/invoke/VarHandle")
    {W9 : Nat} {Pre : Pt → Array Value → Prop} {Post : Pt → Array Value → Option Value → Pt → Prop} {PostX : Pt → Array Value → Addr → Pt → Prop} (hK : vx_Back l R p e below s args y 3 W9 Pre Post PostX)
    {g : JFrame} (hg : g.method = m) (hsize : g.locals.size = c.maxLocals) {argsL rest : List Value} (hlen : ∀ sig, parseMethodDescriptor y.desc = some sig → argsL.length = sig.parameters.length)
    (hstack : g.stack = argsL.reverse ++ rest) (hW : 2 * g.monitorRoom + (rest.map fun v => v.category).sum ≤ W9) (hdg : decode c.code g.pc = .ok (.invokestatic index, 3))
    (hpre : ∀ vm₁, s.WarmedH vm₁ → Pre ⟨T.setVm vm₁, locs, cells, slots⟩ argsL.toArray) :
    (∃ (v : Option Value) (vm₁ : Vm) (B : Pt), s.WarmedH vm₁ ∧ Stand p l e R s m args below meth c B.U B.locs B.cells B.slots ∧ Post ⟨T.setVm vm₁, locs, cells, slots⟩ argsL.toArray v B ∧
      ∀ target, Steps p.tables e below (B.U.setTop { g with pc := g.pc + 3, stack := v.toList ++ rest }) target → Steps p.tables e below (T.setTop g) target) ∨
    (∃ (q : Addr) (vm₁ : Vm) (B : Pt), s.WarmedH vm₁ ∧ Stand p l e R s m args below meth c B.U B.locs B.cells B.slots ∧ PostX ⟨T.setVm vm₁, locs, cells, slots⟩ argsL.toArray q B ∧
      Steps p.tables e below (T.setTop g) ((B.U.setTop { g with stack := rest }).pushFrame (.throwing q))) := by
  obtain ⟨mk, hnamed⟩ := Cond.code_named hcode
  obtain ⟨methM, cM, hmethM, -, -, -, -, -, -, hsigM⟩ := Cond.code_spec hnamed hcode
  have hstatic : methM.isStatic = true := Cond.static_spec hnamed hmethM hstat
  obtain ⟨kP, hkP, -⟩ := className_of_methodNamed hnamed
  have hinitP : kP.init = .initialized := Cond.initialized_spec (findClass_of_methodNamed hnamed) hkP hinit
  obtain ⟨vm₁, X₁, hstep₁⟩ := X.invokestatic hexec hown hlink hnamed hmethM hstatic hkP hinitP hy (g := g) hg (argsL := argsL) (rest := rest) (hlen _ hsigM) hstack hdg
  rcases hK m meth c ⟨T.setVm vm₁, locs, cells, slots⟩ { g with stack := rest } (.invokestatic index) mk argsL.toArray X₁ hg hsize hdg hW (X₁.named hnamed) (hpre vm₁ X₁.warmed) with ⟨v, B, X', hpost, hsteps⟩ | ⟨q, B, X', hpost, hsteps⟩
  · exact Or.inl ⟨v, vm₁, B, X₁.warmed, X', hpost, fun target h => hstep₁ _ fun acts => by rw [doInvoke_state]; exact hsteps.trans h⟩
  · exact Or.inr ⟨q, vm₁, B, X₁.warmed, X', hpost, hstep₁ _ fun acts => by rw [doInvoke_state]; exact hsteps⟩
end Calls
theorem vx_cls {s : State} {T : State} {vm₁ : Vm} {E : String} {k : ClassId} (hW : s.WarmedH vm₁) (h : (T.setVm vm₁).vm.findClass E = some k) : s.vm.findClass E = some k := by
  have h1 : vm₁.findClass E = some k := h
  rw [hW.alike.findClass] at h1
  exact h1
/-- the method's frame g, with q thrown over it -/
def vx_W (p : Program) (l : Launch) (e : Env) (R : Room) (s : State) (m : MethodId) (args : Array Value) (below : List Frame) (meth : Method) (c : Code) (H : Heap) (locs : List Loc) (cells slots : Nat) (Q : State → Prop) (g : JFrame) (q : Addr) : Prop :=
  ∀ T : State, T.heap = H → Stand p l e R s m args below meth c T locs cells slots → ∃ t, Steps p.tables e below ((T.setTop g).pushFrame (.throwing q)) t ∧ Q t
def vx_Run (p : Program) (l : Launch) (e : Env) (R : Room) (s : State) (m : MethodId) (args : Array Value) (below : List Frame) (meth : Method) (c : Code) (H : Heap) (locs : List Loc) (cells slots mc ms : Nat) (g : JFrame) (rest : List Value) (Qa : State → Outcome → State → Prop) (XC : String → State → State → Prop) (free : Addr → Prop) : Prop :=
  ∀ T : State, T.heap = H → Stand p l e R s m args below meth c T locs cells slots →
    (∃ (v : Option Value) (st₀ t T' : State) (L : List Loc), st₀.heap = H ∧ Stand p l e R s m args below meth c T' (locs ++ L) (cells + mc) (slots + ms) ∧ (∀ q ∈ L, free q.base) ∧ T'.heap = t.heap ∧ T'.vm = t.vm ∧ Qa st₀ (.returned v) t ∧
      Goes p e below T g T' { g with pc := g.pc + 3, stack := v.toList ++ rest }) ∨
    (∃ (q : Addr) (st₀ t T' : State) (L : List Loc) (E : String) (ce : Cell), st₀.heap = H ∧ Stand p l e R s m args below meth c T' (locs ++ L) (cells + mc) (slots + ms) ∧ (∀ z ∈ L, free z.base) ∧ T'.heap = t.heap ∧ T'.vm = t.vm ∧ XC E st₀ t ∧ t.heap[q]? = some ce ∧ ce.vm = .none ∧ s.vm.findClass E = some ce.cls ∧
      Steps p.tables e below (T.setTop g) ((T'.setTop { g with stack := rest }).pushFrame (.throwing q)))
def vx_X {S : Type} (px : S → Prop) (B : String → S → State → Prop) (A : Nat → Prop) : String → State → State → Prop := fun E st t => ∃ u : S, px u ∧ B E u t ∧ va_F A st t
section Runs
variable {p : Program} {l : Launch} {e : Env} {R : Room} {s : State} {m : MethodId} {args : Array Value} {below : List Frame} {meth : Method} {c : Code} {H : Heap} {locs : List Loc} {cells slots : Nat}
variable {y : MethodName} {bytes cc : ByteArray} {maxL nL mc ms n index : Nat} {ret : Option FieldType} {ws : List Cond} {rm : Room} {Pc : Array Value → State → Prop} {Qc : Array Value → State → Outcome → State → Prop} {XC : String → State → State → Prop} {free : Addr → Prop} {Ts : List Cond} {own C : String} {b : Addr} {As rest : List Value} {g : JFrame}
theorem vx_callBack (cb : CallB R s args own index y bytes maxL ret ws rm mc ms n) (hM : vx_Met l y ws rm Pc Qc XC mc ms free) (hbl : FrameBlind Pc) : vx_Back l R p e below s args y 3 8 (PreOf R mc ms Pc) (PostOf Qc mc ms free) (vx_Post XC mc ms free) := by
  obtain ⟨hrc, hrs, hfr, hlo, hws, hcw, -, hini, -⟩ := cb
  exact vx_back (bytes := bytes) (maxL := maxL) (ret := ret) hM hbl hrc hrs hfr hlo hws hcw (fun a' U hW => word_at hW (Or.inl (by first | rfl | simp [Cond.onTables, Cond.keeps, Cond.steady])) hini)
theorem vx_runV (S : CallFix p m c cc nL s args Ts own) (hM : vx_Met l y ws rm Pc Qc XC mc ms free) (cw : CallW R s args own C index y bytes maxL ret ws rm mc ms n) (hp : PreV s H C b Pc As)
    (hg : g.method = m) (hn : As.length = n) (hsize : g.locals.size = nL) (hstack : g.stack = As.reverse ++ .ref b :: rest) (hW : 2 * g.monitorRoom + (rest.map fun v => v.category).sum ≤ 8) (hdg : decode cc g.pc = .ok (.invokevirtual index, 3)) (hf : cells + mc ≤ R.cells ∧ slots + ms ≤ R.slots) :
    vx_Run p l e R s m args below meth c H locs cells slots mc ms g rest (Qc (Value.ref b :: As).toArray) XC free := by
  have hK : vx_Back l R p e below s args y 3 8 (PreOf R mc ms Pc) (PostOf Qc mc ms free) (vx_Post XC mc ms free) := vx_callBack cw.1 hM hp.1
  obtain ⟨⟨-, -, -, -, -, -, hcode, -, hy, hlen, hl⟩, hin, hse⟩ := cw
  obtain ⟨hx, hb, hml, ho, -⟩ := S
  obtain ⟨-, ⟨cellB, hcB, hoB, hclB⟩, hPc⟩ := hp
  intro T hT X
  rcases vx_callV X hx (C := C) (bytes := bytes) (maxL := maxL) (ret := ret) ho hl hin hse hcode hy hK (by rw [hT]; exact hcB) hoB hclB hg (hsize.trans hml.symm) (argsL := As) (rest := rest) (fun sig h => hn.trans (hlen sig h)) hstack hW (by rw [hb]; exact hdg)
    (fun vm₁ hW₁ => ⟨hf.1, hf.2, hPc (T.setVm vm₁) hT hW₁⟩) with ⟨v, vm₁, ⟨U', l2, c2, s2⟩, hW₁, X', ⟨g', mk, t, L, e1, e2, hq, h1, hL, h2, h3⟩, st⟩ | ⟨q, vm₁, ⟨U', l2, c2, s2⟩, hW₁, X', ⟨g', mk, t, L, E, ce, e1, e2, hq, hce, hcv, hcl, h1, hL, h2, h3⟩, st⟩
  · dsimp only [Pt.U, Pt.locs, Pt.cells, Pt.slots] at X' e1 e2 h1 h2 h3 st
    subst h1; subst h2; subst h3
    exact Or.inl ⟨v, (T.setVm vm₁).calling g' mk (Value.ref b :: As).toArray, t, U', L, hT, X', hL, e1, e2, hq, st⟩
  · dsimp only [Pt.U, Pt.locs, Pt.cells, Pt.slots] at X' e1 e2 h1 h2 h3 st hcl
    subst h1; subst h2; subst h3
    exact Or.inr ⟨q, (T.setVm vm₁).calling g' mk (Value.ref b :: As).toArray, t, U', L, E, ce, hT, X', hL, e1, e2, hq, hce, hcv, vx_cls hW₁ hcl, st⟩
theorem vx_runS (S : CallFix p m c cc nL s args Ts own) (hM : vx_Met l y ws rm Pc Qc XC mc ms free) (cw : CallB R s args own index y bytes maxL ret ws rm mc ms n ∧ (Cond.static y).before args s = true) (hp : PreS s H Pc As)
    (hg : g.method = m) (hn : As.length = n) (hsize : g.locals.size = nL) (hstack : g.stack = As.reverse ++ rest) (hW : 2 * g.monitorRoom + (rest.map fun v => v.category).sum ≤ 8) (hdg : decode cc g.pc = .ok (.invokestatic index, 3)) (hf : cells + mc ≤ R.cells ∧ slots + ms ≤ R.slots) :
    vx_Run p l e R s m args below meth c H locs cells slots mc ms g rest (Qc As.toArray) XC free := by
  have hK : vx_Back l R p e below s args y 3 8 (PreOf R mc ms Pc) (PostOf Qc mc ms free) (vx_Post XC mc ms free) := vx_callBack cw.1 hM hp.1
  obtain ⟨⟨-, -, -, -, -, -, hcode, hini, hy, hlen, hl⟩, hstt⟩ := cw
  obtain ⟨hx, hb, hml, ho, -⟩ := S
  intro T hT X
  rcases vx_callS X hx (bytes := bytes) (maxL := maxL) (ret := ret) ho hl hstt hini hcode hy hK hg (hsize.trans hml.symm) (argsL := As) (rest := rest) (fun sig h => hn.trans (hlen sig h)) hstack hW (by rw [hb]; exact hdg)
    (fun vm₁ hW₁ => ⟨hf.1, hf.2, hp.2 (T.setVm vm₁) hT hW₁⟩) with ⟨v, vm₁, ⟨U', l2, c2, s2⟩, hW₁, X', ⟨g', mk, t, L, e1, e2, hq, h1, hL, h2, h3⟩, st⟩ | ⟨q, vm₁, ⟨U', l2, c2, s2⟩, hW₁, X', ⟨g', mk, t, L, E, ce, e1, e2, hq, hce, hcv, hcl, h1, hL, h2, h3⟩, st⟩
  · dsimp only [Pt.U, Pt.locs, Pt.cells, Pt.slots] at X' e1 e2 h1 h2 h3 st
    subst h1; subst h2; subst h3
    exact Or.inl ⟨v, (T.setVm vm₁).calling g' mk As.toArray, t, U', L, hT, X', hL, e1, e2, hq, st⟩
  · dsimp only [Pt.U, Pt.locs, Pt.cells, Pt.slots] at X' e1 e2 h1 h2 h3 st hcl
    subst h1; subst h2; subst h3
    exact Or.inr ⟨q, (T.setVm vm₁).calling g' mk As.toArray, t, U', L, E, ce, hT, X', hL, e1, e2, hq, hce, hcv, vx_cls hW₁ hcl, st⟩
end Runs
section Rows
variable {p : Program} {l : Launch} {e : Env} {R : Room} {s : State} {m : MethodId} {args : Array Value} {below : List Frame} {meth : Method} {c : Code} {H : Heap} {locs : List Loc} {cells slots : Nat} {Q : State → Prop}
variable {mc ms : Nat} {free : Addr → Prop} {A0 A1 : Nat → Prop} {H0 : Heap} {a : Array Value} {pc : Nat} {ls : Array Slot} {st0 rest : List Value}
theorem vx_keep {st₀ t T' : State} {L : List Loc} (h0 : st₀.heap = H) (e1 : T'.heap = t.heap) (hS : va_S A0 H0 H locs) (hA : ∀ q, q < H.size → A1 q → A0 q) (hf : ∀ q, free q → A0 q) (hL : ∀ q ∈ L, free q.base) (hF : va_F A1 st₀ t) :
    H.size ≤ T'.heap.size ∧ (∀ q : Nat, q < H.size → ¬ A1 q → T'.heap[q]? = H[q]?) ∧ va_S A0 H0 T'.heap (locs ++ L) := by
  obtain ⟨hz, hk⟩ := hF
  rw [h0] at hz hk
  exact ⟨by rw [e1]; exact hz, fun q h1 h2 => by rw [e1]; exact hk q h1 h2,
    ⟨Nat.le_trans hS.1 (by rw [e1]; exact hz), fun q h1 h2 => by rw [e1, hk q (Nat.lt_of_lt_of_le h1 hS.1) (fun z => h2 (hA q (Nat.lt_of_lt_of_le h1 hS.1) z))]; exact hS.2.1 q h1 h2, fun q hq => by
      rcases List.mem_append.mp hq with h | h
      · exact hS.2.2 q h
      · exact hf _ (hL q h)⟩⟩
theorem vx_calli {S SX : Type} {post : Int32 → S → Prop} {px : SX → Prop} {B : S → State → Prop} {BX : String → SX → State → Prop} {AX : Nat → Prop} (hr : vx_Run p l e R s m args below meth c H locs cells slots mc ms (F0 m pc ls st0) rest (va_Qi post B A1 a) (vx_X px BX AX) free) (hS : va_S A0 H0 H locs) (hA : ∀ q, q < H.size → A1 q → A0 q) (hf : ∀ q, free q → A0 q) (hAX : ∀ q, q < H.size → AX q → A0 q)
    (kx : ∀ (E : String) (ce : Cell) (q9 : Addr) (u : SX) (t : State) (H1 : Heap) (locs1 : List Loc), t.heap = H1 → s.vm.Alike t.vm → px u → BX E u t → H.size ≤ H1.size → (∀ q : Nat, q < H.size → ¬ AX q → H1[q]? = H[q]?) → va_S A0 H0 H1 locs1 → H1[q9]? = some ce → ce.vm = .none → s.vm.findClass E = some ce.cls → vx_W p l e R s m args below meth c H1 locs1 (cells + mc) (slots + ms) Q (F0 m pc ls rest) q9)
    (kk : ∀ (r : Int32) (u : S) (t : State) (H1 : Heap) (locs1 : List Loc), t.heap = H1 → s.vm.Alike t.vm → post r u → B u t → H.size ≤ H1.size → (∀ q : Nat, q < H.size → ¬ A1 q → H1[q]? = H[q]?) → va_S A0 H0 H1 locs1 → W p l e R s m args below meth c H1 locs1 (cells + mc) (slots + ms) Q (F0 m (pc + 3) ls (.int r :: rest))) : W p l e R s m args below meth c H locs cells slots Q (F0 m pc ls st0) := by
  intro T hT X
  rcases hr T hT X with ⟨v, st₀, t, T', L, h0, X', hL, e1, e2, ⟨⟨r, u, hv, hp, hb⟩, hF⟩, st⟩ | ⟨q, st₀, t, T', L, E, ce, h0, X', hL, e1, e2, ⟨u, hp, hb, hF⟩, hce, hcv, hcl, st⟩
  · cases hv
    obtain ⟨k1, k2, k3⟩ := vx_keep h0 e1 hS hA hf hL hF
    obtain ⟨t2, a1, b1⟩ := kk r u t T'.heap (locs ++ L) e1.symm (by rw [← e2]; exact X'.warmed.alike) hp hb k1 k2 k3 T' rfl X'
    exact ⟨t2, st t2 a1, b1⟩
  · obtain ⟨k1, k2, k3⟩ := vx_keep h0 e1 hS hAX hf hL hF
    obtain ⟨t2, a1, b1⟩ := kx E ce q u t T'.heap (locs ++ L) e1.symm (by rw [← e2]; exact X'.warmed.alike) hp hb k1 k2 k3 (by rw [e1]; exact hce) hcv hcl T' rfl X'
    exact ⟨t2, st.trans a1, b1⟩
theorem vx_calll {S SX : Type} {post : Int64 → S → Prop} {px : SX → Prop} {B : S → State → Prop} {BX : String → SX → State → Prop} {AX : Nat → Prop} (hr : vx_Run p l e R s m args below meth c H locs cells slots mc ms (F0 m pc ls st0) rest (va_Ql post B A1 a) (vx_X px BX AX) free) (hS : va_S A0 H0 H locs) (hA : ∀ q, q < H.size → A1 q → A0 q) (hf : ∀ q, free q → A0 q) (hAX : ∀ q, q < H.size → AX q → A0 q)
    (kx : ∀ (E : String) (ce : Cell) (q9 : Addr) (u : SX) (t : State) (H1 : Heap) (locs1 : List Loc), t.heap = H1 → s.vm.Alike t.vm → px u → BX E u t → H.size ≤ H1.size → (∀ q : Nat, q < H.size → ¬ AX q → H1[q]? = H[q]?) → va_S A0 H0 H1 locs1 → H1[q9]? = some ce → ce.vm = .none → s.vm.findClass E = some ce.cls → vx_W p l e R s m args below meth c H1 locs1 (cells + mc) (slots + ms) Q (F0 m pc ls rest) q9)
    (kk : ∀ (r : Int64) (u : S) (t : State) (H1 : Heap) (locs1 : List Loc), t.heap = H1 → s.vm.Alike t.vm → post r u → B u t → H.size ≤ H1.size → (∀ q : Nat, q < H.size → ¬ A1 q → H1[q]? = H[q]?) → va_S A0 H0 H1 locs1 → W p l e R s m args below meth c H1 locs1 (cells + mc) (slots + ms) Q (F0 m (pc + 3) ls (.long r :: rest))) : W p l e R s m args below meth c H locs cells slots Q (F0 m pc ls st0) := by
  intro T hT X
  rcases hr T hT X with ⟨v, st₀, t, T', L, h0, X', hL, e1, e2, ⟨⟨r, u, hv, hp, hb⟩, hF⟩, st⟩ | ⟨q, st₀, t, T', L, E, ce, h0, X', hL, e1, e2, ⟨u, hp, hb, hF⟩, hce, hcv, hcl, st⟩
  · cases hv
    obtain ⟨k1, k2, k3⟩ := vx_keep h0 e1 hS hA hf hL hF
    obtain ⟨t2, a1, b1⟩ := kk r u t T'.heap (locs ++ L) e1.symm (by rw [← e2]; exact X'.warmed.alike) hp hb k1 k2 k3 T' rfl X'
    exact ⟨t2, st t2 a1, b1⟩
  · obtain ⟨k1, k2, k3⟩ := vx_keep h0 e1 hS hAX hf hL hF
    obtain ⟨t2, a1, b1⟩ := kx E ce q u t T'.heap (locs ++ L) e1.symm (by rw [← e2]; exact X'.warmed.alike) hp hb k1 k2 k3 (by rw [e1]; exact hce) hcv hcl T' rfl X'
    exact ⟨t2, st.trans a1, b1⟩
theorem vx_callf {S SX : Type} {post : UInt32 → S → Prop} {px : SX → Prop} {B : S → State → Prop} {BX : String → SX → State → Prop} {AX : Nat → Prop} (hr : vx_Run p l e R s m args below meth c H locs cells slots mc ms (F0 m pc ls st0) rest (va_Qf post B A1 a) (vx_X px BX AX) free) (hS : va_S A0 H0 H locs) (hA : ∀ q, q < H.size → A1 q → A0 q) (hf : ∀ q, free q → A0 q) (hAX : ∀ q, q < H.size → AX q → A0 q)
    (kx : ∀ (E : String) (ce : Cell) (q9 : Addr) (u : SX) (t : State) (H1 : Heap) (locs1 : List Loc), t.heap = H1 → s.vm.Alike t.vm → px u → BX E u t → H.size ≤ H1.size → (∀ q : Nat, q < H.size → ¬ AX q → H1[q]? = H[q]?) → va_S A0 H0 H1 locs1 → H1[q9]? = some ce → ce.vm = .none → s.vm.findClass E = some ce.cls → vx_W p l e R s m args below meth c H1 locs1 (cells + mc) (slots + ms) Q (F0 m pc ls rest) q9)
    (kk : ∀ (r : UInt32) (u : S) (t : State) (H1 : Heap) (locs1 : List Loc), t.heap = H1 → s.vm.Alike t.vm → post r u → B u t → H.size ≤ H1.size → (∀ q : Nat, q < H.size → ¬ A1 q → H1[q]? = H[q]?) → va_S A0 H0 H1 locs1 → W p l e R s m args below meth c H1 locs1 (cells + mc) (slots + ms) Q (F0 m (pc + 3) ls (.float r :: rest))) : W p l e R s m args below meth c H locs cells slots Q (F0 m pc ls st0) := by
  intro T hT X
  rcases hr T hT X with ⟨v, st₀, t, T', L, h0, X', hL, e1, e2, ⟨⟨r, u, hv, hp, hb⟩, hF⟩, st⟩ | ⟨q, st₀, t, T', L, E, ce, h0, X', hL, e1, e2, ⟨u, hp, hb, hF⟩, hce, hcv, hcl, st⟩
  · cases hv
    obtain ⟨k1, k2, k3⟩ := vx_keep h0 e1 hS hA hf hL hF
    obtain ⟨t2, a1, b1⟩ := kk r u t T'.heap (locs ++ L) e1.symm (by rw [← e2]; exact X'.warmed.alike) hp hb k1 k2 k3 T' rfl X'
    exact ⟨t2, st t2 a1, b1⟩
  · obtain ⟨k1, k2, k3⟩ := vx_keep h0 e1 hS hAX hf hL hF
    obtain ⟨t2, a1, b1⟩ := kx E ce q u t T'.heap (locs ++ L) e1.symm (by rw [← e2]; exact X'.warmed.alike) hp hb k1 k2 k3 (by rw [e1]; exact hce) hcv hcl T' rfl X'
    exact ⟨t2, st.trans a1, b1⟩
theorem vx_calld {S SX : Type} {post : UInt64 → S → Prop} {px : SX → Prop} {B : S → State → Prop} {BX : String → SX → State → Prop} {AX : Nat → Prop} (hr : vx_Run p l e R s m args below meth c H locs cells slots mc ms (F0 m pc ls st0) rest (va_Qd post B A1 a) (vx_X px BX AX) free) (hS : va_S A0 H0 H locs) (hA : ∀ q, q < H.size → A1 q → A0 q) (hf : ∀ q, free q → A0 q) (hAX : ∀ q, q < H.size → AX q → A0 q)
    (kx : ∀ (E : String) (ce : Cell) (q9 : Addr) (u : SX) (t : State) (H1 : Heap) (locs1 : List Loc), t.heap = H1 → s.vm.Alike t.vm → px u → BX E u t → H.size ≤ H1.size → (∀ q : Nat, q < H.size → ¬ AX q → H1[q]? = H[q]?) → va_S A0 H0 H1 locs1 → H1[q9]? = some ce → ce.vm = .none → s.vm.findClass E = some ce.cls → vx_W p l e R s m args below meth c H1 locs1 (cells + mc) (slots + ms) Q (F0 m pc ls rest) q9)
    (kk : ∀ (r : UInt64) (u : S) (t : State) (H1 : Heap) (locs1 : List Loc), t.heap = H1 → s.vm.Alike t.vm → post r u → B u t → H.size ≤ H1.size → (∀ q : Nat, q < H.size → ¬ A1 q → H1[q]? = H[q]?) → va_S A0 H0 H1 locs1 → W p l e R s m args below meth c H1 locs1 (cells + mc) (slots + ms) Q (F0 m (pc + 3) ls (.double r :: rest))) : W p l e R s m args below meth c H locs cells slots Q (F0 m pc ls st0) := by
  intro T hT X
  rcases hr T hT X with ⟨v, st₀, t, T', L, h0, X', hL, e1, e2, ⟨⟨r, u, hv, hp, hb⟩, hF⟩, st⟩ | ⟨q, st₀, t, T', L, E, ce, h0, X', hL, e1, e2, ⟨u, hp, hb, hF⟩, hce, hcv, hcl, st⟩
  · cases hv
    obtain ⟨k1, k2, k3⟩ := vx_keep h0 e1 hS hA hf hL hF
    obtain ⟨t2, a1, b1⟩ := kk r u t T'.heap (locs ++ L) e1.symm (by rw [← e2]; exact X'.warmed.alike) hp hb k1 k2 k3 T' rfl X'
    exact ⟨t2, st t2 a1, b1⟩
  · obtain ⟨k1, k2, k3⟩ := vx_keep h0 e1 hS hAX hf hL hF
    obtain ⟨t2, a1, b1⟩ := kx E ce q u t T'.heap (locs ++ L) e1.symm (by rw [← e2]; exact X'.warmed.alike) hp hb k1 k2 k3 (by rw [e1]; exact hce) hcv hcl T' rfl X'
    exact ⟨t2, st.trans a1, b1⟩
theorem vx_callv {S SX : Type} {post : S → Prop} {px : SX → Prop} {B : S → State → Prop} {BX : String → SX → State → Prop} {AX : Nat → Prop} (hr : vx_Run p l e R s m args below meth c H locs cells slots mc ms (F0 m pc ls st0) rest (va_Qv post B A1 a) (vx_X px BX AX) free) (hS : va_S A0 H0 H locs) (hA : ∀ q, q < H.size → A1 q → A0 q) (hf : ∀ q, free q → A0 q) (hAX : ∀ q, q < H.size → AX q → A0 q)
    (kx : ∀ (E : String) (ce : Cell) (q9 : Addr) (u : SX) (t : State) (H1 : Heap) (locs1 : List Loc), t.heap = H1 → s.vm.Alike t.vm → px u → BX E u t → H.size ≤ H1.size → (∀ q : Nat, q < H.size → ¬ AX q → H1[q]? = H[q]?) → va_S A0 H0 H1 locs1 → H1[q9]? = some ce → ce.vm = .none → s.vm.findClass E = some ce.cls → vx_W p l e R s m args below meth c H1 locs1 (cells + mc) (slots + ms) Q (F0 m pc ls rest) q9)
    (kk : ∀ (u : S) (t : State) (H1 : Heap) (locs1 : List Loc), t.heap = H1 → s.vm.Alike t.vm → post u → B u t → H.size ≤ H1.size → (∀ q : Nat, q < H.size → ¬ A1 q → H1[q]? = H[q]?) → va_S A0 H0 H1 locs1 → W p l e R s m args below meth c H1 locs1 (cells + mc) (slots + ms) Q (F0 m (pc + 3) ls (rest))) : W p l e R s m args below meth c H locs cells slots Q (F0 m pc ls st0) := by
  intro T hT X
  rcases hr T hT X with ⟨v, st₀, t, T', L, h0, X', hL, e1, e2, ⟨⟨u, hv, hp, hb⟩, hF⟩, st⟩ | ⟨q, st₀, t, T', L, E, ce, h0, X', hL, e1, e2, ⟨u, hp, hb, hF⟩, hce, hcv, hcl, st⟩
  · cases hv
    obtain ⟨k1, k2, k3⟩ := vx_keep h0 e1 hS hA hf hL hF
    obtain ⟨t2, a1, b1⟩ := kk u t T'.heap (locs ++ L) e1.symm (by rw [← e2]; exact X'.warmed.alike) hp hb k1 k2 k3 T' rfl X'
    exact ⟨t2, st t2 a1, b1⟩
  · obtain ⟨k1, k2, k3⟩ := vx_keep h0 e1 hS hAX hf hL hF
    obtain ⟨t2, a1, b1⟩ := kx E ce q u t T'.heap (locs ++ L) e1.symm (by rw [← e2]; exact X'.warmed.alike) hp hb k1 k2 k3 (by rw [e1]; exact hce) hcv hcl T' rfl X'
    exact ⟨t2, st.trans a1, b1⟩
/-- caught by the row x of this method's table; the rows ahead don't take it -/
theorem vx_catch {own name : String} {E : String} {ce : Cell} {q : Addr} (hown : s.vm.findClass own = some m.cls) (pre : List ExceptionTableEntry) (x : ExceptionTableEntry) (suf : List ExceptionTableEntry) (hsplit : c.exceptionTable.toList = pre ++ x :: suf)
    (hpass : ∀ z ∈ pre, covers z pc = false ∨ (z.catchType ≠ 0 ∧ ∃ nm : String, (Cond.classLink own z.catchType nm).before args s = true ∧ va_Nc E nm s)) (hx : covers x pc = true) (h0 : x.catchType ≠ 0)
    (hlink : (Cond.classLink own x.catchType name).before args s = true) (hcast : (Cond.castable E name).before args s = true) (hcell : H[q]? = some ce) (hv : ce.vm = .none) (hcl : s.vm.findClass E = some ce.cls)
    (kk : W p l e R s m args below meth c H locs cells slots Q (F0 m x.handlerPc ls [.ref q])) : vx_W p l e R s m args below meth c H locs cells slots Q (F0 m pc ls rest) q := by
  intro T hT X
  have hpl : e.platform.magicAccessors = ({} : Platform).magicAccessors := by rw [X.admits.platform]
  obtain ⟨c3, c4, hc3, hc4, hasg⟩ := Cond.castable_spec hcast
  cases Option.some.inj (hc3.symm.trans hcl)
  obtain ⟨c5, hc5, hcl5⟩ := Cond.classLink_spec hown hlink e.platform hpl
  cases Option.some.inj (hc4.symm.trans hc5)
  obtain ⟨vm', X', st⟩ := X.thenCaughtThrough q (g := F0 m pc ls rest) rfl (Steps.refl _) (by rw [hT]; exact hcell) (by rw [hv]; rfl) (by obtain ⟨k9, h9, -⟩ := Vm.findClass_spec hcl; exact ⟨k9, h9⟩) pre x suf hsplit
    (fun z hz => by
      rcases hpass z hz with h | ⟨hz0, nm, hl1, hn1⟩
      · exact Or.inl h
      · obtain ⟨c6, hc6, hcl6⟩ := Cond.classLink_spec hown hl1 e.platform hpl
        obtain ⟨a8, b8, h1, h2, h3⟩ := hn1
        cases Option.some.inj (h1.symm.trans hcl)
        cases Option.some.inj (h2.symm.trans hc6)
        exact Or.inr ⟨hz0, _, hcl6, h3⟩) hx (Or.inr ⟨h0, c4, hcl5, hasg⟩)
  obtain ⟨t, a1, b1⟩ := kk (T.setVm vm') hT X'
  exact ⟨t, st.trans a1, b1⟩
end Rows
section Ends
variable {p : Program} {l : Launch} {e : Env} {R : Room} {s : State} {m : MethodId} {args : Array Value} {below : List Frame} {meth : Method} {c : Code} {H : Heap} {locs : List Loc} {cells slots : Nat} {Q : State → Prop}
variable {mc ms : Nat} {free : Addr → Prop} {A0 A1 : Nat → Prop} {H0 : Heap} {a : Array Value} {ls : Array Slot} {st0 rest : List Value}
variable {Qc : Array Value → State → Outcome → State → Prop} {XC : String → State → State → Prop}
/-- what a body that may throw owes at its end -/
def vx_MQ (below : List Frame) (Qc : Array Value → State → Outcome → State → Prop) (XC : String → State → State → Prop) (a : Array Value) (s : State) (mc ms : Nat) (free : Addr → Prop) : State → Prop := fun t =>
  ∃ o, t.status = .running ∧ Ended t below o ∧ vx_Q Qc XC mc ms free a s o t
theorem vx_ret {g : JFrame} {mc ms : Nat} (k : W p l e R s m args below meth c H locs cells slots (MQ below Qc args s mc ms free) g) : W p l e R s m args below meth c H locs cells slots (vx_MQ below Qc XC args s mc ms free) g := by
  intro T hT X
  obtain ⟨t, a1, o, b1, b2, b3, b4⟩ := k T hT X
  exact ⟨t, a1, o, b1, b2, Or.inl ⟨b3, b4⟩⟩
/-- not caught here: it goes on to the caller -/
theorem vx_widen {g : JFrame} {q : Addr} {k n : Nat} (h1 : cells ≤ k) (h2 : slots ≤ n) (kk : vx_W p l e R s m args below meth c H locs k n Q g q) : vx_W p l e R s m args below meth c H locs cells slots Q g q := fun T hT X => kk T hT (stand_widen X h1 h2)
theorem vx_out {pc : Nat} {E : String} {ce : Cell} {q : Addr} {mc ms : Nat} (hout : ∀ x ∈ c.exceptionTable.toList, covers x pc = false) (hlocks : meth.locks = false) (hcell : H[q]? = some ce) (hv : ce.vm = .none) (hcl : s.vm.findClass E = some ce.cls)
    (hx : ∀ t : State, t.heap = H → s.vm.Alike t.vm → XC E s t) (hf : ∀ z ∈ locs, free z.base) (hc : cells ≤ mc) (hs : slots ≤ ms) :
    vx_W p l e R s m args below meth c H locs cells slots (vx_MQ below Qc XC args s mc ms free) (F0 m pc ls rest) q := by
  intro T hT X
  obtain ⟨st1, hrun, hend, hW, hsm⟩ := X.leaveThrown q (g := F0 m pc ls rest) rfl rfl rfl hout hlocks
  have hcell9 : (T.setFrames (.throwing q :: below)).heap[q]? = some ce := by
    show T.heap[q]? = some ce
    rw [hT]; exact hcell
  exact ⟨_, st1, .threw q, hrun, hend, Or.inr ⟨q, rfl, E, ce, locs, hx _ hT hW.alike, hcell9, hv, hcl, hW, hsm.mono hc hs, hf⟩⟩
theorem vx_frame {U : State} {k n : Nat} (h : s.sameButNew ({ U with vm := s.vm } : State) locs k n) : s.heap.size ≤ U.heap.size ∧ ∀ q : Nat, q < s.heap.size → (∀ z ∈ locs, z.base ≠ q) → U.heap[q]? = s.heap[q]? := by
  obtain ⟨-, h2, -, -, -, h6⟩ := h
  refine ⟨h2, fun q hq hz => ?_⟩
  obtain ⟨c9, e1, e2, e3, e4⟩ := h6 q _ (Array.getElem?_eq_getElem hq)
  have hs : c9.slots = (s.heap[q]).slots := Array.ext_getElem? fun i => e4 i fun hm => hz _ hm rfl
  have h9 : c9 = s.heap[q] := by
    rw [hs] at e2
    exact e2
  have e5 : U.heap[q]? = some c9 := e1
  rw [e5, h9, Array.getElem?_eq_getElem hq]
/-- the words of a throw but the four that speak of the heap -/
def vx_no (w : Cond) : Bool := decide (w ≠ .isRef (.static Bundle.tN "UNASSIGNED_STACK" Bundle.steD)) && decide (w ≠ .isRef (.static Bundle.tN "SUPPRESSED_SENTINEL" Bundle.listD)) && decide (w ≠ .laysStatic Bundle.tN "UNASSIGNED_STACK" Bundle.steD) && decide (w ≠ .laysStatic Bundle.tN "SUPPRESSED_SENTINEL" Bundle.listD)
def vx_at0 (own : String) (ic : Nat) (X : String) (names : List String) : List Cond := (Bundle.ownAtoms0 own ic X names).filter vx_no
def vx_atS (own : String) (ic : Nat) (X : String) (names : List String) : List Cond := (Bundle.ownAtoms own ic X names).filter vx_no
/-- a word that the tables alone decide, or a good one -/
def vx_ot (w : Cond) : Bool := w.onTables || goodWord w
theorem vx_ot_at {args a' : Array Value} {s U : State} {w : Cond} (hW : s.WarmedH U.vm) (hvm : s.vm = U.vm) (hg : vx_ot w = true) (h : w.before args s = true) : w.before a' U = true := by
  simp only [vx_ot, Bool.or_eq_true] at hg
  rcases hg with hg | hg
  · exact va_tabs hg hvm h
  · exact word_at hW (good_of_word hg) h
/-- a list's words: the good ones out of the method's own list, the others by premises of their own -/
theorem vx_hat {args : Array Value} {s : State} {L B : List Cond} (h1 : ∀ w ∈ L.filter goodWord, w.before args s = true) (h2 : ∀ w ∈ L.filter (fun w => !goodWord w), w ∈ B) (h3 : ∀ w ∈ B, w.before args s = true) : ∀ w ∈ L, w.before args s = true := by
  intro w hw
  by_cases g : goodWord w = true
  · exact h1 w (List.mem_filter.mpr ⟨hw, g⟩)
  · refine h3 w (h2 w (List.mem_filter.mpr ⟨hw, ?_⟩))
    show (!goodWord w) = true
    cases hgw : goodWord w
    · rfl
    · exact absurd hgw g
theorem vx_c {args : Array Value} {s : State} {w : Cond} {B : List Cond} (h : w.before args s = true) (t : ∀ w ∈ B, w.before args s = true) : ∀ w' ∈ w :: B, w'.before args s = true := fun w' h' => (List.mem_cons.mp h').elim (fun e => by rw [e]; exact h) (t w')
theorem vx_n {args : Array Value} {s : State} : ∀ w ∈ ([] : List Cond), w.before args s = true := fun _ h => nomatch h
theorem vx_own {args : Array Value} {s : State} {L : List Cond} (h1 : ∀ w ∈ L.filter vx_no, w.before args s = true)
    (hU : (Cond.isRef (.static Bundle.tN "UNASSIGNED_STACK" Bundle.steD)).before args s = true) (hN : (Cond.isRef (.static Bundle.tN "SUPPRESSED_SENTINEL" Bundle.listD)).before args s = true)
    (lU : (Cond.laysStatic Bundle.tN "UNASSIGNED_STACK" Bundle.steD).before args s = true) (lN : (Cond.laysStatic Bundle.tN "SUPPRESSED_SENTINEL" Bundle.listD).before args s = true) : ∀ w ∈ L, w.before args s = true := by
  intro w hw
  by_cases e1 : w = .isRef (.static Bundle.tN "UNASSIGNED_STACK" Bundle.steD)
  · rw [e1]; exact hU
  · by_cases e2 : w = .isRef (.static Bundle.tN "SUPPRESSED_SENTINEL" Bundle.listD)
    · rw [e2]; exact hN
    · by_cases e3 : w = .laysStatic Bundle.tN "UNASSIGNED_STACK" Bundle.steD
      · rw [e3]; exact lU
      · by_cases e4 : w = .laysStatic Bundle.tN "SUPPRESSED_SENTINEL" Bundle.listD
        · rw [e4]; exact lN
        · exact h1 w (List.mem_filter.mpr ⟨hw, by unfold vx_no; rw [decide_eq_true e1, decide_eq_true e2, decide_eq_true e3, decide_eq_true e4]; rfl⟩)
/-- where a static field lies, its class's statics cell in H -/
def vx_L (C n d : String) (A : Nat → Prop) (U : State) (H : Heap) : Prop := ∃ (c : ClassId) (k : Class) (i : Nat) (f : Field) (a : Nat) (cell : Cell), U.vm.findClass C = some c ∧ U.fieldFound? C n d = some (c, k, i, f) ∧ f.isStatic = true ∧ k.statics = some a ∧ H[a]? = some cell ∧ cell.vm.isStatics = true ∧ cell.cls = c ∧ f.slot < cell.slots.size ∧ k.staticTypes[f.slot]? = some f.type ∧ ¬ A a
theorem vx_L.moved {C n d : String} {A : Nat → Prop} {u U : State} {H : Heap} (hvm : u.vm.Alike U.vm) (h : vx_L C n d A u H) : vx_L C n d A U H := by
  obtain ⟨c, k, i, f, a, cell, h1, h2, h3, h4, h5, h6, h7, h8, h9, h10⟩ := h
  obtain ⟨k', hi', he⟩ := State.fieldFound?_setVm hvm h2
  exact ⟨c, k', i, f, a, cell, by rw [hvm.findClass]; exact h1, hi', h3, by rw [he]; exact h4, h5, h6, h7, h8, by rw [he]; exact h9, h10⟩
theorem vx_L.kept {C n d : String} {A : Nat → Prop} {U : State} {H H1 : Heap} (h : vx_L C n d A U H) (hq : ∀ a : Nat, a < H.size → ¬ A a → H1[a]? = H[a]?) : vx_L C n d A U H1 := by
  obtain ⟨c, k, i, f, a, cell, h1, h2, h3, h4, h5, h6, h7, h8, h9, h10⟩ := h
  exact ⟨c, k, i, f, a, cell, h1, h2, h3, h4, by rw [hq a (Array.getElem?_eq_some_iff.mp h5).1 h10]; exact h5, h6, h7, h8, h9, h10⟩
theorem vx_L.narrow {C n d : String} {A B : Nat → Prop} {U : State} {H : Heap} (h : vx_L C n d A U H) (hAB : ∀ q, B q → A q) : vx_L C n d B U H := by
  obtain ⟨c, k, i, f, a, cell, h1, h2, h3, h4, h5, h6, h7, h8, h9, h10⟩ := h
  exact ⟨c, k, i, f, a, cell, h1, h2, h3, h4, h5, h6, h7, h8, h9, fun z => h10 (hAB _ z)⟩
theorem vx_L.word {C n d : String} {A : Nat → Prop} {s : State} {args : Array Value} (h : vx_L C n d A s s.heap) : (Cond.laysStatic C n d).before args s = true := by
  obtain ⟨c, k, i, f, a, cell, h1, h2, h3, h4, h5, h6, h7, h8, h9, -⟩ := h
  show (Cond.laysStatic C n d).holds args s none s [] = true
  exact Cond.laysStatic_of h1 h2 h3 h4 h5 h6 h7 h8 h9
/-- .. and what it holds: null or some reference -/
def vx_Zq (C n d : String) (A : Nat → Prop) (U : State) (H : Heap) : Prop := va_Zq C n d A U H ∧ vx_L C n d A U H
theorem vx_Zq.moved {C n d : String} {A : Nat → Prop} {u U : State} {H : Heap} (hvm : u.vm.Alike U.vm) (h : vx_Zq C n d A u H) : vx_Zq C n d A U H := ⟨va_Zq.moved hvm h.1, vx_L.moved hvm h.2⟩
theorem vx_Zq.kept {C n d : String} {A : Nat → Prop} {U : State} {H H1 : Heap} (h : vx_Zq C n d A U H) (hq : ∀ a : Nat, a < H.size → ¬ A a → H1[a]? = H[a]?) : vx_Zq C n d A U H1 := ⟨va_Zq.kept h.1 hq, vx_L.kept h.2 hq⟩
theorem vx_Zq.narrow {C n d : String} {A B : Nat → Prop} {U : State} {H : Heap} (h : vx_Zq C n d A U H) (hAB : ∀ q, B q → A q) : vx_Zq C n d B U H := ⟨va_Zq.narrow h.1 hAB, vx_L.narrow h.2 hAB⟩
theorem vx_Zqof {args : Array Value} {s : State} {C n d : String} {A : Nat → Prop} (hl : (Cond.laysStatic C n d).before args s = true) (hini : (Cond.initialized C).before args s = true) (h : (Cond.isRef (.static C n d)).before args s = true) (hA : ∀ a : Nat, a < s.heap.size → ¬ A a) : vx_Zq C n d A s s.heap := by
  refine ⟨va_Zqof hl hini h hA, ?_⟩
  obtain ⟨c, k, i, f, a, cell, h1, h2, h3, h4, h5, h6, h7, h8, h9⟩ := Cond.laysStatic_spec hl
  exact ⟨c, k, i, f, a, cell, h1, h2, h3, h4, h5, h6, h7, h8, h9, hA a (Array.getElem?_eq_some_iff.mp h5).1⟩
theorem vx_isRef {C n d : String} {v : Value} {A : Nat → Prop} {s : State} {args : Array Value} (h : va_Z C n d v A s s.heap) (hv : v.isRef = true) : (Cond.isRef (.static C n d)).before args s = true := by
  obtain ⟨cf, kf, fi, f, a, cell, h1, h2, h3, h4, h5, h6, h7, -⟩ := h
  have he : (Term.static C n d).eval args s none [] s = some v := by
    simp [Term.eval, State.fieldNamed?, h1, h2, h4, h5, h6, h7]
  simp only [Cond.before, Cond.holds, Cond.value, he]
  cases v <;> simp_all [Value.isRef]
theorem vx_isRefq {C n d : String} {A : Nat → Prop} {s : State} {args : Array Value} (h : va_Zq C n d A s s.heap) : (Cond.isRef (.static C n d)).before args s = true := by
  rcases h with h | ⟨t, h⟩
  · exact vx_isRef h rfl
  · exact vx_isRef h rfl
/-- the same frame, seen from here: as if the method were called anew in this heap -/
theorem vx_rebase {T : State} (X : Stand p l e R s m args below meth c T locs cells slots) {R' : Room} (hf : R'.frames ≤ R.frames) (hl : R'.locals ≤ R.locals) (hc : cells + R'.cells ≤ R.cells) (hs : slots + R'.slots ≤ R.slots) :
    Stand p l e R' ((T.setVm s.vm).setFrames (.invoking m args :: below)) m args below meth c T [] 0 0 := by
  have htop : (T.setVm s.vm).topJava?.isSome := X.here.top
  have hF : ((T.setVm s.vm).setFrames (.invoking m args :: below)).frames = .invoking m args :: below := State.frames_setFrames _ (State.cur_lt_of_top htop)
  obtain ⟨g₀, hg0⟩ := Option.isSome_iff_exists.mp htop
  obtain ⟨r, hr⟩ := State.topJava?_eq_some.mp hg0
  have hl9 : e.platform.stackLimits (T.setVm s.vm).me = e.platform.stackLimits s.me := X.limits
  have hb9 : (T.setVm s.vm).me.stackBytes = s.me.stackBytes := X.bytes
  refine ⟨X.admits, X.cas, X.clock, hF, ?_, X.hears, X.method, X.code, X.here, X.tail, X.warmed, ?_, ?_, ?_⟩
  · have h := X.room
    have hU : ((T.setVm s.vm).setFrames (.invoking m args :: below)).localsInUse = s.localsInUse := by
      rw [State.localsInUse_invoking hF (meth := meth) (c := c) X.method X.code, State.localsInUse_invoking X.frames X.method X.code]
    simp only [State.hasRoom, Bool.and_eq_true, decide_eq_true_eq] at h ⊢
    obtain ⟨⟨⟨⟨h1, h2, h3, h4, h5, h6⟩, h7⟩, h8⟩, h9⟩ := h
    rw [X.frames, List.length_cons] at h2 h3
    have q1 := X.heapSize
    have q2 := X.used
    simp only [hF, hU, List.length_cons, State.stackLimits_setFrames, State.stackBytes_setFrames, hl9, hb9]
    refine ⟨⟨⟨⟨by omega, by omega, by omega, by omega, by omega, h6⟩, ?_⟩, ?_⟩, X.book⟩
    · show T.heap.size + R'.cells ≤ e.platform.maxCells
      omega
    · show T.slotsUsed + R'.slots ≤ e.platform.maxSlots
      omega
  · rw [State.stackLimits_setFrames]; rfl
  · rw [State.stackBytes_setFrames]; rfl
  · refine ⟨?_, Nat.le_refl _, Nat.le_refl _, ?_, ?_, fun a c9 h9 => ⟨c9, h9, rfl, rfl, fun _ _ => rfl⟩⟩
    · obtain ⟨t, ht, -⟩ := State.frames_cons hr
      show T.setVm s.vm = { ((T.setVm s.vm).setFrames (.invoking m args :: below)).setFrames (T.setVm s.vm).frames with heap := T.heap, slotsUsed := T.slotsUsed }
      rw [State.setFrames_setFrames, State.setFrames_self ht]
      rfl
    · show T.slotsUsed = T.slotsUsed + ((T.heap.toList.drop T.heap.size).map (·.slots.size)).sum
      rw [List.drop_eq_nil_of_le (Nat.le_of_eq Array.length_toList)]
      rfl
    · show ((T.heap.toList.drop T.heap.size).map (·.slots.size)).sum ≤ 0
      rw [List.drop_eq_nil_of_le (Nat.le_of_eq Array.length_toList)]
      exact Nat.le_refl _
/-- 'throw new E()': new; dup; invokespecial; athrow -/
theorem vx_throw0 {cc : ByteArray} {pc : Nat} (hexec : p.tables.exec = Jvm.exec) (hb : c.code = cc) (hl : l.stackTraces = false) {own cls : String} {names : List String} {ik ic mc ms : Nat} {A : Nat → Prop}
    (hown : s.vm.findClass own = some m.cls) (hcls : Bundle.fit cls = true) (hnames : ∀ n ∈ names, Bundle.fit n = true)
    (hk : (Cond.classLink own ik cls).before args s = true) (hini : (Cond.initialized cls).before args s = true) (hat : ∀ w ∈ vx_at0 own ic cls names, w.before args s = true)
    (hgood : ∀ w ∈ Cond.classLink own ik cls :: Cond.initialized cls :: vx_at0 own ic cls names, vx_ot w = true)
    (hU : vx_Zq Bundle.tN "UNASSIGNED_STACK" Bundle.steD A s s.heap) (hN : vx_Zq Bundle.tN "SUPPRESSED_SENTINEL" Bundle.listD A s s.heap) (hS : va_S A s.heap H locs) (hsize : ls.size = c.maxLocals)
    (d0 : decode cc pc = .ok (.new ik, 3)) (d3 : decode cc (pc + 3) = .ok (.dup, 1)) (d4 : decode cc (pc + 4) = .ok (.invokespecial ic, 3)) (d7 : decode cc (pc + 7) = .ok (.athrow, 1))
    (hout : ∀ x ∈ c.exceptionTable.toList, covers x (pc + 7) = false)
    (hRframes : names.length + 3 < R.frames) (hRlocals : (rest.map fun v => v.category).sum + (13 * (names.length + 1) + 42) ≤ R.locals) (hRcells : cells + 1 ≤ R.cells) (hRslots : slots + 6 ≤ R.slots) (hlocks : meth.locks = false)
    (hx : ∀ t : State, s.vm.Alike t.vm → H.size ≤ t.heap.size → (∀ q : Nat, q < H.size → t.heap[q]? = H[q]?) → XC cls s t)
    (hf : ∀ z ∈ locs, free z.base) (hc : cells + 1 ≤ mc) (hs : slots + 6 ≤ ms) :
    W p l e R s m args below meth c H locs cells slots (vx_MQ below Qc XC args s mc ms free) (F0 m pc ls rest) := by
  intro T hT X
  have htr : e.platform.stackTraces = false := (show e.platform.stackTraces = l.stackTraces by rw [X.admits.platform]).trans hl
  have Y := vx_rebase X (R' := { frames := R.frames, locals := R.locals, cells := 1, slots := 6 }) (Nat.le_refl _) (Nat.le_refl _) hRcells hRslots
  obtain ⟨s', hA⟩ : ∃ z, z = (T.setVm s.vm).setFrames (.invoking m args :: below) := ⟨_, rfl⟩
  rw [← hA] at Y
  have hvm : s'.vm = s.vm := by rw [hA]; rfl
  have hhp : s'.heap = H := by rw [hA]; exact hT
  have hW0 : s.WarmedH s'.vm := by rw [hvm]; exact State.WarmedH.refl s
  have hat' : ∀ w ∈ vx_at0 own ic cls names, w.before args s' = true := fun w hw => vx_ot_at hW0 hvm.symm (hgood w (List.mem_cons_of_mem _ (List.mem_cons_of_mem _ hw))) (hat w hw)
  have hk' : (Cond.classLink own ik cls).before args s' = true := vx_ot_at hW0 hvm.symm (hgood _ List.mem_cons_self) hk
  have hini' : (Cond.initialized cls).before args s' = true := vx_ot_at hW0 hvm.symm (hgood _ (List.mem_cons_of_mem _ List.mem_cons_self)) hini
  have hU' : vx_Zq Bundle.tN "UNASSIGNED_STACK" Bundle.steD A s' s'.heap := by rw [hhp]; exact vx_Zq.moved hW0.alike (hU.kept hS.2.1)
  have hN' : vx_Zq Bundle.tN "SUPPRESSED_SENTINEL" Bundle.listD A s' s'.heap := by rw [hhp]; exact vx_Zq.moved hW0.alike (hN.kept hS.2.1)
  have h : ∀ w ∈ Bundle.ownAtoms0 own ic cls names, w.before args s' = true := vx_own hat' (vx_isRefq hU'.1) (vx_isRefq hN'.1) hU'.2.word hN'.2.word
  have hown' : s'.vm.findClass own = some m.cls := by rw [hvm]; exact hown
  have hins : (Cond.instantiable cls 6).before args s' = true := h _ (by simp [Bundle.ownAtoms0])
  obtain ⟨vm₁, cX, kX, hfX, hkX, -, -, X₁, st1⟩ := Y.newCold hexec (own := own) (C := cls) (index := ik) (n := 6) hown' hk' hins hini'
    (g := F0 m pc ls rest) rfl (by rw [hb]; exact d0) (Nat.le_refl _) (Nat.le_refl _)
  generalize hT1 : (T.setVm vm₁).pushCell { cls := cX, slots := kX.instanceTypes.map defaultValue, vm := .none } = T1 at X₁ st1
  have hcat : (Value.ref T.heap.size).category = 1 := rfl
  have hcellA : T1.heap[T.heap.size]? = some (freshCell cX kX) := by rw [← hT1]; exact State.heap_pushCell_size _ _
  have d3' : decode c.code (pc + 3) = .ok (.dup, 1) := by rw [hb]; exact d3
  obtain ⟨U, hsteps, hrun, hend, hW, hsame, ce, hce, hO⟩ := X₁.ctorThrow0 hexec htr (own := own) (cls := cls) (names := names) (ic := ic) hown' hcls hnames h (fun x hx => nomatch hx) hfX hkX hcellA (by rw [hhp, hT]; exact Nat.le_refl _)
    (g := { method := m, pc := pc + 4, locals := ls, stack := .ref T.heap.size :: .ref T.heap.size :: rest, locked := none }) rfl hsize rfl rfl (rest := rest) rfl
    (by rw [hb]; exact d4) (by rw [hb]; exact d7) hout hRframes (by simp only [List.map_cons, List.sum_cons, hcat]; omega) hlocks
  obtain ⟨f1, f2⟩ := vx_frame hsame
  rw [hhp] at f1 f2
  have hWs : s.WarmedH U.vm := State.WarmedH.trans hW0 hW
  have hcl : s.vm.findClass cls = some ce.cls := by
    have h9 := hO.cls
    rw [hvm] at h9
    exact h9
  have hall : s.sameButNew ({ U with vm := s.vm } : State) locs mc ms := by
    subst hA
    obtain ⟨e1, e2⟩ := hsame
    rw [State.setFrames_setFrames] at e1
    have h2 : (T.setVm s.vm).sameButNew ({ U with vm := s.vm } : State) [] (0 + 1) (0 + 6) := ⟨e1, e2⟩
    have h3 := X.same.trans h2
    rw [List.append_nil] at h3
    exact h3.mono hc hs
  refine ⟨U, ?_, .threw T.heap.size, hrun, hend, Or.inr ⟨T.heap.size, rfl, cls, ce, locs, hx U hWs.alike f1 (fun q hq => f2 q hq (fun z hz => nomatch hz)), hce, hO.vm, hcl, hWs, hall, hf⟩⟩
  refine st1 _ ?_
  show Steps p.tables e below (T1.setTop { method := m, pc := pc + 3, locals := ls, stack := .ref T.heap.size :: rest, locked := none }) _
  jvm_step X₁.here [X₁.here.top, hexec, d3', Value.category]
  exact hsteps
/-- 'throw new E("text")': new; dup; ldc; invokespecial; athrow -/
theorem vx_throwS {cc : ByteArray} {pc : Nat} (hexec : p.tables.exec = Jvm.exec) (hb : c.code = cc) (hl : l.stackTraces = false) {own cls text : String} {names : List String} {ik is ic mc ms sa : Nat} {A : Nat → Prop}
    (hown : s.vm.findClass own = some m.cls) (hcls : Bundle.fit cls = true) (hnames : ∀ n ∈ names, Bundle.fit n = true)
    (hk : (Cond.classLink own ik cls).before args s = true) (hini : (Cond.initialized cls).before args s = true) (hstr : vk_R own is text sa s) (hat : ∀ w ∈ vx_atS own ic cls names, w.before args s = true)
    (hgood : ∀ w ∈ Cond.classLink own ik cls :: Cond.initialized cls :: vx_atS own ic cls names, vx_ot w = true)
    (hU : vx_Zq Bundle.tN "UNASSIGNED_STACK" Bundle.steD A s s.heap) (hN : vx_Zq Bundle.tN "SUPPRESSED_SENTINEL" Bundle.listD A s s.heap) (hS : va_S A s.heap H locs) (hsize : ls.size = c.maxLocals)
    (d0 : decode cc pc = .ok (.new ik, 3)) (d3 : decode cc (pc + 3) = .ok (.dup, 1)) (d4 : decode cc (pc + 4) = .ok (.ldc is, 2)) (d6 : decode cc (pc + 6) = .ok (.invokespecial ic, 3)) (d9 : decode cc (pc + 9) = .ok (.athrow, 1))
    (hout : ∀ x ∈ c.exceptionTable.toList, covers x (pc + 9) = false)
    (hRframes : names.length + 3 < R.frames) (hRlocals : (rest.map fun v => v.category).sum + (13 * (names.length + 1) + 43) ≤ R.locals) (hRcells : cells + 1 ≤ R.cells) (hRslots : slots + 6 ≤ R.slots) (hlocks : meth.locks = false)
    (hx : ∀ t : State, s.vm.Alike t.vm → H.size ≤ t.heap.size → (∀ q : Nat, q < H.size → t.heap[q]? = H[q]?) → XC cls s t)
    (hf : ∀ z ∈ locs, free z.base) (hc : cells + 1 ≤ mc) (hs : slots + 6 ≤ ms) :
    W p l e R s m args below meth c H locs cells slots (vx_MQ below Qc XC args s mc ms free) (F0 m pc ls rest) := by
  intro T hT X
  have htr : e.platform.stackTraces = false := (show e.platform.stackTraces = l.stackTraces by rw [X.admits.platform]).trans hl
  have Y := vx_rebase X (R' := { frames := R.frames, locals := R.locals, cells := 1, slots := 6 }) (Nat.le_refl _) (Nat.le_refl _) hRcells hRslots
  obtain ⟨s', hA⟩ : ∃ z, z = (T.setVm s.vm).setFrames (.invoking m args :: below) := ⟨_, rfl⟩
  rw [← hA] at Y
  have hvm : s'.vm = s.vm := by rw [hA]; rfl
  have hhp : s'.heap = H := by rw [hA]; exact hT
  have hW0 : s.WarmedH s'.vm := by rw [hvm]; exact State.WarmedH.refl s
  have hat' : ∀ w ∈ vx_atS own ic cls names, w.before args s' = true := fun w hw => vx_ot_at hW0 hvm.symm (hgood w (List.mem_cons_of_mem _ (List.mem_cons_of_mem _ hw))) (hat w hw)
  have hk' : (Cond.classLink own ik cls).before args s' = true := vx_ot_at hW0 hvm.symm (hgood _ List.mem_cons_self) hk
  have hini' : (Cond.initialized cls).before args s' = true := vx_ot_at hW0 hvm.symm (hgood _ (List.mem_cons_of_mem _ List.mem_cons_self)) hini
  have hU' : vx_Zq Bundle.tN "UNASSIGNED_STACK" Bundle.steD A s' s'.heap := by rw [hhp]; exact vx_Zq.moved hW0.alike (hU.kept hS.2.1)
  have hN' : vx_Zq Bundle.tN "SUPPRESSED_SENTINEL" Bundle.listD A s' s'.heap := by rw [hhp]; exact vx_Zq.moved hW0.alike (hN.kept hS.2.1)
  have h : ∀ w ∈ Bundle.ownAtoms own ic cls names, w.before args s' = true := vx_own hat' (vx_isRefq hU'.1) (vx_isRefq hN'.1) hU'.2.word hN'.2.word
  have hown' : s'.vm.findClass own = some m.cls := by rw [hvm]; exact hown
  have hins : (Cond.instantiable cls 6).before args s' = true := h _ (by simp [Bundle.ownAtoms])
  obtain ⟨vm₁, cX, kX, hfX, hkX, -, -, X₁, st1⟩ := Y.newCold hexec (own := own) (C := cls) (index := ik) (n := 6) hown' hk' hins hini'
    (g := F0 m pc ls rest) rfl (by rw [hb]; exact d0) (Nat.le_refl _) (Nat.le_refl _)
  generalize hT1 : (T.setVm vm₁).pushCell { cls := cX, slots := kX.instanceTypes.map defaultValue, vm := .none } = T1 at X₁ st1
  have hcat : (Value.ref T.heap.size).category = 1 := rfl
  have hcellA : T1.heap[T.heap.size]? = some (freshCell cX kX) := by rw [← hT1]; exact State.heap_pushCell_size _ _
  have d3' : decode c.code (pc + 3) = .ok (.dup, 1) := by rw [hb]; exact d3
  have d4' : decode c.code (pc + 4) = .ok (.ldc is, 2) := by rw [hb]; exact d4
  have hstr' : vk_R own is text sa s' := vk_R.warm hW0 hstr
  obtain ⟨U, hsteps, hrun, hend, hW, hsame, ce, hce, hO⟩ := X₁.ctorThrowS hexec htr (own := own) (cls := cls) (names := names) (ic := ic) hown' hcls hnames h (fun x hx => nomatch hx) hfX hkX hcellA (by rw [hhp, hT]; exact Nat.le_refl _) (msg := .ref sa) rfl
    (g := { method := m, pc := pc + 6, locals := ls, stack := .ref sa :: .ref T.heap.size :: .ref T.heap.size :: rest, locked := none }) rfl hsize rfl rfl (rest := rest) rfl
    (by rw [hb]; exact d6) (by rw [hb]; exact d9) hout hRframes (by simp only [List.map_cons, List.sum_cons, hcat]; omega) hlocks
  obtain ⟨f1, f2⟩ := vx_frame hsame
  rw [hhp] at f1 f2
  have hWs : s.WarmedH U.vm := State.WarmedH.trans hW0 hW
  have hcl : s.vm.findClass cls = some ce.cls := by
    have h9 := hO.cls
    rw [hvm] at h9
    exact h9
  have hall : s.sameButNew ({ U with vm := s.vm } : State) locs mc ms := by
    subst hA
    obtain ⟨e1, e2⟩ := hsame
    rw [State.setFrames_setFrames] at e1
    have h2 : (T.setVm s.vm).sameButNew ({ U with vm := s.vm } : State) [] (0 + 1) (0 + 6) := ⟨e1, e2⟩
    have h3 := X.same.trans h2
    rw [List.append_nil] at h3
    exact h3.mono hc hs
  refine ⟨U, ?_, .threw T.heap.size, hrun, hend, Or.inr ⟨T.heap.size, rfl, cls, ce, locs, hx U hWs.alike f1 (fun q hq => f2 q hq (fun z hz => nomatch hz)), hce, hO.vm, hcl, hWs, hall, hf⟩⟩
  refine st1 _ ?_
  show Steps p.tables e below (T1.setTop { method := m, pc := pc + 3, locals := ls, stack := .ref T.heap.size :: rest, locked := none }) _
  jvm_step X₁.here [X₁.here.top, hexec, d3', Value.category]
  exact X₁.ldcString hexec (own := own) (text := text) (index := is) (a := sa) hown' hstr'.1 hstr'.2
    (g := { method := m, pc := pc + 4, locals := ls, stack := .ref T.heap.size :: .ref T.heap.size :: rest, locked := none }) rfl d4' _ hsteps
/-- 'throw new E("text")', the text by a wide index -/
theorem vx_throwSW {cc : ByteArray} {pc : Nat} (hexec : p.tables.exec = Jvm.exec) (hb : c.code = cc) (hl : l.stackTraces = false) {own cls text : String} {names : List String} {ik is ic mc ms sa : Nat} {A : Nat → Prop}
    (hown : s.vm.findClass own = some m.cls) (hcls : Bundle.fit cls = true) (hnames : ∀ n ∈ names, Bundle.fit n = true)
    (hk : (Cond.classLink own ik cls).before args s = true) (hini : (Cond.initialized cls).before args s = true) (hstr : vk_R own is text sa s) (hat : ∀ w ∈ vx_atS own ic cls names, w.before args s = true)
    (hgood : ∀ w ∈ Cond.classLink own ik cls :: Cond.initialized cls :: vx_atS own ic cls names, vx_ot w = true)
    (hU : vx_Zq Bundle.tN "UNASSIGNED_STACK" Bundle.steD A s s.heap) (hN : vx_Zq Bundle.tN "SUPPRESSED_SENTINEL" Bundle.listD A s s.heap) (hS : va_S A s.heap H locs) (hsize : ls.size = c.maxLocals)
    (d0 : decode cc pc = .ok (.new ik, 3)) (d3 : decode cc (pc + 3) = .ok (.dup, 1)) (d4 : decode cc (pc + 4) = .ok (.ldc_w is, 3)) (d7 : decode cc (pc + 7) = .ok (.invokespecial ic, 3)) (d10 : decode cc (pc + 10) = .ok (.athrow, 1))
    (hout : ∀ x ∈ c.exceptionTable.toList, covers x (pc + 10) = false)
    (hRframes : names.length + 3 < R.frames) (hRlocals : (rest.map fun v => v.category).sum + (13 * (names.length + 1) + 43) ≤ R.locals) (hRcells : cells + 1 ≤ R.cells) (hRslots : slots + 6 ≤ R.slots) (hlocks : meth.locks = false)
    (hx : ∀ t : State, s.vm.Alike t.vm → H.size ≤ t.heap.size → (∀ q : Nat, q < H.size → t.heap[q]? = H[q]?) → XC cls s t)
    (hf : ∀ z ∈ locs, free z.base) (hc : cells + 1 ≤ mc) (hs : slots + 6 ≤ ms) :
    W p l e R s m args below meth c H locs cells slots (vx_MQ below Qc XC args s mc ms free) (F0 m pc ls rest) := by
  intro T hT X
  have htr : e.platform.stackTraces = false := (show e.platform.stackTraces = l.stackTraces by rw [X.admits.platform]).trans hl
  have Y := vx_rebase X (R' := { frames := R.frames, locals := R.locals, cells := 1, slots := 6 }) (Nat.le_refl _) (Nat.le_refl _) hRcells hRslots
  obtain ⟨s', hA⟩ : ∃ z, z = (T.setVm s.vm).setFrames (.invoking m args :: below) := ⟨_, rfl⟩
  rw [← hA] at Y
  have hvm : s'.vm = s.vm := by rw [hA]; rfl
  have hhp : s'.heap = H := by rw [hA]; exact hT
  have hW0 : s.WarmedH s'.vm := by rw [hvm]; exact State.WarmedH.refl s
  have hat' : ∀ w ∈ vx_atS own ic cls names, w.before args s' = true := fun w hw => vx_ot_at hW0 hvm.symm (hgood w (List.mem_cons_of_mem _ (List.mem_cons_of_mem _ hw))) (hat w hw)
  have hk' : (Cond.classLink own ik cls).before args s' = true := vx_ot_at hW0 hvm.symm (hgood _ List.mem_cons_self) hk
  have hini' : (Cond.initialized cls).before args s' = true := vx_ot_at hW0 hvm.symm (hgood _ (List.mem_cons_of_mem _ List.mem_cons_self)) hini
  have hU' : vx_Zq Bundle.tN "UNASSIGNED_STACK" Bundle.steD A s' s'.heap := by rw [hhp]; exact vx_Zq.moved hW0.alike (hU.kept hS.2.1)
  have hN' : vx_Zq Bundle.tN "SUPPRESSED_SENTINEL" Bundle.listD A s' s'.heap := by rw [hhp]; exact vx_Zq.moved hW0.alike (hN.kept hS.2.1)
  have h : ∀ w ∈ Bundle.ownAtoms own ic cls names, w.before args s' = true := vx_own hat' (vx_isRefq hU'.1) (vx_isRefq hN'.1) hU'.2.word hN'.2.word
  have hown' : s'.vm.findClass own = some m.cls := by rw [hvm]; exact hown
  have hins : (Cond.instantiable cls 6).before args s' = true := h _ (by simp [Bundle.ownAtoms])
  obtain ⟨vm₁, cX, kX, hfX, hkX, -, -, X₁, st1⟩ := Y.newCold hexec (own := own) (C := cls) (index := ik) (n := 6) hown' hk' hins hini'
    (g := F0 m pc ls rest) rfl (by rw [hb]; exact d0) (Nat.le_refl _) (Nat.le_refl _)
  generalize hT1 : (T.setVm vm₁).pushCell { cls := cX, slots := kX.instanceTypes.map defaultValue, vm := .none } = T1 at X₁ st1
  have hcat : (Value.ref T.heap.size).category = 1 := rfl
  have hcellA : T1.heap[T.heap.size]? = some (freshCell cX kX) := by rw [← hT1]; exact State.heap_pushCell_size _ _
  have d3' : decode c.code (pc + 3) = .ok (.dup, 1) := by rw [hb]; exact d3
  have d4' : decode c.code (pc + 4) = .ok (.ldc_w is, 3) := by rw [hb]; exact d4
  have hstr' : vk_R own is text sa s' := vk_R.warm hW0 hstr
  obtain ⟨U, hsteps, hrun, hend, hW, hsame, ce, hce, hO⟩ := X₁.ctorThrowS hexec htr (own := own) (cls := cls) (names := names) (ic := ic) hown' hcls hnames h (fun x hx => nomatch hx) hfX hkX hcellA (by rw [hhp, hT]; exact Nat.le_refl _) (msg := .ref sa) rfl
    (g := { method := m, pc := pc + 7, locals := ls, stack := .ref sa :: .ref T.heap.size :: .ref T.heap.size :: rest, locked := none }) rfl hsize rfl rfl (rest := rest) rfl
    (by rw [hb]; exact d7) (by rw [hb]; exact d10) hout hRframes (by simp only [List.map_cons, List.sum_cons, hcat]; omega) hlocks
  obtain ⟨f1, f2⟩ := vx_frame hsame
  rw [hhp] at f1 f2
  have hWs : s.WarmedH U.vm := State.WarmedH.trans hW0 hW
  have hcl : s.vm.findClass cls = some ce.cls := by
    have h9 := hO.cls
    rw [hvm] at h9
    exact h9
  have hall : s.sameButNew ({ U with vm := s.vm } : State) locs mc ms := by
    subst hA
    obtain ⟨e1, e2⟩ := hsame
    rw [State.setFrames_setFrames] at e1
    have h2 : (T.setVm s.vm).sameButNew ({ U with vm := s.vm } : State) [] (0 + 1) (0 + 6) := ⟨e1, e2⟩
    have h3 := X.same.trans h2
    rw [List.append_nil] at h3
    exact h3.mono hc hs
  refine ⟨U, ?_, .threw T.heap.size, hrun, hend, Or.inr ⟨T.heap.size, rfl, cls, ce, locs, hx U hWs.alike f1 (fun q hq => f2 q hq (fun z hz => nomatch hz)), hce, hO.vm, hcl, hWs, hall, hf⟩⟩
  refine st1 _ ?_
  show Steps p.tables e below (T1.setTop { method := m, pc := pc + 3, locals := ls, stack := .ref T.heap.size :: rest, locked := none }) _
  jvm_step X₁.here [X₁.here.top, hexec, d3', Value.category]
  exact X₁.ldcStringW hexec (own := own) (text := text) (index := is) (a := sa) hown' hstr'.1 hstr'.2
    (g := { method := m, pc := pc + 4, locals := ls, stack := .ref T.heap.size :: .ref T.heap.size :: rest, locked := none }) rfl d4' _ hsteps
end Ends
section Bodies
variable {l : Launch}
theorem vx_ofW {y : MethodName} {ws ws' : List Cond} {rm : Room} {Pc : Array Value → State → Prop} {Qc : Array Value → State → Outcome → State → Prop} {XC : String → State → State → Prop} {mc ms : Nat} {free : Addr → Prop} {cc : ByteArray} {maxL : Nat} {ret : Option FieldType}
    (hy : plainName y.cls = true) (hw : ws = Cond.code y cc maxL ret :: ws')
    (body : ∀ p e s m args below meth c s₁, BodyLoose p l y (headSpec ws rm) cc maxL ret e s m args below meth c s₁ → c.maxLocals = maxL → (∀ x ∈ c.exceptionTable.toList, False) → Pc args s →
      W p l e (headSpec ws rm).room s m args below meth c s.heap [] 0 0 (vx_MQ below Qc XC args s mc ms free) (entryFrame m args maxL)) : vx_Met l y ws rm Pc Qc XC mc ms free := by
  refine MetFree.of_bodyS (code := cc) (maxLocals := maxL) (ret := ret) hy ?_ ?_
  · intro args s m h hn
    obtain ⟨meth, c, h1, h2, h3, h4, h5, h6, -, -⟩ := Cond.code_spec hn (atoms_spec (ws := ws) h _ (by rw [hw]; exact List.mem_cons_self))
    exact ⟨meth, c, h1, h2, h3, h4, h5, h6⟩
  · intro p e s m args below meth c s₁ B hml hP _
    have hh0 : s₁.heap = s.heap := by rw [B.state]; rfl
    have ht : ∀ x ∈ c.exceptionTable.toList, False := by
      obtain ⟨meth9, c9, h1, h2, -, -, -, -, h7, -⟩ := Cond.code_spec B.named (atoms_spec (ws := ws) B.pre _ (by rw [hw]; exact List.mem_cons_self))
      cases Option.some.inj (h1.symm.trans B.method)
      cases Option.some.inj (h2.symm.trans (Stand.of_body B).code)
      intro x hx
      rw [Array.isEmpty_iff.mp h7] at hx
      cases hx
    obtain ⟨t, a1, o, b1, b2, b3⟩ := body p e s m args below meth c s₁ B hml ht hP s₁ hh0 (Stand.of_body B)
    exact ⟨t, o, a1, b1, b2, b3⟩
/-- the table of a body with handlers -/
theorem vx_table {p : Program} {x y : MethodName} {S : Spec} {cc bytes : ByteArray} {maxL maxL' : Nat} {ret ret' : Option FieldType} {e : Env} {s s₁ : State} {m : MethodId} {args : Array Value} {below : List Frame} {meth : Method} {c : Code} {hh : List (Nat × Nat × Nat × Nat)}
    (B : BodyLoose p l y S cc maxL ret e s m args below meth c s₁) (h : (Cond.codeWith y bytes maxL' ret' hh).before args s = true) : c.exceptionTable.toList = tableOf hh := by
  obtain ⟨m9, meth9, c9, hn9, h1, h2, -, -, h6, -⟩ := Cond.codeWith_spec h
  cases Option.some.inj (hn9.symm.trans B.named)
  cases Option.some.inj (h1.symm.trans B.method)
  cases Option.some.inj (h2.symm.trans (Stand.of_body B).code)
  rw [← h6, table_eq]
end Bodies
end VXA
/-! ===== END ===== -/
/-! ===== BEGIN a static call of a method with an exception table ===== -/
section VXS
variable {p : Program} {l : Launch} {e : Env} {R : Room} {s : State} {m : MethodId} {args : Array Value} {below : List Frame} {meth : Method} {c : Code} {T : State} {H : Heap} {locs : List Loc} {cells slots : Nat}
abbrev vx_CSW (R : Room) (s : State) (args : Array Value) (own : String) (index : Nat) (y : MethodName) (bytes : ByteArray) (maxL : Nat) (ret : Option FieldType) (hh : List (Nat × Nat × Nat × Nat)) (ws : List Cond) (rm : Room) (mc ms n : Nat) : Prop :=
  (rm.cells = mc ∧ rm.slots = ms ∧ rm.frames + 1 ≤ R.frames ∧ 8 + (maxL + 11) + rm.locals ≤ R.locals ∧ (∀ w ∈ ws, ∀ (a' : Array Value) (U : State), s.WarmedH U.vm → w.before a' U = true) ∧ Cond.codeWith y bytes maxL ret hh ∈ ws) ∧
  (Cond.codeWith y bytes maxL ret hh).before args s = true ∧ (Cond.initialized y.cls).before args s = true ∧ (y.cls ≠ "java/lang/invoke/MethodHandle" ∧ y.cls ≠ "java/lang/invoke/VarHandle") ∧
  (∀ sig, parseMethodDescriptor y.desc = some sig → n = sig.parameters.length) ∧ (Cond.methodLink own index y).before args s = true ∧ (Cond.static y).before args s = true
theorem vx_cwSW {own : String} {index maxL mc ms : Nat} {y : MethodName} {bytes : ByteArray} {ret : Option FieldType} {hh : List (Nat × Nat × Nat × Nat)} {Ts ws ws' : List Cond} {rm : Room} (n : Nat) (ht : ∀ w ∈ Ts, w.before args s = true) (hT : GoodIn Ts (va_wsS own index y ws)) (hw : ws = Cond.codeWith y bytes maxL ret hh :: ws') (hrc : rm.cells = mc) (hrs : rm.slots = ms)
    (hd : y.cls ≠ "java/lang/invoke/MethodHandle" ∧ y.cls ≠ "java/lang/invoke/VarHandle" ∧ (parseMethodDescriptor y.desc).map (fun d => d.parameters.length) = some n) (hR : rm.frames + 1 ≤ R.frames ∧ 8 + (maxL + 11) + rm.locals ≤ R.locals) :
    vx_CSW R s args own index y bytes maxL ret hh ws rm mc ms n := by
  have ok : ∀ w ∈ va_wsS own index y ws, w.before args s = true := fun w h => ht w (hT w h).1
  have hG : GoodIn Ts ws := fun w h => hT w (by unfold va_wsS; exact List.mem_append_right _ h)
  have hc : Cond.codeWith y bytes maxL ret hh ∈ ws := by rw [hw]; exact List.mem_cons_self
  refine ⟨⟨hrc, hrs, hR.1, hR.2, pay_in ht hG, hc⟩, ht _ (hG _ hc).1, ok _ (by simp [va_wsS]), ⟨hd.1, hd.2.1⟩, fun sig h => ?_, ok _ (by simp [va_wsS]), ok _ (by simp [va_wsS])⟩
  have h2 := hd.2.2
  rw [h] at h2
  exact (Option.some.inj h2).symm
theorem vx_callSW (X : Stand p l e R s m args below meth c T locs cells slots) (hexec : p.tables.exec = Jvm.exec) {own : String} {index : Nat} {y : MethodName} {bytes : ByteArray} {maxL : Nat} {ret : Option FieldType} {hh : List (Nat × Nat × Nat × Nat)}
    (hown : s.vm.findClass own = some m.cls) (hlink : (Cond.methodLink own index y).before args s = true) (hstat : (Cond.static y).before args s = true) (hinit : (Cond.initialized y.cls).before args s = true)
    (hcode : (Cond.codeWith y bytes maxL ret hh).before args s = true) (hy : y.cls ≠ "java/lang/invoke/MethodHandle" ∧ y.cls ≠ "java/lang/invoke/VarHandle")
    {W9 : Nat} {Pre : Pt → Array Value → Prop} {Post : Pt → Array Value → Option Value → Pt → Prop} (hK : Back l R p e below s args y 3 W9 Pre Post)
    {g : JFrame} (hg : g.method = m) (hsize : g.locals.size = c.maxLocals) {argsL rest : List Value} (hlen : ∀ sig, parseMethodDescriptor y.desc = some sig → argsL.length = sig.parameters.length)
    (hstack : g.stack = argsL.reverse ++ rest) (hW : 2 * g.monitorRoom + (rest.map fun v => v.category).sum ≤ W9) (hdg : decode c.code g.pc = .ok (.invokestatic index, 3))
    (hpre : ∀ vm₁, s.WarmedH vm₁ → Pre ⟨T.setVm vm₁, locs, cells, slots⟩ argsL.toArray) :
    ∃ (v : Option Value) (vm₁ : Vm) (B : Pt), s.WarmedH vm₁ ∧ Stand p l e R s m args below meth c B.U B.locs B.cells B.slots ∧ Post ⟨T.setVm vm₁, locs, cells, slots⟩ argsL.toArray v B ∧
      ∀ target, Steps p.tables e below (B.U.setTop { g with pc := g.pc + 3, stack := v.toList ++ rest }) target → Steps p.tables e below (T.setTop g) target := by
  obtain ⟨mk, methM, cM, hnamed, hmethM, -, -, -, -, -, -, hsigM⟩ := Cond.codeWith_spec hcode
  have hstatic : methM.isStatic = true := Cond.static_spec hnamed hmethM hstat
  obtain ⟨kP, hkP, -⟩ := className_of_methodNamed hnamed
  have hinitP : kP.init = .initialized := Cond.initialized_spec (findClass_of_methodNamed hnamed) hkP hinit
  obtain ⟨vm₁, X₁, hstep₁⟩ := X.invokestatic hexec hown hlink hnamed hmethM hstatic hkP hinitP hy (g := g) hg (argsL := argsL) (rest := rest) (hlen _ hsigM) hstack hdg
  obtain ⟨v, B, X', hpost, hsteps⟩ := hK m meth c ⟨T.setVm vm₁, locs, cells, slots⟩ { g with stack := rest } (.invokestatic index) mk argsL.toArray X₁ hg hsize hdg hW (X₁.named hnamed) (hpre vm₁ X₁.warmed)
  exact ⟨v, vm₁, B, X₁.warmed, X', hpost, fun target h => hstep₁ _ fun acts => by rw [doInvoke_state]; exact hsteps.trans h⟩
theorem vx_runSW {y : MethodName} {bytes cc : ByteArray} {maxL nL mc ms n index : Nat} {ret : Option FieldType} {hh : List (Nat × Nat × Nat × Nat)} {ws : List Cond} {rm : Room} {Pc : Array Value → State → Prop} {Qc : Array Value → State → Outcome → State → Prop} {free : Addr → Prop} {Ts : List Cond} {own : String} {As rest : List Value} {g : JFrame}
    (S : CallFix p m c cc nL s args Ts own) (hM : Met l y ws rm Pc Qc mc ms free) (cw : vx_CSW R s args own index y bytes maxL ret hh ws rm mc ms n) (hp : PreS s H Pc As)
    (hg : g.method = m) (hn : As.length = n) (hsize : g.locals.size = nL) (hstack : g.stack = As.reverse ++ rest) (hW : 2 * g.monitorRoom + (rest.map fun v => v.category).sum ≤ 8) (hdg : decode cc g.pc = .ok (.invokestatic index, 3)) (hf : cells + mc ≤ R.cells ∧ slots + ms ≤ R.slots) :
    va_Run p l e R s m args below meth c H locs cells slots mc ms g rest (Qc As.toArray) (free) := by
  obtain ⟨⟨hrc, hrs, hfr, hlo, hws, hcw⟩, hcode, hini, hy, hlen, hl, hstt⟩ := cw
  have hK : Back l R p e below s args y 3 8 (PreOf R mc ms Pc) (PostOf Qc mc ms free) := va_backW (hh := hh) (bytes := bytes) (maxL := maxL) (ret := ret) hM hp.1 hrc hrs hfr hlo hws hcw (fun a' U hW => word_at hW (Or.inl (by first | rfl | simp [Cond.onTables, Cond.keeps, Cond.steady])) hini)
  obtain ⟨hx, hb, hml, ho, -⟩ := S
  intro T hT X
  obtain ⟨v, vm₁, ⟨U', l2, c2, s2⟩, hW₁, X', ⟨g', mk, t, L, e1, e2, hq, h1, hL, h2, h3⟩, st⟩ := vx_callSW X hx (hh := hh) (bytes := bytes) (maxL := maxL) (ret := ret) ho hl hstt hini hcode hy hK hg (hsize.trans hml.symm) (argsL := As) (rest := rest) (fun sig h => hn.trans (hlen sig h)) hstack hW (by rw [hb]; exact hdg)
    (fun vm₁ hW₁ => ⟨hf.1, hf.2, hp.2 (T.setVm vm₁) hT hW₁⟩)
  dsimp only [Pt.U, Pt.locs, Pt.cells, Pt.slots] at X' e1 e2 h1 h2 h3 st
  subst h1; subst h2; subst h3
  exact ⟨v, (T.setVm vm₁).calling g' mk As.toArray, t, U', L, hT, X', hL, e1, e2, hq, st⟩
/-- not caught here, past rows that name other classes: it goes on to the caller -/
theorem vx_outP {p : Program} {l : Launch} {e : Env} {R : Room} {s : State} {m : MethodId} {args : Array Value} {below : List Frame} {meth : Method} {c : Code} {H : Heap} {locs : List Loc} {cells slots : Nat} {free : Addr → Prop} {ls : Array Slot} {rest : List Value} {Qc : Array Value → State → Outcome → State → Prop} {XC : String → State → State → Prop}
    {pc : Nat} {own E : String} {ce : Cell} {q : Addr} {mc ms : Nat} (hown : s.vm.findClass own = some m.cls) (hlocks : meth.locks = false)
    (hpass : ∀ z ∈ c.exceptionTable.toList, covers z pc = false ∨ (z.catchType ≠ 0 ∧ ∃ nm : String, (Cond.classLink own z.catchType nm).before args s = true ∧ va_Nc E nm s)) (hcell : H[q]? = some ce) (hv : ce.vm = .none) (hcl : s.vm.findClass E = some ce.cls)
    (hx : ∀ t : State, t.heap = H → s.vm.Alike t.vm → XC E s t) (hf : ∀ z ∈ locs, free z.base) (hc : cells ≤ mc) (hs : slots ≤ ms) :
    vx_W p l e R s m args below meth c H locs cells slots (vx_MQ below Qc XC args s mc ms free) (F0 m pc ls rest) q := by
  intro T hT X
  have hpl : e.platform.magicAccessors = ({} : Platform).magicAccessors := by rw [X.admits.platform]
  obtain ⟨vm', hW', X', st⟩ := X.outThrough hlocks q (g := F0 m pc ls rest) rfl rfl rfl (cell := ce) (by rw [hT]; exact hcell) (by rw [hv]; rfl)
    (by obtain ⟨k9, h9, -⟩ := Vm.findClass_spec hcl; exact ⟨k9, h9⟩) (fun z hz => by
      rcases hpass z hz with h | ⟨hz0, nm, hl1, hn1⟩
      · exact Or.inl h
      · obtain ⟨c6, hc6, hcl6⟩ := Cond.classLink_spec hown hl1 e.platform hpl
        obtain ⟨a8, b8, h1, h2, h3⟩ := hn1
        cases Option.some.inj (h1.symm.trans hcl)
        cases Option.some.inj (h2.symm.trans hc6)
        exact Or.inr ⟨hz0, _, hcl6, h3⟩)
  obtain ⟨g₀, hfr⟩ := X'.frames_eq
  have hcell9 : ((T.setVm vm').setFrames (.throwing q :: below)).heap[q]? = some ce := by
    show T.heap[q]? = some ce
    rw [hT]; exact hcell
  have hend : Ended ((T.setVm vm').setFrames (.throwing q :: below)) below (.threw q) := State.frames_setFrames _ (State.cur_lt_of_frames hfr)
  refine ⟨(T.setVm vm').setFrames (.throwing q :: below), ?_, .threw q, X'.here.running, hend, Or.inr ⟨q, rfl, E, ce, locs, hx _ hT (X'.ends _).1.alike, hcell9, hv, hcl, (X'.ends _).1, (X'.ends _).2.mono hc hs, hf⟩⟩
  rw [X.pushThrowing_eq]
  exact st
/-- a thing of a world lies in the heap -/
theorem vx_lt {D : va_G} {cl : List vw_C} {ws : va_W} {H1 : Heap} (h : va_P D cl ws H1) {k : Nat} {q : Nat × va_E} (hk : ws[k]? = some q) : q.1 < H1.size := (h k q hk).lt
end VXS
/-! ===== END ===== -/
/-! ===== BEGIN methods with a table of their own: called by a name, returning or throwing ===== -/
section VXH
/-! vx_backW, vx_callVX, vx_callSX, vx_callVW, vx_runVW, vx_runVX, vx_runSX, vx_ofWH follow the same proofs as their sisters above (Free/Laws.lean, Shelf42/LK1.lean); vx_outP calls Shelf42/NT130.lean (outThrough). -/
section
variable {l : Launch} {R : Room} {p : Program} {e : Env} {below : List Frame} {s : State} {sargs : Array Value} {y : MethodName} {len W9 : Nat}
theorem vx_backW {ws : List Cond} {rm : Room} {Pc : Array Value → State → Prop} {Qc : Array Value → State → Outcome → State → Prop} {XC : String → State → State → Prop} {mc ms : Nat} {free : Addr → Prop} {bytes : ByteArray} {maxL : Nat} {ret : Option FieldType} {hh : List (Nat × Nat × Nat × Nat)}
    (hM : vx_Met l y ws rm Pc Qc XC mc ms free) (hblind : FrameBlind Pc) (hrc : rm.cells = mc) (hrs : rm.slots = ms)
    (hframes : rm.frames + 1 ≤ R.frames) (hlocals : W9 + (maxL + 11) + rm.locals ≤ R.locals)
    (hws : ∀ w ∈ ws, ∀ a' U, s.WarmedH U.vm → w.before a' U = true) (hcode : Cond.codeWith y bytes maxL ret hh ∈ ws) (hinit : ∀ a' U, s.WarmedH U.vm → (Cond.initialized y.cls).before a' U = true) :
    vx_Back l R p e below s sargs y len W9 (PreOf R mc ms Pc) (PostOf Qc mc ms free) (vx_Post XC mc ms free) := by
  intro m meth c A g ig mk a X hg hsize hdg hW hn hp
  have h1 : (headSpec ws rm).pre.before a A.U = true := atoms_intro fun w hw => hws w hw _ _ X.warmed
  have h2 : (Cond.codeWith y bytes maxL ret hh).before a A.U = true := hws _ hcode _ _ X.warmed
  have h3 : (Cond.initialized y.cls).before a A.U = true := hinit _ _ X.warmed
  have h4 : A.cells + (headSpec ws rm).room.cells ≤ R.cells := by rw [show (headSpec ws rm).room.cells = mc from hrc]; exact hp.1
  have h5 : A.slots + (headSpec ws rm).room.slots ≤ R.slots := by rw [show (headSpec ws rm).room.slots = ms from hrs]; exact hp.2.1
  have hPc : Pc a (A.U.calling g mk a) := hblind _ _ _ _ hp.2.2
  obtain ⟨U, Ls, c0, s0⟩ := A
  dsimp only [Pt.U, Pt.locs, Pt.cells, Pt.slots] at h1 h2 h3 h4 h5 X hn hPc ⊢
  obtain ⟨m9, methY, cY, hn9, hmY, hcY, -, hlY, -⟩ := Cond.codeWith_spec h2
  cases Option.some.inj (hn9.symm.trans hn)
  obtain ⟨kY, hkY, -⟩ := className_of_methodNamed hn
  have hinitY : kY.init = .initialized := Cond.initialized_spec (findClass_of_methodNamed hn) hkY h3
  have h : At U g.method c below := by rw [hg]; exact X.here
  have hlocals9 : W9 + (maxL + 11) + (headSpec ws rm).room.locals ≤ R.locals := hlocals
  have happ : (headSpec ws rm).appliesLoose y e.platform (U.calling g mk a) = true :=
    Spec.appliesLoose_calling (g := g) h hdg hn hkY hinitY
      (X.room_calling (g := g) (R' := (headSpec ws rm).room) hsize hmY hcY hframes (by rw [hlY]; omega) h4 h5) h1
  obtain ⟨mid, hmid⟩ := h.above
  have hfr : (U.setTop g).frames = (.java g :: mid) ++ below := by rw [State.frames_setTop' g h.top, hmid]; rfl
  obtain ⟨o, s₂, hsteps, -, hend, hq⟩ := Steps.callFree hM p X.admits X.cas X.clock (acts := []) hfr happ hPc trivial
  have hq' : vx_Q Qc XC mc ms free a (U.calling g mk a) o s₂ := hq
  rw [State.frames_setTop' g h.top] at hend
  obtain ⟨g₀, hg0⟩ := Option.isSome_iff_exists.mp h.top
  obtain ⟨r, hr⟩ := State.topJava?_eq_some.mp hg0
  have hr' : (({ U with heap := s₂.heap, slotsUsed := s₂.slotsUsed } : State).setVm s₂.vm).frames = .java g₀ :: r := hr
  rcases hq' with ⟨hqc, L, hfe, hL⟩ | ⟨q, rfl, E, ce, L, hx, hce, hcv, hcl, hW₂, hsm, hL⟩
  · obtain ⟨⟨v, rfl⟩, hW₂, e2, q2, q3, q4, q5, q6⟩ := id hfe
    have e3 : s₂ = ({ (U.calling g mk a).setFrames s₂.frames with heap := s₂.heap, slotsUsed := s₂.slotsUsed } : State).setVm s₂.vm := by
      have : s₂ = ({ s₂ with vm := (U.calling g mk a).vm } : State).setVm s₂.vm := rfl
      rw [e2] at this
      exact this
    obtain ⟨c₂, i₂, len₂, hc₂, hd₂, hf₂⟩ := hend
    have hW' : U.WarmedH s₂.vm := hW₂
    have hcc : c₂ = c := by
      have h1 : s₂.code? g.method = U.code? g.method := by
        rw [State.code?_eq, State.code?_eq, hW'.alike.method?]
      exact Option.some.inj (hc₂.symm.trans (h1.trans h.code))
    subst hcc
    have hlen : len₂ = len := by rw [hdg] at hd₂; cases hd₂; rfl
    subst hlen
    have hs₂ : s₂ = (({ U with heap := s₂.heap, slotsUsed := s₂.slotsUsed } : State).setVm s₂.vm).setTop { g with pc := g.pc + len₂, stack := v.toList ++ g.stack } := by
      refine e3.trans ?_
      rw [hf₂, State.calling_eq h.top, State.setFrames_setFrames, State.setTop_of_frames _ hr', hr]
      rfl
    have hsame : U.sameButNew ({ U with heap := s₂.heap, slotsUsed := s₂.slotsUsed } : State) L mc ms := by
      refine ⟨?_, q2, q3, q4, q5, q6⟩
      obtain ⟨t, ht, -⟩ := State.frames_cons hr
      show ({ U with heap := s₂.heap, slotsUsed := s₂.slotsUsed } : State) = { U.setFrames U.frames with heap := s₂.heap, slotsUsed := s₂.slotsUsed }
      rw [State.setFrames_self ht]
    subst hg
    refine Or.inl ⟨v, ⟨(({ U with heap := s₂.heap, slotsUsed := s₂.slotsUsed } : State).setVm s₂.vm), Ls ++ L, c0 + mc, s0 + ms⟩,
      ⟨X.admits, X.cas, X.clock, X.frames, X.room, X.hears, X.method, X.code, (X.here.setHeapUsed s₂.heap s₂.slotsUsed).setVm hW'.alike, X.tail, State.WarmedH.trans X.warmed hW', X.limits, X.bytes, X.same.trans (hsame.setVm s.vm)⟩,
      ⟨g, mk, s₂, L, rfl, rfl, hqc, rfl, hL, rfl, rfl⟩, ?_⟩
    show Steps p.tables e below _ ((({ U with heap := s₂.heap, slotsUsed := s₂.slotsUsed } : State).setVm s₂.vm).setTop { g with pc := g.pc + len₂, stack := v.toList ++ g.stack })
    rw [← hs₂]
    exact hsteps
  · obtain ⟨e2, q2, q3, q4, q5, q6⟩ := id hsm
    have e3 : s₂ = ({ (U.calling g mk a).setFrames s₂.frames with heap := s₂.heap, slotsUsed := s₂.slotsUsed } : State).setVm s₂.vm := by
      have : s₂ = ({ s₂ with vm := (U.calling g mk a).vm } : State).setVm s₂.vm := rfl
      rw [e2] at this
      exact this
    have hf₂ : s₂.frames = .throwing q :: .java g :: U.frames.tail := hend
    have hW' : U.WarmedH s₂.vm := hW₂
    have hs₂ : s₂ = ((({ U with heap := s₂.heap, slotsUsed := s₂.slotsUsed } : State).setVm s₂.vm).setTop g).pushFrame (.throwing q) := by
      refine e3.trans ?_
      rw [hf₂, State.calling_eq h.top, State.setFrames_setFrames, State.pushFrame, State.frames_setTop _ hr', State.setTop_of_frames _ hr', State.setFrames_setFrames, hr]
      rfl
    have hsame : U.sameButNew ({ U with heap := s₂.heap, slotsUsed := s₂.slotsUsed } : State) L mc ms := by
      refine ⟨?_, q2, q3, q4, q5, q6⟩
      obtain ⟨t, ht, -⟩ := State.frames_cons hr
      show ({ U with heap := s₂.heap, slotsUsed := s₂.slotsUsed } : State) = { U.setFrames U.frames with heap := s₂.heap, slotsUsed := s₂.slotsUsed }
      rw [State.setFrames_self ht]
    subst hg
    refine Or.inr ⟨q, ⟨(({ U with heap := s₂.heap, slotsUsed := s₂.slotsUsed } : State).setVm s₂.vm), Ls ++ L, c0 + mc, s0 + ms⟩,
      ⟨X.admits, X.cas, X.clock, X.frames, X.room, X.hears, X.method, X.code, (X.here.setHeapUsed s₂.heap s₂.slotsUsed).setVm hW'.alike, X.tail, State.WarmedH.trans X.warmed hW', X.limits, X.bytes, X.same.trans (hsame.setVm s.vm)⟩,
      ⟨g, mk, s₂, L, E, ce, rfl, rfl, hx, hce, hcv, hcl, rfl, hL, rfl, rfl⟩, ?_⟩
    show Steps p.tables e below _ (((({ U with heap := s₂.heap, slotsUsed := s₂.slotsUsed } : State).setVm s₂.vm).setTop g).pushFrame (.throwing q))
    rw [← hs₂]
    exact hsteps
end
variable {p : Program} {l : Launch} {e : Env} {R : Room} {s : State} {m : MethodId} {args : Array Value} {below : List Frame} {meth : Method} {c : Code} {T : State} {H : Heap} {locs : List Loc} {cells slots : Nat}
theorem vx_callVX (X : Stand p l e R s m args below meth c T locs cells slots) (hexec : p.tables.exec = Jvm.exec) {own C : String} {index : Nat} {y : MethodName} {bytes : ByteArray} {maxL : Nat} {ret : Option FieldType} {hh : List (Nat × Nat × Nat × Nat)}
    (hown : s.vm.findClass own = some m.cls) (hlink : (Cond.methodLink own index y).before args s = true) (hinst : (Cond.instanceMethod y).before args s = true) (hsel : (Cond.selects C y y).before args s = true)
    (hcode : (Cond.codeWith y bytes maxL ret hh).before args s = true) (hy : y.cls ≠ "java/lang/invoke/MethodHandle" ∧ y.cls ≠ "java/lang/invoke/VarHandle")
    {W9 : Nat} {Pre : Pt → Array Value → Prop} {Post : Pt → Array Value → Option Value → Pt → Prop} {PostX : Pt → Array Value → Addr → Pt → Prop} (hK : vx_Back l R p e below s args y 3 W9 Pre Post PostX)
    {b : Addr} {cellB : Cell} (hcell : T.heap[b]? = some cellB) (hobj : cellB.vm.isStatics = false) (hcls : s.vm.findClass C = some cellB.cls)
    {g : JFrame} (hg : g.method = m) (hsize : g.locals.size = c.maxLocals) {argsL rest : List Value} (hlen : ∀ sig, parseMethodDescriptor y.desc = some sig → argsL.length = sig.parameters.length)
    (hstack : g.stack = argsL.reverse ++ .ref b :: rest) (hW : 2 * g.monitorRoom + (rest.map fun v => v.category).sum ≤ W9) (hdg : decode c.code g.pc = .ok (.invokevirtual index, 3))
    (hpre : ∀ vm₁, s.WarmedH vm₁ → Pre ⟨T.setVm vm₁, locs, cells, slots⟩ (Value.ref b :: argsL).toArray) :
    (∃ (v : Option Value) (vm₁ : Vm) (B : Pt), s.WarmedH vm₁ ∧ Stand p l e R s m args below meth c B.U B.locs B.cells B.slots ∧ Post ⟨T.setVm vm₁, locs, cells, slots⟩ (Value.ref b :: argsL).toArray v B ∧
      ∀ target, Steps p.tables e below (B.U.setTop { g with pc := g.pc + 3, stack := v.toList ++ rest }) target → Steps p.tables e below (T.setTop g) target) ∨
    (∃ (q : Addr) (vm₁ : Vm) (B : Pt), s.WarmedH vm₁ ∧ Stand p l e R s m args below meth c B.U B.locs B.cells B.slots ∧ PostX ⟨T.setVm vm₁, locs, cells, slots⟩ (Value.ref b :: argsL).toArray q B ∧
      Steps p.tables e below (T.setTop g) ((B.U.setTop { g with stack := rest }).pushFrame (.throwing q))) := by
  obtain ⟨mk, methM, hnamed, hmethM, hstM, habM⟩ := Cond.instanceMethod_spec hinst
  obtain ⟨m8, methM', cM, hn8, hmethM', -, -, -, -, -, -, hsigM⟩ := Cond.codeWith_spec hcode
  cases Option.some.inj (hn8.symm.trans hnamed)
  cases hmethM.symm.trans hmethM'
  obtain ⟨c2, r2, m2, q1, q2, q3, q4, kP, hkP, hkPi⟩ := Cond.selects_spec hsel
  cases hcls.symm.trans q1
  cases (State.methodFound?_of_named hnamed hy).symm.trans q2
  cases hnamed.symm.trans q3
  have hselP : selectMethod e.platform s.vm cellB.cls mk = .method mk := by rw [Launch.admits_selectMethod X.admits]; exact q4
  obtain ⟨vm₁, X₁, hstep₁⟩ := X.invokevirtual hexec hown hlink hnamed hmethM hstM hkP hkPi hy (a := b) (cell := cellB) hcell
    (fun z h => by rw [h] at hobj; cases hobj) hselP hmethM habM hkP hkPi (g := g) hg (argsL := argsL) (rest := rest) (hlen _ hsigM) hstack hdg
  rcases hK m meth c ⟨T.setVm vm₁, locs, cells, slots⟩ { g with stack := rest } (.invokevirtual index) mk (Value.ref b :: argsL).toArray X₁ hg hsize hdg hW (X₁.named hnamed) (hpre vm₁ X₁.warmed) with ⟨v, B, X', hpost, hsteps⟩ | ⟨q, B, X', hpost, hsteps⟩
  · exact Or.inl ⟨v, vm₁, B, X₁.warmed, X', hpost, fun target h => hstep₁ _ fun acts => by rw [doInvoke_state]; exact hsteps.trans h⟩
  · exact Or.inr ⟨q, vm₁, B, X₁.warmed, X', hpost, hstep₁ _ fun acts => by rw [doInvoke_state]; exact hsteps⟩
theorem vx_callSX (X : Stand p l e R s m args below meth c T locs cells slots) (hexec : p.tables.exec = Jvm.exec) {own : String} {index : Nat} {y : MethodName} {bytes : ByteArray} {maxL : Nat} {ret : Option FieldType} {hh : List (Nat × Nat × Nat × Nat)}
    (hown : s.vm.findClass own = some m.cls) (hlink : (Cond.methodLink own index y).before args s = true) (hstat : (Cond.static y).before args s = true) (hinit : (Cond.initialized y.cls).before args s = true)
    (hcode : (Cond.codeWith y bytes maxL ret hh).before args s = true) (hy : y.cls ≠ "java/lang/invoke/MethodHandle" ∧ y.cls ≠ "java/lang/invoke/VarHandle")
    {W9 : Nat} {Pre : Pt → Array Value → Prop} {Post : Pt → Array Value → Option Value → Pt → Prop} {PostX : Pt → Array Value → Addr → Pt → Prop} (hK : vx_Back l R p e below s args y 3 W9 Pre Post PostX)
    {g : JFrame} (hg : g.method = m) (hsize : g.locals.size = c.maxLocals) {argsL rest : List Value} (hlen : ∀ sig, parseMethodDescriptor y.desc = some sig → argsL.length = sig.parameters.length)
    (hstack : g.stack = argsL.reverse ++ rest) (hW : 2 * g.monitorRoom + (rest.map fun v => v.category).sum ≤ W9) (hdg : decode c.code g.pc = .ok (.invokestatic index, 3))
    (hpre : ∀ vm₁, s.WarmedH vm₁ → Pre ⟨T.setVm vm₁, locs, cells, slots⟩ argsL.toArray) :
    (∃ (v : Option Value) (vm₁ : Vm) (B : Pt), s.WarmedH vm₁ ∧ Stand p l e R s m args below meth c B.U B.locs B.cells B.slots ∧ Post ⟨T.setVm vm₁, locs, cells, slots⟩ argsL.toArray v B ∧
      ∀ target, Steps p.tables e below (B.U.setTop { g with pc := g.pc + 3, stack := v.toList ++ rest }) target → Steps p.tables e below (T.setTop g) target) ∨
    (∃ (q : Addr) (vm₁ : Vm) (B : Pt), s.WarmedH vm₁ ∧ Stand p l e R s m args below meth c B.U B.locs B.cells B.slots ∧ PostX ⟨T.setVm vm₁, locs, cells, slots⟩ argsL.toArray q B ∧
      Steps p.tables e below (T.setTop g) ((B.U.setTop { g with stack := rest }).pushFrame (.throwing q))) := by
  obtain ⟨mk, methM, cM, hnamed, hmethM, -, -, -, -, -, -, hsigM⟩ := Cond.codeWith_spec hcode
  have hstatic : methM.isStatic = true := Cond.static_spec hnamed hmethM hstat
  obtain ⟨kP, hkP, -⟩ := className_of_methodNamed hnamed
  have hinitP : kP.init = .initialized := Cond.initialized_spec (findClass_of_methodNamed hnamed) hkP hinit
  obtain ⟨vm₁, X₁, hstep₁⟩ := X.invokestatic hexec hown hlink hnamed hmethM hstatic hkP hinitP hy (g := g) hg (argsL := argsL) (rest := rest) (hlen _ hsigM) hstack hdg
  rcases hK m meth c ⟨T.setVm vm₁, locs, cells, slots⟩ { g with stack := rest } (.invokestatic index) mk argsL.toArray X₁ hg hsize hdg hW (X₁.named hnamed) (hpre vm₁ X₁.warmed) with ⟨v, B, X', hpost, hsteps⟩ | ⟨q, B, X', hpost, hsteps⟩
  · exact Or.inl ⟨v, vm₁, B, X₁.warmed, X', hpost, fun target h => hstep₁ _ fun acts => by rw [doInvoke_state]; exact hsteps.trans h⟩
  · exact Or.inr ⟨q, vm₁, B, X₁.warmed, X', hpost, hstep₁ _ fun acts => by rw [doInvoke_state]; exact hsteps⟩
theorem vx_callVW (X : Stand p l e R s m args below meth c T locs cells slots) (hexec : p.tables.exec = Jvm.exec) {own C : String} {index : Nat} {y : MethodName} {bytes : ByteArray} {maxL : Nat} {ret : Option FieldType} {hh : List (Nat × Nat × Nat × Nat)}
    (hown : s.vm.findClass own = some m.cls) (hlink : (Cond.methodLink own index y).before args s = true) (hinst : (Cond.instanceMethod y).before args s = true) (hsel : (Cond.selects C y y).before args s = true)
    (hcode : (Cond.codeWith y bytes maxL ret hh).before args s = true) (hy : y.cls ≠ "java/lang/invoke/MethodHandle" ∧ y.cls ≠ "java/lang/invoke/VarHandle")
    {W9 : Nat} {Pre : Pt → Array Value → Prop} {Post : Pt → Array Value → Option Value → Pt → Prop} (hK : Back l R p e below s args y 3 W9 Pre Post)
    {b : Addr} {cellB : Cell} (hcell : T.heap[b]? = some cellB) (hobj : cellB.vm.isStatics = false) (hcls : s.vm.findClass C = some cellB.cls)
    {g : JFrame} (hg : g.method = m) (hsize : g.locals.size = c.maxLocals) {argsL rest : List Value} (hlen : ∀ sig, parseMethodDescriptor y.desc = some sig → argsL.length = sig.parameters.length)
    (hstack : g.stack = argsL.reverse ++ .ref b :: rest) (hW : 2 * g.monitorRoom + (rest.map fun v => v.category).sum ≤ W9) (hdg : decode c.code g.pc = .ok (.invokevirtual index, 3))
    (hpre : ∀ vm₁, s.WarmedH vm₁ → Pre ⟨T.setVm vm₁, locs, cells, slots⟩ (Value.ref b :: argsL).toArray) :
    ∃ (v : Option Value) (vm₁ : Vm) (B : Pt), s.WarmedH vm₁ ∧ Stand p l e R s m args below meth c B.U B.locs B.cells B.slots ∧ Post ⟨T.setVm vm₁, locs, cells, slots⟩ (Value.ref b :: argsL).toArray v B ∧
      ∀ target, Steps p.tables e below (B.U.setTop { g with pc := g.pc + 3, stack := v.toList ++ rest }) target → Steps p.tables e below (T.setTop g) target := by
  obtain ⟨mk, methM, hnamed, hmethM, hstM, habM⟩ := Cond.instanceMethod_spec hinst
  obtain ⟨m8, methM', cM, hn8, hmethM', -, -, -, -, -, -, hsigM⟩ := Cond.codeWith_spec hcode
  cases Option.some.inj (hn8.symm.trans hnamed)
  cases hmethM.symm.trans hmethM'
  obtain ⟨c2, r2, m2, q1, q2, q3, q4, kP, hkP, hkPi⟩ := Cond.selects_spec hsel
  cases hcls.symm.trans q1
  cases (State.methodFound?_of_named hnamed hy).symm.trans q2
  cases hnamed.symm.trans q3
  have hselP : selectMethod e.platform s.vm cellB.cls mk = .method mk := by rw [Launch.admits_selectMethod X.admits]; exact q4
  obtain ⟨vm₁, X₁, hstep₁⟩ := X.invokevirtual hexec hown hlink hnamed hmethM hstM hkP hkPi hy (a := b) (cell := cellB) hcell
    (fun z h => by rw [h] at hobj; cases hobj) hselP hmethM habM hkP hkPi (g := g) hg (argsL := argsL) (rest := rest) (hlen _ hsigM) hstack hdg
  obtain ⟨v, B, X', hpost, hsteps⟩ := hK m meth c ⟨T.setVm vm₁, locs, cells, slots⟩ { g with stack := rest } (.invokevirtual index) mk (Value.ref b :: argsL).toArray X₁ hg hsize hdg hW (X₁.named hnamed) (hpre vm₁ X₁.warmed)
  exact ⟨v, vm₁, B, X₁.warmed, X', hpost, fun target h => hstep₁ _ fun acts => by rw [doInvoke_state]; exact hsteps.trans h⟩
abbrev vx_CVW (R : Room) (s : State) (args : Array Value) (own C : String) (index : Nat) (y : MethodName) (bytes : ByteArray) (maxL : Nat) (ret : Option FieldType) (hh : List (Nat × Nat × Nat × Nat)) (ws : List Cond) (rm : Room) (mc ms n : Nat) : Prop :=
  (rm.cells = mc ∧ rm.slots = ms ∧ rm.frames + 1 ≤ R.frames ∧ 8 + (maxL + 11) + rm.locals ≤ R.locals ∧ (∀ w ∈ ws, ∀ (a' : Array Value) (U : State), s.WarmedH U.vm → w.before a' U = true) ∧ Cond.codeWith y bytes maxL ret hh ∈ ws) ∧
  (Cond.codeWith y bytes maxL ret hh).before args s = true ∧ (Cond.initialized y.cls).before args s = true ∧ (y.cls ≠ "java/lang/invoke/MethodHandle" ∧ y.cls ≠ "java/lang/invoke/VarHandle") ∧
  (∀ sig, parseMethodDescriptor y.desc = some sig → n = sig.parameters.length) ∧ (Cond.methodLink own index y).before args s = true ∧ (Cond.instanceMethod y).before args s = true ∧ (Cond.selects C y y).before args s = true
theorem vx_cwVW {own C : String} {index maxL mc ms : Nat} {y : MethodName} {bytes : ByteArray} {ret : Option FieldType} {hh : List (Nat × Nat × Nat × Nat)} {Ts ws ws' : List Cond} {rm : Room} (n : Nat) (ht : ∀ w ∈ Ts, w.before args s = true) (hT : GoodIn Ts (wsV own index C y ws)) (hw : ws = Cond.codeWith y bytes maxL ret hh :: ws') (hrc : rm.cells = mc) (hrs : rm.slots = ms)
    (hd : y.cls = C ∧ y.cls ≠ "java/lang/invoke/MethodHandle" ∧ y.cls ≠ "java/lang/invoke/VarHandle" ∧ (parseMethodDescriptor y.desc).map (fun d => d.parameters.length) = some n) (hR : rm.frames + 1 ≤ R.frames ∧ 8 + (maxL + 11) + rm.locals ≤ R.locals) :
    vx_CVW R s args own C index y bytes maxL ret hh ws rm mc ms n := by
  obtain ⟨hC, hd⟩ := hd
  subst hC
  have ok : ∀ w ∈ wsV own index y.cls y ws, w.before args s = true := fun w h => ht w (hT w h).1
  have hG : GoodIn Ts ws := fun w h => hT w (by unfold wsV; exact List.mem_append_right _ h)
  have hc : Cond.codeWith y bytes maxL ret hh ∈ ws := by rw [hw]; exact List.mem_cons_self
  refine ⟨⟨hrc, hrs, hR.1, hR.2, pay_in ht hG, hc⟩, ht _ (hG _ hc).1, ok _ (by simp [wsV]), ⟨hd.1, hd.2.1⟩, fun sig h => ?_, ok _ (by simp [wsV]), ok _ (by simp [wsV]), ok _ (by simp [wsV])⟩
  have h2 := hd.2.2
  rw [h] at h2
  exact (Option.some.inj h2).symm
theorem vx_runVW {y : MethodName} {bytes cc : ByteArray} {maxL nL mc ms n index : Nat} {ret : Option FieldType} {hh : List (Nat × Nat × Nat × Nat)} {ws : List Cond} {rm : Room} {Pc : Array Value → State → Prop} {Qc : Array Value → State → Outcome → State → Prop} {free : Addr → Prop} {Ts : List Cond} {own C : String} {b : Addr} {As rest : List Value} {g : JFrame}
    (S : CallFix p m c cc nL s args Ts own) (hM : Met l y ws rm Pc Qc mc ms free) (cw : vx_CVW R s args own C index y bytes maxL ret hh ws rm mc ms n) (hp : PreV s H C b Pc As)
    (hg : g.method = m) (hn : As.length = n) (hsize : g.locals.size = nL) (hstack : g.stack = As.reverse ++ .ref b :: rest) (hW : 2 * g.monitorRoom + (rest.map fun v => v.category).sum ≤ 8) (hdg : decode cc g.pc = .ok (.invokevirtual index, 3)) (hf : cells + mc ≤ R.cells ∧ slots + ms ≤ R.slots) :
    va_Run p l e R s m args below meth c H locs cells slots mc ms g rest (Qc (Value.ref b :: As).toArray) free := by
  obtain ⟨⟨hrc, hrs, hfr, hlo, hws, hcw⟩, hcode, hini, hy, hlen, hl, hin, hse⟩ := cw
  have hK : Back l R p e below s args y 3 8 (PreOf R mc ms Pc) (PostOf Qc mc ms free) := va_backW (hh := hh) (bytes := bytes) (maxL := maxL) (ret := ret) hM hp.1 hrc hrs hfr hlo hws hcw (fun a' U hW => word_at hW (Or.inl (by first | rfl | simp [Cond.onTables, Cond.keeps, Cond.steady])) hini)
  obtain ⟨hx, hb, hml, ho, -⟩ := S
  obtain ⟨-, ⟨cellB, hcB, hoB, hclB⟩, hPc⟩ := hp
  intro T hT X
  obtain ⟨v, vm₁, ⟨U', l2, c2, s2⟩, hW₁, X', ⟨g', mk, t, L, e1, e2, hq, h1, hL, h2, h3⟩, st⟩ := vx_callVW X hx (C := C) (hh := hh) (bytes := bytes) (maxL := maxL) (ret := ret) ho hl hin hse hcode hy hK (by rw [hT]; exact hcB) hoB hclB hg (hsize.trans hml.symm) (argsL := As) (rest := rest) (fun sig h => hn.trans (hlen sig h)) hstack hW (by rw [hb]; exact hdg)
    (fun vm₁ hW₁ => ⟨hf.1, hf.2, hPc (T.setVm vm₁) hT hW₁⟩)
  dsimp only [Pt.U, Pt.locs, Pt.cells, Pt.slots] at X' e1 e2 h1 h2 h3 st
  subst h1; subst h2; subst h3
  exact ⟨v, (T.setVm vm₁).calling g' mk (Value.ref b :: As).toArray, t, U', L, hT, X', hL, e1, e2, hq, st⟩
section
variable {y : MethodName} {bytes cc : ByteArray} {maxL nL mc ms n index : Nat} {ret : Option FieldType} {ws : List Cond} {rm : Room} {Pc : Array Value → State → Prop} {Qc : Array Value → State → Outcome → State → Prop} {XC : String → State → State → Prop} {free : Addr → Prop} {Ts : List Cond} {own C : String} {b : Addr} {As rest : List Value} {g : JFrame}
theorem vx_runVX {hh : List (Nat × Nat × Nat × Nat)} (S : CallFix p m c cc nL s args Ts own) (hM : vx_Met l y ws rm Pc Qc XC mc ms free) (cw : vx_CVW R s args own C index y bytes maxL ret hh ws rm mc ms n) (hp : PreV s H C b Pc As)
    (hg : g.method = m) (hn : As.length = n) (hsize : g.locals.size = nL) (hstack : g.stack = As.reverse ++ .ref b :: rest) (hW : 2 * g.monitorRoom + (rest.map fun v => v.category).sum ≤ 8) (hdg : decode cc g.pc = .ok (.invokevirtual index, 3)) (hf : cells + mc ≤ R.cells ∧ slots + ms ≤ R.slots) :
    vx_Run p l e R s m args below meth c H locs cells slots mc ms g rest (Qc (Value.ref b :: As).toArray) XC free := by
  obtain ⟨⟨hrc, hrs, hfr, hlo, hws, hcw⟩, hcode, hini, hy, hlen, hl, hin, hse⟩ := cw
  have hK : vx_Back l R p e below s args y 3 8 (PreOf R mc ms Pc) (PostOf Qc mc ms free) (vx_Post XC mc ms free) := vx_backW (hh := hh) (bytes := bytes) (maxL := maxL) (ret := ret) hM hp.1 hrc hrs hfr hlo hws hcw (fun a' U hW => word_at hW (Or.inl (by first | rfl | simp [Cond.onTables, Cond.keeps, Cond.steady])) hini)
  obtain ⟨hx, hb, hml, ho, -⟩ := S
  obtain ⟨-, ⟨cellB, hcB, hoB, hclB⟩, hPc⟩ := hp
  intro T hT X
  rcases vx_callVX X hx (C := C) (hh := hh) (bytes := bytes) (maxL := maxL) (ret := ret) ho hl hin hse hcode hy hK (by rw [hT]; exact hcB) hoB hclB hg (hsize.trans hml.symm) (argsL := As) (rest := rest) (fun sig h => hn.trans (hlen sig h)) hstack hW (by rw [hb]; exact hdg)
    (fun vm₁ hW₁ => ⟨hf.1, hf.2, hPc (T.setVm vm₁) hT hW₁⟩) with ⟨v, vm₁, ⟨U', l2, c2, s2⟩, hW₁, X', ⟨g', mk, t, L, e1, e2, hq, h1, hL, h2, h3⟩, st⟩ | ⟨q, vm₁, ⟨U', l2, c2, s2⟩, hW₁, X', ⟨g', mk, t, L, E, ce, e1, e2, hq, hce, hcv, hcl, h1, hL, h2, h3⟩, st⟩
  · dsimp only [Pt.U, Pt.locs, Pt.cells, Pt.slots] at X' e1 e2 h1 h2 h3 st
    subst h1; subst h2; subst h3
    exact Or.inl ⟨v, (T.setVm vm₁).calling g' mk (Value.ref b :: As).toArray, t, U', L, hT, X', hL, e1, e2, hq, st⟩
  · dsimp only [Pt.U, Pt.locs, Pt.cells, Pt.slots] at X' e1 e2 h1 h2 h3 st hcl
    subst h1; subst h2; subst h3
    exact Or.inr ⟨q, (T.setVm vm₁).calling g' mk (Value.ref b :: As).toArray, t, U', L, E, ce, hT, X', hL, e1, e2, hq, hce, hcv, vx_cls hW₁ hcl, st⟩
theorem vx_runSX {hh : List (Nat × Nat × Nat × Nat)} (S : CallFix p m c cc nL s args Ts own) (hM : vx_Met l y ws rm Pc Qc XC mc ms free) (cw : vx_CSW R s args own index y bytes maxL ret hh ws rm mc ms n) (hp : PreS s H Pc As)
    (hg : g.method = m) (hn : As.length = n) (hsize : g.locals.size = nL) (hstack : g.stack = As.reverse ++ rest) (hW : 2 * g.monitorRoom + (rest.map fun v => v.category).sum ≤ 8) (hdg : decode cc g.pc = .ok (.invokestatic index, 3)) (hf : cells + mc ≤ R.cells ∧ slots + ms ≤ R.slots) :
    vx_Run p l e R s m args below meth c H locs cells slots mc ms g rest (Qc As.toArray) XC free := by
  obtain ⟨⟨hrc, hrs, hfr, hlo, hws, hcw⟩, hcode, hini, hy, hlen, hl, hstt⟩ := cw
  have hK : vx_Back l R p e below s args y 3 8 (PreOf R mc ms Pc) (PostOf Qc mc ms free) (vx_Post XC mc ms free) := vx_backW (hh := hh) (bytes := bytes) (maxL := maxL) (ret := ret) hM hp.1 hrc hrs hfr hlo hws hcw (fun a' U hW => word_at hW (Or.inl (by first | rfl | simp [Cond.onTables, Cond.keeps, Cond.steady])) hini)
  obtain ⟨hx, hb, hml, ho, -⟩ := S
  intro T hT X
  rcases vx_callSX X hx (hh := hh) (bytes := bytes) (maxL := maxL) (ret := ret) ho hl hstt hini hcode hy hK hg (hsize.trans hml.symm) (argsL := As) (rest := rest) (fun sig h => hn.trans (hlen sig h)) hstack hW (by rw [hb]; exact hdg)
    (fun vm₁ hW₁ => ⟨hf.1, hf.2, hp.2 (T.setVm vm₁) hT hW₁⟩) with ⟨v, vm₁, ⟨U', l2, c2, s2⟩, hW₁, X', ⟨g', mk, t, L, e1, e2, hq, h1, hL, h2, h3⟩, st⟩ | ⟨q, vm₁, ⟨U', l2, c2, s2⟩, hW₁, X', ⟨g', mk, t, L, E, ce, e1, e2, hq, hce, hcv, hcl, h1, hL, h2, h3⟩, st⟩
  · dsimp only [Pt.U, Pt.locs, Pt.cells, Pt.slots] at X' e1 e2 h1 h2 h3 st
    subst h1; subst h2; subst h3
    exact Or.inl ⟨v, (T.setVm vm₁).calling g' mk As.toArray, t, U', L, hT, X', hL, e1, e2, hq, st⟩
  · dsimp only [Pt.U, Pt.locs, Pt.cells, Pt.slots] at X' e1 e2 h1 h2 h3 st hcl
    subst h1; subst h2; subst h3
    exact Or.inr ⟨q, (T.setVm vm₁).calling g' mk As.toArray, t, U', L, E, ce, hT, X', hL, e1, e2, hq, hce, hcv, vx_cls hW₁ hcl, st⟩
end
end VXH
theorem vx_ofWH {l : Launch} {y : MethodName} {ws ws' : List Cond} {rm : Room} {Pc : Array Value → State → Prop} {Qc : Array Value → State → Outcome → State → Prop} {XC : String → State → State → Prop} {mc ms : Nat} {free : Addr → Prop} {cc : ByteArray} {maxL : Nat} {ret : Option FieldType} {hh : List (Nat × Nat × Nat × Nat)}
    (hy : plainName y.cls = true) (hw : ws = Cond.codeWith y cc maxL ret hh :: ws')
    (body : ∀ p e s m args below meth c s₁, BodyLoose p l y (headSpec ws rm) cc maxL ret e s m args below meth c s₁ → c.maxLocals = maxL → Pc args s →
      W p l e (headSpec ws rm).room s m args below meth c s.heap [] 0 0 (vx_MQ below Qc XC args s mc ms free) (entryFrame m args maxL)) : vx_Met l y ws rm Pc Qc XC mc ms free := by
  refine MetFree.of_bodyS (code := cc) (maxLocals := maxL) (ret := ret) hy ?_ ?_
  · intro args s m h hn
    obtain ⟨m9, meth, c, hn9, h1, h2, h3, h4, -, h5, h6, -⟩ := Cond.codeWith_spec (atoms_spec (ws := ws) h _ (by rw [hw]; exact List.mem_cons_self))
    cases hn.symm.trans hn9
    exact ⟨meth, c, h1, h2, h3, h4, h5, h6⟩
  · intro p e s m args below meth c s₁ B hml hP _
    have hh0 : s₁.heap = s.heap := by rw [B.state]; rfl
    obtain ⟨t, a1, o, b1, b2, b3⟩ := body p e s m args below meth c s₁ B hml hP s₁ hh0 (Stand.of_body B)
    exact ⟨t, o, a1, b1, b2, b3⟩
/-! ===== END ===== -/
end
section
def RX0 : String := "MovedLines$CommonRow"
def TX0 : u_T := fun k => match k with
  | 0 => ("MovedLines$CommonRow", "first", "[I", true)
  | 1 => ("MovedLines$CommonRow", "second", "[I", true)
  | 2 => ("MovedLines$CommonRow", "longest", "[I", true)
  | 3 => ("MovedLines$CommonRow", "firsts", "I", false)
  | _ => ("MovedLines$CommonRow", "seconds", "I", false)
def tyX0 : Nat → FieldType := fun k => match k with
  | 0 => .array .int
  | 1 => .array .int
  | 2 => .array .int
  | 3 => .int
  | _ => .int
abbrev wsX00 : List Cond := u_ws RX0 TX0 5
theorem nmX0 : ∀ a, a < 5 → ∀ b, b < 5 → a ≠ b → (TX0 a).2.1 ≠ (TX0 b).2.1 := by decide +kernel
theorem tyX0_ok : ∀ k, k < 5 → parseFieldDescriptor (TX0 k).2.2.1 = some (tyX0 k) := by decide +kernel
abbrev cX0_init : ByteArray := prog_2_method_1_code
def yX0_init : MethodName := ⟨RX0, "<init>", "()V"⟩
abbrev cX0_setFirst : ByteArray := prog_2_method_2_code
def yX0_setFirst : MethodName := ⟨RX0, "setFirst", "([III)V"⟩
abbrev cX0_setSecond : ByteArray := prog_2_method_3_code
def yX0_setSecond : MethodName := ⟨RX0, "setSecond", "([III)V"⟩
abbrev cX0_copyRow : ByteArray := prog_2_method_4_code
def yX0_copyRow : MethodName := ⟨RX0, "copyRow", "([III[I)I"⟩
abbrev cX0_measure : ByteArray := prog_2_method_5_code
def yX0_measure : MethodName := ⟨RX0, "measure", "()I"⟩
abbrev cX0_partnerOf : ByteArray := prog_2_method_6_code
def yX0_partnerOf : MethodName := ⟨RX0, "partnerOf", "(I)I"⟩
abbrev cX0_nextLike : ByteArray := prog_2_method_7_code
def yX0_nextLike : MethodName := ⟨RX0, "nextLike", "(II)I"⟩
def RX1 : String := "MovedLines$Comparer"
def TX1 : u_T := fun k => match k with
  | 0 => ("MovedLines$Comparer", "kinds", "LMovedLines$Kinds;", true)
  | 1 => ("MovedLines$Comparer", "keeper", "LMovedLines$Keeper;", true)
  | 2 => ("MovedLines$Comparer", "common", "LMovedLines$CommonRow;", true)
  | _ => ("MovedLines$Comparer", "likeness", "[[I", true)
def tyX1 : Nat → FieldType := fun k => match k with
  | 0 => .object "MovedLines$Kinds"
  | 1 => .object "MovedLines$Keeper"
  | 2 => .object "MovedLines$CommonRow"
  | _ => .array (.array .int)
abbrev wsX10 : List Cond := u_ws RX1 TX1 4
theorem nmX1 : ∀ a, a < 4 → ∀ b, b < 4 → a ≠ b → (TX1 a).2.1 ≠ (TX1 b).2.1 := by decide +kernel
theorem tyX1_ok : ∀ k, k < 4 → parseFieldDescriptor (TX1 k).2.2.1 = some (tyX1 k) := by decide +kernel
abbrev cX1_init : ByteArray := prog_3_method_1_code
def yX1_init : MethodName := ⟨RX1, "<init>", "()V"⟩
abbrev cX1_compare : ByteArray := prog_3_method_2_code
def yX1_compare : MethodName := ⟨RX1, "compare", "(LMovedLines$Edition;LMovedLines$Edition;LMovedLines$Told;)V"⟩
abbrev cX1_mostLines : ByteArray := prog_3_method_3_code
def yX1_mostLines : MethodName := ⟨RX1, "mostLines", "(LMovedLines$Edition;LMovedLines$Edition;)I"⟩
abbrev cX1_moveLongest : ByteArray := prog_3_method_4_code
def yX1_moveLongest : MethodName := ⟨RX1, "moveLongest", "(LMovedLines$Told;)Z"⟩
abbrev cX1_looseRow : ByteArray := prog_3_method_5_code
def yX1_looseRow : MethodName := ⟨RX1, "looseRow", "(IILMovedLines$Told;)I"⟩
abbrev cX1_measureLikeness : ByteArray := prog_3_method_6_code
def yX1_measureLikeness : MethodName := ⟨RX1, "measureLikeness", "(LMovedLines$Edition;LMovedLines$Edition;LMovedLines$Told;)V"⟩
abbrev cX1_likenessTo : ByteArray := prog_3_method_7_code
def yX1_likenessTo : MethodName := ⟨RX1, "likenessTo", "(LMovedLines$Edition;II)I"⟩
abbrev cX1_editLikest : ByteArray := prog_3_method_8_code
def yX1_editLikest : MethodName := ⟨RX1, "editLikest", "(LMovedLines$Edition;LMovedLines$Edition;LMovedLines$Told;)Z"⟩
abbrev cX1_looseWords : ByteArray := prog_3_method_9_code
def yX1_looseWords : MethodName := ⟨RX1, "looseWords", "(ILMovedLines$Edition;LMovedLines$Told;)I"⟩
def RX2 : String := "MovedLines$Edition"
def TX2 : u_T := fun k => match k with
  | 0 => ("MovedLines$Edition", "sizes", "[I", true)
  | 1 => ("MovedLines$Edition", "words", "[I", true)
  | _ => ("MovedLines$Edition", "lines", "I", false)
def tyX2 : Nat → FieldType := fun k => match k with
  | 0 => .array .int
  | 1 => .array .int
  | _ => .int
abbrev wsX20 : List Cond := u_ws RX2 TX2 3
theorem nmX2 : ∀ a, a < 3 → ∀ b, b < 3 → a ≠ b → (TX2 a).2.1 ≠ (TX2 b).2.1 := by decide +kernel
theorem tyX2_ok : ∀ k, k < 3 → parseFieldDescriptor (TX2 k).2.2.1 = some (tyX2 k) := by decide +kernel
abbrev cX2_init : ByteArray := prog_4_method_1_code
def yX2_init : MethodName := ⟨RX2, "<init>", "()V"⟩
abbrev cX2_has : ByteArray := prog_4_method_2_code
def yX2_has : MethodName := ⟨RX2, "has", "(I)Z"⟩
abbrev cX2_sizeOf : ByteArray := prog_4_method_3_code
def yX2_sizeOf : MethodName := ⟨RX2, "sizeOf", "(I)I"⟩
abbrev cX2_wordAt : ByteArray := prog_4_method_4_code
def yX2_wordAt : MethodName := ⟨RX2, "wordAt", "(II)I"⟩
abbrev cX2_lettersOf : ByteArray := prog_4_method_5_code
def yX2_lettersOf : MethodName := ⟨RX2, "lettersOf", "(II)I"⟩
abbrev cX2_isLike : ByteArray := prog_4_method_6_code
def yX2_isLike : MethodName := ⟨RX2, "isLike", "(ILMovedLines$Edition;I)Z"⟩
abbrev cX2_copyAll : ByteArray := prog_4_method_7_code
def yX2_copyAll : MethodName := ⟨RX2, "copyAll", "(LMovedLines$Edition;)V"⟩
abbrev cX2_setLine : ByteArray := prog_4_method_8_code
def yX2_setLine : MethodName := ⟨RX2, "setLine", "(ILMovedLines$Edition;I)V"⟩
abbrev cX2_insertLine : ByteArray := prog_4_method_9_code
def yX2_insertLine : MethodName := ⟨RX2, "insertLine", "(ILMovedLines$Edition;I)V"⟩
abbrev cX2_removeLine : ByteArray := prog_4_method_10_code
def yX2_removeLine : MethodName := ⟨RX2, "removeLine", "(I)V"⟩
abbrev cX2_arrangeFrom : ByteArray := prog_4_method_11_code
def yX2_arrangeFrom : MethodName := ⟨RX2, "arrangeFrom", "(LMovedLines$Edition;III)V"⟩
abbrev cX2_sourceOf : ByteArray := prog_4_method_12_code
def yX2_sourceOf : MethodName := ⟨RX2, "sourceOf", "(IIII)I"⟩
def RX3 : String := "MovedLines$Keeper"
def TX3 : u_T := fun k => match k with
  | 0 => ("MovedLines$Keeper", "oldFrom", "[I", true)
  | 1 => ("MovedLines$Keeper", "oldTo", "[I", true)
  | 2 => ("MovedLines$Keeper", "newFrom", "[I", true)
  | 3 => ("MovedLines$Keeper", "newTo", "[I", true)
  | 4 => ("MovedLines$Keeper", "ranges", "I", false)
  | 5 => ("MovedLines$Keeper", "anchorOld", "[I", true)
  | 6 => ("MovedLines$Keeper", "anchorNew", "[I", true)
  | 7 => ("MovedLines$Keeper", "rise", "[I", true)
  | _ => ("MovedLines$Keeper", "found", "I", false)
def tyX3 : Nat → FieldType := fun k => match k with
  | 0 => .array .int
  | 1 => .array .int
  | 2 => .array .int
  | 3 => .array .int
  | 4 => .int
  | 5 => .array .int
  | 6 => .array .int
  | 7 => .array .int
  | _ => .int
abbrev wsX30 : List Cond := u_ws RX3 TX3 9
theorem nmX3 : ∀ a, a < 9 → ∀ b, b < 9 → a ≠ b → (TX3 a).2.1 ≠ (TX3 b).2.1 := by decide +kernel
theorem tyX3_ok : ∀ k, k < 9 → parseFieldDescriptor (TX3 k).2.2.1 = some (tyX3 k) := by decide +kernel
abbrev cX3_init : ByteArray := prog_5_method_1_code
def yX3_init : MethodName := ⟨RX3, "<init>", "()V"⟩
abbrev cX3_keep : ByteArray := prog_5_method_2_code
def yX3_keep : MethodName := ⟨RX3, "keep", "(LMovedLines$Kinds;LMovedLines$Told;)V"⟩
abbrev cX3_addRange : ByteArray := prog_5_method_3_code
def yX3_addRange : MethodName := ⟨RX3, "addRange", "(IIII)V"⟩
abbrev cX3_keepEnds : ByteArray := prog_5_method_4_code
def yX3_keepEnds : MethodName := ⟨RX3, "keepEnds", "(ILMovedLines$Kinds;LMovedLines$Told;)V"⟩
abbrev cX3_findAnchors : ByteArray := prog_5_method_5_code
def yX3_findAnchors : MethodName := ⟨RX3, "findAnchors", "(ILMovedLines$Kinds;)V"⟩
abbrev cX3_onlyPlace : ByteArray := prog_5_method_6_code
def yX3_onlyPlace : MethodName := ⟨RX3, "onlyPlace", "(I[III)I"⟩
abbrev cX3_measureRuns : ByteArray := prog_5_method_7_code
def yX3_measureRuns : MethodName := ⟨RX3, "measureRuns", "()I"⟩
abbrev cX3_keepRun : ByteArray := prog_5_method_8_code
def yX3_keepRun : MethodName := ⟨RX3, "keepRun", "(IILMovedLines$Told;)V"⟩
def RX4 : String := "MovedLines$Kinds"
def TX4 : u_T := fun k => match k with
  | 0 => ("MovedLines$Kinds", "olds", "[I", true)
  | 1 => ("MovedLines$Kinds", "news", "[I", true)
  | 2 => ("MovedLines$Kinds", "oldLines", "I", false)
  | _ => ("MovedLines$Kinds", "newLines", "I", false)
def tyX4 : Nat → FieldType := fun k => match k with
  | 0 => .array .int
  | 1 => .array .int
  | 2 => .int
  | _ => .int
abbrev wsX40 : List Cond := u_ws RX4 TX4 4
theorem nmX4 : ∀ a, a < 4 → ∀ b, b < 4 → a ≠ b → (TX4 a).2.1 ≠ (TX4 b).2.1 := by decide +kernel
theorem tyX4_ok : ∀ k, k < 4 → parseFieldDescriptor (TX4 k).2.2.1 = some (tyX4 k) := by decide +kernel
abbrev cX4_init : ByteArray := prog_6_method_1_code
def yX4_init : MethodName := ⟨RX4, "<init>", "()V"⟩
abbrev cX4_number : ByteArray := prog_6_method_2_code
def yX4_number : MethodName := ⟨RX4, "number", "(LMovedLines$Edition;LMovedLines$Edition;)V"⟩
abbrev cX4_firstLike : ByteArray := prog_6_method_3_code
def yX4_firstLike : MethodName := ⟨RX4, "firstLike", "(LMovedLines$Edition;ILMovedLines$Edition;I)I"⟩
abbrev cX4_areAlike : ByteArray := prog_6_method_4_code
def yX4_areAlike : MethodName := ⟨RX4, "areAlike", "(II)Z"⟩
def RX5 : String := "MovedLines$Past"
def TX5 : u_T := fun k => match k with
  | 0 => ("MovedLines$Past", "editions", "[LMovedLines$Edition;", true)
  | 1 => ("MovedLines$Past", "which", "[I", true)
  | 2 => ("MovedLines$Past", "count", "I", false)
  | _ => ("MovedLines$Past", "next", "I", false)
def tyX5 : Nat → FieldType := fun k => match k with
  | 0 => .array (.object "MovedLines$Edition")
  | 1 => .array .int
  | 2 => .int
  | _ => .int
abbrev wsX50 : List Cond := u_ws RX5 TX5 4
theorem nmX5 : ∀ a, a < 4 → ∀ b, b < 4 → a ≠ b → (TX5 a).2.1 ≠ (TX5 b).2.1 := by decide +kernel
theorem tyX5_ok : ∀ k, k < 4 → parseFieldDescriptor (TX5 k).2.2.1 = some (tyX5 k) := by decide +kernel
abbrev cX5_init : ByteArray := prog_7_method_1_code
def yX5_init : MethodName := ⟨RX5, "<init>", "()V"⟩
abbrev cX5_keep : ByteArray := prog_7_method_2_code
def yX5_keep : MethodName := ⟨RX5, "keep", "(ILMovedLines$Edition;)V"⟩
abbrev cX5_stepBack : ByteArray := prog_7_method_3_code
def yX5_stepBack : MethodName := ⟨RX5, "stepBack", "()I"⟩
abbrev cX5_forget : ByteArray := prog_7_method_4_code
def yX5_forget : MethodName := ⟨RX5, "forget", "()V"⟩
def RX6 : String := "MovedLines$Reader"
def TX6 : u_T := fun k => match k with
  | 0 => ("MovedLines$Reader", "draft", "LMovedLines$Edition;", true)
  | 1 => ("MovedLines$Reader", "fault", "I", false)
  | 2 => ("MovedLines$Reader", "place", "I", false)
  | 3 => ("MovedLines$Reader", "words", "I", false)
  | _ => ("MovedLines$Reader", "letters", "I", false)
def tyX6 : Nat → FieldType := fun k => match k with
  | 0 => .object "MovedLines$Edition"
  | 1 => .int
  | 2 => .int
  | 3 => .int
  | _ => .int
abbrev wsX60 : List Cond := u_ws RX6 TX6 5
theorem nmX6 : ∀ a, a < 5 → ∀ b, b < 5 → a ≠ b → (TX6 a).2.1 ≠ (TX6 b).2.1 := by decide +kernel
theorem tyX6_ok : ∀ k, k < 5 → parseFieldDescriptor (TX6 k).2.2.1 = some (tyX6 k) := by decide +kernel
abbrev cX6_init : ByteArray := prog_8_method_1_code
def yX6_init : MethodName := ⟨RX6, "<init>", "()V"⟩
abbrev cX6_read : ByteArray := prog_8_method_2_code
def yX6_read : MethodName := ⟨RX6, "read", "(LMovedLines$Tape;Z)Z"⟩
abbrev cX6_readByte : ByteArray := prog_8_method_3_code
def yX6_readByte : MethodName := ⟨RX6, "readByte", "(IZ)I"⟩
abbrev cX6_readLetter : ByteArray := prog_8_method_4_code
def yX6_readLetter : MethodName := ⟨RX6, "readLetter", "(I)I"⟩
abbrev cX6_closeLine : ByteArray := prog_8_method_5_code
def yX6_closeLine : MethodName := ⟨RX6, "closeLine", "()I"⟩
abbrev cX6_readEnd : ByteArray := prog_8_method_6_code
def yX6_readEnd : MethodName := ⟨RX6, "readEnd", "(Z)I"⟩
def RX7 : String := "MovedLines$Tape"
def TX7 : u_T := fun k => match k with
  | 0 => ("MovedLines$Tape", "bytes", "[B", true)
  | _ => ("MovedLines$Tape", "length", "I", false)
def tyX7 : Nat → FieldType := fun k => match k with
  | 0 => .array .byte
  | _ => .int
abbrev wsX70 : List Cond := u_ws RX7 TX7 2
theorem nmX7 : ∀ a, a < 2 → ∀ b, b < 2 → a ≠ b → (TX7 a).2.1 ≠ (TX7 b).2.1 := by decide +kernel
theorem tyX7_ok : ∀ k, k < 2 → parseFieldDescriptor (TX7 k).2.2.1 = some (tyX7 k) := by decide +kernel
abbrev cX7_init : ByteArray := prog_9_method_1_code
def yX7_init : MethodName := ⟨RX7, "<init>", "()V"⟩
abbrev cX7_append : ByteArray := prog_9_method_2_code
def yX7_append : MethodName := ⟨RX7, "append", "(I)V"⟩
def RX8 : String := "MovedLines$Told"
def TX8 : u_T := fun k => match k with
  | 0 => ("MovedLines$Told", "how", "[[I", true)
  | 1 => ("MovedLines$Told", "with", "[[I", true)
  | 2 => ("MovedLines$Told", "blockOf", "[[I", true)
  | 3 => ("MovedLines$Told", "couples", "[I", true)
  | 4 => ("MovedLines$Told", "blockOld", "[I", true)
  | 5 => ("MovedLines$Told", "blockNew", "[I", true)
  | 6 => ("MovedLines$Told", "blockLines", "[I", true)
  | 7 => ("MovedLines$Told", "blocks", "I", false)
  | 8 => ("MovedLines$Told", "firstAnchors", "I", false)
  | 9 => ("MovedLines$Told", "firstRun", "I", false)
  | _ => ("MovedLines$Told", "changedWords", "I", false)
def tyX8 : Nat → FieldType := fun k => match k with
  | 0 => .array (.array .int)
  | 1 => .array (.array .int)
  | 2 => .array (.array .int)
  | 3 => .array .int
  | 4 => .array .int
  | 5 => .array .int
  | 6 => .array .int
  | 7 => .int
  | 8 => .int
  | 9 => .int
  | _ => .int
abbrev wsX80 : List Cond := u_ws RX8 TX8 11
theorem nmX8 : ∀ a, a < 11 → ∀ b, b < 11 → a ≠ b → (TX8 a).2.1 ≠ (TX8 b).2.1 := by decide +kernel
theorem tyX8_ok : ∀ k, k < 11 → parseFieldDescriptor (TX8 k).2.2.1 = some (tyX8 k) := by decide +kernel
abbrev cX8_init : ByteArray := prog_10_method_1_code
def yX8_init : MethodName := ⟨RX8, "<init>", "()V"⟩
abbrev cX8_clear : ByteArray := prog_10_method_2_code
def yX8_clear : MethodName := ⟨RX8, "clear", "()V"⟩
abbrev cX8_isLoose : ByteArray := prog_10_method_3_code
def yX8_isLoose : MethodName := ⟨RX8, "isLoose", "(II)Z"⟩
abbrev cX8_join : ByteArray := prog_10_method_4_code
def yX8_join : MethodName := ⟨RX8, "join", "(IIII)V"⟩
abbrev cX8_moveBlock : ByteArray := prog_10_method_5_code
def yX8_moveBlock : MethodName := ⟨RX8, "moveBlock", "(III)V"⟩
abbrev cX8_allCouples : ByteArray := prog_10_method_6_code
def yX8_allCouples : MethodName := ⟨RX8, "allCouples", "()I"⟩
abbrev cX8_differencesFrom : ByteArray := prog_10_method_7_code
def yX8_differencesFrom : MethodName := ⟨RX8, "differencesFrom", "(LMovedLines$Told;)I"⟩
def RX9 : String := "MovedLines"
def TX9 : u_T := fun k => match k with
  | 0 => ("MovedLines", "tape", "LMovedLines$Tape;", true)
  | 1 => ("MovedLines", "reader", "LMovedLines$Reader;", true)
  | 2 => ("MovedLines", "old", "LMovedLines$Edition;", true)
  | 3 => ("MovedLines", "fresh", "LMovedLines$Edition;", true)
  | 4 => ("MovedLines", "spare", "LMovedLines$Edition;", true)
  | 5 => ("MovedLines", "past", "LMovedLines$Past;", true)
  | 6 => ("MovedLines", "comparer", "LMovedLines$Comparer;", true)
  | 7 => ("MovedLines", "common", "LMovedLines$CommonRow;", true)
  | 8 => ("MovedLines", "told", "LMovedLines$Told;", true)
  | 9 => ("MovedLines", "supposed", "LMovedLines$Told;", true)
  | _ => ("MovedLines", "stale", "Z", false)
def tyX9 : Nat → FieldType := fun k => match k with
  | 0 => .object "MovedLines$Tape"
  | 1 => .object "MovedLines$Reader"
  | 2 => .object "MovedLines$Edition"
  | 3 => .object "MovedLines$Edition"
  | 4 => .object "MovedLines$Edition"
  | 5 => .object "MovedLines$Past"
  | 6 => .object "MovedLines$Comparer"
  | 7 => .object "MovedLines$CommonRow"
  | 8 => .object "MovedLines$Told"
  | 9 => .object "MovedLines$Told"
  | _ => .boolean
abbrev wsX90 : List Cond := u_ws RX9 TX9 11
theorem nmX9 : ∀ a, a < 11 → ∀ b, b < 11 → a ≠ b → (TX9 a).2.1 ≠ (TX9 b).2.1 := by decide +kernel
theorem tyX9_ok : ∀ k, k < 11 → parseFieldDescriptor (TX9 k).2.2.1 = some (tyX9 k) := by decide +kernel
abbrev cX9_init : ByteArray := prog_1_method_1_code
def yX9_init : MethodName := ⟨RX9, "<init>", "()V"⟩
abbrev cX9_feed : ByteArray := prog_1_method_2_code
def yX9_feed : MethodName := ⟨RX9, "feed", "(IIIII)I"⟩
abbrev cX9_end : ByteArray := prog_1_method_3_code
def yX9_end : MethodName := ⟨RX9, "end", "(I)Z"⟩
abbrev cX9_edition : ByteArray := prog_1_method_4_code
def yX9_edition : MethodName := ⟨RX9, "edition", "(I)I"⟩
abbrev cX9_fault : ByteArray := prog_1_method_5_code
def yX9_fault : MethodName := ⟨RX9, "fault", "()I"⟩
abbrev cX9_now : ByteArray := prog_1_method_6_code
def yX9_now : MethodName := ⟨RX9, "now", "(I)I"⟩
abbrev cX9_line : ByteArray := prog_1_method_7_code
def yX9_line : MethodName := ⟨RX9, "line", "(III)I"⟩
abbrev cX9_letter : ByteArray := prog_1_method_8_code
def yX9_letter : MethodName := ⟨RX9, "letter", "(IIII)I"⟩
abbrev cX9_block : ByteArray := prog_1_method_9_code
def yX9_block : MethodName := ⟨RX9, "block", "(II)I"⟩
abbrev cX9_shared : ByteArray := prog_1_method_10_code
def yX9_shared : MethodName := ⟨RX9, "shared", "(II)I"⟩
abbrev cX9_stays : ByteArray := prog_1_method_11_code
def yX9_stays : MethodName := ⟨RX9, "stays", "(III)I"⟩
abbrev cX9_most : ByteArray := prog_1_method_12_code
def yX9_most : MethodName := ⟨RX9, "most", "()I"⟩
abbrev cX9_changes : ByteArray := prog_1_method_13_code
def yX9_changes : MethodName := ⟨RX9, "changes", "()I"⟩
abbrev cX9_anchors : ByteArray := prog_1_method_14_code
def yX9_anchors : MethodName := ⟨RX9, "anchors", "(I)I"⟩
abbrev cX9_would : ByteArray := prog_1_method_15_code
def yX9_would : MethodName := ⟨RX9, "would", "(III)I"⟩
abbrev cX9_put : ByteArray := prog_1_method_16_code
def yX9_put : MethodName := ⟨RX9, "put", "(II)I"⟩
abbrev cX9_change : ByteArray := prog_1_method_17_code
def yX9_change : MethodName := ⟨RX9, "change", "(II)I"⟩
abbrev cX9_cut : ByteArray := prog_1_method_18_code
def yX9_cut : MethodName := ⟨RX9, "cut", "(II)I"⟩
abbrev cX9_move : ByteArray := prog_1_method_19_code
def yX9_move : MethodName := ⟨RX9, "move", "(IIII)Z"⟩
abbrev cX9_take : ByteArray := prog_1_method_20_code
def yX9_take : MethodName := ⟨RX9, "take", "()I"⟩
abbrev cX9_undo : ByteArray := prog_1_method_21_code
def yX9_undo : MethodName := ⟨RX9, "undo", "()I"⟩
abbrev cX9_isEdition : ByteArray := prog_1_method_22_code
def yX9_isEdition : MethodName := ⟨RX9, "isEdition", "(I)Z"⟩
abbrev cX9_otherThan : ByteArray := prog_1_method_23_code
def yX9_otherThan : MethodName := ⟨RX9, "otherThan", "(I)I"⟩
abbrev cX9_editionOf : ByteArray := prog_1_method_24_code
def yX9_editionOf : MethodName := ⟨RX9, "editionOf", "(I)LMovedLines$Edition;"⟩
abbrev cX9_hasLine : ByteArray := prog_1_method_25_code
def yX9_hasLine : MethodName := ⟨RX9, "hasLine", "(II)Z"⟩
abbrev cX9_readTape : ByteArray := prog_1_method_26_code
def yX9_readTape : MethodName := ⟨RX9, "readTape", "(Z)Z"⟩
abbrev cX9_startStep : ByteArray := prog_1_method_27_code
def yX9_startStep : MethodName := ⟨RX9, "startStep", "(I)LMovedLines$Edition;"⟩
abbrev cX9_compared : ByteArray := prog_1_method_28_code
def yX9_compared : MethodName := ⟨RX9, "compared", "()LMovedLines$Told;"⟩
abbrev cX9_measureWords : ByteArray := prog_1_method_29_code
def yX9_measureWords : MethodName := ⟨RX9, "measureWords", "(II)I"⟩
abbrev cX9_letterIn : ByteArray := prog_1_method_30_code
def yX9_letterIn : MethodName := ⟨RX9, "letterIn", "(II)I"⟩
def RX10 : String := "MovedLinesModel"
def TX10 : u_T := fun k => match k with
  | 0 => ("MovedLinesModel", "thrown", "I", false)
  | 1 => ("MovedLinesModel", "tape", "[I", true)
  | 2 => ("MovedLinesModel", "taped", "I", false)
  | 3 => ("MovedLinesModel", "now", "[I", true)
  | 4 => ("MovedLinesModel", "read", "[I", true)
  | 5 => ("MovedLinesModel", "snaps", "[I", true)
  | 6 => ("MovedLinesModel", "snapMany", "I", false)
  | 7 => ("MovedLinesModel", "fault", "I", false)
  | 8 => ("MovedLinesModel", "place", "I", false)
  | 9 => ("MovedLinesModel", "letters", "I", false)
  | 10 => ("MovedLinesModel", "how", "[I", true)
  | 11 => ("MovedLinesModel", "with", "[I", true)
  | 12 => ("MovedLinesModel", "inBlock", "[I", true)
  | 13 => ("MovedLinesModel", "wasHow", "[I", true)
  | 14 => ("MovedLinesModel", "wasWith", "[I", true)
  | 15 => ("MovedLinesModel", "blocks", "[I", true)
  | 16 => ("MovedLinesModel", "blockMany", "I", false)
  | 17 => ("MovedLinesModel", "anchorsThere", "I", false)
  | 18 => ("MovedLinesModel", "runThere", "I", false)
  | _ => ("MovedLinesModel", "most", "[I", true)
def tyX10 : Nat → FieldType := fun k => match k with
  | 0 => .int
  | 1 => .array .int
  | 2 => .int
  | 3 => .array .int
  | 4 => .array .int
  | 5 => .array .int
  | 6 => .int
  | 7 => .int
  | 8 => .int
  | 9 => .int
  | 10 => .array .int
  | 11 => .array .int
  | 12 => .array .int
  | 13 => .array .int
  | 14 => .array .int
  | 15 => .array .int
  | 16 => .int
  | 17 => .int
  | 18 => .int
  | _ => .array .int
abbrev wsX100 : List Cond := u_ws RX10 TX10 20
theorem nmX10 : ∀ a, a < 20 → ∀ b, b < 20 → a ≠ b → (TX10 a).2.1 ≠ (TX10 b).2.1 := by decide +kernel
theorem tyX10_ok : ∀ k, k < 20 → parseFieldDescriptor (TX10 k).2.2.1 = some (tyX10 k) := by decide +kernel
abbrev cX10_thrown : ByteArray := prog_12_method_1_code
def yX10_thrown : MethodName := ⟨RX10, "thrown", "()I"⟩
abbrev cX10_refuse : ByteArray := prog_12_method_2_code
def yX10_refuse : MethodName := ⟨RX10, "refuse", "()I"⟩
abbrev cX10_isIn : ByteArray := prog_12_method_3_code
def yX10_isIn : MethodName := ⟨RX10, "isIn", "(III)Z"⟩
abbrev cX10_lays : ByteArray := prog_12_method_4_code
def yX10_lays : MethodName := ⟨RX10, "lays", "(I)V"⟩
abbrev cX10_feed : ByteArray := prog_12_method_5_code
def yX10_feed : MethodName := ⟨RX10, "feed", "(IIIII)I"⟩
abbrev cX10_end : ByteArray := prog_12_method_6_code
def yX10_end : MethodName := ⟨RX10, "end", "(I)Z"⟩
abbrev cX10_init : ByteArray := prog_12_method_7_code
def yX10_init : MethodName := ⟨RX10, "<init>", "()V"⟩
abbrev cX10_lineAt : ByteArray := prog_12_method_8_code
def yX10_lineAt : MethodName := ⟨RX10, "lineAt", "(II)I"⟩
abbrev cX10_isEdition : ByteArray := prog_12_method_9_code
def yX10_isEdition : MethodName := ⟨RX10, "isEdition", "(I)Z"⟩
abbrev cX10_many : ByteArray := prog_12_method_10_code
def yX10_many : MethodName := ⟨RX10, "many", "(I)I"⟩
abbrev cX10_isLine : ByteArray := prog_12_method_11_code
def yX10_isLine : MethodName := ⟨RX10, "isLine", "(II)Z"⟩
abbrev cX10_bad : ByteArray := prog_12_method_12_code
def yX10_bad : MethodName := ⟨RX10, "bad", "(II)Z"⟩
abbrev cX10_isLetter : ByteArray := prog_12_method_13_code
def yX10_isLetter : MethodName := ⟨RX10, "isLetter", "(I)Z"⟩
abbrev cX10_readLetter : ByteArray := prog_12_method_14_code
def yX10_readLetter : MethodName := ⟨RX10, "readLetter", "(III)Z"⟩
abbrev cX10_readEnd : ByteArray := prog_12_method_15_code
def yX10_readEnd : MethodName := ⟨RX10, "readEnd", "(I)Z"⟩
abbrev cX10_reads : ByteArray := prog_12_method_16_code
def yX10_reads : MethodName := ⟨RX10, "reads", "(IZ)Z"⟩
abbrev cX10_edition : ByteArray := prog_12_method_17_code
def yX10_edition : MethodName := ⟨RX10, "edition", "(I)I"⟩
abbrev cX10_fault : ByteArray := prog_12_method_18_code
def yX10_fault : MethodName := ⟨RX10, "fault", "()I"⟩
abbrev cX10_wordsOf : ByteArray := prog_12_method_19_code
def yX10_wordsOf : MethodName := ⟨RX10, "wordsOf", "(II)I"⟩
abbrev cX10_word : ByteArray := prog_12_method_20_code
def yX10_word : MethodName := ⟨RX10, "word", "(III)I"⟩
abbrev cX10_areAlike : ByteArray := prog_12_method_21_code
def yX10_areAlike : MethodName := ⟨RX10, "areAlike", "(IIII)Z"⟩
abbrev cX10_areAlike_ : ByteArray := prog_12_method_22_code
def yX10_areAlike_ : MethodName := ⟨RX10, "areAlike", "(II)Z"⟩
abbrev cX10_couples : ByteArray := prog_12_method_23_code
def yX10_couples : MethodName := ⟨RX10, "couples", "(III)V"⟩
abbrev cX10_anchorOf : ByteArray := prog_12_method_24_code
def yX10_anchorOf : MethodName := ⟨RX10, "anchorOf", "(IIIII)I"⟩
abbrev cX10_goesInto : ByteArray := prog_12_method_25_code
def yX10_goesInto : MethodName := ⟨RX10, "goesInto", "(IIIIZ)V"⟩
abbrev cX10_isLoose : ByteArray := prog_12_method_26_code
def yX10_isLoose : MethodName := ⟨RX10, "isLoose", "(II)Z"⟩
abbrev cX10_blockFrom : ByteArray := prog_12_method_27_code
def yX10_blockFrom : MethodName := ⟨RX10, "blockFrom", "(II)I"⟩
abbrev cX10_laysBlocks : ByteArray := prog_12_method_28_code
def yX10_laysBlocks : MethodName := ⟨RX10, "laysBlocks", "()V"⟩
abbrev cX10_sharedOf : ByteArray := prog_12_method_29_code
def yX10_sharedOf : MethodName := ⟨RX10, "sharedOf", "(II)I"⟩
abbrev cX10_laysEdits : ByteArray := prog_12_method_30_code
def yX10_laysEdits : MethodName := ⟨RX10, "laysEdits", "()V"⟩
abbrev cX10_laysAll : ByteArray := prog_12_method_31_code
def yX10_laysAll : MethodName := ⟨RX10, "laysAll", "()V"⟩
abbrev cX10_having : ByteArray := prog_12_method_32_code
def yX10_having : MethodName := ⟨RX10, "having", "(II)I"⟩
abbrev cX10_now : ByteArray := prog_12_method_33_code
def yX10_now : MethodName := ⟨RX10, "now", "(I)I"⟩
abbrev cX10_line : ByteArray := prog_12_method_34_code
def yX10_line : MethodName := ⟨RX10, "line", "(III)I"⟩
abbrev cX10_lettersOf : ByteArray := prog_12_method_35_code
def yX10_lettersOf : MethodName := ⟨RX10, "lettersOf", "(I)I"⟩
abbrev cX10_letter : ByteArray := prog_12_method_36_code
def yX10_letter : MethodName := ⟨RX10, "letter", "(IIII)I"⟩
abbrev cX10_block : ByteArray := prog_12_method_37_code
def yX10_block : MethodName := ⟨RX10, "block", "(II)I"⟩
abbrev cX10_areLines : ByteArray := prog_12_method_38_code
def yX10_areLines : MethodName := ⟨RX10, "areLines", "(II)Z"⟩
abbrev cX10_shared : ByteArray := prog_12_method_39_code
def yX10_shared : MethodName := ⟨RX10, "shared", "(II)I"⟩
abbrev cX10_stays : ByteArray := prog_12_method_40_code
def yX10_stays : MethodName := ⟨RX10, "stays", "(III)I"⟩
abbrev cX10_most : ByteArray := prog_12_method_41_code
def yX10_most : MethodName := ⟨RX10, "most", "()I"⟩
abbrev cX10_changes : ByteArray := prog_12_method_42_code
def yX10_changes : MethodName := ⟨RX10, "changes", "()I"⟩
abbrev cX10_anchors : ByteArray := prog_12_method_43_code
def yX10_anchors : MethodName := ⟨RX10, "anchors", "(I)I"⟩
abbrev cX10_copiesLine : ByteArray := prog_12_method_44_code
def yX10_copiesLine : MethodName := ⟨RX10, "copiesLine", "(II)V"⟩
abbrev cX10_would : ByteArray := prog_12_method_45_code
def yX10_would : MethodName := ⟨RX10, "would", "(III)I"⟩
abbrev cX10_snap : ByteArray := prog_12_method_46_code
def yX10_snap : MethodName := ⟨RX10, "snap", "()V"⟩
abbrev cX10_opens : ByteArray := prog_12_method_47_code
def yX10_opens : MethodName := ⟨RX10, "opens", "(II)V"⟩
abbrev cX10_closes : ByteArray := prog_12_method_48_code
def yX10_closes : MethodName := ⟨RX10, "closes", "(II)V"⟩
abbrev cX10_laysRead : ByteArray := prog_12_method_49_code
def yX10_laysRead : MethodName := ⟨RX10, "laysRead", "(II)V"⟩
abbrev cX10_put : ByteArray := prog_12_method_50_code
def yX10_put : MethodName := ⟨RX10, "put", "(II)I"⟩
abbrev cX10_change : ByteArray := prog_12_method_51_code
def yX10_change : MethodName := ⟨RX10, "change", "(II)I"⟩
abbrev cX10_cut : ByteArray := prog_12_method_52_code
def yX10_cut : MethodName := ⟨RX10, "cut", "(II)I"⟩
abbrev cX10_move : ByteArray := prog_12_method_53_code
def yX10_move : MethodName := ⟨RX10, "move", "(IIII)Z"⟩
abbrev cX10_take : ByteArray := prog_12_method_54_code
def yX10_take : MethodName := ⟨RX10, "take", "()I"⟩
abbrev cX10_undo : ByteArray := prog_12_method_55_code
def yX10_undo : MethodName := ⟨RX10, "undo", "()I"⟩
def RJx145de : String := "java/io/Serializable"
def TJx145de : u_T := fun k => match k with
  | _ => ("", "", "", false)
def tyJx145de : Nat → FieldType := fun k => match k with
  | _ => .int
theorem nmJx145de : ∀ a, a < 0 → ∀ b, b < 0 → a ≠ b → (TJx145de a).2.1 ≠ (TJx145de b).2.1 := by decide +kernel
theorem tyJx145de_ok : ∀ k, k < 0 → parseFieldDescriptor (TJx145de k).2.2.1 = some (tyJx145de k) := by decide +kernel
def RJ9 : String := "java/lang/Math"
def TJ9 : u_T := fun k => match k with
  | _ => ("", "", "", false)
def tyJ9 : Nat → FieldType := fun k => match k with
  | _ => .int
theorem nmJ9 : ∀ a, a < 0 → ∀ b, b < 0 → a ≠ b → (TJ9 a).2.1 ≠ (TJ9 b).2.1 := by decide +kernel
theorem tyJ9_ok : ∀ k, k < 0 → parseFieldDescriptor (TJ9 k).2.2.1 = some (tyJ9 k) := by decide +kernel
def RJ0 : String := "java/lang/String"
def TJ0 : u_T := fun k => match k with
  | _ => ("", "", "", false)
def tyJ0 : Nat → FieldType := fun k => match k with
  | _ => .int
theorem nmJ0 : ∀ a, a < 0 → ∀ b, b < 0 → a ≠ b → (TJ0 a).2.1 ≠ (TJ0 b).2.1 := by decide +kernel
theorem tyJ0_ok : ∀ k, k < 0 → parseFieldDescriptor (TJ0 k).2.2.1 = some (tyJ0 k) := by decide +kernel
def RJ10 : String := "java/lang/System"
def TJ10 : u_T := fun k => match k with
  | _ => ("", "", "", false)
def tyJ10 : Nat → FieldType := fun k => match k with
  | _ => .int
theorem nmJ10 : ∀ a, a < 0 → ∀ b, b < 0 → a ≠ b → (TJ10 a).2.1 ≠ (TJ10 b).2.1 := by decide +kernel
theorem tyJ10_ok : ∀ k, k < 0 → parseFieldDescriptor (TJ10 k).2.2.1 = some (tyJ10 k) := by decide +kernel
def RL : String := "MovedLinesLaw"
abbrev cL_line : ByteArray := method_3_code
def yL_line : MethodName := ⟨RL, "line", "(LMovedLines;III[J)I"⟩
abbrev cL_law : ByteArray := code
def yL_law : MethodName := ⟨RL, "law", "([I)Z"⟩
end
section
theorem dX0_init_0 : decode cX0_init 0 = .ok (.aload_n 0, 1) := by decide +kernel
theorem dX0_init_1 : decode cX0_init 1 = .ok (.invokespecial 3, 3) := by decide +kernel
theorem dX0_init_4 : decode cX0_init 4 = .ok (.aload_n 0, 1) := by decide +kernel
theorem dX0_init_5 : decode cX0_init 5 = .ok (.bipush 14, 2) := by decide +kernel
theorem dX0_init_7 : decode cX0_init 7 = .ok (.newarray .int, 2) := by decide +kernel
theorem dX0_init_9 : decode cX0_init 9 = .ok (.putfield 9, 3) := by decide +kernel
theorem dX0_init_12 : decode cX0_init 12 = .ok (.aload_n 0, 1) := by decide +kernel
theorem dX0_init_13 : decode cX0_init 13 = .ok (.bipush 14, 2) := by decide +kernel
theorem dX0_init_15 : decode cX0_init 15 = .ok (.newarray .int, 2) := by decide +kernel
theorem dX0_init_17 : decode cX0_init 17 = .ok (.putfield 15, 3) := by decide +kernel
theorem dX0_init_20 : decode cX0_init 20 = .ok (.aload_n 0, 1) := by decide +kernel
theorem dX0_init_21 : decode cX0_init 21 = .ok (.sipush 225, 3) := by decide +kernel
theorem dX0_init_24 : decode cX0_init 24 = .ok (.newarray .int, 2) := by decide +kernel
theorem dX0_init_26 : decode cX0_init 26 = .ok (.putfield 18, 3) := by decide +kernel
theorem dX0_init_29 : decode cX0_init 29 = .ok (.aload_n 0, 1) := by decide +kernel
theorem dX0_init_30 : decode cX0_init 30 = .ok (.iconst 0, 1) := by decide +kernel
theorem dX0_init_31 : decode cX0_init 31 = .ok (.putfield 21, 3) := by decide +kernel
theorem dX0_init_34 : decode cX0_init 34 = .ok (.aload_n 0, 1) := by decide +kernel
theorem dX0_init_35 : decode cX0_init 35 = .ok (.iconst 0, 1) := by decide +kernel
theorem dX0_init_36 : decode cX0_init 36 = .ok (.putfield 25, 3) := by decide +kernel
theorem dX0_init_39 : decode cX0_init 39 = .ok (.return_, 1) := by decide +kernel
theorem dX0_setFirst_0 : decode cX0_setFirst 0 = .ok (.aload_n 0, 1) := by decide +kernel
theorem dX0_setFirst_1 : decode cX0_setFirst 1 = .ok (.aload_n 1, 1) := by decide +kernel
theorem dX0_setFirst_2 : decode cX0_setFirst 2 = .ok (.iload_n 2, 1) := by decide +kernel
theorem dX0_setFirst_3 : decode cX0_setFirst 3 = .ok (.iload_n 3, 1) := by decide +kernel
theorem dX0_setFirst_4 : decode cX0_setFirst 4 = .ok (.aload_n 0, 1) := by decide +kernel
theorem dX0_setFirst_5 : decode cX0_setFirst 5 = .ok (.getfield 9, 3) := by decide +kernel
theorem dX0_setFirst_8 : decode cX0_setFirst 8 = .ok (.invokestatic 28, 3) := by decide +kernel
theorem dX0_setFirst_11 : decode cX0_setFirst 11 = .ok (.putfield 21, 3) := by decide +kernel
theorem dX0_setFirst_14 : decode cX0_setFirst 14 = .ok (.return_, 1) := by decide +kernel
theorem dX0_setSecond_0 : decode cX0_setSecond 0 = .ok (.aload_n 0, 1) := by decide +kernel
theorem dX0_setSecond_1 : decode cX0_setSecond 1 = .ok (.aload_n 1, 1) := by decide +kernel
theorem dX0_setSecond_2 : decode cX0_setSecond 2 = .ok (.iload_n 2, 1) := by decide +kernel
theorem dX0_setSecond_3 : decode cX0_setSecond 3 = .ok (.iload_n 3, 1) := by decide +kernel
theorem dX0_setSecond_4 : decode cX0_setSecond 4 = .ok (.aload_n 0, 1) := by decide +kernel
theorem dX0_setSecond_5 : decode cX0_setSecond 5 = .ok (.getfield 15, 3) := by decide +kernel
theorem dX0_setSecond_8 : decode cX0_setSecond 8 = .ok (.invokestatic 28, 3) := by decide +kernel
theorem dX0_setSecond_11 : decode cX0_setSecond 11 = .ok (.putfield 25, 3) := by decide +kernel
theorem dX0_setSecond_14 : decode cX0_setSecond 14 = .ok (.return_, 1) := by decide +kernel
theorem dX0_copyRow_0 : decode cX0_copyRow 0 = .ok (.iload_n 1, 1) := by decide +kernel
theorem dX0_copyRow_1 : decode cX0_copyRow 1 = .ok (.ifCond .lt 21, 3) := by decide +kernel
theorem dX0_copyRow_4 : decode cX0_copyRow 4 = .ok (.iload_n 2, 1) := by decide +kernel
theorem dX0_copyRow_5 : decode cX0_copyRow 5 = .ok (.ifCond .lt 17, 3) := by decide +kernel
theorem dX0_copyRow_8 : decode cX0_copyRow 8 = .ok (.iload_n 2, 1) := by decide +kernel
theorem dX0_copyRow_9 : decode cX0_copyRow 9 = .ok (.aload_n 3, 1) := by decide +kernel
theorem dX0_copyRow_10 : decode cX0_copyRow 10 = .ok (.arraylength, 1) := by decide +kernel
theorem dX0_copyRow_11 : decode cX0_copyRow 11 = .ok (.if_icmp .gt 11, 3) := by decide +kernel
theorem dX0_copyRow_14 : decode cX0_copyRow 14 = .ok (.iload_n 1, 1) := by decide +kernel
theorem dX0_copyRow_15 : decode cX0_copyRow 15 = .ok (.aload_n 0, 1) := by decide +kernel
theorem dX0_copyRow_16 : decode cX0_copyRow 16 = .ok (.arraylength, 1) := by decide +kernel
theorem dX0_copyRow_17 : decode cX0_copyRow 17 = .ok (.iload_n 2, 1) := by decide +kernel
theorem dX0_copyRow_18 : decode cX0_copyRow 18 = .ok (.isub, 1) := by decide +kernel
theorem dX0_copyRow_19 : decode cX0_copyRow 19 = .ok (.if_icmp .le 5, 3) := by decide +kernel
theorem dX0_copyRow_22 : decode cX0_copyRow 22 = .ok (.iconst 0, 1) := by decide +kernel
theorem dX0_copyRow_23 : decode cX0_copyRow 23 = .ok (.ireturn, 1) := by decide +kernel
theorem dX0_copyRow_24 : decode cX0_copyRow 24 = .ok (.aload_n 0, 1) := by decide +kernel
theorem dX0_copyRow_25 : decode cX0_copyRow 25 = .ok (.iload_n 1, 1) := by decide +kernel
theorem dX0_copyRow_26 : decode cX0_copyRow 26 = .ok (.aload_n 3, 1) := by decide +kernel
theorem dX0_copyRow_27 : decode cX0_copyRow 27 = .ok (.iconst 0, 1) := by decide +kernel
theorem dX0_copyRow_28 : decode cX0_copyRow 28 = .ok (.iload_n 2, 1) := by decide +kernel
theorem dX0_copyRow_29 : decode cX0_copyRow 29 = .ok (.invokestatic 32, 3) := by decide +kernel
theorem dX0_copyRow_32 : decode cX0_copyRow 32 = .ok (.iload_n 2, 1) := by decide +kernel
theorem dX0_copyRow_33 : decode cX0_copyRow 33 = .ok (.ireturn, 1) := by decide +kernel
theorem dX0_measure_0 : decode cX0_measure 0 = .ok (.iconst 0, 1) := by decide +kernel
theorem dX0_measure_1 : decode cX0_measure 1 = .ok (.istore_n 1, 1) := by decide +kernel
theorem dX0_measure_2 : decode cX0_measure 2 = .ok (.iload_n 1, 1) := by decide +kernel
theorem dX0_measure_3 : decode cX0_measure 3 = .ok (.aload_n 0, 1) := by decide +kernel
theorem dX0_measure_4 : decode cX0_measure 4 = .ok (.getfield 25, 3) := by decide +kernel
theorem dX0_measure_7 : decode cX0_measure 7 = .ok (.if_icmp .gt 24, 3) := by decide +kernel
theorem dX0_measure_10 : decode cX0_measure 10 = .ok (.aload_n 0, 1) := by decide +kernel
theorem dX0_measure_11 : decode cX0_measure 11 = .ok (.getfield 18, 3) := by decide +kernel
theorem dX0_measure_14 : decode cX0_measure 14 = .ok (.aload_n 0, 1) := by decide +kernel
theorem dX0_measure_15 : decode cX0_measure 15 = .ok (.getfield 21, 3) := by decide +kernel
theorem dX0_measure_18 : decode cX0_measure 18 = .ok (.bipush 15, 2) := by decide +kernel
theorem dX0_measure_20 : decode cX0_measure 20 = .ok (.imul, 1) := by decide +kernel
theorem dX0_measure_21 : decode cX0_measure 21 = .ok (.iload_n 1, 1) := by decide +kernel
theorem dX0_measure_22 : decode cX0_measure 22 = .ok (.iadd, 1) := by decide +kernel
theorem dX0_measure_23 : decode cX0_measure 23 = .ok (.iconst 0, 1) := by decide +kernel
theorem dX0_measure_24 : decode cX0_measure 24 = .ok (.iastore, 1) := by decide +kernel
theorem dX0_measure_25 : decode cX0_measure 25 = .ok (.iinc 1 1, 3) := by decide +kernel
theorem dX0_measure_28 : decode cX0_measure 28 = .ok (.goto (-26), 3) := by decide +kernel
theorem dX0_measure_31 : decode cX0_measure 31 = .ok (.aload_n 0, 1) := by decide +kernel
theorem dX0_measure_32 : decode cX0_measure 32 = .ok (.getfield 21, 3) := by decide +kernel
theorem dX0_measure_35 : decode cX0_measure 35 = .ok (.iconst 1, 1) := by decide +kernel
theorem dX0_measure_36 : decode cX0_measure 36 = .ok (.isub, 1) := by decide +kernel
theorem dX0_measure_37 : decode cX0_measure 37 = .ok (.istore_n 1, 1) := by decide +kernel
theorem dX0_measure_38 : decode cX0_measure 38 = .ok (.iload_n 1, 1) := by decide +kernel
theorem dX0_measure_39 : decode cX0_measure 39 = .ok (.ifCond .lt 129, 3) := by decide +kernel
theorem dX0_measure_42 : decode cX0_measure 42 = .ok (.aload_n 0, 1) := by decide +kernel
theorem dX0_measure_43 : decode cX0_measure 43 = .ok (.getfield 9, 3) := by decide +kernel
theorem dX0_measure_46 : decode cX0_measure 46 = .ok (.iload_n 1, 1) := by decide +kernel
theorem dX0_measure_47 : decode cX0_measure 47 = .ok (.iaload, 1) := by decide +kernel
theorem dX0_measure_48 : decode cX0_measure 48 = .ok (.istore_n 2, 1) := by decide +kernel
theorem dX0_measure_49 : decode cX0_measure 49 = .ok (.iload_n 1, 1) := by decide +kernel
theorem dX0_measure_50 : decode cX0_measure 50 = .ok (.bipush 15, 2) := by decide +kernel
theorem dX0_measure_52 : decode cX0_measure 52 = .ok (.imul, 1) := by decide +kernel
theorem dX0_measure_53 : decode cX0_measure 53 = .ok (.istore_n 3, 1) := by decide +kernel
theorem dX0_measure_54 : decode cX0_measure 54 = .ok (.iload_n 3, 1) := by decide +kernel
theorem dX0_measure_55 : decode cX0_measure 55 = .ok (.bipush 15, 2) := by decide +kernel
theorem dX0_measure_57 : decode cX0_measure 57 = .ok (.iadd, 1) := by decide +kernel
theorem dX0_measure_58 : decode cX0_measure 58 = .ok (.istore 4, 2) := by decide +kernel
theorem dX0_measure_60 : decode cX0_measure 60 = .ok (.iconst 0, 1) := by decide +kernel
theorem dX0_measure_61 : decode cX0_measure 61 = .ok (.istore 5, 2) := by decide +kernel
theorem dX0_measure_63 : decode cX0_measure 63 = .ok (.aload_n 0, 1) := by decide +kernel
theorem dX0_measure_64 : decode cX0_measure 64 = .ok (.getfield 18, 3) := by decide +kernel
theorem dX0_measure_67 : decode cX0_measure 67 = .ok (.iload_n 3, 1) := by decide +kernel
theorem dX0_measure_68 : decode cX0_measure 68 = .ok (.aload_n 0, 1) := by decide +kernel
theorem dX0_measure_69 : decode cX0_measure 69 = .ok (.getfield 25, 3) := by decide +kernel
theorem dX0_measure_72 : decode cX0_measure 72 = .ok (.iadd, 1) := by decide +kernel
theorem dX0_measure_73 : decode cX0_measure 73 = .ok (.iconst 0, 1) := by decide +kernel
theorem dX0_measure_74 : decode cX0_measure 74 = .ok (.iastore, 1) := by decide +kernel
theorem dX0_measure_75 : decode cX0_measure 75 = .ok (.aload_n 0, 1) := by decide +kernel
theorem dX0_measure_76 : decode cX0_measure 76 = .ok (.getfield 25, 3) := by decide +kernel
theorem dX0_measure_79 : decode cX0_measure 79 = .ok (.iconst 1, 1) := by decide +kernel
theorem dX0_measure_80 : decode cX0_measure 80 = .ok (.isub, 1) := by decide +kernel
theorem dX0_measure_81 : decode cX0_measure 81 = .ok (.istore 6, 2) := by decide +kernel
theorem dX0_measure_83 : decode cX0_measure 83 = .ok (.iload 6, 2) := by decide +kernel
theorem dX0_measure_85 : decode cX0_measure 85 = .ok (.ifCond .lt 77, 3) := by decide +kernel
theorem dX0_measure_88 : decode cX0_measure 88 = .ok (.iload_n 2, 1) := by decide +kernel
theorem dX0_measure_89 : decode cX0_measure 89 = .ok (.aload_n 0, 1) := by decide +kernel
theorem dX0_measure_90 : decode cX0_measure 90 = .ok (.getfield 15, 3) := by decide +kernel
theorem dX0_measure_93 : decode cX0_measure 93 = .ok (.iload 6, 2) := by decide +kernel
theorem dX0_measure_95 : decode cX0_measure 95 = .ok (.iaload, 1) := by decide +kernel
theorem dX0_measure_96 : decode cX0_measure 96 = .ok (.if_icmp .ne 22, 3) := by decide +kernel
theorem dX0_measure_99 : decode cX0_measure 99 = .ok (.aload_n 0, 1) := by decide +kernel
theorem dX0_measure_100 : decode cX0_measure 100 = .ok (.getfield 18, 3) := by decide +kernel
theorem dX0_measure_103 : decode cX0_measure 103 = .ok (.iload 4, 2) := by decide +kernel
theorem dX0_measure_105 : decode cX0_measure 105 = .ok (.iload 6, 2) := by decide +kernel
theorem dX0_measure_107 : decode cX0_measure 107 = .ok (.iadd, 1) := by decide +kernel
theorem dX0_measure_108 : decode cX0_measure 108 = .ok (.iconst 1, 1) := by decide +kernel
theorem dX0_measure_109 : decode cX0_measure 109 = .ok (.iadd, 1) := by decide +kernel
theorem dX0_measure_110 : decode cX0_measure 110 = .ok (.iaload, 1) := by decide +kernel
theorem dX0_measure_111 : decode cX0_measure 111 = .ok (.iconst 1, 1) := by decide +kernel
theorem dX0_measure_112 : decode cX0_measure 112 = .ok (.iadd, 1) := by decide +kernel
theorem dX0_measure_113 : decode cX0_measure 113 = .ok (.istore 5, 2) := by decide +kernel
theorem dX0_measure_115 : decode cX0_measure 115 = .ok (.goto 30, 3) := by decide +kernel
theorem dX0_measure_118 : decode cX0_measure 118 = .ok (.iload 5, 2) := by decide +kernel
theorem dX0_measure_120 : decode cX0_measure 120 = .ok (.aload_n 0, 1) := by decide +kernel
theorem dX0_measure_121 : decode cX0_measure 121 = .ok (.getfield 18, 3) := by decide +kernel
theorem dX0_measure_124 : decode cX0_measure 124 = .ok (.iload 4, 2) := by decide +kernel
theorem dX0_measure_126 : decode cX0_measure 126 = .ok (.iload 6, 2) := by decide +kernel
theorem dX0_measure_128 : decode cX0_measure 128 = .ok (.iadd, 1) := by decide +kernel
theorem dX0_measure_129 : decode cX0_measure 129 = .ok (.iaload, 1) := by decide +kernel
theorem dX0_measure_130 : decode cX0_measure 130 = .ok (.if_icmp .ge 15, 3) := by decide +kernel
theorem dX0_measure_133 : decode cX0_measure 133 = .ok (.aload_n 0, 1) := by decide +kernel
theorem dX0_measure_134 : decode cX0_measure 134 = .ok (.getfield 18, 3) := by decide +kernel
theorem dX0_measure_137 : decode cX0_measure 137 = .ok (.iload 4, 2) := by decide +kernel
theorem dX0_measure_139 : decode cX0_measure 139 = .ok (.iload 6, 2) := by decide +kernel
theorem dX0_measure_141 : decode cX0_measure 141 = .ok (.iadd, 1) := by decide +kernel
theorem dX0_measure_142 : decode cX0_measure 142 = .ok (.iaload, 1) := by decide +kernel
theorem dX0_measure_143 : decode cX0_measure 143 = .ok (.istore 5, 2) := by decide +kernel
theorem dX0_measure_145 : decode cX0_measure 145 = .ok (.aload_n 0, 1) := by decide +kernel
theorem dX0_measure_146 : decode cX0_measure 146 = .ok (.getfield 18, 3) := by decide +kernel
theorem dX0_measure_149 : decode cX0_measure 149 = .ok (.iload_n 3, 1) := by decide +kernel
theorem dX0_measure_150 : decode cX0_measure 150 = .ok (.iload 6, 2) := by decide +kernel
theorem dX0_measure_152 : decode cX0_measure 152 = .ok (.iadd, 1) := by decide +kernel
theorem dX0_measure_153 : decode cX0_measure 153 = .ok (.iload 5, 2) := by decide +kernel
theorem dX0_measure_155 : decode cX0_measure 155 = .ok (.iastore, 1) := by decide +kernel
theorem dX0_measure_156 : decode cX0_measure 156 = .ok (.iinc 6 (-1), 3) := by decide +kernel
theorem dX0_measure_159 : decode cX0_measure 159 = .ok (.goto (-76), 3) := by decide +kernel
theorem dX0_measure_162 : decode cX0_measure 162 = .ok (.iinc 1 (-1), 3) := by decide +kernel
theorem dX0_measure_165 : decode cX0_measure 165 = .ok (.goto (-127), 3) := by decide +kernel
theorem dX0_measure_168 : decode cX0_measure 168 = .ok (.aload_n 0, 1) := by decide +kernel
theorem dX0_measure_169 : decode cX0_measure 169 = .ok (.getfield 18, 3) := by decide +kernel
theorem dX0_measure_172 : decode cX0_measure 172 = .ok (.iconst 0, 1) := by decide +kernel
theorem dX0_measure_173 : decode cX0_measure 173 = .ok (.iaload, 1) := by decide +kernel
theorem dX0_measure_174 : decode cX0_measure 174 = .ok (.ireturn, 1) := by decide +kernel
theorem dX0_partnerOf_0 : decode cX0_partnerOf 0 = .ok (.aload_n 0, 1) := by decide +kernel
theorem dX0_partnerOf_1 : decode cX0_partnerOf 1 = .ok (.getfield 18, 3) := by decide +kernel
theorem dX0_partnerOf_4 : decode cX0_partnerOf 4 = .ok (.iconst 0, 1) := by decide +kernel
theorem dX0_partnerOf_5 : decode cX0_partnerOf 5 = .ok (.iaload, 1) := by decide +kernel
theorem dX0_partnerOf_6 : decode cX0_partnerOf 6 = .ok (.istore_n 2, 1) := by decide +kernel
theorem dX0_partnerOf_7 : decode cX0_partnerOf 7 = .ok (.iconst 0, 1) := by decide +kernel
theorem dX0_partnerOf_8 : decode cX0_partnerOf 8 = .ok (.istore_n 3, 1) := by decide +kernel
theorem dX0_partnerOf_9 : decode cX0_partnerOf 9 = .ok (.iconst 0, 1) := by decide +kernel
theorem dX0_partnerOf_10 : decode cX0_partnerOf 10 = .ok (.istore 4, 2) := by decide +kernel
theorem dX0_partnerOf_12 : decode cX0_partnerOf 12 = .ok (.iload 4, 2) := by decide +kernel
theorem dX0_partnerOf_14 : decode cX0_partnerOf 14 = .ok (.aload_n 0, 1) := by decide +kernel
theorem dX0_partnerOf_15 : decode cX0_partnerOf 15 = .ok (.getfield 21, 3) := by decide +kernel
theorem dX0_partnerOf_18 : decode cX0_partnerOf 18 = .ok (.if_icmp .ge 82, 3) := by decide +kernel
theorem dX0_partnerOf_21 : decode cX0_partnerOf 21 = .ok (.iload 4, 2) := by decide +kernel
theorem dX0_partnerOf_23 : decode cX0_partnerOf 23 = .ok (.iload_n 1, 1) := by decide +kernel
theorem dX0_partnerOf_24 : decode cX0_partnerOf 24 = .ok (.if_icmp .gt 76, 3) := by decide +kernel
theorem dX0_partnerOf_27 : decode cX0_partnerOf 27 = .ok (.iload_n 2, 1) := by decide +kernel
theorem dX0_partnerOf_28 : decode cX0_partnerOf 28 = .ok (.ifCond .le 72, 3) := by decide +kernel
theorem dX0_partnerOf_31 : decode cX0_partnerOf 31 = .ok (.aload_n 0, 1) := by decide +kernel
theorem dX0_partnerOf_32 : decode cX0_partnerOf 32 = .ok (.aload_n 0, 1) := by decide +kernel
theorem dX0_partnerOf_33 : decode cX0_partnerOf 33 = .ok (.getfield 9, 3) := by decide +kernel
theorem dX0_partnerOf_36 : decode cX0_partnerOf 36 = .ok (.iload 4, 2) := by decide +kernel
theorem dX0_partnerOf_38 : decode cX0_partnerOf 38 = .ok (.iaload, 1) := by decide +kernel
theorem dX0_partnerOf_39 : decode cX0_partnerOf 39 = .ok (.iload_n 3, 1) := by decide +kernel
theorem dX0_partnerOf_40 : decode cX0_partnerOf 40 = .ok (.invokevirtual 38, 3) := by decide +kernel
theorem dX0_partnerOf_43 : decode cX0_partnerOf 43 = .ok (.istore 5, 2) := by decide +kernel
theorem dX0_partnerOf_45 : decode cX0_partnerOf 45 = .ok (.iload 5, 2) := by decide +kernel
theorem dX0_partnerOf_47 : decode cX0_partnerOf 47 = .ok (.aload_n 0, 1) := by decide +kernel
theorem dX0_partnerOf_48 : decode cX0_partnerOf 48 = .ok (.getfield 25, 3) := by decide +kernel
theorem dX0_partnerOf_51 : decode cX0_partnerOf 51 = .ok (.if_icmp .ge 43, 3) := by decide +kernel
theorem dX0_partnerOf_54 : decode cX0_partnerOf 54 = .ok (.aload_n 0, 1) := by decide +kernel
theorem dX0_partnerOf_55 : decode cX0_partnerOf 55 = .ok (.getfield 18, 3) := by decide +kernel
theorem dX0_partnerOf_58 : decode cX0_partnerOf 58 = .ok (.iload 4, 2) := by decide +kernel
theorem dX0_partnerOf_60 : decode cX0_partnerOf 60 = .ok (.iconst 1, 1) := by decide +kernel
theorem dX0_partnerOf_61 : decode cX0_partnerOf 61 = .ok (.iadd, 1) := by decide +kernel
theorem dX0_partnerOf_62 : decode cX0_partnerOf 62 = .ok (.bipush 15, 2) := by decide +kernel
theorem dX0_partnerOf_64 : decode cX0_partnerOf 64 = .ok (.imul, 1) := by decide +kernel
theorem dX0_partnerOf_65 : decode cX0_partnerOf 65 = .ok (.iload 5, 2) := by decide +kernel
theorem dX0_partnerOf_67 : decode cX0_partnerOf 67 = .ok (.iadd, 1) := by decide +kernel
theorem dX0_partnerOf_68 : decode cX0_partnerOf 68 = .ok (.iconst 1, 1) := by decide +kernel
theorem dX0_partnerOf_69 : decode cX0_partnerOf 69 = .ok (.iadd, 1) := by decide +kernel
theorem dX0_partnerOf_70 : decode cX0_partnerOf 70 = .ok (.iaload, 1) := by decide +kernel
theorem dX0_partnerOf_71 : decode cX0_partnerOf 71 = .ok (.iload_n 2, 1) := by decide +kernel
theorem dX0_partnerOf_72 : decode cX0_partnerOf 72 = .ok (.iconst 1, 1) := by decide +kernel
theorem dX0_partnerOf_73 : decode cX0_partnerOf 73 = .ok (.isub, 1) := by decide +kernel
theorem dX0_partnerOf_74 : decode cX0_partnerOf 74 = .ok (.if_icmp .ne 20, 3) := by decide +kernel
theorem dX0_partnerOf_77 : decode cX0_partnerOf 77 = .ok (.iload 4, 2) := by decide +kernel
theorem dX0_partnerOf_79 : decode cX0_partnerOf 79 = .ok (.iload_n 1, 1) := by decide +kernel
theorem dX0_partnerOf_80 : decode cX0_partnerOf 80 = .ok (.if_icmp .ne 6, 3) := by decide +kernel
theorem dX0_partnerOf_83 : decode cX0_partnerOf 83 = .ok (.iload 5, 2) := by decide +kernel
theorem dX0_partnerOf_85 : decode cX0_partnerOf 85 = .ok (.ireturn, 1) := by decide +kernel
theorem dX0_partnerOf_86 : decode cX0_partnerOf 86 = .ok (.iinc 2 (-1), 3) := by decide +kernel
theorem dX0_partnerOf_89 : decode cX0_partnerOf 89 = .ok (.iload 5, 2) := by decide +kernel
theorem dX0_partnerOf_91 : decode cX0_partnerOf 91 = .ok (.iconst 1, 1) := by decide +kernel
theorem dX0_partnerOf_92 : decode cX0_partnerOf 92 = .ok (.iadd, 1) := by decide +kernel
theorem dX0_partnerOf_93 : decode cX0_partnerOf 93 = .ok (.istore_n 3, 1) := by decide +kernel
theorem dX0_partnerOf_94 : decode cX0_partnerOf 94 = .ok (.iinc 4 1, 3) := by decide +kernel
theorem dX0_partnerOf_97 : decode cX0_partnerOf 97 = .ok (.goto (-85), 3) := by decide +kernel
theorem dX0_partnerOf_100 : decode cX0_partnerOf 100 = .ok (.iconst (-1), 1) := by decide +kernel
theorem dX0_partnerOf_101 : decode cX0_partnerOf 101 = .ok (.ireturn, 1) := by decide +kernel
theorem dX0_nextLike_0 : decode cX0_nextLike 0 = .ok (.iload_n 2, 1) := by decide +kernel
theorem dX0_nextLike_1 : decode cX0_nextLike 1 = .ok (.istore_n 3, 1) := by decide +kernel
theorem dX0_nextLike_2 : decode cX0_nextLike 2 = .ok (.iload_n 3, 1) := by decide +kernel
theorem dX0_nextLike_3 : decode cX0_nextLike 3 = .ok (.aload_n 0, 1) := by decide +kernel
theorem dX0_nextLike_4 : decode cX0_nextLike 4 = .ok (.getfield 25, 3) := by decide +kernel
theorem dX0_nextLike_7 : decode cX0_nextLike 7 = .ok (.if_icmp .ge 19, 3) := by decide +kernel
theorem dX0_nextLike_10 : decode cX0_nextLike 10 = .ok (.aload_n 0, 1) := by decide +kernel
theorem dX0_nextLike_11 : decode cX0_nextLike 11 = .ok (.getfield 15, 3) := by decide +kernel
theorem dX0_nextLike_14 : decode cX0_nextLike 14 = .ok (.iload_n 3, 1) := by decide +kernel
theorem dX0_nextLike_15 : decode cX0_nextLike 15 = .ok (.iaload, 1) := by decide +kernel
theorem dX0_nextLike_16 : decode cX0_nextLike 16 = .ok (.iload_n 1, 1) := by decide +kernel
theorem dX0_nextLike_17 : decode cX0_nextLike 17 = .ok (.if_icmp .eq 9, 3) := by decide +kernel
theorem dX0_nextLike_20 : decode cX0_nextLike 20 = .ok (.iinc 3 1, 3) := by decide +kernel
theorem dX0_nextLike_23 : decode cX0_nextLike 23 = .ok (.goto (-21), 3) := by decide +kernel
theorem dX0_nextLike_26 : decode cX0_nextLike 26 = .ok (.iload_n 3, 1) := by decide +kernel
theorem dX0_nextLike_27 : decode cX0_nextLike 27 = .ok (.ireturn, 1) := by decide +kernel
theorem dX1_init_0 : decode cX1_init 0 = .ok (.aload_n 0, 1) := by decide +kernel
theorem dX1_init_1 : decode cX1_init 1 = .ok (.invokespecial 3, 3) := by decide +kernel
theorem dX1_init_4 : decode cX1_init 4 = .ok (.aload_n 0, 1) := by decide +kernel
theorem dX1_init_5 : decode cX1_init 5 = .ok (.new 9, 3) := by decide +kernel
theorem dX1_init_8 : decode cX1_init 8 = .ok (.dup, 1) := by decide +kernel
theorem dX1_init_9 : decode cX1_init 9 = .ok (.invokespecial 11, 3) := by decide +kernel
theorem dX1_init_12 : decode cX1_init 12 = .ok (.putfield 12, 3) := by decide +kernel
theorem dX1_init_15 : decode cX1_init 15 = .ok (.aload_n 0, 1) := by decide +kernel
theorem dX1_init_16 : decode cX1_init 16 = .ok (.new 18, 3) := by decide +kernel
theorem dX1_init_19 : decode cX1_init 19 = .ok (.dup, 1) := by decide +kernel
theorem dX1_init_20 : decode cX1_init 20 = .ok (.invokespecial 20, 3) := by decide +kernel
theorem dX1_init_23 : decode cX1_init 23 = .ok (.putfield 21, 3) := by decide +kernel
theorem dX1_init_26 : decode cX1_init 26 = .ok (.aload_n 0, 1) := by decide +kernel
theorem dX1_init_27 : decode cX1_init 27 = .ok (.new 25, 3) := by decide +kernel
theorem dX1_init_30 : decode cX1_init 30 = .ok (.dup, 1) := by decide +kernel
theorem dX1_init_31 : decode cX1_init 31 = .ok (.invokespecial 27, 3) := by decide +kernel
theorem dX1_init_34 : decode cX1_init 34 = .ok (.putfield 28, 3) := by decide +kernel
theorem dX1_init_37 : decode cX1_init 37 = .ok (.aload_n 0, 1) := by decide +kernel
theorem dX1_init_38 : decode cX1_init 38 = .ok (.bipush 14, 2) := by decide +kernel
theorem dX1_init_40 : decode cX1_init 40 = .ok (.bipush 14, 2) := by decide +kernel
theorem dX1_init_42 : decode cX1_init 42 = .ok (.multianewarray 32 2, 4) := by decide +kernel
theorem dX1_init_46 : decode cX1_init 46 = .ok (.putfield 34, 3) := by decide +kernel
theorem dX1_init_49 : decode cX1_init 49 = .ok (.return_, 1) := by decide +kernel
theorem dX1_compare_0 : decode cX1_compare 0 = .ok (.aload_n 0, 1) := by decide +kernel
theorem dX1_compare_1 : decode cX1_compare 1 = .ok (.getfield 12, 3) := by decide +kernel
theorem dX1_compare_4 : decode cX1_compare 4 = .ok (.aload_n 1, 1) := by decide +kernel
theorem dX1_compare_5 : decode cX1_compare 5 = .ok (.aload_n 2, 1) := by decide +kernel
theorem dX1_compare_6 : decode cX1_compare 6 = .ok (.invokevirtual 37, 3) := by decide +kernel
theorem dX1_compare_9 : decode cX1_compare 9 = .ok (.aload_n 3, 1) := by decide +kernel
theorem dX1_compare_10 : decode cX1_compare 10 = .ok (.invokevirtual 41, 3) := by decide +kernel
theorem dX1_compare_13 : decode cX1_compare 13 = .ok (.aload_n 0, 1) := by decide +kernel
theorem dX1_compare_14 : decode cX1_compare 14 = .ok (.getfield 21, 3) := by decide +kernel
theorem dX1_compare_17 : decode cX1_compare 17 = .ok (.aload_n 0, 1) := by decide +kernel
theorem dX1_compare_18 : decode cX1_compare 18 = .ok (.getfield 12, 3) := by decide +kernel
theorem dX1_compare_21 : decode cX1_compare 21 = .ok (.aload_n 3, 1) := by decide +kernel
theorem dX1_compare_22 : decode cX1_compare 22 = .ok (.invokevirtual 46, 3) := by decide +kernel
theorem dX1_compare_25 : decode cX1_compare 25 = .ok (.iconst 1, 1) := by decide +kernel
theorem dX1_compare_26 : decode cX1_compare 26 = .ok (.istore 4, 2) := by decide +kernel
theorem dX1_compare_28 : decode cX1_compare 28 = .ok (.iconst 0, 1) := by decide +kernel
theorem dX1_compare_29 : decode cX1_compare 29 = .ok (.istore 5, 2) := by decide +kernel
theorem dX1_compare_31 : decode cX1_compare 31 = .ok (.iload 5, 2) := by decide +kernel
theorem dX1_compare_33 : decode cX1_compare 33 = .ok (.bipush 14, 2) := by decide +kernel
theorem dX1_compare_35 : decode cX1_compare 35 = .ok (.if_icmp .ge 21, 3) := by decide +kernel
theorem dX1_compare_38 : decode cX1_compare 38 = .ok (.iload 4, 2) := by decide +kernel
theorem dX1_compare_40 : decode cX1_compare 40 = .ok (.ifCond .eq 16, 3) := by decide +kernel
theorem dX1_compare_43 : decode cX1_compare 43 = .ok (.aload_n 0, 1) := by decide +kernel
theorem dX1_compare_44 : decode cX1_compare 44 = .ok (.aload_n 3, 1) := by decide +kernel
theorem dX1_compare_45 : decode cX1_compare 45 = .ok (.invokevirtual 50, 3) := by decide +kernel
theorem dX1_compare_48 : decode cX1_compare 48 = .ok (.istore 4, 2) := by decide +kernel
theorem dX1_compare_50 : decode cX1_compare 50 = .ok (.iinc 5 1, 3) := by decide +kernel
theorem dX1_compare_53 : decode cX1_compare 53 = .ok (.goto (-22), 3) := by decide +kernel
theorem dX1_compare_56 : decode cX1_compare 56 = .ok (.aload_n 0, 1) := by decide +kernel
theorem dX1_compare_57 : decode cX1_compare 57 = .ok (.aload_n 1, 1) := by decide +kernel
theorem dX1_compare_58 : decode cX1_compare 58 = .ok (.aload_n 2, 1) := by decide +kernel
theorem dX1_compare_59 : decode cX1_compare 59 = .ok (.aload_n 3, 1) := by decide +kernel
theorem dX1_compare_60 : decode cX1_compare 60 = .ok (.invokevirtual 54, 3) := by decide +kernel
theorem dX1_compare_63 : decode cX1_compare 63 = .ok (.iconst 1, 1) := by decide +kernel
theorem dX1_compare_64 : decode cX1_compare 64 = .ok (.istore 4, 2) := by decide +kernel
theorem dX1_compare_66 : decode cX1_compare 66 = .ok (.iconst 0, 1) := by decide +kernel
theorem dX1_compare_67 : decode cX1_compare 67 = .ok (.istore 5, 2) := by decide +kernel
theorem dX1_compare_69 : decode cX1_compare 69 = .ok (.iload 5, 2) := by decide +kernel
theorem dX1_compare_71 : decode cX1_compare 71 = .ok (.bipush 14, 2) := by decide +kernel
theorem dX1_compare_73 : decode cX1_compare 73 = .ok (.if_icmp .ge 23, 3) := by decide +kernel
theorem dX1_compare_76 : decode cX1_compare 76 = .ok (.iload 4, 2) := by decide +kernel
theorem dX1_compare_78 : decode cX1_compare 78 = .ok (.ifCond .eq 18, 3) := by decide +kernel
theorem dX1_compare_81 : decode cX1_compare 81 = .ok (.aload_n 0, 1) := by decide +kernel
theorem dX1_compare_82 : decode cX1_compare 82 = .ok (.aload_n 1, 1) := by decide +kernel
theorem dX1_compare_83 : decode cX1_compare 83 = .ok (.aload_n 2, 1) := by decide +kernel
theorem dX1_compare_84 : decode cX1_compare 84 = .ok (.aload_n 3, 1) := by decide +kernel
theorem dX1_compare_85 : decode cX1_compare 85 = .ok (.invokevirtual 58, 3) := by decide +kernel
theorem dX1_compare_88 : decode cX1_compare 88 = .ok (.istore 4, 2) := by decide +kernel
theorem dX1_compare_90 : decode cX1_compare 90 = .ok (.iinc 5 1, 3) := by decide +kernel
theorem dX1_compare_93 : decode cX1_compare 93 = .ok (.goto (-24), 3) := by decide +kernel
theorem dX1_compare_96 : decode cX1_compare 96 = .ok (.aload_n 3, 1) := by decide +kernel
theorem dX1_compare_97 : decode cX1_compare 97 = .ok (.dup, 1) := by decide +kernel
theorem dX1_compare_98 : decode cX1_compare 98 = .ok (.getfield 62, 3) := by decide +kernel
theorem dX1_compare_101 : decode cX1_compare 101 = .ok (.iconst 0, 1) := by decide +kernel
theorem dX1_compare_102 : decode cX1_compare 102 = .ok (.aload_n 1, 1) := by decide +kernel
theorem dX1_compare_103 : decode cX1_compare 103 = .ok (.aload_n 3, 1) := by decide +kernel
theorem dX1_compare_104 : decode cX1_compare 104 = .ok (.invokestatic 66, 3) := by decide +kernel
theorem dX1_compare_107 : decode cX1_compare 107 = .ok (.iconst 1, 1) := by decide +kernel
theorem dX1_compare_108 : decode cX1_compare 108 = .ok (.aload_n 2, 1) := by decide +kernel
theorem dX1_compare_109 : decode cX1_compare 109 = .ok (.aload_n 3, 1) := by decide +kernel
theorem dX1_compare_110 : decode cX1_compare 110 = .ok (.invokestatic 66, 3) := by decide +kernel
theorem dX1_compare_113 : decode cX1_compare 113 = .ok (.iadd, 1) := by decide +kernel
theorem dX1_compare_114 : decode cX1_compare 114 = .ok (.iadd, 1) := by decide +kernel
theorem dX1_compare_115 : decode cX1_compare 115 = .ok (.putfield 62, 3) := by decide +kernel
theorem dX1_compare_118 : decode cX1_compare 118 = .ok (.return_, 1) := by decide +kernel
theorem dX1_mostLines_0 : decode cX1_mostLines 0 = .ok (.aload_n 0, 1) := by decide +kernel
theorem dX1_mostLines_1 : decode cX1_mostLines 1 = .ok (.getfield 12, 3) := by decide +kernel
theorem dX1_mostLines_4 : decode cX1_mostLines 4 = .ok (.aload_n 1, 1) := by decide +kernel
theorem dX1_mostLines_5 : decode cX1_mostLines 5 = .ok (.aload_n 2, 1) := by decide +kernel
theorem dX1_mostLines_6 : decode cX1_mostLines 6 = .ok (.invokevirtual 37, 3) := by decide +kernel
theorem dX1_mostLines_9 : decode cX1_mostLines 9 = .ok (.aload_n 0, 1) := by decide +kernel
theorem dX1_mostLines_10 : decode cX1_mostLines 10 = .ok (.getfield 28, 3) := by decide +kernel
theorem dX1_mostLines_13 : decode cX1_mostLines 13 = .ok (.aload_n 0, 1) := by decide +kernel
theorem dX1_mostLines_14 : decode cX1_mostLines 14 = .ok (.getfield 12, 3) := by decide +kernel
theorem dX1_mostLines_17 : decode cX1_mostLines 17 = .ok (.getfield 70, 3) := by decide +kernel
theorem dX1_mostLines_20 : decode cX1_mostLines 20 = .ok (.iconst 0, 1) := by decide +kernel
theorem dX1_mostLines_21 : decode cX1_mostLines 21 = .ok (.aload_n 0, 1) := by decide +kernel
theorem dX1_mostLines_22 : decode cX1_mostLines 22 = .ok (.getfield 12, 3) := by decide +kernel
theorem dX1_mostLines_25 : decode cX1_mostLines 25 = .ok (.getfield 74, 3) := by decide +kernel
theorem dX1_mostLines_28 : decode cX1_mostLines 28 = .ok (.invokevirtual 77, 3) := by decide +kernel
theorem dX1_mostLines_31 : decode cX1_mostLines 31 = .ok (.aload_n 0, 1) := by decide +kernel
theorem dX1_mostLines_32 : decode cX1_mostLines 32 = .ok (.getfield 28, 3) := by decide +kernel
theorem dX1_mostLines_35 : decode cX1_mostLines 35 = .ok (.aload_n 0, 1) := by decide +kernel
theorem dX1_mostLines_36 : decode cX1_mostLines 36 = .ok (.getfield 12, 3) := by decide +kernel
theorem dX1_mostLines_39 : decode cX1_mostLines 39 = .ok (.getfield 81, 3) := by decide +kernel
theorem dX1_mostLines_42 : decode cX1_mostLines 42 = .ok (.iconst 0, 1) := by decide +kernel
theorem dX1_mostLines_43 : decode cX1_mostLines 43 = .ok (.aload_n 0, 1) := by decide +kernel
theorem dX1_mostLines_44 : decode cX1_mostLines 44 = .ok (.getfield 12, 3) := by decide +kernel
theorem dX1_mostLines_47 : decode cX1_mostLines 47 = .ok (.getfield 84, 3) := by decide +kernel
theorem dX1_mostLines_50 : decode cX1_mostLines 50 = .ok (.invokevirtual 87, 3) := by decide +kernel
theorem dX1_mostLines_53 : decode cX1_mostLines 53 = .ok (.aload_n 0, 1) := by decide +kernel
theorem dX1_mostLines_54 : decode cX1_mostLines 54 = .ok (.getfield 28, 3) := by decide +kernel
theorem dX1_mostLines_57 : decode cX1_mostLines 57 = .ok (.invokevirtual 90, 3) := by decide +kernel
theorem dX1_mostLines_60 : decode cX1_mostLines 60 = .ok (.ireturn, 1) := by decide +kernel
theorem dX1_moveLongest_0 : decode cX1_moveLongest 0 = .ok (.iconst 0, 1) := by decide +kernel
theorem dX1_moveLongest_1 : decode cX1_moveLongest 1 = .ok (.istore_n 2, 1) := by decide +kernel
theorem dX1_moveLongest_2 : decode cX1_moveLongest 2 = .ok (.iconst 0, 1) := by decide +kernel
theorem dX1_moveLongest_3 : decode cX1_moveLongest 3 = .ok (.istore_n 3, 1) := by decide +kernel
theorem dX1_moveLongest_4 : decode cX1_moveLongest 4 = .ok (.iconst 0, 1) := by decide +kernel
theorem dX1_moveLongest_5 : decode cX1_moveLongest 5 = .ok (.istore 4, 2) := by decide +kernel
theorem dX1_moveLongest_7 : decode cX1_moveLongest 7 = .ok (.iconst 0, 1) := by decide +kernel
theorem dX1_moveLongest_8 : decode cX1_moveLongest 8 = .ok (.istore 5, 2) := by decide +kernel
theorem dX1_moveLongest_10 : decode cX1_moveLongest 10 = .ok (.iload 5, 2) := by decide +kernel
theorem dX1_moveLongest_12 : decode cX1_moveLongest 12 = .ok (.aload_n 0, 1) := by decide +kernel
theorem dX1_moveLongest_13 : decode cX1_moveLongest 13 = .ok (.getfield 12, 3) := by decide +kernel
theorem dX1_moveLongest_16 : decode cX1_moveLongest 16 = .ok (.getfield 74, 3) := by decide +kernel
theorem dX1_moveLongest_19 : decode cX1_moveLongest 19 = .ok (.if_icmp .ge 57, 3) := by decide +kernel
theorem dX1_moveLongest_22 : decode cX1_moveLongest 22 = .ok (.iconst 0, 1) := by decide +kernel
theorem dX1_moveLongest_23 : decode cX1_moveLongest 23 = .ok (.istore 6, 2) := by decide +kernel
theorem dX1_moveLongest_25 : decode cX1_moveLongest 25 = .ok (.iload 6, 2) := by decide +kernel
theorem dX1_moveLongest_27 : decode cX1_moveLongest 27 = .ok (.aload_n 0, 1) := by decide +kernel
theorem dX1_moveLongest_28 : decode cX1_moveLongest 28 = .ok (.getfield 12, 3) := by decide +kernel
theorem dX1_moveLongest_31 : decode cX1_moveLongest 31 = .ok (.getfield 84, 3) := by decide +kernel
theorem dX1_moveLongest_34 : decode cX1_moveLongest 34 = .ok (.if_icmp .ge 36, 3) := by decide +kernel
theorem dX1_moveLongest_37 : decode cX1_moveLongest 37 = .ok (.aload_n 0, 1) := by decide +kernel
theorem dX1_moveLongest_38 : decode cX1_moveLongest 38 = .ok (.iload 5, 2) := by decide +kernel
theorem dX1_moveLongest_40 : decode cX1_moveLongest 40 = .ok (.iload 6, 2) := by decide +kernel
theorem dX1_moveLongest_42 : decode cX1_moveLongest 42 = .ok (.aload_n 1, 1) := by decide +kernel
theorem dX1_moveLongest_43 : decode cX1_moveLongest 43 = .ok (.invokevirtual 94, 3) := by decide +kernel
theorem dX1_moveLongest_46 : decode cX1_moveLongest 46 = .ok (.istore 7, 2) := by decide +kernel
theorem dX1_moveLongest_48 : decode cX1_moveLongest 48 = .ok (.iload 7, 2) := by decide +kernel
theorem dX1_moveLongest_50 : decode cX1_moveLongest 50 = .ok (.iload_n 2, 1) := by decide +kernel
theorem dX1_moveLongest_51 : decode cX1_moveLongest 51 = .ok (.if_icmp .le 13, 3) := by decide +kernel
theorem dX1_moveLongest_54 : decode cX1_moveLongest 54 = .ok (.iload 7, 2) := by decide +kernel
theorem dX1_moveLongest_56 : decode cX1_moveLongest 56 = .ok (.istore_n 2, 1) := by decide +kernel
theorem dX1_moveLongest_57 : decode cX1_moveLongest 57 = .ok (.iload 5, 2) := by decide +kernel
theorem dX1_moveLongest_59 : decode cX1_moveLongest 59 = .ok (.istore_n 3, 1) := by decide +kernel
theorem dX1_moveLongest_60 : decode cX1_moveLongest 60 = .ok (.iload 6, 2) := by decide +kernel
theorem dX1_moveLongest_62 : decode cX1_moveLongest 62 = .ok (.istore 4, 2) := by decide +kernel
theorem dX1_moveLongest_64 : decode cX1_moveLongest 64 = .ok (.iinc 6 1, 3) := by decide +kernel
theorem dX1_moveLongest_67 : decode cX1_moveLongest 67 = .ok (.goto (-42), 3) := by decide +kernel
theorem dX1_moveLongest_70 : decode cX1_moveLongest 70 = .ok (.iinc 5 1, 3) := by decide +kernel
theorem dX1_moveLongest_73 : decode cX1_moveLongest 73 = .ok (.goto (-63), 3) := by decide +kernel
theorem dX1_moveLongest_76 : decode cX1_moveLongest 76 = .ok (.iload_n 2, 1) := by decide +kernel
theorem dX1_moveLongest_77 : decode cX1_moveLongest 77 = .ok (.ifCond .le 11, 3) := by decide +kernel
theorem dX1_moveLongest_80 : decode cX1_moveLongest 80 = .ok (.aload_n 1, 1) := by decide +kernel
theorem dX1_moveLongest_81 : decode cX1_moveLongest 81 = .ok (.iload_n 3, 1) := by decide +kernel
theorem dX1_moveLongest_82 : decode cX1_moveLongest 82 = .ok (.iload 4, 2) := by decide +kernel
theorem dX1_moveLongest_84 : decode cX1_moveLongest 84 = .ok (.iload_n 2, 1) := by decide +kernel
theorem dX1_moveLongest_85 : decode cX1_moveLongest 85 = .ok (.invokevirtual 98, 3) := by decide +kernel
theorem dX1_moveLongest_88 : decode cX1_moveLongest 88 = .ok (.iload_n 2, 1) := by decide +kernel
theorem dX1_moveLongest_89 : decode cX1_moveLongest 89 = .ok (.ifCond .le 7, 3) := by decide +kernel
theorem dX1_moveLongest_92 : decode cX1_moveLongest 92 = .ok (.iconst 1, 1) := by decide +kernel
theorem dX1_moveLongest_93 : decode cX1_moveLongest 93 = .ok (.goto 4, 3) := by decide +kernel
theorem dX1_moveLongest_96 : decode cX1_moveLongest 96 = .ok (.iconst 0, 1) := by decide +kernel
theorem dX1_moveLongest_97 : decode cX1_moveLongest 97 = .ok (.ireturn, 1) := by decide +kernel
theorem dX1_looseRow_0 : decode cX1_looseRow 0 = .ok (.iconst 0, 1) := by decide +kernel
theorem dX1_looseRow_1 : decode cX1_looseRow 1 = .ok (.istore 4, 2) := by decide +kernel
theorem dX1_looseRow_3 : decode cX1_looseRow 3 = .ok (.iload 4, 2) := by decide +kernel
theorem dX1_looseRow_5 : decode cX1_looseRow 5 = .ok (.bipush 14, 2) := by decide +kernel
theorem dX1_looseRow_7 : decode cX1_looseRow 7 = .ok (.if_icmp .ge 51, 3) := by decide +kernel
theorem dX1_looseRow_10 : decode cX1_looseRow 10 = .ok (.aload_n 0, 1) := by decide +kernel
theorem dX1_looseRow_11 : decode cX1_looseRow 11 = .ok (.getfield 12, 3) := by decide +kernel
theorem dX1_looseRow_14 : decode cX1_looseRow 14 = .ok (.iload_n 1, 1) := by decide +kernel
theorem dX1_looseRow_15 : decode cX1_looseRow 15 = .ok (.iload 4, 2) := by decide +kernel
theorem dX1_looseRow_17 : decode cX1_looseRow 17 = .ok (.iadd, 1) := by decide +kernel
theorem dX1_looseRow_18 : decode cX1_looseRow 18 = .ok (.iload_n 2, 1) := by decide +kernel
theorem dX1_looseRow_19 : decode cX1_looseRow 19 = .ok (.iload 4, 2) := by decide +kernel
theorem dX1_looseRow_21 : decode cX1_looseRow 21 = .ok (.iadd, 1) := by decide +kernel
theorem dX1_looseRow_22 : decode cX1_looseRow 22 = .ok (.invokevirtual 102, 3) := by decide +kernel
theorem dX1_looseRow_25 : decode cX1_looseRow 25 = .ok (.ifCond .eq 33, 3) := by decide +kernel
theorem dX1_looseRow_28 : decode cX1_looseRow 28 = .ok (.aload_n 3, 1) := by decide +kernel
theorem dX1_looseRow_29 : decode cX1_looseRow 29 = .ok (.iconst 0, 1) := by decide +kernel
theorem dX1_looseRow_30 : decode cX1_looseRow 30 = .ok (.iload_n 1, 1) := by decide +kernel
theorem dX1_looseRow_31 : decode cX1_looseRow 31 = .ok (.iload 4, 2) := by decide +kernel
theorem dX1_looseRow_33 : decode cX1_looseRow 33 = .ok (.iadd, 1) := by decide +kernel
theorem dX1_looseRow_34 : decode cX1_looseRow 34 = .ok (.invokevirtual 106, 3) := by decide +kernel
theorem dX1_looseRow_37 : decode cX1_looseRow 37 = .ok (.ifCond .eq 21, 3) := by decide +kernel
theorem dX1_looseRow_40 : decode cX1_looseRow 40 = .ok (.aload_n 3, 1) := by decide +kernel
theorem dX1_looseRow_41 : decode cX1_looseRow 41 = .ok (.iconst 1, 1) := by decide +kernel
theorem dX1_looseRow_42 : decode cX1_looseRow 42 = .ok (.iload_n 2, 1) := by decide +kernel
theorem dX1_looseRow_43 : decode cX1_looseRow 43 = .ok (.iload 4, 2) := by decide +kernel
theorem dX1_looseRow_45 : decode cX1_looseRow 45 = .ok (.iadd, 1) := by decide +kernel
theorem dX1_looseRow_46 : decode cX1_looseRow 46 = .ok (.invokevirtual 106, 3) := by decide +kernel
theorem dX1_looseRow_49 : decode cX1_looseRow 49 = .ok (.ifCond .eq 9, 3) := by decide +kernel
theorem dX1_looseRow_52 : decode cX1_looseRow 52 = .ok (.iinc 4 1, 3) := by decide +kernel
theorem dX1_looseRow_55 : decode cX1_looseRow 55 = .ok (.goto (-52), 3) := by decide +kernel
theorem dX1_looseRow_58 : decode cX1_looseRow 58 = .ok (.iload 4, 2) := by decide +kernel
theorem dX1_looseRow_60 : decode cX1_looseRow 60 = .ok (.ireturn, 1) := by decide +kernel
theorem dX1_measureLikeness_0 : decode cX1_measureLikeness 0 = .ok (.iconst 0, 1) := by decide +kernel
theorem dX1_measureLikeness_1 : decode cX1_measureLikeness 1 = .ok (.istore 4, 2) := by decide +kernel
theorem dX1_measureLikeness_3 : decode cX1_measureLikeness 3 = .ok (.iload 4, 2) := by decide +kernel
theorem dX1_measureLikeness_5 : decode cX1_measureLikeness 5 = .ok (.aload_n 1, 1) := by decide +kernel
theorem dX1_measureLikeness_6 : decode cX1_measureLikeness 6 = .ok (.getfield 109, 3) := by decide +kernel
theorem dX1_measureLikeness_9 : decode cX1_measureLikeness 9 = .ok (.if_icmp .ge 96, 3) := by decide +kernel
theorem dX1_measureLikeness_12 : decode cX1_measureLikeness 12 = .ok (.aload_n 3, 1) := by decide +kernel
theorem dX1_measureLikeness_13 : decode cX1_measureLikeness 13 = .ok (.iconst 0, 1) := by decide +kernel
theorem dX1_measureLikeness_14 : decode cX1_measureLikeness 14 = .ok (.iload 4, 2) := by decide +kernel
theorem dX1_measureLikeness_16 : decode cX1_measureLikeness 16 = .ok (.invokevirtual 106, 3) := by decide +kernel
theorem dX1_measureLikeness_19 : decode cX1_measureLikeness 19 = .ok (.ifCond .eq 80, 3) := by decide +kernel
theorem dX1_measureLikeness_22 : decode cX1_measureLikeness 22 = .ok (.aload_n 0, 1) := by decide +kernel
theorem dX1_measureLikeness_23 : decode cX1_measureLikeness 23 = .ok (.getfield 28, 3) := by decide +kernel
theorem dX1_measureLikeness_26 : decode cX1_measureLikeness 26 = .ok (.aload_n 1, 1) := by decide +kernel
theorem dX1_measureLikeness_27 : decode cX1_measureLikeness 27 = .ok (.getfield 114, 3) := by decide +kernel
theorem dX1_measureLikeness_30 : decode cX1_measureLikeness 30 = .ok (.iload 4, 2) := by decide +kernel
theorem dX1_measureLikeness_32 : decode cX1_measureLikeness 32 = .ok (.bipush 8, 2) := by decide +kernel
theorem dX1_measureLikeness_34 : decode cX1_measureLikeness 34 = .ok (.imul, 1) := by decide +kernel
theorem dX1_measureLikeness_35 : decode cX1_measureLikeness 35 = .ok (.aload_n 1, 1) := by decide +kernel
theorem dX1_measureLikeness_36 : decode cX1_measureLikeness 36 = .ok (.iload 4, 2) := by decide +kernel
theorem dX1_measureLikeness_38 : decode cX1_measureLikeness 38 = .ok (.invokevirtual 117, 3) := by decide +kernel
theorem dX1_measureLikeness_41 : decode cX1_measureLikeness 41 = .ok (.invokevirtual 77, 3) := by decide +kernel
theorem dX1_measureLikeness_44 : decode cX1_measureLikeness 44 = .ok (.iconst 0, 1) := by decide +kernel
theorem dX1_measureLikeness_45 : decode cX1_measureLikeness 45 = .ok (.istore 5, 2) := by decide +kernel
theorem dX1_measureLikeness_47 : decode cX1_measureLikeness 47 = .ok (.iload 5, 2) := by decide +kernel
theorem dX1_measureLikeness_49 : decode cX1_measureLikeness 49 = .ok (.aload_n 2, 1) := by decide +kernel
theorem dX1_measureLikeness_50 : decode cX1_measureLikeness 50 = .ok (.getfield 109, 3) := by decide +kernel
theorem dX1_measureLikeness_53 : decode cX1_measureLikeness 53 = .ok (.if_icmp .ge 46, 3) := by decide +kernel
theorem dX1_measureLikeness_56 : decode cX1_measureLikeness 56 = .ok (.aload_n 0, 1) := by decide +kernel
theorem dX1_measureLikeness_57 : decode cX1_measureLikeness 57 = .ok (.getfield 34, 3) := by decide +kernel
theorem dX1_measureLikeness_60 : decode cX1_measureLikeness 60 = .ok (.iload 4, 2) := by decide +kernel
theorem dX1_measureLikeness_62 : decode cX1_measureLikeness 62 = .ok (.aaload, 1) := by decide +kernel
theorem dX1_measureLikeness_63 : decode cX1_measureLikeness 63 = .ok (.iload 5, 2) := by decide +kernel
theorem dX1_measureLikeness_65 : decode cX1_measureLikeness 65 = .ok (.aload_n 3, 1) := by decide +kernel
theorem dX1_measureLikeness_66 : decode cX1_measureLikeness 66 = .ok (.iconst 1, 1) := by decide +kernel
theorem dX1_measureLikeness_67 : decode cX1_measureLikeness 67 = .ok (.iload 5, 2) := by decide +kernel
theorem dX1_measureLikeness_69 : decode cX1_measureLikeness 69 = .ok (.invokevirtual 106, 3) := by decide +kernel
theorem dX1_measureLikeness_72 : decode cX1_measureLikeness 72 = .ok (.ifCond .eq 19, 3) := by decide +kernel
theorem dX1_measureLikeness_75 : decode cX1_measureLikeness 75 = .ok (.aload_n 0, 1) := by decide +kernel
theorem dX1_measureLikeness_76 : decode cX1_measureLikeness 76 = .ok (.aload_n 2, 1) := by decide +kernel
theorem dX1_measureLikeness_77 : decode cX1_measureLikeness 77 = .ok (.iload 5, 2) := by decide +kernel
theorem dX1_measureLikeness_79 : decode cX1_measureLikeness 79 = .ok (.aload_n 1, 1) := by decide +kernel
theorem dX1_measureLikeness_80 : decode cX1_measureLikeness 80 = .ok (.iload 4, 2) := by decide +kernel
theorem dX1_measureLikeness_82 : decode cX1_measureLikeness 82 = .ok (.invokevirtual 117, 3) := by decide +kernel
theorem dX1_measureLikeness_85 : decode cX1_measureLikeness 85 = .ok (.invokevirtual 121, 3) := by decide +kernel
theorem dX1_measureLikeness_88 : decode cX1_measureLikeness 88 = .ok (.goto 4, 3) := by decide +kernel
theorem dX1_measureLikeness_91 : decode cX1_measureLikeness 91 = .ok (.iconst 0, 1) := by decide +kernel
theorem dX1_measureLikeness_92 : decode cX1_measureLikeness 92 = .ok (.iastore, 1) := by decide +kernel
theorem dX1_measureLikeness_93 : decode cX1_measureLikeness 93 = .ok (.iinc 5 1, 3) := by decide +kernel
theorem dX1_measureLikeness_96 : decode cX1_measureLikeness 96 = .ok (.goto (-49), 3) := by decide +kernel
theorem dX1_measureLikeness_99 : decode cX1_measureLikeness 99 = .ok (.iinc 4 1, 3) := by decide +kernel
theorem dX1_measureLikeness_102 : decode cX1_measureLikeness 102 = .ok (.goto (-99), 3) := by decide +kernel
theorem dX1_measureLikeness_105 : decode cX1_measureLikeness 105 = .ok (.return_, 1) := by decide +kernel
theorem dX1_likenessTo_0 : decode cX1_likenessTo 0 = .ok (.aload_n 1, 1) := by decide +kernel
theorem dX1_likenessTo_1 : decode cX1_likenessTo 1 = .ok (.iload_n 2, 1) := by decide +kernel
theorem dX1_likenessTo_2 : decode cX1_likenessTo 2 = .ok (.invokevirtual 117, 3) := by decide +kernel
theorem dX1_likenessTo_5 : decode cX1_likenessTo 5 = .ok (.istore 4, 2) := by decide +kernel
theorem dX1_likenessTo_7 : decode cX1_likenessTo 7 = .ok (.iload_n 3, 1) := by decide +kernel
theorem dX1_likenessTo_8 : decode cX1_likenessTo 8 = .ok (.iload 4, 2) := by decide +kernel
theorem dX1_likenessTo_10 : decode cX1_likenessTo 10 = .ok (.invokestatic 125, 3) := by decide +kernel
theorem dX1_likenessTo_13 : decode cX1_likenessTo 13 = .ok (.istore 5, 2) := by decide +kernel
theorem dX1_likenessTo_15 : decode cX1_likenessTo 15 = .ok (.iconst 2, 1) := by decide +kernel
theorem dX1_likenessTo_16 : decode cX1_likenessTo 16 = .ok (.iload_n 3, 1) := by decide +kernel
theorem dX1_likenessTo_17 : decode cX1_likenessTo 17 = .ok (.iload 4, 2) := by decide +kernel
theorem dX1_likenessTo_19 : decode cX1_likenessTo 19 = .ok (.invokestatic 131, 3) := by decide +kernel
theorem dX1_likenessTo_22 : decode cX1_likenessTo 22 = .ok (.imul, 1) := by decide +kernel
theorem dX1_likenessTo_23 : decode cX1_likenessTo 23 = .ok (.iload 5, 2) := by decide +kernel
theorem dX1_likenessTo_25 : decode cX1_likenessTo 25 = .ok (.if_icmp .ge 5, 3) := by decide +kernel
theorem dX1_likenessTo_28 : decode cX1_likenessTo 28 = .ok (.iconst 0, 1) := by decide +kernel
theorem dX1_likenessTo_29 : decode cX1_likenessTo 29 = .ok (.ireturn, 1) := by decide +kernel
theorem dX1_likenessTo_30 : decode cX1_likenessTo 30 = .ok (.aload_n 0, 1) := by decide +kernel
theorem dX1_likenessTo_31 : decode cX1_likenessTo 31 = .ok (.getfield 28, 3) := by decide +kernel
theorem dX1_likenessTo_34 : decode cX1_likenessTo 34 = .ok (.aload_n 1, 1) := by decide +kernel
theorem dX1_likenessTo_35 : decode cX1_likenessTo 35 = .ok (.getfield 114, 3) := by decide +kernel
theorem dX1_likenessTo_38 : decode cX1_likenessTo 38 = .ok (.iload_n 2, 1) := by decide +kernel
theorem dX1_likenessTo_39 : decode cX1_likenessTo 39 = .ok (.bipush 8, 2) := by decide +kernel
theorem dX1_likenessTo_41 : decode cX1_likenessTo 41 = .ok (.imul, 1) := by decide +kernel
theorem dX1_likenessTo_42 : decode cX1_likenessTo 42 = .ok (.iload 4, 2) := by decide +kernel
theorem dX1_likenessTo_44 : decode cX1_likenessTo 44 = .ok (.invokevirtual 87, 3) := by decide +kernel
theorem dX1_likenessTo_47 : decode cX1_likenessTo 47 = .ok (.aload_n 0, 1) := by decide +kernel
theorem dX1_likenessTo_48 : decode cX1_likenessTo 48 = .ok (.getfield 28, 3) := by decide +kernel
theorem dX1_likenessTo_51 : decode cX1_likenessTo 51 = .ok (.invokevirtual 90, 3) := by decide +kernel
theorem dX1_likenessTo_54 : decode cX1_likenessTo 54 = .ok (.istore 6, 2) := by decide +kernel
theorem dX1_likenessTo_56 : decode cX1_likenessTo 56 = .ok (.iconst 2, 1) := by decide +kernel
theorem dX1_likenessTo_57 : decode cX1_likenessTo 57 = .ok (.iload 6, 2) := by decide +kernel
theorem dX1_likenessTo_59 : decode cX1_likenessTo 59 = .ok (.imul, 1) := by decide +kernel
theorem dX1_likenessTo_60 : decode cX1_likenessTo 60 = .ok (.iload 5, 2) := by decide +kernel
theorem dX1_likenessTo_62 : decode cX1_likenessTo 62 = .ok (.if_icmp .lt 8, 3) := by decide +kernel
theorem dX1_likenessTo_65 : decode cX1_likenessTo 65 = .ok (.iload 6, 2) := by decide +kernel
theorem dX1_likenessTo_67 : decode cX1_likenessTo 67 = .ok (.goto 4, 3) := by decide +kernel
theorem dX1_likenessTo_70 : decode cX1_likenessTo 70 = .ok (.iconst 0, 1) := by decide +kernel
theorem dX1_likenessTo_71 : decode cX1_likenessTo 71 = .ok (.ireturn, 1) := by decide +kernel
theorem dX1_editLikest_0 : decode cX1_editLikest 0 = .ok (.iconst 0, 1) := by decide +kernel
theorem dX1_editLikest_1 : decode cX1_editLikest 1 = .ok (.istore 4, 2) := by decide +kernel
theorem dX1_editLikest_3 : decode cX1_editLikest 3 = .ok (.iconst 0, 1) := by decide +kernel
theorem dX1_editLikest_4 : decode cX1_editLikest 4 = .ok (.istore 5, 2) := by decide +kernel
theorem dX1_editLikest_6 : decode cX1_editLikest 6 = .ok (.iconst 0, 1) := by decide +kernel
theorem dX1_editLikest_7 : decode cX1_editLikest 7 = .ok (.istore 6, 2) := by decide +kernel
theorem dX1_editLikest_9 : decode cX1_editLikest 9 = .ok (.iconst 0, 1) := by decide +kernel
theorem dX1_editLikest_10 : decode cX1_editLikest 10 = .ok (.istore 7, 2) := by decide +kernel
theorem dX1_editLikest_12 : decode cX1_editLikest 12 = .ok (.iload 7, 2) := by decide +kernel
theorem dX1_editLikest_14 : decode cX1_editLikest 14 = .ok (.aload_n 1, 1) := by decide +kernel
theorem dX1_editLikest_15 : decode cX1_editLikest 15 = .ok (.getfield 109, 3) := by decide +kernel
theorem dX1_editLikest_18 : decode cX1_editLikest 18 = .ok (.if_icmp .ge 82, 3) := by decide +kernel
theorem dX1_editLikest_21 : decode cX1_editLikest 21 = .ok (.iconst 0, 1) := by decide +kernel
theorem dX1_editLikest_22 : decode cX1_editLikest 22 = .ok (.istore 8, 2) := by decide +kernel
theorem dX1_editLikest_24 : decode cX1_editLikest 24 = .ok (.iload 8, 2) := by decide +kernel
theorem dX1_editLikest_26 : decode cX1_editLikest 26 = .ok (.aload_n 2, 1) := by decide +kernel
theorem dX1_editLikest_27 : decode cX1_editLikest 27 = .ok (.getfield 109, 3) := by decide +kernel
theorem dX1_editLikest_30 : decode cX1_editLikest 30 = .ok (.if_icmp .ge 64, 3) := by decide +kernel
theorem dX1_editLikest_33 : decode cX1_editLikest 33 = .ok (.aload_n 3, 1) := by decide +kernel
theorem dX1_editLikest_34 : decode cX1_editLikest 34 = .ok (.iconst 0, 1) := by decide +kernel
theorem dX1_editLikest_35 : decode cX1_editLikest 35 = .ok (.iload 7, 2) := by decide +kernel
theorem dX1_editLikest_37 : decode cX1_editLikest 37 = .ok (.invokevirtual 106, 3) := by decide +kernel
theorem dX1_editLikest_40 : decode cX1_editLikest 40 = .ok (.ifCond .eq 48, 3) := by decide +kernel
theorem dX1_editLikest_43 : decode cX1_editLikest 43 = .ok (.aload_n 3, 1) := by decide +kernel
theorem dX1_editLikest_44 : decode cX1_editLikest 44 = .ok (.iconst 1, 1) := by decide +kernel
theorem dX1_editLikest_45 : decode cX1_editLikest 45 = .ok (.iload 8, 2) := by decide +kernel
theorem dX1_editLikest_47 : decode cX1_editLikest 47 = .ok (.invokevirtual 106, 3) := by decide +kernel
theorem dX1_editLikest_50 : decode cX1_editLikest 50 = .ok (.ifCond .eq 38, 3) := by decide +kernel
theorem dX1_editLikest_53 : decode cX1_editLikest 53 = .ok (.aload_n 0, 1) := by decide +kernel
theorem dX1_editLikest_54 : decode cX1_editLikest 54 = .ok (.getfield 34, 3) := by decide +kernel
theorem dX1_editLikest_57 : decode cX1_editLikest 57 = .ok (.iload 7, 2) := by decide +kernel
theorem dX1_editLikest_59 : decode cX1_editLikest 59 = .ok (.aaload, 1) := by decide +kernel
theorem dX1_editLikest_60 : decode cX1_editLikest 60 = .ok (.iload 8, 2) := by decide +kernel
theorem dX1_editLikest_62 : decode cX1_editLikest 62 = .ok (.iaload, 1) := by decide +kernel
theorem dX1_editLikest_63 : decode cX1_editLikest 63 = .ok (.iload 4, 2) := by decide +kernel
theorem dX1_editLikest_65 : decode cX1_editLikest 65 = .ok (.if_icmp .le 23, 3) := by decide +kernel
theorem dX1_editLikest_68 : decode cX1_editLikest 68 = .ok (.aload_n 0, 1) := by decide +kernel
theorem dX1_editLikest_69 : decode cX1_editLikest 69 = .ok (.getfield 34, 3) := by decide +kernel
theorem dX1_editLikest_72 : decode cX1_editLikest 72 = .ok (.iload 7, 2) := by decide +kernel
theorem dX1_editLikest_74 : decode cX1_editLikest 74 = .ok (.aaload, 1) := by decide +kernel
theorem dX1_editLikest_75 : decode cX1_editLikest 75 = .ok (.iload 8, 2) := by decide +kernel
theorem dX1_editLikest_77 : decode cX1_editLikest 77 = .ok (.iaload, 1) := by decide +kernel
theorem dX1_editLikest_78 : decode cX1_editLikest 78 = .ok (.istore 4, 2) := by decide +kernel
theorem dX1_editLikest_80 : decode cX1_editLikest 80 = .ok (.iload 7, 2) := by decide +kernel
theorem dX1_editLikest_82 : decode cX1_editLikest 82 = .ok (.istore 5, 2) := by decide +kernel
theorem dX1_editLikest_84 : decode cX1_editLikest 84 = .ok (.iload 8, 2) := by decide +kernel
theorem dX1_editLikest_86 : decode cX1_editLikest 86 = .ok (.istore 6, 2) := by decide +kernel
theorem dX1_editLikest_88 : decode cX1_editLikest 88 = .ok (.iinc 8 1, 3) := by decide +kernel
theorem dX1_editLikest_91 : decode cX1_editLikest 91 = .ok (.goto (-67), 3) := by decide +kernel
theorem dX1_editLikest_94 : decode cX1_editLikest 94 = .ok (.iinc 7 1, 3) := by decide +kernel
theorem dX1_editLikest_97 : decode cX1_editLikest 97 = .ok (.goto (-85), 3) := by decide +kernel
theorem dX1_editLikest_100 : decode cX1_editLikest 100 = .ok (.iload 4, 2) := by decide +kernel
theorem dX1_editLikest_102 : decode cX1_editLikest 102 = .ok (.ifCond .le 40, 3) := by decide +kernel
theorem dX1_editLikest_105 : decode cX1_editLikest 105 = .ok (.aload_n 3, 1) := by decide +kernel
theorem dX1_editLikest_106 : decode cX1_editLikest 106 = .ok (.iconst 2, 1) := by decide +kernel
theorem dX1_editLikest_107 : decode cX1_editLikest 107 = .ok (.iload 5, 2) := by decide +kernel
theorem dX1_editLikest_109 : decode cX1_editLikest 109 = .ok (.iload 6, 2) := by decide +kernel
theorem dX1_editLikest_111 : decode cX1_editLikest 111 = .ok (.iconst (-1), 1) := by decide +kernel
theorem dX1_editLikest_112 : decode cX1_editLikest 112 = .ok (.invokevirtual 134, 3) := by decide +kernel
theorem dX1_editLikest_115 : decode cX1_editLikest 115 = .ok (.aload_n 3, 1) := by decide +kernel
theorem dX1_editLikest_116 : decode cX1_editLikest 116 = .ok (.dup, 1) := by decide +kernel
theorem dX1_editLikest_117 : decode cX1_editLikest 117 = .ok (.getfield 62, 3) := by decide +kernel
theorem dX1_editLikest_120 : decode cX1_editLikest 120 = .ok (.aload_n 1, 1) := by decide +kernel
theorem dX1_editLikest_121 : decode cX1_editLikest 121 = .ok (.iload 5, 2) := by decide +kernel
theorem dX1_editLikest_123 : decode cX1_editLikest 123 = .ok (.invokevirtual 117, 3) := by decide +kernel
theorem dX1_editLikest_126 : decode cX1_editLikest 126 = .ok (.aload_n 2, 1) := by decide +kernel
theorem dX1_editLikest_127 : decode cX1_editLikest 127 = .ok (.iload 6, 2) := by decide +kernel
theorem dX1_editLikest_129 : decode cX1_editLikest 129 = .ok (.invokevirtual 117, 3) := by decide +kernel
theorem dX1_editLikest_132 : decode cX1_editLikest 132 = .ok (.iadd, 1) := by decide +kernel
theorem dX1_editLikest_133 : decode cX1_editLikest 133 = .ok (.iconst 2, 1) := by decide +kernel
theorem dX1_editLikest_134 : decode cX1_editLikest 134 = .ok (.iload 4, 2) := by decide +kernel
theorem dX1_editLikest_136 : decode cX1_editLikest 136 = .ok (.imul, 1) := by decide +kernel
theorem dX1_editLikest_137 : decode cX1_editLikest 137 = .ok (.isub, 1) := by decide +kernel
theorem dX1_editLikest_138 : decode cX1_editLikest 138 = .ok (.iadd, 1) := by decide +kernel
theorem dX1_editLikest_139 : decode cX1_editLikest 139 = .ok (.putfield 62, 3) := by decide +kernel
theorem dX1_editLikest_142 : decode cX1_editLikest 142 = .ok (.iload 4, 2) := by decide +kernel
theorem dX1_editLikest_144 : decode cX1_editLikest 144 = .ok (.ifCond .le 7, 3) := by decide +kernel
theorem dX1_editLikest_147 : decode cX1_editLikest 147 = .ok (.iconst 1, 1) := by decide +kernel
theorem dX1_editLikest_148 : decode cX1_editLikest 148 = .ok (.goto 4, 3) := by decide +kernel
theorem dX1_editLikest_151 : decode cX1_editLikest 151 = .ok (.iconst 0, 1) := by decide +kernel
theorem dX1_editLikest_152 : decode cX1_editLikest 152 = .ok (.ireturn, 1) := by decide +kernel
theorem dX1_looseWords_0 : decode cX1_looseWords 0 = .ok (.iconst 0, 1) := by decide +kernel
theorem dX1_looseWords_1 : decode cX1_looseWords 1 = .ok (.istore_n 3, 1) := by decide +kernel
theorem dX1_looseWords_2 : decode cX1_looseWords 2 = .ok (.iconst 0, 1) := by decide +kernel
theorem dX1_looseWords_3 : decode cX1_looseWords 3 = .ok (.istore 4, 2) := by decide +kernel
theorem dX1_looseWords_5 : decode cX1_looseWords 5 = .ok (.iload 4, 2) := by decide +kernel
theorem dX1_looseWords_7 : decode cX1_looseWords 7 = .ok (.aload_n 1, 1) := by decide +kernel
theorem dX1_looseWords_8 : decode cX1_looseWords 8 = .ok (.getfield 109, 3) := by decide +kernel
theorem dX1_looseWords_11 : decode cX1_looseWords 11 = .ok (.if_icmp .ge 32, 3) := by decide +kernel
theorem dX1_looseWords_14 : decode cX1_looseWords 14 = .ok (.iload_n 3, 1) := by decide +kernel
theorem dX1_looseWords_15 : decode cX1_looseWords 15 = .ok (.aload_n 2, 1) := by decide +kernel
theorem dX1_looseWords_16 : decode cX1_looseWords 16 = .ok (.iload_n 0, 1) := by decide +kernel
theorem dX1_looseWords_17 : decode cX1_looseWords 17 = .ok (.iload 4, 2) := by decide +kernel
theorem dX1_looseWords_19 : decode cX1_looseWords 19 = .ok (.invokevirtual 106, 3) := by decide +kernel
theorem dX1_looseWords_22 : decode cX1_looseWords 22 = .ok (.ifCond .eq 12, 3) := by decide +kernel
theorem dX1_looseWords_25 : decode cX1_looseWords 25 = .ok (.aload_n 1, 1) := by decide +kernel
theorem dX1_looseWords_26 : decode cX1_looseWords 26 = .ok (.iload 4, 2) := by decide +kernel
theorem dX1_looseWords_28 : decode cX1_looseWords 28 = .ok (.invokevirtual 117, 3) := by decide +kernel
theorem dX1_looseWords_31 : decode cX1_looseWords 31 = .ok (.goto 4, 3) := by decide +kernel
theorem dX1_looseWords_34 : decode cX1_looseWords 34 = .ok (.iconst 0, 1) := by decide +kernel
theorem dX1_looseWords_35 : decode cX1_looseWords 35 = .ok (.iadd, 1) := by decide +kernel
theorem dX1_looseWords_36 : decode cX1_looseWords 36 = .ok (.istore_n 3, 1) := by decide +kernel
theorem dX1_looseWords_37 : decode cX1_looseWords 37 = .ok (.iinc 4 1, 3) := by decide +kernel
theorem dX1_looseWords_40 : decode cX1_looseWords 40 = .ok (.goto (-35), 3) := by decide +kernel
theorem dX1_looseWords_43 : decode cX1_looseWords 43 = .ok (.iload_n 3, 1) := by decide +kernel
theorem dX1_looseWords_44 : decode cX1_looseWords 44 = .ok (.ireturn, 1) := by decide +kernel
theorem dX2_init_0 : decode cX2_init 0 = .ok (.aload_n 0, 1) := by decide +kernel
theorem dX2_init_1 : decode cX2_init 1 = .ok (.invokespecial 3, 3) := by decide +kernel
theorem dX2_init_4 : decode cX2_init 4 = .ok (.aload_n 0, 1) := by decide +kernel
theorem dX2_init_5 : decode cX2_init 5 = .ok (.bipush 14, 2) := by decide +kernel
theorem dX2_init_7 : decode cX2_init 7 = .ok (.newarray .int, 2) := by decide +kernel
theorem dX2_init_9 : decode cX2_init 9 = .ok (.putfield 9, 3) := by decide +kernel
theorem dX2_init_12 : decode cX2_init 12 = .ok (.aload_n 0, 1) := by decide +kernel
theorem dX2_init_13 : decode cX2_init 13 = .ok (.bipush 112, 2) := by decide +kernel
theorem dX2_init_15 : decode cX2_init 15 = .ok (.newarray .int, 2) := by decide +kernel
theorem dX2_init_17 : decode cX2_init 17 = .ok (.putfield 15, 3) := by decide +kernel
theorem dX2_init_20 : decode cX2_init 20 = .ok (.aload_n 0, 1) := by decide +kernel
theorem dX2_init_21 : decode cX2_init 21 = .ok (.iconst 0, 1) := by decide +kernel
theorem dX2_init_22 : decode cX2_init 22 = .ok (.putfield 18, 3) := by decide +kernel
theorem dX2_init_25 : decode cX2_init 25 = .ok (.return_, 1) := by decide +kernel
theorem dX2_has_0 : decode cX2_has 0 = .ok (.iload_n 1, 1) := by decide +kernel
theorem dX2_has_1 : decode cX2_has 1 = .ok (.ifCond .lt 15, 3) := by decide +kernel
theorem dX2_has_4 : decode cX2_has 4 = .ok (.iload_n 1, 1) := by decide +kernel
theorem dX2_has_5 : decode cX2_has 5 = .ok (.aload_n 0, 1) := by decide +kernel
theorem dX2_has_6 : decode cX2_has 6 = .ok (.getfield 18, 3) := by decide +kernel
theorem dX2_has_9 : decode cX2_has 9 = .ok (.if_icmp .ge 7, 3) := by decide +kernel
theorem dX2_has_12 : decode cX2_has 12 = .ok (.iconst 1, 1) := by decide +kernel
theorem dX2_has_13 : decode cX2_has 13 = .ok (.goto 4, 3) := by decide +kernel
theorem dX2_has_16 : decode cX2_has 16 = .ok (.iconst 0, 1) := by decide +kernel
theorem dX2_has_17 : decode cX2_has 17 = .ok (.ireturn, 1) := by decide +kernel
theorem dX2_sizeOf_0 : decode cX2_sizeOf 0 = .ok (.aload_n 0, 1) := by decide +kernel
theorem dX2_sizeOf_1 : decode cX2_sizeOf 1 = .ok (.iload_n 1, 1) := by decide +kernel
theorem dX2_sizeOf_2 : decode cX2_sizeOf 2 = .ok (.invokevirtual 22, 3) := by decide +kernel
theorem dX2_sizeOf_5 : decode cX2_sizeOf 5 = .ok (.ifCond .eq 12, 3) := by decide +kernel
theorem dX2_sizeOf_8 : decode cX2_sizeOf 8 = .ok (.aload_n 0, 1) := by decide +kernel
theorem dX2_sizeOf_9 : decode cX2_sizeOf 9 = .ok (.getfield 9, 3) := by decide +kernel
theorem dX2_sizeOf_12 : decode cX2_sizeOf 12 = .ok (.iload_n 1, 1) := by decide +kernel
theorem dX2_sizeOf_13 : decode cX2_sizeOf 13 = .ok (.iaload, 1) := by decide +kernel
theorem dX2_sizeOf_14 : decode cX2_sizeOf 14 = .ok (.goto 4, 3) := by decide +kernel
theorem dX2_sizeOf_17 : decode cX2_sizeOf 17 = .ok (.iconst 0, 1) := by decide +kernel
theorem dX2_sizeOf_18 : decode cX2_sizeOf 18 = .ok (.ireturn, 1) := by decide +kernel
theorem dX2_wordAt_0 : decode cX2_wordAt 0 = .ok (.iload_n 2, 1) := by decide +kernel
theorem dX2_wordAt_1 : decode cX2_wordAt 1 = .ok (.ifCond .lt 26, 3) := by decide +kernel
theorem dX2_wordAt_4 : decode cX2_wordAt 4 = .ok (.iload_n 2, 1) := by decide +kernel
theorem dX2_wordAt_5 : decode cX2_wordAt 5 = .ok (.aload_n 0, 1) := by decide +kernel
theorem dX2_wordAt_6 : decode cX2_wordAt 6 = .ok (.iload_n 1, 1) := by decide +kernel
theorem dX2_wordAt_7 : decode cX2_wordAt 7 = .ok (.invokevirtual 26, 3) := by decide +kernel
theorem dX2_wordAt_10 : decode cX2_wordAt 10 = .ok (.if_icmp .ge 17, 3) := by decide +kernel
theorem dX2_wordAt_13 : decode cX2_wordAt 13 = .ok (.aload_n 0, 1) := by decide +kernel
theorem dX2_wordAt_14 : decode cX2_wordAt 14 = .ok (.getfield 15, 3) := by decide +kernel
theorem dX2_wordAt_17 : decode cX2_wordAt 17 = .ok (.iload_n 1, 1) := by decide +kernel
theorem dX2_wordAt_18 : decode cX2_wordAt 18 = .ok (.bipush 8, 2) := by decide +kernel
theorem dX2_wordAt_20 : decode cX2_wordAt 20 = .ok (.imul, 1) := by decide +kernel
theorem dX2_wordAt_21 : decode cX2_wordAt 21 = .ok (.iload_n 2, 1) := by decide +kernel
theorem dX2_wordAt_22 : decode cX2_wordAt 22 = .ok (.iadd, 1) := by decide +kernel
theorem dX2_wordAt_23 : decode cX2_wordAt 23 = .ok (.iaload, 1) := by decide +kernel
theorem dX2_wordAt_24 : decode cX2_wordAt 24 = .ok (.goto 4, 3) := by decide +kernel
theorem dX2_wordAt_27 : decode cX2_wordAt 27 = .ok (.iconst 0, 1) := by decide +kernel
theorem dX2_wordAt_28 : decode cX2_wordAt 28 = .ok (.ireturn, 1) := by decide +kernel
theorem dX2_lettersOf_0 : decode cX2_lettersOf 0 = .ok (.aload_n 0, 1) := by decide +kernel
theorem dX2_lettersOf_1 : decode cX2_lettersOf 1 = .ok (.iload_n 1, 1) := by decide +kernel
theorem dX2_lettersOf_2 : decode cX2_lettersOf 2 = .ok (.iload_n 2, 1) := by decide +kernel
theorem dX2_lettersOf_3 : decode cX2_lettersOf 3 = .ok (.invokevirtual 30, 3) := by decide +kernel
theorem dX2_lettersOf_6 : decode cX2_lettersOf 6 = .ok (.istore_n 3, 1) := by decide +kernel
theorem dX2_lettersOf_7 : decode cX2_lettersOf 7 = .ok (.iconst 0, 1) := by decide +kernel
theorem dX2_lettersOf_8 : decode cX2_lettersOf 8 = .ok (.istore 4, 2) := by decide +kernel
theorem dX2_lettersOf_10 : decode cX2_lettersOf 10 = .ok (.iload 4, 2) := by decide +kernel
theorem dX2_lettersOf_12 : decode cX2_lettersOf 12 = .ok (.bipush 6, 2) := by decide +kernel
theorem dX2_lettersOf_14 : decode cX2_lettersOf 14 = .ok (.if_icmp .ge 18, 3) := by decide +kernel
theorem dX2_lettersOf_17 : decode cX2_lettersOf 17 = .ok (.iload_n 3, 1) := by decide +kernel
theorem dX2_lettersOf_18 : decode cX2_lettersOf 18 = .ok (.iload 4, 2) := by decide +kernel
theorem dX2_lettersOf_20 : decode cX2_lettersOf 20 = .ok (.invokestatic 34, 3) := by decide +kernel
theorem dX2_lettersOf_23 : decode cX2_lettersOf 23 = .ok (.ifCond .eq 9, 3) := by decide +kernel
theorem dX2_lettersOf_26 : decode cX2_lettersOf 26 = .ok (.iinc 4 1, 3) := by decide +kernel
theorem dX2_lettersOf_29 : decode cX2_lettersOf 29 = .ok (.goto (-19), 3) := by decide +kernel
theorem dX2_lettersOf_32 : decode cX2_lettersOf 32 = .ok (.iload 4, 2) := by decide +kernel
theorem dX2_lettersOf_34 : decode cX2_lettersOf 34 = .ok (.ireturn, 1) := by decide +kernel
theorem dX2_isLike_0 : decode cX2_isLike 0 = .ok (.aload_n 0, 1) := by decide +kernel
theorem dX2_isLike_1 : decode cX2_isLike 1 = .ok (.iload_n 1, 1) := by decide +kernel
theorem dX2_isLike_2 : decode cX2_isLike 2 = .ok (.invokevirtual 22, 3) := by decide +kernel
theorem dX2_isLike_5 : decode cX2_isLike 5 = .ok (.ifCond .eq 26, 3) := by decide +kernel
theorem dX2_isLike_8 : decode cX2_isLike 8 = .ok (.aload_n 2, 1) := by decide +kernel
theorem dX2_isLike_9 : decode cX2_isLike 9 = .ok (.iload_n 3, 1) := by decide +kernel
theorem dX2_isLike_10 : decode cX2_isLike 10 = .ok (.invokevirtual 22, 3) := by decide +kernel
theorem dX2_isLike_13 : decode cX2_isLike 13 = .ok (.ifCond .eq 18, 3) := by decide +kernel
theorem dX2_isLike_16 : decode cX2_isLike 16 = .ok (.aload_n 0, 1) := by decide +kernel
theorem dX2_isLike_17 : decode cX2_isLike 17 = .ok (.getfield 9, 3) := by decide +kernel
theorem dX2_isLike_20 : decode cX2_isLike 20 = .ok (.iload_n 1, 1) := by decide +kernel
theorem dX2_isLike_21 : decode cX2_isLike 21 = .ok (.iaload, 1) := by decide +kernel
theorem dX2_isLike_22 : decode cX2_isLike 22 = .ok (.aload_n 2, 1) := by decide +kernel
theorem dX2_isLike_23 : decode cX2_isLike 23 = .ok (.getfield 9, 3) := by decide +kernel
theorem dX2_isLike_26 : decode cX2_isLike 26 = .ok (.iload_n 3, 1) := by decide +kernel
theorem dX2_isLike_27 : decode cX2_isLike 27 = .ok (.iaload, 1) := by decide +kernel
theorem dX2_isLike_28 : decode cX2_isLike 28 = .ok (.if_icmp .eq 5, 3) := by decide +kernel
theorem dX2_isLike_31 : decode cX2_isLike 31 = .ok (.iconst 0, 1) := by decide +kernel
theorem dX2_isLike_32 : decode cX2_isLike 32 = .ok (.ireturn, 1) := by decide +kernel
theorem dX2_isLike_33 : decode cX2_isLike 33 = .ok (.iload_n 1, 1) := by decide +kernel
theorem dX2_isLike_34 : decode cX2_isLike 34 = .ok (.bipush 8, 2) := by decide +kernel
theorem dX2_isLike_36 : decode cX2_isLike 36 = .ok (.imul, 1) := by decide +kernel
theorem dX2_isLike_37 : decode cX2_isLike 37 = .ok (.istore 4, 2) := by decide +kernel
theorem dX2_isLike_39 : decode cX2_isLike 39 = .ok (.iload_n 3, 1) := by decide +kernel
theorem dX2_isLike_40 : decode cX2_isLike 40 = .ok (.bipush 8, 2) := by decide +kernel
theorem dX2_isLike_42 : decode cX2_isLike 42 = .ok (.imul, 1) := by decide +kernel
theorem dX2_isLike_43 : decode cX2_isLike 43 = .ok (.istore 5, 2) := by decide +kernel
theorem dX2_isLike_45 : decode cX2_isLike 45 = .ok (.iconst 0, 1) := by decide +kernel
theorem dX2_isLike_46 : decode cX2_isLike 46 = .ok (.istore 6, 2) := by decide +kernel
theorem dX2_isLike_48 : decode cX2_isLike 48 = .ok (.iload 6, 2) := by decide +kernel
theorem dX2_isLike_50 : decode cX2_isLike 50 = .ok (.aload_n 0, 1) := by decide +kernel
theorem dX2_isLike_51 : decode cX2_isLike 51 = .ok (.getfield 9, 3) := by decide +kernel
theorem dX2_isLike_54 : decode cX2_isLike 54 = .ok (.iload_n 1, 1) := by decide +kernel
theorem dX2_isLike_55 : decode cX2_isLike 55 = .ok (.iaload, 1) := by decide +kernel
theorem dX2_isLike_56 : decode cX2_isLike 56 = .ok (.if_icmp .ge 34, 3) := by decide +kernel
theorem dX2_isLike_59 : decode cX2_isLike 59 = .ok (.aload_n 0, 1) := by decide +kernel
theorem dX2_isLike_60 : decode cX2_isLike 60 = .ok (.getfield 15, 3) := by decide +kernel
theorem dX2_isLike_63 : decode cX2_isLike 63 = .ok (.iload 4, 2) := by decide +kernel
theorem dX2_isLike_65 : decode cX2_isLike 65 = .ok (.iload 6, 2) := by decide +kernel
theorem dX2_isLike_67 : decode cX2_isLike 67 = .ok (.iadd, 1) := by decide +kernel
theorem dX2_isLike_68 : decode cX2_isLike 68 = .ok (.iaload, 1) := by decide +kernel
theorem dX2_isLike_69 : decode cX2_isLike 69 = .ok (.aload_n 2, 1) := by decide +kernel
theorem dX2_isLike_70 : decode cX2_isLike 70 = .ok (.getfield 15, 3) := by decide +kernel
theorem dX2_isLike_73 : decode cX2_isLike 73 = .ok (.iload 5, 2) := by decide +kernel
theorem dX2_isLike_75 : decode cX2_isLike 75 = .ok (.iload 6, 2) := by decide +kernel
theorem dX2_isLike_77 : decode cX2_isLike 77 = .ok (.iadd, 1) := by decide +kernel
theorem dX2_isLike_78 : decode cX2_isLike 78 = .ok (.iaload, 1) := by decide +kernel
theorem dX2_isLike_79 : decode cX2_isLike 79 = .ok (.if_icmp .eq 5, 3) := by decide +kernel
theorem dX2_isLike_82 : decode cX2_isLike 82 = .ok (.iconst 0, 1) := by decide +kernel
theorem dX2_isLike_83 : decode cX2_isLike 83 = .ok (.ireturn, 1) := by decide +kernel
theorem dX2_isLike_84 : decode cX2_isLike 84 = .ok (.iinc 6 1, 3) := by decide +kernel
theorem dX2_isLike_87 : decode cX2_isLike 87 = .ok (.goto (-39), 3) := by decide +kernel
theorem dX2_isLike_90 : decode cX2_isLike 90 = .ok (.iconst 1, 1) := by decide +kernel
theorem dX2_isLike_91 : decode cX2_isLike 91 = .ok (.ireturn, 1) := by decide +kernel
theorem dX2_copyAll_0 : decode cX2_copyAll 0 = .ok (.aload_n 0, 1) := by decide +kernel
theorem dX2_copyAll_1 : decode cX2_copyAll 1 = .ok (.aload_n 1, 1) := by decide +kernel
theorem dX2_copyAll_2 : decode cX2_copyAll 2 = .ok (.getfield 18, 3) := by decide +kernel
theorem dX2_copyAll_5 : decode cX2_copyAll 5 = .ok (.putfield 18, 3) := by decide +kernel
theorem dX2_copyAll_8 : decode cX2_copyAll 8 = .ok (.iconst 0, 1) := by decide +kernel
theorem dX2_copyAll_9 : decode cX2_copyAll 9 = .ok (.istore_n 2, 1) := by decide +kernel
theorem dX2_copyAll_10 : decode cX2_copyAll 10 = .ok (.iload_n 2, 1) := by decide +kernel
theorem dX2_copyAll_11 : decode cX2_copyAll 11 = .ok (.aload_n 0, 1) := by decide +kernel
theorem dX2_copyAll_12 : decode cX2_copyAll 12 = .ok (.getfield 18, 3) := by decide +kernel
theorem dX2_copyAll_15 : decode cX2_copyAll 15 = .ok (.if_icmp .ge 16, 3) := by decide +kernel
theorem dX2_copyAll_18 : decode cX2_copyAll 18 = .ok (.aload_n 0, 1) := by decide +kernel
theorem dX2_copyAll_19 : decode cX2_copyAll 19 = .ok (.iload_n 2, 1) := by decide +kernel
theorem dX2_copyAll_20 : decode cX2_copyAll 20 = .ok (.aload_n 1, 1) := by decide +kernel
theorem dX2_copyAll_21 : decode cX2_copyAll 21 = .ok (.iload_n 2, 1) := by decide +kernel
theorem dX2_copyAll_22 : decode cX2_copyAll 22 = .ok (.invokevirtual 37, 3) := by decide +kernel
theorem dX2_copyAll_25 : decode cX2_copyAll 25 = .ok (.iinc 2 1, 3) := by decide +kernel
theorem dX2_copyAll_28 : decode cX2_copyAll 28 = .ok (.goto (-18), 3) := by decide +kernel
theorem dX2_copyAll_31 : decode cX2_copyAll 31 = .ok (.return_, 1) := by decide +kernel
theorem dX2_setLine_0 : decode cX2_setLine 0 = .ok (.aload_n 0, 1) := by decide +kernel
theorem dX2_setLine_1 : decode cX2_setLine 1 = .ok (.iload_n 1, 1) := by decide +kernel
theorem dX2_setLine_2 : decode cX2_setLine 2 = .ok (.invokevirtual 22, 3) := by decide +kernel
theorem dX2_setLine_5 : decode cX2_setLine 5 = .ok (.ifCond .eq 11, 3) := by decide +kernel
theorem dX2_setLine_8 : decode cX2_setLine 8 = .ok (.aload_n 2, 1) := by decide +kernel
theorem dX2_setLine_9 : decode cX2_setLine 9 = .ok (.iload_n 3, 1) := by decide +kernel
theorem dX2_setLine_10 : decode cX2_setLine 10 = .ok (.invokevirtual 22, 3) := by decide +kernel
theorem dX2_setLine_13 : decode cX2_setLine 13 = .ok (.ifCond .ne 4, 3) := by decide +kernel
theorem dX2_setLine_16 : decode cX2_setLine 16 = .ok (.return_, 1) := by decide +kernel
theorem dX2_setLine_17 : decode cX2_setLine 17 = .ok (.aload_n 0, 1) := by decide +kernel
theorem dX2_setLine_18 : decode cX2_setLine 18 = .ok (.getfield 9, 3) := by decide +kernel
theorem dX2_setLine_21 : decode cX2_setLine 21 = .ok (.iload_n 1, 1) := by decide +kernel
theorem dX2_setLine_22 : decode cX2_setLine 22 = .ok (.aload_n 2, 1) := by decide +kernel
theorem dX2_setLine_23 : decode cX2_setLine 23 = .ok (.getfield 9, 3) := by decide +kernel
theorem dX2_setLine_26 : decode cX2_setLine 26 = .ok (.iload_n 3, 1) := by decide +kernel
theorem dX2_setLine_27 : decode cX2_setLine 27 = .ok (.iaload, 1) := by decide +kernel
theorem dX2_setLine_28 : decode cX2_setLine 28 = .ok (.iastore, 1) := by decide +kernel
theorem dX2_setLine_29 : decode cX2_setLine 29 = .ok (.aload_n 2, 1) := by decide +kernel
theorem dX2_setLine_30 : decode cX2_setLine 30 = .ok (.getfield 15, 3) := by decide +kernel
theorem dX2_setLine_33 : decode cX2_setLine 33 = .ok (.iload_n 3, 1) := by decide +kernel
theorem dX2_setLine_34 : decode cX2_setLine 34 = .ok (.bipush 8, 2) := by decide +kernel
theorem dX2_setLine_36 : decode cX2_setLine 36 = .ok (.imul, 1) := by decide +kernel
theorem dX2_setLine_37 : decode cX2_setLine 37 = .ok (.aload_n 0, 1) := by decide +kernel
theorem dX2_setLine_38 : decode cX2_setLine 38 = .ok (.getfield 15, 3) := by decide +kernel
theorem dX2_setLine_41 : decode cX2_setLine 41 = .ok (.iload_n 1, 1) := by decide +kernel
theorem dX2_setLine_42 : decode cX2_setLine 42 = .ok (.bipush 8, 2) := by decide +kernel
theorem dX2_setLine_44 : decode cX2_setLine 44 = .ok (.imul, 1) := by decide +kernel
theorem dX2_setLine_45 : decode cX2_setLine 45 = .ok (.aload_n 0, 1) := by decide +kernel
theorem dX2_setLine_46 : decode cX2_setLine 46 = .ok (.getfield 9, 3) := by decide +kernel
theorem dX2_setLine_49 : decode cX2_setLine 49 = .ok (.iload_n 1, 1) := by decide +kernel
theorem dX2_setLine_50 : decode cX2_setLine 50 = .ok (.iaload, 1) := by decide +kernel
theorem dX2_setLine_51 : decode cX2_setLine 51 = .ok (.invokestatic 41, 3) := by decide +kernel
theorem dX2_setLine_54 : decode cX2_setLine 54 = .ok (.return_, 1) := by decide +kernel
theorem dX2_insertLine_0 : decode cX2_insertLine 0 = .ok (.aload_n 0, 1) := by decide +kernel
theorem dX2_insertLine_1 : decode cX2_insertLine 1 = .ok (.getfield 18, 3) := by decide +kernel
theorem dX2_insertLine_4 : decode cX2_insertLine 4 = .ok (.bipush 14, 2) := by decide +kernel
theorem dX2_insertLine_6 : decode cX2_insertLine 6 = .ok (.if_icmp .lt 4, 3) := by decide +kernel
theorem dX2_insertLine_9 : decode cX2_insertLine 9 = .ok (.return_, 1) := by decide +kernel
theorem dX2_insertLine_10 : decode cX2_insertLine 10 = .ok (.aload_n 0, 1) := by decide +kernel
theorem dX2_insertLine_11 : decode cX2_insertLine 11 = .ok (.dup, 1) := by decide +kernel
theorem dX2_insertLine_12 : decode cX2_insertLine 12 = .ok (.getfield 18, 3) := by decide +kernel
theorem dX2_insertLine_15 : decode cX2_insertLine 15 = .ok (.iconst 1, 1) := by decide +kernel
theorem dX2_insertLine_16 : decode cX2_insertLine 16 = .ok (.iadd, 1) := by decide +kernel
theorem dX2_insertLine_17 : decode cX2_insertLine 17 = .ok (.putfield 18, 3) := by decide +kernel
theorem dX2_insertLine_20 : decode cX2_insertLine 20 = .ok (.aload_n 0, 1) := by decide +kernel
theorem dX2_insertLine_21 : decode cX2_insertLine 21 = .ok (.getfield 18, 3) := by decide +kernel
theorem dX2_insertLine_24 : decode cX2_insertLine 24 = .ok (.iconst 1, 1) := by decide +kernel
theorem dX2_insertLine_25 : decode cX2_insertLine 25 = .ok (.isub, 1) := by decide +kernel
theorem dX2_insertLine_26 : decode cX2_insertLine 26 = .ok (.istore 4, 2) := by decide +kernel
theorem dX2_insertLine_28 : decode cX2_insertLine 28 = .ok (.iload 4, 2) := by decide +kernel
theorem dX2_insertLine_30 : decode cX2_insertLine 30 = .ok (.iload_n 1, 1) := by decide +kernel
theorem dX2_insertLine_31 : decode cX2_insertLine 31 = .ok (.if_icmp .le 20, 3) := by decide +kernel
theorem dX2_insertLine_34 : decode cX2_insertLine 34 = .ok (.aload_n 0, 1) := by decide +kernel
theorem dX2_insertLine_35 : decode cX2_insertLine 35 = .ok (.iload 4, 2) := by decide +kernel
theorem dX2_insertLine_37 : decode cX2_insertLine 37 = .ok (.aload_n 0, 1) := by decide +kernel
theorem dX2_insertLine_38 : decode cX2_insertLine 38 = .ok (.iload 4, 2) := by decide +kernel
theorem dX2_insertLine_40 : decode cX2_insertLine 40 = .ok (.iconst 1, 1) := by decide +kernel
theorem dX2_insertLine_41 : decode cX2_insertLine 41 = .ok (.isub, 1) := by decide +kernel
theorem dX2_insertLine_42 : decode cX2_insertLine 42 = .ok (.invokevirtual 37, 3) := by decide +kernel
theorem dX2_insertLine_45 : decode cX2_insertLine 45 = .ok (.iinc 4 (-1), 3) := by decide +kernel
theorem dX2_insertLine_48 : decode cX2_insertLine 48 = .ok (.goto (-20), 3) := by decide +kernel
theorem dX2_insertLine_51 : decode cX2_insertLine 51 = .ok (.aload_n 0, 1) := by decide +kernel
theorem dX2_insertLine_52 : decode cX2_insertLine 52 = .ok (.iload_n 1, 1) := by decide +kernel
theorem dX2_insertLine_53 : decode cX2_insertLine 53 = .ok (.aload_n 2, 1) := by decide +kernel
theorem dX2_insertLine_54 : decode cX2_insertLine 54 = .ok (.iload_n 3, 1) := by decide +kernel
theorem dX2_insertLine_55 : decode cX2_insertLine 55 = .ok (.invokevirtual 37, 3) := by decide +kernel
theorem dX2_insertLine_58 : decode cX2_insertLine 58 = .ok (.return_, 1) := by decide +kernel
theorem dX2_removeLine_0 : decode cX2_removeLine 0 = .ok (.aload_n 0, 1) := by decide +kernel
theorem dX2_removeLine_1 : decode cX2_removeLine 1 = .ok (.iload_n 1, 1) := by decide +kernel
theorem dX2_removeLine_2 : decode cX2_removeLine 2 = .ok (.invokevirtual 22, 3) := by decide +kernel
theorem dX2_removeLine_5 : decode cX2_removeLine 5 = .ok (.ifCond .ne 4, 3) := by decide +kernel
theorem dX2_removeLine_8 : decode cX2_removeLine 8 = .ok (.return_, 1) := by decide +kernel
theorem dX2_removeLine_9 : decode cX2_removeLine 9 = .ok (.iload_n 1, 1) := by decide +kernel
theorem dX2_removeLine_10 : decode cX2_removeLine 10 = .ok (.iconst 1, 1) := by decide +kernel
theorem dX2_removeLine_11 : decode cX2_removeLine 11 = .ok (.iadd, 1) := by decide +kernel
theorem dX2_removeLine_12 : decode cX2_removeLine 12 = .ok (.istore_n 2, 1) := by decide +kernel
theorem dX2_removeLine_13 : decode cX2_removeLine 13 = .ok (.iload_n 2, 1) := by decide +kernel
theorem dX2_removeLine_14 : decode cX2_removeLine 14 = .ok (.aload_n 0, 1) := by decide +kernel
theorem dX2_removeLine_15 : decode cX2_removeLine 15 = .ok (.getfield 18, 3) := by decide +kernel
theorem dX2_removeLine_18 : decode cX2_removeLine 18 = .ok (.if_icmp .ge 18, 3) := by decide +kernel
theorem dX2_removeLine_21 : decode cX2_removeLine 21 = .ok (.aload_n 0, 1) := by decide +kernel
theorem dX2_removeLine_22 : decode cX2_removeLine 22 = .ok (.iload_n 2, 1) := by decide +kernel
theorem dX2_removeLine_23 : decode cX2_removeLine 23 = .ok (.iconst 1, 1) := by decide +kernel
theorem dX2_removeLine_24 : decode cX2_removeLine 24 = .ok (.isub, 1) := by decide +kernel
theorem dX2_removeLine_25 : decode cX2_removeLine 25 = .ok (.aload_n 0, 1) := by decide +kernel
theorem dX2_removeLine_26 : decode cX2_removeLine 26 = .ok (.iload_n 2, 1) := by decide +kernel
theorem dX2_removeLine_27 : decode cX2_removeLine 27 = .ok (.invokevirtual 37, 3) := by decide +kernel
theorem dX2_removeLine_30 : decode cX2_removeLine 30 = .ok (.iinc 2 1, 3) := by decide +kernel
theorem dX2_removeLine_33 : decode cX2_removeLine 33 = .ok (.goto (-20), 3) := by decide +kernel
theorem dX2_removeLine_36 : decode cX2_removeLine 36 = .ok (.aload_n 0, 1) := by decide +kernel
theorem dX2_removeLine_37 : decode cX2_removeLine 37 = .ok (.dup, 1) := by decide +kernel
theorem dX2_removeLine_38 : decode cX2_removeLine 38 = .ok (.getfield 18, 3) := by decide +kernel
theorem dX2_removeLine_41 : decode cX2_removeLine 41 = .ok (.iconst 1, 1) := by decide +kernel
theorem dX2_removeLine_42 : decode cX2_removeLine 42 = .ok (.isub, 1) := by decide +kernel
theorem dX2_removeLine_43 : decode cX2_removeLine 43 = .ok (.putfield 18, 3) := by decide +kernel
theorem dX2_removeLine_46 : decode cX2_removeLine 46 = .ok (.return_, 1) := by decide +kernel
theorem dX2_arrangeFrom_0 : decode cX2_arrangeFrom 0 = .ok (.iconst 0, 1) := by decide +kernel
theorem dX2_arrangeFrom_1 : decode cX2_arrangeFrom 1 = .ok (.istore 5, 2) := by decide +kernel
theorem dX2_arrangeFrom_3 : decode cX2_arrangeFrom 3 = .ok (.iload 5, 2) := by decide +kernel
theorem dX2_arrangeFrom_5 : decode cX2_arrangeFrom 5 = .ok (.aload_n 0, 1) := by decide +kernel
theorem dX2_arrangeFrom_6 : decode cX2_arrangeFrom 6 = .ok (.getfield 18, 3) := by decide +kernel
theorem dX2_arrangeFrom_9 : decode cX2_arrangeFrom 9 = .ok (.if_icmp .ge 25, 3) := by decide +kernel
theorem dX2_arrangeFrom_12 : decode cX2_arrangeFrom 12 = .ok (.aload_n 0, 1) := by decide +kernel
theorem dX2_arrangeFrom_13 : decode cX2_arrangeFrom 13 = .ok (.iload 5, 2) := by decide +kernel
theorem dX2_arrangeFrom_15 : decode cX2_arrangeFrom 15 = .ok (.aload_n 1, 1) := by decide +kernel
theorem dX2_arrangeFrom_16 : decode cX2_arrangeFrom 16 = .ok (.iload 5, 2) := by decide +kernel
theorem dX2_arrangeFrom_18 : decode cX2_arrangeFrom 18 = .ok (.iload_n 2, 1) := by decide +kernel
theorem dX2_arrangeFrom_19 : decode cX2_arrangeFrom 19 = .ok (.iload_n 3, 1) := by decide +kernel
theorem dX2_arrangeFrom_20 : decode cX2_arrangeFrom 20 = .ok (.iload 4, 2) := by decide +kernel
theorem dX2_arrangeFrom_22 : decode cX2_arrangeFrom 22 = .ok (.invokestatic 47, 3) := by decide +kernel
theorem dX2_arrangeFrom_25 : decode cX2_arrangeFrom 25 = .ok (.invokevirtual 37, 3) := by decide +kernel
theorem dX2_arrangeFrom_28 : decode cX2_arrangeFrom 28 = .ok (.iinc 5 1, 3) := by decide +kernel
theorem dX2_arrangeFrom_31 : decode cX2_arrangeFrom 31 = .ok (.goto (-28), 3) := by decide +kernel
theorem dX2_arrangeFrom_34 : decode cX2_arrangeFrom 34 = .ok (.return_, 1) := by decide +kernel
theorem dX2_sourceOf_0 : decode cX2_sourceOf 0 = .ok (.iload_n 0, 1) := by decide +kernel
theorem dX2_sourceOf_1 : decode cX2_sourceOf 1 = .ok (.iload_n 3, 1) := by decide +kernel
theorem dX2_sourceOf_2 : decode cX2_sourceOf 2 = .ok (.if_icmp .lt 16, 3) := by decide +kernel
theorem dX2_sourceOf_5 : decode cX2_sourceOf 5 = .ok (.iload_n 0, 1) := by decide +kernel
theorem dX2_sourceOf_6 : decode cX2_sourceOf 6 = .ok (.iload_n 3, 1) := by decide +kernel
theorem dX2_sourceOf_7 : decode cX2_sourceOf 7 = .ok (.iload_n 2, 1) := by decide +kernel
theorem dX2_sourceOf_8 : decode cX2_sourceOf 8 = .ok (.iadd, 1) := by decide +kernel
theorem dX2_sourceOf_9 : decode cX2_sourceOf 9 = .ok (.if_icmp .ge 9, 3) := by decide +kernel
theorem dX2_sourceOf_12 : decode cX2_sourceOf 12 = .ok (.iload_n 1, 1) := by decide +kernel
theorem dX2_sourceOf_13 : decode cX2_sourceOf 13 = .ok (.iload_n 0, 1) := by decide +kernel
theorem dX2_sourceOf_14 : decode cX2_sourceOf 14 = .ok (.iadd, 1) := by decide +kernel
theorem dX2_sourceOf_15 : decode cX2_sourceOf 15 = .ok (.iload_n 3, 1) := by decide +kernel
theorem dX2_sourceOf_16 : decode cX2_sourceOf 16 = .ok (.isub, 1) := by decide +kernel
theorem dX2_sourceOf_17 : decode cX2_sourceOf 17 = .ok (.ireturn, 1) := by decide +kernel
theorem dX2_sourceOf_18 : decode cX2_sourceOf 18 = .ok (.iload_n 0, 1) := by decide +kernel
theorem dX2_sourceOf_19 : decode cX2_sourceOf 19 = .ok (.iload_n 3, 1) := by decide +kernel
theorem dX2_sourceOf_20 : decode cX2_sourceOf 20 = .ok (.if_icmp .ge 7, 3) := by decide +kernel
theorem dX2_sourceOf_23 : decode cX2_sourceOf 23 = .ok (.iload_n 0, 1) := by decide +kernel
theorem dX2_sourceOf_24 : decode cX2_sourceOf 24 = .ok (.goto 6, 3) := by decide +kernel
theorem dX2_sourceOf_27 : decode cX2_sourceOf 27 = .ok (.iload_n 0, 1) := by decide +kernel
theorem dX2_sourceOf_28 : decode cX2_sourceOf 28 = .ok (.iload_n 2, 1) := by decide +kernel
theorem dX2_sourceOf_29 : decode cX2_sourceOf 29 = .ok (.isub, 1) := by decide +kernel
theorem dX2_sourceOf_30 : decode cX2_sourceOf 30 = .ok (.istore 4, 2) := by decide +kernel
theorem dX2_sourceOf_32 : decode cX2_sourceOf 32 = .ok (.iload 4, 2) := by decide +kernel
theorem dX2_sourceOf_34 : decode cX2_sourceOf 34 = .ok (.iload_n 1, 1) := by decide +kernel
theorem dX2_sourceOf_35 : decode cX2_sourceOf 35 = .ok (.if_icmp .ge 8, 3) := by decide +kernel
theorem dX2_sourceOf_38 : decode cX2_sourceOf 38 = .ok (.iload 4, 2) := by decide +kernel
theorem dX2_sourceOf_40 : decode cX2_sourceOf 40 = .ok (.goto 7, 3) := by decide +kernel
theorem dX2_sourceOf_43 : decode cX2_sourceOf 43 = .ok (.iload 4, 2) := by decide +kernel
theorem dX2_sourceOf_45 : decode cX2_sourceOf 45 = .ok (.iload_n 2, 1) := by decide +kernel
theorem dX2_sourceOf_46 : decode cX2_sourceOf 46 = .ok (.iadd, 1) := by decide +kernel
theorem dX2_sourceOf_47 : decode cX2_sourceOf 47 = .ok (.ireturn, 1) := by decide +kernel
theorem dX3_init_0 : decode cX3_init 0 = .ok (.aload_n 0, 1) := by decide +kernel
theorem dX3_init_1 : decode cX3_init 1 = .ok (.invokespecial 3, 3) := by decide +kernel
theorem dX3_init_4 : decode cX3_init 4 = .ok (.aload_n 0, 1) := by decide +kernel
theorem dX3_init_5 : decode cX3_init 5 = .ok (.bipush 14, 2) := by decide +kernel
theorem dX3_init_7 : decode cX3_init 7 = .ok (.newarray .int, 2) := by decide +kernel
theorem dX3_init_9 : decode cX3_init 9 = .ok (.putfield 9, 3) := by decide +kernel
theorem dX3_init_12 : decode cX3_init 12 = .ok (.aload_n 0, 1) := by decide +kernel
theorem dX3_init_13 : decode cX3_init 13 = .ok (.bipush 14, 2) := by decide +kernel
theorem dX3_init_15 : decode cX3_init 15 = .ok (.newarray .int, 2) := by decide +kernel
theorem dX3_init_17 : decode cX3_init 17 = .ok (.putfield 15, 3) := by decide +kernel
theorem dX3_init_20 : decode cX3_init 20 = .ok (.aload_n 0, 1) := by decide +kernel
theorem dX3_init_21 : decode cX3_init 21 = .ok (.bipush 14, 2) := by decide +kernel
theorem dX3_init_23 : decode cX3_init 23 = .ok (.newarray .int, 2) := by decide +kernel
theorem dX3_init_25 : decode cX3_init 25 = .ok (.putfield 18, 3) := by decide +kernel
theorem dX3_init_28 : decode cX3_init 28 = .ok (.aload_n 0, 1) := by decide +kernel
theorem dX3_init_29 : decode cX3_init 29 = .ok (.bipush 14, 2) := by decide +kernel
theorem dX3_init_31 : decode cX3_init 31 = .ok (.newarray .int, 2) := by decide +kernel
theorem dX3_init_33 : decode cX3_init 33 = .ok (.putfield 21, 3) := by decide +kernel
theorem dX3_init_36 : decode cX3_init 36 = .ok (.aload_n 0, 1) := by decide +kernel
theorem dX3_init_37 : decode cX3_init 37 = .ok (.iconst 0, 1) := by decide +kernel
theorem dX3_init_38 : decode cX3_init 38 = .ok (.putfield 24, 3) := by decide +kernel
theorem dX3_init_41 : decode cX3_init 41 = .ok (.aload_n 0, 1) := by decide +kernel
theorem dX3_init_42 : decode cX3_init 42 = .ok (.bipush 14, 2) := by decide +kernel
theorem dX3_init_44 : decode cX3_init 44 = .ok (.newarray .int, 2) := by decide +kernel
theorem dX3_init_46 : decode cX3_init 46 = .ok (.putfield 28, 3) := by decide +kernel
theorem dX3_init_49 : decode cX3_init 49 = .ok (.aload_n 0, 1) := by decide +kernel
theorem dX3_init_50 : decode cX3_init 50 = .ok (.bipush 14, 2) := by decide +kernel
theorem dX3_init_52 : decode cX3_init 52 = .ok (.newarray .int, 2) := by decide +kernel
theorem dX3_init_54 : decode cX3_init 54 = .ok (.putfield 31, 3) := by decide +kernel
theorem dX3_init_57 : decode cX3_init 57 = .ok (.aload_n 0, 1) := by decide +kernel
theorem dX3_init_58 : decode cX3_init 58 = .ok (.bipush 14, 2) := by decide +kernel
theorem dX3_init_60 : decode cX3_init 60 = .ok (.newarray .int, 2) := by decide +kernel
theorem dX3_init_62 : decode cX3_init 62 = .ok (.putfield 34, 3) := by decide +kernel
theorem dX3_init_65 : decode cX3_init 65 = .ok (.aload_n 0, 1) := by decide +kernel
theorem dX3_init_66 : decode cX3_init 66 = .ok (.iconst 0, 1) := by decide +kernel
theorem dX3_init_67 : decode cX3_init 67 = .ok (.putfield 37, 3) := by decide +kernel
theorem dX3_init_70 : decode cX3_init 70 = .ok (.return_, 1) := by decide +kernel
theorem dX3_keep_0 : decode cX3_keep 0 = .ok (.aload_n 0, 1) := by decide +kernel
theorem dX3_keep_1 : decode cX3_keep 1 = .ok (.iconst 0, 1) := by decide +kernel
theorem dX3_keep_2 : decode cX3_keep 2 = .ok (.putfield 24, 3) := by decide +kernel
theorem dX3_keep_5 : decode cX3_keep 5 = .ok (.aload_n 0, 1) := by decide +kernel
theorem dX3_keep_6 : decode cX3_keep 6 = .ok (.iconst 0, 1) := by decide +kernel
theorem dX3_keep_7 : decode cX3_keep 7 = .ok (.aload_n 1, 1) := by decide +kernel
theorem dX3_keep_8 : decode cX3_keep 8 = .ok (.getfield 40, 3) := by decide +kernel
theorem dX3_keep_11 : decode cX3_keep 11 = .ok (.iconst 0, 1) := by decide +kernel
theorem dX3_keep_12 : decode cX3_keep 12 = .ok (.aload_n 1, 1) := by decide +kernel
theorem dX3_keep_13 : decode cX3_keep 13 = .ok (.getfield 45, 3) := by decide +kernel
theorem dX3_keep_16 : decode cX3_keep 16 = .ok (.invokevirtual 48, 3) := by decide +kernel
theorem dX3_keep_19 : decode cX3_keep 19 = .ok (.iconst 0, 1) := by decide +kernel
theorem dX3_keep_20 : decode cX3_keep 20 = .ok (.istore_n 3, 1) := by decide +kernel
theorem dX3_keep_21 : decode cX3_keep 21 = .ok (.iload_n 3, 1) := by decide +kernel
theorem dX3_keep_22 : decode cX3_keep 22 = .ok (.aload_n 0, 1) := by decide +kernel
theorem dX3_keep_23 : decode cX3_keep 23 = .ok (.getfield 24, 3) := by decide +kernel
theorem dX3_keep_26 : decode cX3_keep 26 = .ok (.if_icmp .ge 65, 3) := by decide +kernel
theorem dX3_keep_29 : decode cX3_keep 29 = .ok (.iload_n 3, 1) := by decide +kernel
theorem dX3_keep_30 : decode cX3_keep 30 = .ok (.bipush 14, 2) := by decide +kernel
theorem dX3_keep_32 : decode cX3_keep 32 = .ok (.if_icmp .ge 59, 3) := by decide +kernel
theorem dX3_keep_35 : decode cX3_keep 35 = .ok (.aload_n 0, 1) := by decide +kernel
theorem dX3_keep_36 : decode cX3_keep 36 = .ok (.iload_n 3, 1) := by decide +kernel
theorem dX3_keep_37 : decode cX3_keep 37 = .ok (.aload_n 1, 1) := by decide +kernel
theorem dX3_keep_38 : decode cX3_keep 38 = .ok (.aload_n 2, 1) := by decide +kernel
theorem dX3_keep_39 : decode cX3_keep 39 = .ok (.invokevirtual 52, 3) := by decide +kernel
theorem dX3_keep_42 : decode cX3_keep 42 = .ok (.aload_n 0, 1) := by decide +kernel
theorem dX3_keep_43 : decode cX3_keep 43 = .ok (.iload_n 3, 1) := by decide +kernel
theorem dX3_keep_44 : decode cX3_keep 44 = .ok (.aload_n 1, 1) := by decide +kernel
theorem dX3_keep_45 : decode cX3_keep 45 = .ok (.invokevirtual 56, 3) := by decide +kernel
theorem dX3_keep_48 : decode cX3_keep 48 = .ok (.aload_n 0, 1) := by decide +kernel
theorem dX3_keep_49 : decode cX3_keep 49 = .ok (.invokevirtual 60, 3) := by decide +kernel
end
section
theorem dX3_keep_52 : decode cX3_keep 52 = .ok (.istore 4, 2) := by decide +kernel
theorem dX3_keep_54 : decode cX3_keep 54 = .ok (.iload_n 3, 1) := by decide +kernel
theorem dX3_keep_55 : decode cX3_keep 55 = .ok (.ifCond .ne 17, 3) := by decide +kernel
theorem dX3_keep_58 : decode cX3_keep 58 = .ok (.aload_n 2, 1) := by decide +kernel
theorem dX3_keep_59 : decode cX3_keep 59 = .ok (.aload_n 0, 1) := by decide +kernel
theorem dX3_keep_60 : decode cX3_keep 60 = .ok (.getfield 37, 3) := by decide +kernel
theorem dX3_keep_63 : decode cX3_keep 63 = .ok (.putfield 64, 3) := by decide +kernel
theorem dX3_keep_66 : decode cX3_keep 66 = .ok (.aload_n 2, 1) := by decide +kernel
theorem dX3_keep_67 : decode cX3_keep 67 = .ok (.iload 4, 2) := by decide +kernel
theorem dX3_keep_69 : decode cX3_keep 69 = .ok (.putfield 69, 3) := by decide +kernel
theorem dX3_keep_72 : decode cX3_keep 72 = .ok (.iload 4, 2) := by decide +kernel
theorem dX3_keep_74 : decode cX3_keep 74 = .ok (.ifCond .le 11, 3) := by decide +kernel
theorem dX3_keep_77 : decode cX3_keep 77 = .ok (.aload_n 0, 1) := by decide +kernel
theorem dX3_keep_78 : decode cX3_keep 78 = .ok (.iload_n 3, 1) := by decide +kernel
theorem dX3_keep_79 : decode cX3_keep 79 = .ok (.iload 4, 2) := by decide +kernel
theorem dX3_keep_81 : decode cX3_keep 81 = .ok (.aload_n 2, 1) := by decide +kernel
theorem dX3_keep_82 : decode cX3_keep 82 = .ok (.invokevirtual 72, 3) := by decide +kernel
theorem dX3_keep_85 : decode cX3_keep 85 = .ok (.iinc 3 1, 3) := by decide +kernel
theorem dX3_keep_88 : decode cX3_keep 88 = .ok (.goto (-67), 3) := by decide +kernel
theorem dX3_keep_91 : decode cX3_keep 91 = .ok (.return_, 1) := by decide +kernel
theorem dX3_addRange_0 : decode cX3_addRange 0 = .ok (.iload_n 1, 1) := by decide +kernel
theorem dX3_addRange_1 : decode cX3_addRange 1 = .ok (.iload_n 2, 1) := by decide +kernel
theorem dX3_addRange_2 : decode cX3_addRange 2 = .ok (.if_icmp .ge 18, 3) := by decide +kernel
theorem dX3_addRange_5 : decode cX3_addRange 5 = .ok (.iload_n 3, 1) := by decide +kernel
theorem dX3_addRange_6 : decode cX3_addRange 6 = .ok (.iload 4, 2) := by decide +kernel
theorem dX3_addRange_8 : decode cX3_addRange 8 = .ok (.if_icmp .ge 12, 3) := by decide +kernel
theorem dX3_addRange_11 : decode cX3_addRange 11 = .ok (.aload_n 0, 1) := by decide +kernel
theorem dX3_addRange_12 : decode cX3_addRange 12 = .ok (.getfield 24, 3) := by decide +kernel
theorem dX3_addRange_15 : decode cX3_addRange 15 = .ok (.bipush 14, 2) := by decide +kernel
theorem dX3_addRange_17 : decode cX3_addRange 17 = .ok (.if_icmp .lt 4, 3) := by decide +kernel
theorem dX3_addRange_20 : decode cX3_addRange 20 = .ok (.return_, 1) := by decide +kernel
theorem dX3_addRange_21 : decode cX3_addRange 21 = .ok (.aload_n 0, 1) := by decide +kernel
theorem dX3_addRange_22 : decode cX3_addRange 22 = .ok (.getfield 9, 3) := by decide +kernel
theorem dX3_addRange_25 : decode cX3_addRange 25 = .ok (.aload_n 0, 1) := by decide +kernel
theorem dX3_addRange_26 : decode cX3_addRange 26 = .ok (.getfield 24, 3) := by decide +kernel
theorem dX3_addRange_29 : decode cX3_addRange 29 = .ok (.iload_n 1, 1) := by decide +kernel
theorem dX3_addRange_30 : decode cX3_addRange 30 = .ok (.iastore, 1) := by decide +kernel
theorem dX3_addRange_31 : decode cX3_addRange 31 = .ok (.aload_n 0, 1) := by decide +kernel
theorem dX3_addRange_32 : decode cX3_addRange 32 = .ok (.getfield 15, 3) := by decide +kernel
theorem dX3_addRange_35 : decode cX3_addRange 35 = .ok (.aload_n 0, 1) := by decide +kernel
theorem dX3_addRange_36 : decode cX3_addRange 36 = .ok (.getfield 24, 3) := by decide +kernel
theorem dX3_addRange_39 : decode cX3_addRange 39 = .ok (.iload_n 2, 1) := by decide +kernel
theorem dX3_addRange_40 : decode cX3_addRange 40 = .ok (.iastore, 1) := by decide +kernel
theorem dX3_addRange_41 : decode cX3_addRange 41 = .ok (.aload_n 0, 1) := by decide +kernel
theorem dX3_addRange_42 : decode cX3_addRange 42 = .ok (.getfield 18, 3) := by decide +kernel
theorem dX3_addRange_45 : decode cX3_addRange 45 = .ok (.aload_n 0, 1) := by decide +kernel
theorem dX3_addRange_46 : decode cX3_addRange 46 = .ok (.getfield 24, 3) := by decide +kernel
theorem dX3_addRange_49 : decode cX3_addRange 49 = .ok (.iload_n 3, 1) := by decide +kernel
theorem dX3_addRange_50 : decode cX3_addRange 50 = .ok (.iastore, 1) := by decide +kernel
theorem dX3_addRange_51 : decode cX3_addRange 51 = .ok (.aload_n 0, 1) := by decide +kernel
theorem dX3_addRange_52 : decode cX3_addRange 52 = .ok (.getfield 21, 3) := by decide +kernel
theorem dX3_addRange_55 : decode cX3_addRange 55 = .ok (.aload_n 0, 1) := by decide +kernel
theorem dX3_addRange_56 : decode cX3_addRange 56 = .ok (.getfield 24, 3) := by decide +kernel
theorem dX3_addRange_59 : decode cX3_addRange 59 = .ok (.iload 4, 2) := by decide +kernel
theorem dX3_addRange_61 : decode cX3_addRange 61 = .ok (.iastore, 1) := by decide +kernel
theorem dX3_addRange_62 : decode cX3_addRange 62 = .ok (.aload_n 0, 1) := by decide +kernel
theorem dX3_addRange_63 : decode cX3_addRange 63 = .ok (.dup, 1) := by decide +kernel
theorem dX3_addRange_64 : decode cX3_addRange 64 = .ok (.getfield 24, 3) := by decide +kernel
theorem dX3_addRange_67 : decode cX3_addRange 67 = .ok (.iconst 1, 1) := by decide +kernel
theorem dX3_addRange_68 : decode cX3_addRange 68 = .ok (.iadd, 1) := by decide +kernel
theorem dX3_addRange_69 : decode cX3_addRange 69 = .ok (.putfield 24, 3) := by decide +kernel
theorem dX3_addRange_72 : decode cX3_addRange 72 = .ok (.return_, 1) := by decide +kernel
theorem dX3_keepEnds_0 : decode cX3_keepEnds 0 = .ok (.aload_n 0, 1) := by decide +kernel
theorem dX3_keepEnds_1 : decode cX3_keepEnds 1 = .ok (.getfield 9, 3) := by decide +kernel
theorem dX3_keepEnds_4 : decode cX3_keepEnds 4 = .ok (.iload_n 1, 1) := by decide +kernel
theorem dX3_keepEnds_5 : decode cX3_keepEnds 5 = .ok (.iaload, 1) := by decide +kernel
theorem dX3_keepEnds_6 : decode cX3_keepEnds 6 = .ok (.aload_n 0, 1) := by decide +kernel
theorem dX3_keepEnds_7 : decode cX3_keepEnds 7 = .ok (.getfield 15, 3) := by decide +kernel
theorem dX3_keepEnds_10 : decode cX3_keepEnds 10 = .ok (.iload_n 1, 1) := by decide +kernel
theorem dX3_keepEnds_11 : decode cX3_keepEnds 11 = .ok (.iaload, 1) := by decide +kernel
theorem dX3_keepEnds_12 : decode cX3_keepEnds 12 = .ok (.if_icmp .ge 78, 3) := by decide +kernel
theorem dX3_keepEnds_15 : decode cX3_keepEnds 15 = .ok (.aload_n 0, 1) := by decide +kernel
theorem dX3_keepEnds_16 : decode cX3_keepEnds 16 = .ok (.getfield 18, 3) := by decide +kernel
theorem dX3_keepEnds_19 : decode cX3_keepEnds 19 = .ok (.iload_n 1, 1) := by decide +kernel
theorem dX3_keepEnds_20 : decode cX3_keepEnds 20 = .ok (.iaload, 1) := by decide +kernel
theorem dX3_keepEnds_21 : decode cX3_keepEnds 21 = .ok (.aload_n 0, 1) := by decide +kernel
theorem dX3_keepEnds_22 : decode cX3_keepEnds 22 = .ok (.getfield 21, 3) := by decide +kernel
theorem dX3_keepEnds_25 : decode cX3_keepEnds 25 = .ok (.iload_n 1, 1) := by decide +kernel
theorem dX3_keepEnds_26 : decode cX3_keepEnds 26 = .ok (.iaload, 1) := by decide +kernel
theorem dX3_keepEnds_27 : decode cX3_keepEnds 27 = .ok (.if_icmp .ge 63, 3) := by decide +kernel
theorem dX3_keepEnds_30 : decode cX3_keepEnds 30 = .ok (.aload_n 2, 1) := by decide +kernel
theorem dX3_keepEnds_31 : decode cX3_keepEnds 31 = .ok (.aload_n 0, 1) := by decide +kernel
theorem dX3_keepEnds_32 : decode cX3_keepEnds 32 = .ok (.getfield 9, 3) := by decide +kernel
theorem dX3_keepEnds_35 : decode cX3_keepEnds 35 = .ok (.iload_n 1, 1) := by decide +kernel
theorem dX3_keepEnds_36 : decode cX3_keepEnds 36 = .ok (.iaload, 1) := by decide +kernel
theorem dX3_keepEnds_37 : decode cX3_keepEnds 37 = .ok (.aload_n 0, 1) := by decide +kernel
theorem dX3_keepEnds_38 : decode cX3_keepEnds 38 = .ok (.getfield 18, 3) := by decide +kernel
theorem dX3_keepEnds_41 : decode cX3_keepEnds 41 = .ok (.iload_n 1, 1) := by decide +kernel
theorem dX3_keepEnds_42 : decode cX3_keepEnds 42 = .ok (.iaload, 1) := by decide +kernel
theorem dX3_keepEnds_43 : decode cX3_keepEnds 43 = .ok (.invokevirtual 76, 3) := by decide +kernel
theorem dX3_keepEnds_46 : decode cX3_keepEnds 46 = .ok (.ifCond .eq 44, 3) := by decide +kernel
theorem dX3_keepEnds_49 : decode cX3_keepEnds 49 = .ok (.aload_n 3, 1) := by decide +kernel
theorem dX3_keepEnds_50 : decode cX3_keepEnds 50 = .ok (.iconst 0, 1) := by decide +kernel
theorem dX3_keepEnds_51 : decode cX3_keepEnds 51 = .ok (.aload_n 0, 1) := by decide +kernel
theorem dX3_keepEnds_52 : decode cX3_keepEnds 52 = .ok (.getfield 9, 3) := by decide +kernel
theorem dX3_keepEnds_55 : decode cX3_keepEnds 55 = .ok (.iload_n 1, 1) := by decide +kernel
theorem dX3_keepEnds_56 : decode cX3_keepEnds 56 = .ok (.iaload, 1) := by decide +kernel
theorem dX3_keepEnds_57 : decode cX3_keepEnds 57 = .ok (.aload_n 0, 1) := by decide +kernel
theorem dX3_keepEnds_58 : decode cX3_keepEnds 58 = .ok (.getfield 18, 3) := by decide +kernel
theorem dX3_keepEnds_61 : decode cX3_keepEnds 61 = .ok (.iload_n 1, 1) := by decide +kernel
theorem dX3_keepEnds_62 : decode cX3_keepEnds 62 = .ok (.iaload, 1) := by decide +kernel
theorem dX3_keepEnds_63 : decode cX3_keepEnds 63 = .ok (.iconst (-1), 1) := by decide +kernel
theorem dX3_keepEnds_64 : decode cX3_keepEnds 64 = .ok (.invokevirtual 80, 3) := by decide +kernel
theorem dX3_keepEnds_67 : decode cX3_keepEnds 67 = .ok (.aload_n 0, 1) := by decide +kernel
theorem dX3_keepEnds_68 : decode cX3_keepEnds 68 = .ok (.getfield 9, 3) := by decide +kernel
theorem dX3_keepEnds_71 : decode cX3_keepEnds 71 = .ok (.iload_n 1, 1) := by decide +kernel
theorem dX3_keepEnds_72 : decode cX3_keepEnds 72 = .ok (.dup2, 1) := by decide +kernel
theorem dX3_keepEnds_73 : decode cX3_keepEnds 73 = .ok (.iaload, 1) := by decide +kernel
theorem dX3_keepEnds_74 : decode cX3_keepEnds 74 = .ok (.iconst 1, 1) := by decide +kernel
theorem dX3_keepEnds_75 : decode cX3_keepEnds 75 = .ok (.iadd, 1) := by decide +kernel
theorem dX3_keepEnds_76 : decode cX3_keepEnds 76 = .ok (.iastore, 1) := by decide +kernel
theorem dX3_keepEnds_77 : decode cX3_keepEnds 77 = .ok (.aload_n 0, 1) := by decide +kernel
theorem dX3_keepEnds_78 : decode cX3_keepEnds 78 = .ok (.getfield 18, 3) := by decide +kernel
theorem dX3_keepEnds_81 : decode cX3_keepEnds 81 = .ok (.iload_n 1, 1) := by decide +kernel
theorem dX3_keepEnds_82 : decode cX3_keepEnds 82 = .ok (.dup2, 1) := by decide +kernel
theorem dX3_keepEnds_83 : decode cX3_keepEnds 83 = .ok (.iaload, 1) := by decide +kernel
theorem dX3_keepEnds_84 : decode cX3_keepEnds 84 = .ok (.iconst 1, 1) := by decide +kernel
theorem dX3_keepEnds_85 : decode cX3_keepEnds 85 = .ok (.iadd, 1) := by decide +kernel
theorem dX3_keepEnds_86 : decode cX3_keepEnds 86 = .ok (.iastore, 1) := by decide +kernel
theorem dX3_keepEnds_87 : decode cX3_keepEnds 87 = .ok (.goto (-87), 3) := by decide +kernel
theorem dX3_keepEnds_90 : decode cX3_keepEnds 90 = .ok (.aload_n 0, 1) := by decide +kernel
theorem dX3_keepEnds_91 : decode cX3_keepEnds 91 = .ok (.getfield 9, 3) := by decide +kernel
theorem dX3_keepEnds_94 : decode cX3_keepEnds 94 = .ok (.iload_n 1, 1) := by decide +kernel
theorem dX3_keepEnds_95 : decode cX3_keepEnds 95 = .ok (.iaload, 1) := by decide +kernel
theorem dX3_keepEnds_96 : decode cX3_keepEnds 96 = .ok (.aload_n 0, 1) := by decide +kernel
theorem dX3_keepEnds_97 : decode cX3_keepEnds 97 = .ok (.getfield 15, 3) := by decide +kernel
theorem dX3_keepEnds_100 : decode cX3_keepEnds 100 = .ok (.iload_n 1, 1) := by decide +kernel
theorem dX3_keepEnds_101 : decode cX3_keepEnds 101 = .ok (.iaload, 1) := by decide +kernel
theorem dX3_keepEnds_102 : decode cX3_keepEnds 102 = .ok (.if_icmp .ge 82, 3) := by decide +kernel
theorem dX3_keepEnds_105 : decode cX3_keepEnds 105 = .ok (.aload_n 0, 1) := by decide +kernel
theorem dX3_keepEnds_106 : decode cX3_keepEnds 106 = .ok (.getfield 18, 3) := by decide +kernel
theorem dX3_keepEnds_109 : decode cX3_keepEnds 109 = .ok (.iload_n 1, 1) := by decide +kernel
theorem dX3_keepEnds_110 : decode cX3_keepEnds 110 = .ok (.iaload, 1) := by decide +kernel
theorem dX3_keepEnds_111 : decode cX3_keepEnds 111 = .ok (.aload_n 0, 1) := by decide +kernel
theorem dX3_keepEnds_112 : decode cX3_keepEnds 112 = .ok (.getfield 21, 3) := by decide +kernel
theorem dX3_keepEnds_115 : decode cX3_keepEnds 115 = .ok (.iload_n 1, 1) := by decide +kernel
theorem dX3_keepEnds_116 : decode cX3_keepEnds 116 = .ok (.iaload, 1) := by decide +kernel
theorem dX3_keepEnds_117 : decode cX3_keepEnds 117 = .ok (.if_icmp .ge 67, 3) := by decide +kernel
theorem dX3_keepEnds_120 : decode cX3_keepEnds 120 = .ok (.aload_n 2, 1) := by decide +kernel
theorem dX3_keepEnds_121 : decode cX3_keepEnds 121 = .ok (.aload_n 0, 1) := by decide +kernel
theorem dX3_keepEnds_122 : decode cX3_keepEnds 122 = .ok (.getfield 15, 3) := by decide +kernel
theorem dX3_keepEnds_125 : decode cX3_keepEnds 125 = .ok (.iload_n 1, 1) := by decide +kernel
theorem dX3_keepEnds_126 : decode cX3_keepEnds 126 = .ok (.iaload, 1) := by decide +kernel
theorem dX3_keepEnds_127 : decode cX3_keepEnds 127 = .ok (.iconst 1, 1) := by decide +kernel
theorem dX3_keepEnds_128 : decode cX3_keepEnds 128 = .ok (.isub, 1) := by decide +kernel
theorem dX3_keepEnds_129 : decode cX3_keepEnds 129 = .ok (.aload_n 0, 1) := by decide +kernel
theorem dX3_keepEnds_130 : decode cX3_keepEnds 130 = .ok (.getfield 21, 3) := by decide +kernel
theorem dX3_keepEnds_133 : decode cX3_keepEnds 133 = .ok (.iload_n 1, 1) := by decide +kernel
theorem dX3_keepEnds_134 : decode cX3_keepEnds 134 = .ok (.iaload, 1) := by decide +kernel
theorem dX3_keepEnds_135 : decode cX3_keepEnds 135 = .ok (.iconst 1, 1) := by decide +kernel
theorem dX3_keepEnds_136 : decode cX3_keepEnds 136 = .ok (.isub, 1) := by decide +kernel
theorem dX3_keepEnds_137 : decode cX3_keepEnds 137 = .ok (.invokevirtual 76, 3) := by decide +kernel
theorem dX3_keepEnds_140 : decode cX3_keepEnds 140 = .ok (.ifCond .eq 44, 3) := by decide +kernel
theorem dX3_keepEnds_143 : decode cX3_keepEnds 143 = .ok (.aload_n 0, 1) := by decide +kernel
theorem dX3_keepEnds_144 : decode cX3_keepEnds 144 = .ok (.getfield 15, 3) := by decide +kernel
theorem dX3_keepEnds_147 : decode cX3_keepEnds 147 = .ok (.iload_n 1, 1) := by decide +kernel
theorem dX3_keepEnds_148 : decode cX3_keepEnds 148 = .ok (.dup2, 1) := by decide +kernel
theorem dX3_keepEnds_149 : decode cX3_keepEnds 149 = .ok (.iaload, 1) := by decide +kernel
theorem dX3_keepEnds_150 : decode cX3_keepEnds 150 = .ok (.iconst 1, 1) := by decide +kernel
theorem dX3_keepEnds_151 : decode cX3_keepEnds 151 = .ok (.isub, 1) := by decide +kernel
theorem dX3_keepEnds_152 : decode cX3_keepEnds 152 = .ok (.iastore, 1) := by decide +kernel
theorem dX3_keepEnds_153 : decode cX3_keepEnds 153 = .ok (.aload_n 0, 1) := by decide +kernel
theorem dX3_keepEnds_154 : decode cX3_keepEnds 154 = .ok (.getfield 21, 3) := by decide +kernel
theorem dX3_keepEnds_157 : decode cX3_keepEnds 157 = .ok (.iload_n 1, 1) := by decide +kernel
theorem dX3_keepEnds_158 : decode cX3_keepEnds 158 = .ok (.dup2, 1) := by decide +kernel
theorem dX3_keepEnds_159 : decode cX3_keepEnds 159 = .ok (.iaload, 1) := by decide +kernel
theorem dX3_keepEnds_160 : decode cX3_keepEnds 160 = .ok (.iconst 1, 1) := by decide +kernel
theorem dX3_keepEnds_161 : decode cX3_keepEnds 161 = .ok (.isub, 1) := by decide +kernel
theorem dX3_keepEnds_162 : decode cX3_keepEnds 162 = .ok (.iastore, 1) := by decide +kernel
theorem dX3_keepEnds_163 : decode cX3_keepEnds 163 = .ok (.aload_n 3, 1) := by decide +kernel
theorem dX3_keepEnds_164 : decode cX3_keepEnds 164 = .ok (.iconst 0, 1) := by decide +kernel
theorem dX3_keepEnds_165 : decode cX3_keepEnds 165 = .ok (.aload_n 0, 1) := by decide +kernel
theorem dX3_keepEnds_166 : decode cX3_keepEnds 166 = .ok (.getfield 15, 3) := by decide +kernel
theorem dX3_keepEnds_169 : decode cX3_keepEnds 169 = .ok (.iload_n 1, 1) := by decide +kernel
theorem dX3_keepEnds_170 : decode cX3_keepEnds 170 = .ok (.iaload, 1) := by decide +kernel
theorem dX3_keepEnds_171 : decode cX3_keepEnds 171 = .ok (.aload_n 0, 1) := by decide +kernel
theorem dX3_keepEnds_172 : decode cX3_keepEnds 172 = .ok (.getfield 21, 3) := by decide +kernel
theorem dX3_keepEnds_175 : decode cX3_keepEnds 175 = .ok (.iload_n 1, 1) := by decide +kernel
theorem dX3_keepEnds_176 : decode cX3_keepEnds 176 = .ok (.iaload, 1) := by decide +kernel
theorem dX3_keepEnds_177 : decode cX3_keepEnds 177 = .ok (.iconst (-1), 1) := by decide +kernel
theorem dX3_keepEnds_178 : decode cX3_keepEnds 178 = .ok (.invokevirtual 80, 3) := by decide +kernel
theorem dX3_keepEnds_181 : decode cX3_keepEnds 181 = .ok (.goto (-91), 3) := by decide +kernel
theorem dX3_keepEnds_184 : decode cX3_keepEnds 184 = .ok (.return_, 1) := by decide +kernel
theorem dX3_findAnchors_0 : decode cX3_findAnchors 0 = .ok (.aload_n 0, 1) := by decide +kernel
theorem dX3_findAnchors_1 : decode cX3_findAnchors 1 = .ok (.iconst 0, 1) := by decide +kernel
theorem dX3_findAnchors_2 : decode cX3_findAnchors 2 = .ok (.putfield 37, 3) := by decide +kernel
theorem dX3_findAnchors_5 : decode cX3_findAnchors 5 = .ok (.aload_n 0, 1) := by decide +kernel
theorem dX3_findAnchors_6 : decode cX3_findAnchors 6 = .ok (.getfield 9, 3) := by decide +kernel
theorem dX3_findAnchors_9 : decode cX3_findAnchors 9 = .ok (.iload_n 1, 1) := by decide +kernel
theorem dX3_findAnchors_10 : decode cX3_findAnchors 10 = .ok (.iaload, 1) := by decide +kernel
theorem dX3_findAnchors_11 : decode cX3_findAnchors 11 = .ok (.istore_n 3, 1) := by decide +kernel
theorem dX3_findAnchors_12 : decode cX3_findAnchors 12 = .ok (.iload_n 3, 1) := by decide +kernel
theorem dX3_findAnchors_13 : decode cX3_findAnchors 13 = .ok (.aload_n 0, 1) := by decide +kernel
theorem dX3_findAnchors_14 : decode cX3_findAnchors 14 = .ok (.getfield 15, 3) := by decide +kernel
theorem dX3_findAnchors_17 : decode cX3_findAnchors 17 = .ok (.iload_n 1, 1) := by decide +kernel
theorem dX3_findAnchors_18 : decode cX3_findAnchors 18 = .ok (.iaload, 1) := by decide +kernel
theorem dX3_findAnchors_19 : decode cX3_findAnchors 19 = .ok (.if_icmp .ge 102, 3) := by decide +kernel
theorem dX3_findAnchors_22 : decode cX3_findAnchors 22 = .ok (.aload_n 2, 1) := by decide +kernel
theorem dX3_findAnchors_23 : decode cX3_findAnchors 23 = .ok (.getfield 83, 3) := by decide +kernel
theorem dX3_findAnchors_26 : decode cX3_findAnchors 26 = .ok (.iload_n 3, 1) := by decide +kernel
theorem dX3_findAnchors_27 : decode cX3_findAnchors 27 = .ok (.iaload, 1) := by decide +kernel
theorem dX3_findAnchors_28 : decode cX3_findAnchors 28 = .ok (.istore 4, 2) := by decide +kernel
theorem dX3_findAnchors_30 : decode cX3_findAnchors 30 = .ok (.iload 4, 2) := by decide +kernel
theorem dX3_findAnchors_32 : decode cX3_findAnchors 32 = .ok (.aload_n 2, 1) := by decide +kernel
theorem dX3_findAnchors_33 : decode cX3_findAnchors 33 = .ok (.getfield 86, 3) := by decide +kernel
theorem dX3_findAnchors_36 : decode cX3_findAnchors 36 = .ok (.aload_n 0, 1) := by decide +kernel
theorem dX3_findAnchors_37 : decode cX3_findAnchors 37 = .ok (.getfield 18, 3) := by decide +kernel
theorem dX3_findAnchors_40 : decode cX3_findAnchors 40 = .ok (.iload_n 1, 1) := by decide +kernel
theorem dX3_findAnchors_41 : decode cX3_findAnchors 41 = .ok (.iaload, 1) := by decide +kernel
theorem dX3_findAnchors_42 : decode cX3_findAnchors 42 = .ok (.aload_n 0, 1) := by decide +kernel
theorem dX3_findAnchors_43 : decode cX3_findAnchors 43 = .ok (.getfield 21, 3) := by decide +kernel
theorem dX3_findAnchors_46 : decode cX3_findAnchors 46 = .ok (.iload_n 1, 1) := by decide +kernel
theorem dX3_findAnchors_47 : decode cX3_findAnchors 47 = .ok (.iaload, 1) := by decide +kernel
theorem dX3_findAnchors_48 : decode cX3_findAnchors 48 = .ok (.invokestatic 89, 3) := by decide +kernel
theorem dX3_findAnchors_51 : decode cX3_findAnchors 51 = .ok (.istore 5, 2) := by decide +kernel
theorem dX3_findAnchors_53 : decode cX3_findAnchors 53 = .ok (.iload 5, 2) := by decide +kernel
theorem dX3_findAnchors_55 : decode cX3_findAnchors 55 = .ok (.iconst (-1), 1) := by decide +kernel
theorem dX3_findAnchors_56 : decode cX3_findAnchors 56 = .ok (.if_icmp .eq 59, 3) := by decide +kernel
theorem dX3_findAnchors_59 : decode cX3_findAnchors 59 = .ok (.iload 4, 2) := by decide +kernel
theorem dX3_findAnchors_61 : decode cX3_findAnchors 61 = .ok (.aload_n 2, 1) := by decide +kernel
theorem dX3_findAnchors_62 : decode cX3_findAnchors 62 = .ok (.getfield 83, 3) := by decide +kernel
theorem dX3_findAnchors_65 : decode cX3_findAnchors 65 = .ok (.aload_n 0, 1) := by decide +kernel
theorem dX3_findAnchors_66 : decode cX3_findAnchors 66 = .ok (.getfield 9, 3) := by decide +kernel
theorem dX3_findAnchors_69 : decode cX3_findAnchors 69 = .ok (.iload_n 1, 1) := by decide +kernel
theorem dX3_findAnchors_70 : decode cX3_findAnchors 70 = .ok (.iaload, 1) := by decide +kernel
theorem dX3_findAnchors_71 : decode cX3_findAnchors 71 = .ok (.aload_n 0, 1) := by decide +kernel
theorem dX3_findAnchors_72 : decode cX3_findAnchors 72 = .ok (.getfield 15, 3) := by decide +kernel
theorem dX3_findAnchors_75 : decode cX3_findAnchors 75 = .ok (.iload_n 1, 1) := by decide +kernel
theorem dX3_findAnchors_76 : decode cX3_findAnchors 76 = .ok (.iaload, 1) := by decide +kernel
theorem dX3_findAnchors_77 : decode cX3_findAnchors 77 = .ok (.invokestatic 89, 3) := by decide +kernel
theorem dX3_findAnchors_80 : decode cX3_findAnchors 80 = .ok (.iconst (-1), 1) := by decide +kernel
theorem dX3_findAnchors_81 : decode cX3_findAnchors 81 = .ok (.if_icmp .eq 34, 3) := by decide +kernel
theorem dX3_findAnchors_84 : decode cX3_findAnchors 84 = .ok (.aload_n 0, 1) := by decide +kernel
theorem dX3_findAnchors_85 : decode cX3_findAnchors 85 = .ok (.getfield 28, 3) := by decide +kernel
theorem dX3_findAnchors_88 : decode cX3_findAnchors 88 = .ok (.aload_n 0, 1) := by decide +kernel
theorem dX3_findAnchors_89 : decode cX3_findAnchors 89 = .ok (.getfield 37, 3) := by decide +kernel
theorem dX3_findAnchors_92 : decode cX3_findAnchors 92 = .ok (.iload_n 3, 1) := by decide +kernel
theorem dX3_findAnchors_93 : decode cX3_findAnchors 93 = .ok (.iastore, 1) := by decide +kernel
theorem dX3_findAnchors_94 : decode cX3_findAnchors 94 = .ok (.aload_n 0, 1) := by decide +kernel
theorem dX3_findAnchors_95 : decode cX3_findAnchors 95 = .ok (.getfield 31, 3) := by decide +kernel
theorem dX3_findAnchors_98 : decode cX3_findAnchors 98 = .ok (.aload_n 0, 1) := by decide +kernel
theorem dX3_findAnchors_99 : decode cX3_findAnchors 99 = .ok (.getfield 37, 3) := by decide +kernel
theorem dX3_findAnchors_102 : decode cX3_findAnchors 102 = .ok (.iload 5, 2) := by decide +kernel
theorem dX3_findAnchors_104 : decode cX3_findAnchors 104 = .ok (.iastore, 1) := by decide +kernel
theorem dX3_findAnchors_105 : decode cX3_findAnchors 105 = .ok (.aload_n 0, 1) := by decide +kernel
theorem dX3_findAnchors_106 : decode cX3_findAnchors 106 = .ok (.dup, 1) := by decide +kernel
theorem dX3_findAnchors_107 : decode cX3_findAnchors 107 = .ok (.getfield 37, 3) := by decide +kernel
theorem dX3_findAnchors_110 : decode cX3_findAnchors 110 = .ok (.iconst 1, 1) := by decide +kernel
theorem dX3_findAnchors_111 : decode cX3_findAnchors 111 = .ok (.iadd, 1) := by decide +kernel
theorem dX3_findAnchors_112 : decode cX3_findAnchors 112 = .ok (.putfield 37, 3) := by decide +kernel
theorem dX3_findAnchors_115 : decode cX3_findAnchors 115 = .ok (.iinc 3 1, 3) := by decide +kernel
theorem dX3_findAnchors_118 : decode cX3_findAnchors 118 = .ok (.goto (-106), 3) := by decide +kernel
theorem dX3_findAnchors_121 : decode cX3_findAnchors 121 = .ok (.return_, 1) := by decide +kernel
theorem dX3_onlyPlace_0 : decode cX3_onlyPlace 0 = .ok (.iconst (-1), 1) := by decide +kernel
theorem dX3_onlyPlace_1 : decode cX3_onlyPlace 1 = .ok (.istore 4, 2) := by decide +kernel
theorem dX3_onlyPlace_3 : decode cX3_onlyPlace 3 = .ok (.iload_n 2, 1) := by decide +kernel
theorem dX3_onlyPlace_4 : decode cX3_onlyPlace 4 = .ok (.istore 5, 2) := by decide +kernel
theorem dX3_onlyPlace_6 : decode cX3_onlyPlace 6 = .ok (.iload 5, 2) := by decide +kernel
theorem dX3_onlyPlace_8 : decode cX3_onlyPlace 8 = .ok (.iload_n 3, 1) := by decide +kernel
theorem dX3_onlyPlace_9 : decode cX3_onlyPlace 9 = .ok (.if_icmp .ge 29, 3) := by decide +kernel
theorem dX3_onlyPlace_12 : decode cX3_onlyPlace 12 = .ok (.aload_n 1, 1) := by decide +kernel
theorem dX3_onlyPlace_13 : decode cX3_onlyPlace 13 = .ok (.iload 5, 2) := by decide +kernel
theorem dX3_onlyPlace_15 : decode cX3_onlyPlace 15 = .ok (.iaload, 1) := by decide +kernel
theorem dX3_onlyPlace_16 : decode cX3_onlyPlace 16 = .ok (.iload_n 0, 1) := by decide +kernel
theorem dX3_onlyPlace_17 : decode cX3_onlyPlace 17 = .ok (.if_icmp .ne 15, 3) := by decide +kernel
theorem dX3_onlyPlace_20 : decode cX3_onlyPlace 20 = .ok (.iload 4, 2) := by decide +kernel
theorem dX3_onlyPlace_22 : decode cX3_onlyPlace 22 = .ok (.iconst (-1), 1) := by decide +kernel
theorem dX3_onlyPlace_23 : decode cX3_onlyPlace 23 = .ok (.if_icmp .eq 5, 3) := by decide +kernel
theorem dX3_onlyPlace_26 : decode cX3_onlyPlace 26 = .ok (.iconst (-1), 1) := by decide +kernel
theorem dX3_onlyPlace_27 : decode cX3_onlyPlace 27 = .ok (.ireturn, 1) := by decide +kernel
theorem dX3_onlyPlace_28 : decode cX3_onlyPlace 28 = .ok (.iload 5, 2) := by decide +kernel
theorem dX3_onlyPlace_30 : decode cX3_onlyPlace 30 = .ok (.istore 4, 2) := by decide +kernel
theorem dX3_onlyPlace_32 : decode cX3_onlyPlace 32 = .ok (.iinc 5 1, 3) := by decide +kernel
theorem dX3_onlyPlace_35 : decode cX3_onlyPlace 35 = .ok (.goto (-29), 3) := by decide +kernel
theorem dX3_onlyPlace_38 : decode cX3_onlyPlace 38 = .ok (.iload 4, 2) := by decide +kernel
theorem dX3_onlyPlace_40 : decode cX3_onlyPlace 40 = .ok (.ireturn, 1) := by decide +kernel
theorem dX3_measureRuns_0 : decode cX3_measureRuns 0 = .ok (.iconst 0, 1) := by decide +kernel
theorem dX3_measureRuns_1 : decode cX3_measureRuns 1 = .ok (.istore_n 1, 1) := by decide +kernel
theorem dX3_measureRuns_2 : decode cX3_measureRuns 2 = .ok (.aload_n 0, 1) := by decide +kernel
theorem dX3_measureRuns_3 : decode cX3_measureRuns 3 = .ok (.getfield 37, 3) := by decide +kernel
theorem dX3_measureRuns_6 : decode cX3_measureRuns 6 = .ok (.iconst 1, 1) := by decide +kernel
theorem dX3_measureRuns_7 : decode cX3_measureRuns 7 = .ok (.isub, 1) := by decide +kernel
theorem dX3_measureRuns_8 : decode cX3_measureRuns 8 = .ok (.istore_n 2, 1) := by decide +kernel
theorem dX3_measureRuns_9 : decode cX3_measureRuns 9 = .ok (.iload_n 2, 1) := by decide +kernel
theorem dX3_measureRuns_10 : decode cX3_measureRuns 10 = .ok (.ifCond .lt 83, 3) := by decide +kernel
theorem dX3_measureRuns_13 : decode cX3_measureRuns 13 = .ok (.aload_n 0, 1) := by decide +kernel
theorem dX3_measureRuns_14 : decode cX3_measureRuns 14 = .ok (.getfield 34, 3) := by decide +kernel
theorem dX3_measureRuns_17 : decode cX3_measureRuns 17 = .ok (.iload_n 2, 1) := by decide +kernel
theorem dX3_measureRuns_18 : decode cX3_measureRuns 18 = .ok (.iconst 1, 1) := by decide +kernel
theorem dX3_measureRuns_19 : decode cX3_measureRuns 19 = .ok (.iastore, 1) := by decide +kernel
theorem dX3_measureRuns_20 : decode cX3_measureRuns 20 = .ok (.iload_n 2, 1) := by decide +kernel
theorem dX3_measureRuns_21 : decode cX3_measureRuns 21 = .ok (.iconst 1, 1) := by decide +kernel
theorem dX3_measureRuns_22 : decode cX3_measureRuns 22 = .ok (.iadd, 1) := by decide +kernel
theorem dX3_measureRuns_23 : decode cX3_measureRuns 23 = .ok (.istore_n 3, 1) := by decide +kernel
theorem dX3_measureRuns_24 : decode cX3_measureRuns 24 = .ok (.iload_n 3, 1) := by decide +kernel
theorem dX3_measureRuns_25 : decode cX3_measureRuns 25 = .ok (.aload_n 0, 1) := by decide +kernel
theorem dX3_measureRuns_26 : decode cX3_measureRuns 26 = .ok (.getfield 37, 3) := by decide +kernel
theorem dX3_measureRuns_29 : decode cX3_measureRuns 29 = .ok (.if_icmp .ge 47, 3) := by decide +kernel
theorem dX3_measureRuns_32 : decode cX3_measureRuns 32 = .ok (.aload_n 0, 1) := by decide +kernel
theorem dX3_measureRuns_33 : decode cX3_measureRuns 33 = .ok (.getfield 31, 3) := by decide +kernel
theorem dX3_measureRuns_36 : decode cX3_measureRuns 36 = .ok (.iload_n 3, 1) := by decide +kernel
theorem dX3_measureRuns_37 : decode cX3_measureRuns 37 = .ok (.iaload, 1) := by decide +kernel
theorem dX3_measureRuns_38 : decode cX3_measureRuns 38 = .ok (.aload_n 0, 1) := by decide +kernel
theorem dX3_measureRuns_39 : decode cX3_measureRuns 39 = .ok (.getfield 31, 3) := by decide +kernel
theorem dX3_measureRuns_42 : decode cX3_measureRuns 42 = .ok (.iload_n 2, 1) := by decide +kernel
theorem dX3_measureRuns_43 : decode cX3_measureRuns 43 = .ok (.iaload, 1) := by decide +kernel
theorem dX3_measureRuns_44 : decode cX3_measureRuns 44 = .ok (.if_icmp .le 26, 3) := by decide +kernel
theorem dX3_measureRuns_47 : decode cX3_measureRuns 47 = .ok (.aload_n 0, 1) := by decide +kernel
theorem dX3_measureRuns_48 : decode cX3_measureRuns 48 = .ok (.getfield 34, 3) := by decide +kernel
theorem dX3_measureRuns_51 : decode cX3_measureRuns 51 = .ok (.iload_n 2, 1) := by decide +kernel
theorem dX3_measureRuns_52 : decode cX3_measureRuns 52 = .ok (.aload_n 0, 1) := by decide +kernel
theorem dX3_measureRuns_53 : decode cX3_measureRuns 53 = .ok (.getfield 34, 3) := by decide +kernel
theorem dX3_measureRuns_56 : decode cX3_measureRuns 56 = .ok (.iload_n 2, 1) := by decide +kernel
theorem dX3_measureRuns_57 : decode cX3_measureRuns 57 = .ok (.iaload, 1) := by decide +kernel
theorem dX3_measureRuns_58 : decode cX3_measureRuns 58 = .ok (.aload_n 0, 1) := by decide +kernel
theorem dX3_measureRuns_59 : decode cX3_measureRuns 59 = .ok (.getfield 34, 3) := by decide +kernel
theorem dX3_measureRuns_62 : decode cX3_measureRuns 62 = .ok (.iload_n 3, 1) := by decide +kernel
theorem dX3_measureRuns_63 : decode cX3_measureRuns 63 = .ok (.iaload, 1) := by decide +kernel
theorem dX3_measureRuns_64 : decode cX3_measureRuns 64 = .ok (.iconst 1, 1) := by decide +kernel
theorem dX3_measureRuns_65 : decode cX3_measureRuns 65 = .ok (.iadd, 1) := by decide +kernel
theorem dX3_measureRuns_66 : decode cX3_measureRuns 66 = .ok (.invokestatic 93, 3) := by decide +kernel
theorem dX3_measureRuns_69 : decode cX3_measureRuns 69 = .ok (.iastore, 1) := by decide +kernel
theorem dX3_measureRuns_70 : decode cX3_measureRuns 70 = .ok (.iinc 3 1, 3) := by decide +kernel
theorem dX3_measureRuns_73 : decode cX3_measureRuns 73 = .ok (.goto (-49), 3) := by decide +kernel
theorem dX3_measureRuns_76 : decode cX3_measureRuns 76 = .ok (.iload_n 1, 1) := by decide +kernel
theorem dX3_measureRuns_77 : decode cX3_measureRuns 77 = .ok (.aload_n 0, 1) := by decide +kernel
theorem dX3_measureRuns_78 : decode cX3_measureRuns 78 = .ok (.getfield 34, 3) := by decide +kernel
theorem dX3_measureRuns_81 : decode cX3_measureRuns 81 = .ok (.iload_n 2, 1) := by decide +kernel
theorem dX3_measureRuns_82 : decode cX3_measureRuns 82 = .ok (.iaload, 1) := by decide +kernel
theorem dX3_measureRuns_83 : decode cX3_measureRuns 83 = .ok (.invokestatic 93, 3) := by decide +kernel
theorem dX3_measureRuns_86 : decode cX3_measureRuns 86 = .ok (.istore_n 1, 1) := by decide +kernel
theorem dX3_measureRuns_87 : decode cX3_measureRuns 87 = .ok (.iinc 2 (-1), 3) := by decide +kernel
theorem dX3_measureRuns_90 : decode cX3_measureRuns 90 = .ok (.goto (-81), 3) := by decide +kernel
theorem dX3_measureRuns_93 : decode cX3_measureRuns 93 = .ok (.iload_n 1, 1) := by decide +kernel
theorem dX3_measureRuns_94 : decode cX3_measureRuns 94 = .ok (.ireturn, 1) := by decide +kernel
theorem dX3_keepRun_0 : decode cX3_keepRun 0 = .ok (.iload_n 2, 1) := by decide +kernel
theorem dX3_keepRun_1 : decode cX3_keepRun 1 = .ok (.istore 4, 2) := by decide +kernel
theorem dX3_keepRun_3 : decode cX3_keepRun 3 = .ok (.aload_n 0, 1) := by decide +kernel
theorem dX3_keepRun_4 : decode cX3_keepRun 4 = .ok (.getfield 9, 3) := by decide +kernel
theorem dX3_keepRun_7 : decode cX3_keepRun 7 = .ok (.iload_n 1, 1) := by decide +kernel
theorem dX3_keepRun_8 : decode cX3_keepRun 8 = .ok (.iaload, 1) := by decide +kernel
theorem dX3_keepRun_9 : decode cX3_keepRun 9 = .ok (.istore 5, 2) := by decide +kernel
theorem dX3_keepRun_11 : decode cX3_keepRun 11 = .ok (.aload_n 0, 1) := by decide +kernel
theorem dX3_keepRun_12 : decode cX3_keepRun 12 = .ok (.getfield 18, 3) := by decide +kernel
theorem dX3_keepRun_15 : decode cX3_keepRun 15 = .ok (.iload_n 1, 1) := by decide +kernel
theorem dX3_keepRun_16 : decode cX3_keepRun 16 = .ok (.iaload, 1) := by decide +kernel
theorem dX3_keepRun_17 : decode cX3_keepRun 17 = .ok (.istore 6, 2) := by decide +kernel
theorem dX3_keepRun_19 : decode cX3_keepRun 19 = .ok (.iconst 0, 1) := by decide +kernel
theorem dX3_keepRun_20 : decode cX3_keepRun 20 = .ok (.istore 7, 2) := by decide +kernel
theorem dX3_keepRun_22 : decode cX3_keepRun 22 = .ok (.iload 7, 2) := by decide +kernel
theorem dX3_keepRun_24 : decode cX3_keepRun 24 = .ok (.aload_n 0, 1) := by decide +kernel
theorem dX3_keepRun_25 : decode cX3_keepRun 25 = .ok (.getfield 37, 3) := by decide +kernel
theorem dX3_keepRun_28 : decode cX3_keepRun 28 = .ok (.if_icmp .ge 100, 3) := by decide +kernel
theorem dX3_keepRun_31 : decode cX3_keepRun 31 = .ok (.aload_n 0, 1) := by decide +kernel
theorem dX3_keepRun_32 : decode cX3_keepRun 32 = .ok (.getfield 34, 3) := by decide +kernel
theorem dX3_keepRun_35 : decode cX3_keepRun 35 = .ok (.iload 7, 2) := by decide +kernel
theorem dX3_keepRun_37 : decode cX3_keepRun 37 = .ok (.iaload, 1) := by decide +kernel
theorem dX3_keepRun_38 : decode cX3_keepRun 38 = .ok (.iload 4, 2) := by decide +kernel
theorem dX3_keepRun_40 : decode cX3_keepRun 40 = .ok (.if_icmp .ne 82, 3) := by decide +kernel
theorem dX3_keepRun_43 : decode cX3_keepRun 43 = .ok (.aload_n 0, 1) := by decide +kernel
theorem dX3_keepRun_44 : decode cX3_keepRun 44 = .ok (.getfield 31, 3) := by decide +kernel
theorem dX3_keepRun_47 : decode cX3_keepRun 47 = .ok (.iload 7, 2) := by decide +kernel
theorem dX3_keepRun_49 : decode cX3_keepRun 49 = .ok (.iaload, 1) := by decide +kernel
theorem dX3_keepRun_50 : decode cX3_keepRun 50 = .ok (.iload 6, 2) := by decide +kernel
theorem dX3_keepRun_52 : decode cX3_keepRun 52 = .ok (.if_icmp .lt 70, 3) := by decide +kernel
theorem dX3_keepRun_55 : decode cX3_keepRun 55 = .ok (.aload_n 0, 1) := by decide +kernel
theorem dX3_keepRun_56 : decode cX3_keepRun 56 = .ok (.iload 5, 2) := by decide +kernel
theorem dX3_keepRun_58 : decode cX3_keepRun 58 = .ok (.aload_n 0, 1) := by decide +kernel
theorem dX3_keepRun_59 : decode cX3_keepRun 59 = .ok (.getfield 28, 3) := by decide +kernel
theorem dX3_keepRun_62 : decode cX3_keepRun 62 = .ok (.iload 7, 2) := by decide +kernel
theorem dX3_keepRun_64 : decode cX3_keepRun 64 = .ok (.iaload, 1) := by decide +kernel
theorem dX3_keepRun_65 : decode cX3_keepRun 65 = .ok (.iload 6, 2) := by decide +kernel
theorem dX3_keepRun_67 : decode cX3_keepRun 67 = .ok (.aload_n 0, 1) := by decide +kernel
theorem dX3_keepRun_68 : decode cX3_keepRun 68 = .ok (.getfield 31, 3) := by decide +kernel
theorem dX3_keepRun_71 : decode cX3_keepRun 71 = .ok (.iload 7, 2) := by decide +kernel
theorem dX3_keepRun_73 : decode cX3_keepRun 73 = .ok (.iaload, 1) := by decide +kernel
theorem dX3_keepRun_74 : decode cX3_keepRun 74 = .ok (.invokevirtual 48, 3) := by decide +kernel
theorem dX3_keepRun_77 : decode cX3_keepRun 77 = .ok (.aload_n 3, 1) := by decide +kernel
theorem dX3_keepRun_78 : decode cX3_keepRun 78 = .ok (.iconst 0, 1) := by decide +kernel
theorem dX3_keepRun_79 : decode cX3_keepRun 79 = .ok (.aload_n 0, 1) := by decide +kernel
theorem dX3_keepRun_80 : decode cX3_keepRun 80 = .ok (.getfield 28, 3) := by decide +kernel
theorem dX3_keepRun_83 : decode cX3_keepRun 83 = .ok (.iload 7, 2) := by decide +kernel
theorem dX3_keepRun_85 : decode cX3_keepRun 85 = .ok (.iaload, 1) := by decide +kernel
theorem dX3_keepRun_86 : decode cX3_keepRun 86 = .ok (.aload_n 0, 1) := by decide +kernel
theorem dX3_keepRun_87 : decode cX3_keepRun 87 = .ok (.getfield 31, 3) := by decide +kernel
theorem dX3_keepRun_90 : decode cX3_keepRun 90 = .ok (.iload 7, 2) := by decide +kernel
theorem dX3_keepRun_92 : decode cX3_keepRun 92 = .ok (.iaload, 1) := by decide +kernel
theorem dX3_keepRun_93 : decode cX3_keepRun 93 = .ok (.iconst (-1), 1) := by decide +kernel
theorem dX3_keepRun_94 : decode cX3_keepRun 94 = .ok (.invokevirtual 80, 3) := by decide +kernel
theorem dX3_keepRun_97 : decode cX3_keepRun 97 = .ok (.aload_n 0, 1) := by decide +kernel
theorem dX3_keepRun_98 : decode cX3_keepRun 98 = .ok (.getfield 28, 3) := by decide +kernel
theorem dX3_keepRun_101 : decode cX3_keepRun 101 = .ok (.iload 7, 2) := by decide +kernel
theorem dX3_keepRun_103 : decode cX3_keepRun 103 = .ok (.iaload, 1) := by decide +kernel
theorem dX3_keepRun_104 : decode cX3_keepRun 104 = .ok (.iconst 1, 1) := by decide +kernel
theorem dX3_keepRun_105 : decode cX3_keepRun 105 = .ok (.iadd, 1) := by decide +kernel
theorem dX3_keepRun_106 : decode cX3_keepRun 106 = .ok (.istore 5, 2) := by decide +kernel
theorem dX3_keepRun_108 : decode cX3_keepRun 108 = .ok (.aload_n 0, 1) := by decide +kernel
theorem dX3_keepRun_109 : decode cX3_keepRun 109 = .ok (.getfield 31, 3) := by decide +kernel
theorem dX3_keepRun_112 : decode cX3_keepRun 112 = .ok (.iload 7, 2) := by decide +kernel
theorem dX3_keepRun_114 : decode cX3_keepRun 114 = .ok (.iaload, 1) := by decide +kernel
theorem dX3_keepRun_115 : decode cX3_keepRun 115 = .ok (.iconst 1, 1) := by decide +kernel
theorem dX3_keepRun_116 : decode cX3_keepRun 116 = .ok (.iadd, 1) := by decide +kernel
theorem dX3_keepRun_117 : decode cX3_keepRun 117 = .ok (.istore 6, 2) := by decide +kernel
theorem dX3_keepRun_119 : decode cX3_keepRun 119 = .ok (.iinc 4 (-1), 3) := by decide +kernel
theorem dX3_keepRun_122 : decode cX3_keepRun 122 = .ok (.iinc 7 1, 3) := by decide +kernel
theorem dX3_keepRun_125 : decode cX3_keepRun 125 = .ok (.goto (-103), 3) := by decide +kernel
theorem dX3_keepRun_128 : decode cX3_keepRun 128 = .ok (.aload_n 0, 1) := by decide +kernel
theorem dX3_keepRun_129 : decode cX3_keepRun 129 = .ok (.iload 5, 2) := by decide +kernel
theorem dX3_keepRun_131 : decode cX3_keepRun 131 = .ok (.aload_n 0, 1) := by decide +kernel
theorem dX3_keepRun_132 : decode cX3_keepRun 132 = .ok (.getfield 15, 3) := by decide +kernel
theorem dX3_keepRun_135 : decode cX3_keepRun 135 = .ok (.iload_n 1, 1) := by decide +kernel
theorem dX3_keepRun_136 : decode cX3_keepRun 136 = .ok (.iaload, 1) := by decide +kernel
theorem dX3_keepRun_137 : decode cX3_keepRun 137 = .ok (.iload 6, 2) := by decide +kernel
theorem dX3_keepRun_139 : decode cX3_keepRun 139 = .ok (.aload_n 0, 1) := by decide +kernel
theorem dX3_keepRun_140 : decode cX3_keepRun 140 = .ok (.getfield 21, 3) := by decide +kernel
theorem dX3_keepRun_143 : decode cX3_keepRun 143 = .ok (.iload_n 1, 1) := by decide +kernel
theorem dX3_keepRun_144 : decode cX3_keepRun 144 = .ok (.iaload, 1) := by decide +kernel
theorem dX3_keepRun_145 : decode cX3_keepRun 145 = .ok (.invokevirtual 48, 3) := by decide +kernel
theorem dX3_keepRun_148 : decode cX3_keepRun 148 = .ok (.return_, 1) := by decide +kernel
theorem dX4_init_0 : decode cX4_init 0 = .ok (.aload_n 0, 1) := by decide +kernel
theorem dX4_init_1 : decode cX4_init 1 = .ok (.invokespecial 3, 3) := by decide +kernel
theorem dX4_init_4 : decode cX4_init 4 = .ok (.aload_n 0, 1) := by decide +kernel
theorem dX4_init_5 : decode cX4_init 5 = .ok (.bipush 14, 2) := by decide +kernel
theorem dX4_init_7 : decode cX4_init 7 = .ok (.newarray .int, 2) := by decide +kernel
theorem dX4_init_9 : decode cX4_init 9 = .ok (.putfield 9, 3) := by decide +kernel
theorem dX4_init_12 : decode cX4_init 12 = .ok (.aload_n 0, 1) := by decide +kernel
theorem dX4_init_13 : decode cX4_init 13 = .ok (.bipush 14, 2) := by decide +kernel
theorem dX4_init_15 : decode cX4_init 15 = .ok (.newarray .int, 2) := by decide +kernel
theorem dX4_init_17 : decode cX4_init 17 = .ok (.putfield 15, 3) := by decide +kernel
theorem dX4_init_20 : decode cX4_init 20 = .ok (.aload_n 0, 1) := by decide +kernel
theorem dX4_init_21 : decode cX4_init 21 = .ok (.iconst 0, 1) := by decide +kernel
theorem dX4_init_22 : decode cX4_init 22 = .ok (.putfield 18, 3) := by decide +kernel
theorem dX4_init_25 : decode cX4_init 25 = .ok (.aload_n 0, 1) := by decide +kernel
theorem dX4_init_26 : decode cX4_init 26 = .ok (.iconst 0, 1) := by decide +kernel
theorem dX4_init_27 : decode cX4_init 27 = .ok (.putfield 22, 3) := by decide +kernel
theorem dX4_init_30 : decode cX4_init 30 = .ok (.return_, 1) := by decide +kernel
theorem dX4_number_0 : decode cX4_number 0 = .ok (.aload_n 0, 1) := by decide +kernel
theorem dX4_number_1 : decode cX4_number 1 = .ok (.aload_n 1, 1) := by decide +kernel
theorem dX4_number_2 : decode cX4_number 2 = .ok (.getfield 25, 3) := by decide +kernel
theorem dX4_number_5 : decode cX4_number 5 = .ok (.putfield 18, 3) := by decide +kernel
theorem dX4_number_8 : decode cX4_number 8 = .ok (.aload_n 0, 1) := by decide +kernel
theorem dX4_number_9 : decode cX4_number 9 = .ok (.aload_n 2, 1) := by decide +kernel
theorem dX4_number_10 : decode cX4_number 10 = .ok (.getfield 25, 3) := by decide +kernel
theorem dX4_number_13 : decode cX4_number 13 = .ok (.putfield 22, 3) := by decide +kernel
theorem dX4_number_16 : decode cX4_number 16 = .ok (.iconst 0, 1) := by decide +kernel
theorem dX4_number_17 : decode cX4_number 17 = .ok (.istore_n 3, 1) := by decide +kernel
theorem dX4_number_18 : decode cX4_number 18 = .ok (.iload_n 3, 1) := by decide +kernel
theorem dX4_number_19 : decode cX4_number 19 = .ok (.aload_n 0, 1) := by decide +kernel
theorem dX4_number_20 : decode cX4_number 20 = .ok (.getfield 18, 3) := by decide +kernel
theorem dX4_number_23 : decode cX4_number 23 = .ok (.if_icmp .ge 22, 3) := by decide +kernel
theorem dX4_number_26 : decode cX4_number 26 = .ok (.aload_n 0, 1) := by decide +kernel
theorem dX4_number_27 : decode cX4_number 27 = .ok (.getfield 9, 3) := by decide +kernel
theorem dX4_number_30 : decode cX4_number 30 = .ok (.iload_n 3, 1) := by decide +kernel
theorem dX4_number_31 : decode cX4_number 31 = .ok (.aload_n 1, 1) := by decide +kernel
theorem dX4_number_32 : decode cX4_number 32 = .ok (.iload_n 3, 1) := by decide +kernel
theorem dX4_number_33 : decode cX4_number 33 = .ok (.aload_n 1, 1) := by decide +kernel
theorem dX4_number_34 : decode cX4_number 34 = .ok (.iload_n 3, 1) := by decide +kernel
theorem dX4_number_35 : decode cX4_number 35 = .ok (.invokestatic 30, 3) := by decide +kernel
theorem dX4_number_38 : decode cX4_number 38 = .ok (.iastore, 1) := by decide +kernel
theorem dX4_number_39 : decode cX4_number 39 = .ok (.iinc 3 1, 3) := by decide +kernel
theorem dX4_number_42 : decode cX4_number 42 = .ok (.goto (-24), 3) := by decide +kernel
theorem dX4_number_45 : decode cX4_number 45 = .ok (.iconst 0, 1) := by decide +kernel
theorem dX4_number_46 : decode cX4_number 46 = .ok (.istore_n 3, 1) := by decide +kernel
theorem dX4_number_47 : decode cX4_number 47 = .ok (.iload_n 3, 1) := by decide +kernel
theorem dX4_number_48 : decode cX4_number 48 = .ok (.aload_n 0, 1) := by decide +kernel
theorem dX4_number_49 : decode cX4_number 49 = .ok (.getfield 22, 3) := by decide +kernel
theorem dX4_number_52 : decode cX4_number 52 = .ok (.if_icmp .ge 25, 3) := by decide +kernel
theorem dX4_number_55 : decode cX4_number 55 = .ok (.aload_n 0, 1) := by decide +kernel
theorem dX4_number_56 : decode cX4_number 56 = .ok (.getfield 15, 3) := by decide +kernel
theorem dX4_number_59 : decode cX4_number 59 = .ok (.iload_n 3, 1) := by decide +kernel
theorem dX4_number_60 : decode cX4_number 60 = .ok (.aload_n 2, 1) := by decide +kernel
theorem dX4_number_61 : decode cX4_number 61 = .ok (.iload_n 3, 1) := by decide +kernel
theorem dX4_number_62 : decode cX4_number 62 = .ok (.aload_n 1, 1) := by decide +kernel
theorem dX4_number_63 : decode cX4_number 63 = .ok (.aload_n 0, 1) := by decide +kernel
theorem dX4_number_64 : decode cX4_number 64 = .ok (.getfield 18, 3) := by decide +kernel
theorem dX4_number_67 : decode cX4_number 67 = .ok (.invokestatic 30, 3) := by decide +kernel
theorem dX4_number_70 : decode cX4_number 70 = .ok (.iastore, 1) := by decide +kernel
theorem dX4_number_71 : decode cX4_number 71 = .ok (.iinc 3 1, 3) := by decide +kernel
theorem dX4_number_74 : decode cX4_number 74 = .ok (.goto (-27), 3) := by decide +kernel
theorem dX4_number_77 : decode cX4_number 77 = .ok (.return_, 1) := by decide +kernel
theorem dX4_firstLike_0 : decode cX4_firstLike 0 = .ok (.iconst 0, 1) := by decide +kernel
theorem dX4_firstLike_1 : decode cX4_firstLike 1 = .ok (.istore 4, 2) := by decide +kernel
theorem dX4_firstLike_3 : decode cX4_firstLike 3 = .ok (.iload 4, 2) := by decide +kernel
theorem dX4_firstLike_5 : decode cX4_firstLike 5 = .ok (.iload_n 3, 1) := by decide +kernel
theorem dX4_firstLike_6 : decode cX4_firstLike 6 = .ok (.if_icmp .ge 20, 3) := by decide +kernel
theorem dX4_firstLike_9 : decode cX4_firstLike 9 = .ok (.aload_n 0, 1) := by decide +kernel
theorem dX4_firstLike_10 : decode cX4_firstLike 10 = .ok (.iload_n 1, 1) := by decide +kernel
theorem dX4_firstLike_11 : decode cX4_firstLike 11 = .ok (.aload_n 2, 1) := by decide +kernel
theorem dX4_firstLike_12 : decode cX4_firstLike 12 = .ok (.iload 4, 2) := by decide +kernel
theorem dX4_firstLike_14 : decode cX4_firstLike 14 = .ok (.invokevirtual 34, 3) := by decide +kernel
theorem dX4_firstLike_17 : decode cX4_firstLike 17 = .ok (.ifCond .ne 9, 3) := by decide +kernel
theorem dX4_firstLike_20 : decode cX4_firstLike 20 = .ok (.iinc 4 1, 3) := by decide +kernel
theorem dX4_firstLike_23 : decode cX4_firstLike 23 = .ok (.goto (-20), 3) := by decide +kernel
theorem dX4_firstLike_26 : decode cX4_firstLike 26 = .ok (.iload 4, 2) := by decide +kernel
theorem dX4_firstLike_28 : decode cX4_firstLike 28 = .ok (.ireturn, 1) := by decide +kernel
theorem dX4_areAlike_0 : decode cX4_areAlike 0 = .ok (.iload_n 1, 1) := by decide +kernel
theorem dX4_areAlike_1 : decode cX4_areAlike 1 = .ok (.ifCond .lt 42, 3) := by decide +kernel
theorem dX4_areAlike_4 : decode cX4_areAlike 4 = .ok (.iload_n 1, 1) := by decide +kernel
theorem dX4_areAlike_5 : decode cX4_areAlike 5 = .ok (.aload_n 0, 1) := by decide +kernel
theorem dX4_areAlike_6 : decode cX4_areAlike 6 = .ok (.getfield 18, 3) := by decide +kernel
theorem dX4_areAlike_9 : decode cX4_areAlike 9 = .ok (.if_icmp .ge 34, 3) := by decide +kernel
theorem dX4_areAlike_12 : decode cX4_areAlike 12 = .ok (.iload_n 2, 1) := by decide +kernel
theorem dX4_areAlike_13 : decode cX4_areAlike 13 = .ok (.ifCond .lt 30, 3) := by decide +kernel
theorem dX4_areAlike_16 : decode cX4_areAlike 16 = .ok (.iload_n 2, 1) := by decide +kernel
theorem dX4_areAlike_17 : decode cX4_areAlike 17 = .ok (.aload_n 0, 1) := by decide +kernel
theorem dX4_areAlike_18 : decode cX4_areAlike 18 = .ok (.getfield 22, 3) := by decide +kernel
theorem dX4_areAlike_21 : decode cX4_areAlike 21 = .ok (.if_icmp .ge 22, 3) := by decide +kernel
theorem dX4_areAlike_24 : decode cX4_areAlike 24 = .ok (.aload_n 0, 1) := by decide +kernel
theorem dX4_areAlike_25 : decode cX4_areAlike 25 = .ok (.getfield 9, 3) := by decide +kernel
theorem dX4_areAlike_28 : decode cX4_areAlike 28 = .ok (.iload_n 1, 1) := by decide +kernel
theorem dX4_areAlike_29 : decode cX4_areAlike 29 = .ok (.iaload, 1) := by decide +kernel
theorem dX4_areAlike_30 : decode cX4_areAlike 30 = .ok (.aload_n 0, 1) := by decide +kernel
theorem dX4_areAlike_31 : decode cX4_areAlike 31 = .ok (.getfield 15, 3) := by decide +kernel
theorem dX4_areAlike_34 : decode cX4_areAlike 34 = .ok (.iload_n 2, 1) := by decide +kernel
theorem dX4_areAlike_35 : decode cX4_areAlike 35 = .ok (.iaload, 1) := by decide +kernel
theorem dX4_areAlike_36 : decode cX4_areAlike 36 = .ok (.if_icmp .ne 7, 3) := by decide +kernel
theorem dX4_areAlike_39 : decode cX4_areAlike 39 = .ok (.iconst 1, 1) := by decide +kernel
theorem dX4_areAlike_40 : decode cX4_areAlike 40 = .ok (.goto 4, 3) := by decide +kernel
theorem dX4_areAlike_43 : decode cX4_areAlike 43 = .ok (.iconst 0, 1) := by decide +kernel
theorem dX4_areAlike_44 : decode cX4_areAlike 44 = .ok (.ireturn, 1) := by decide +kernel
theorem dX5_init_0 : decode cX5_init 0 = .ok (.aload_n 0, 1) := by decide +kernel
theorem dX5_init_1 : decode cX5_init 1 = .ok (.invokespecial 3, 3) := by decide +kernel
theorem dX5_init_4 : decode cX5_init 4 = .ok (.aload_n 0, 1) := by decide +kernel
theorem dX5_init_5 : decode cX5_init 5 = .ok (.bipush 10, 2) := by decide +kernel
theorem dX5_init_7 : decode cX5_init 7 = .ok (.anewarray 9, 3) := by decide +kernel
theorem dX5_init_10 : decode cX5_init 10 = .ok (.putfield 11, 3) := by decide +kernel
theorem dX5_init_13 : decode cX5_init 13 = .ok (.aload_n 0, 1) := by decide +kernel
theorem dX5_init_14 : decode cX5_init 14 = .ok (.bipush 10, 2) := by decide +kernel
theorem dX5_init_16 : decode cX5_init 16 = .ok (.newarray .int, 2) := by decide +kernel
theorem dX5_init_18 : decode cX5_init 18 = .ok (.putfield 17, 3) := by decide +kernel
theorem dX5_init_21 : decode cX5_init 21 = .ok (.aload_n 0, 1) := by decide +kernel
theorem dX5_init_22 : decode cX5_init 22 = .ok (.iconst 0, 1) := by decide +kernel
theorem dX5_init_23 : decode cX5_init 23 = .ok (.putfield 21, 3) := by decide +kernel
theorem dX5_init_26 : decode cX5_init 26 = .ok (.aload_n 0, 1) := by decide +kernel
theorem dX5_init_27 : decode cX5_init 27 = .ok (.iconst 0, 1) := by decide +kernel
theorem dX5_init_28 : decode cX5_init 28 = .ok (.putfield 25, 3) := by decide +kernel
theorem dX5_init_31 : decode cX5_init 31 = .ok (.iconst 0, 1) := by decide +kernel
theorem dX5_init_32 : decode cX5_init 32 = .ok (.istore_n 1, 1) := by decide +kernel
theorem dX5_init_33 : decode cX5_init 33 = .ok (.iload_n 1, 1) := by decide +kernel
theorem dX5_init_34 : decode cX5_init 34 = .ok (.bipush 10, 2) := by decide +kernel
theorem dX5_init_36 : decode cX5_init 36 = .ok (.if_icmp .ge 22, 3) := by decide +kernel
theorem dX5_init_39 : decode cX5_init 39 = .ok (.aload_n 0, 1) := by decide +kernel
theorem dX5_init_40 : decode cX5_init 40 = .ok (.getfield 11, 3) := by decide +kernel
theorem dX5_init_43 : decode cX5_init 43 = .ok (.iload_n 1, 1) := by decide +kernel
theorem dX5_init_44 : decode cX5_init 44 = .ok (.new 9, 3) := by decide +kernel
theorem dX5_init_47 : decode cX5_init 47 = .ok (.dup, 1) := by decide +kernel
theorem dX5_init_48 : decode cX5_init 48 = .ok (.invokespecial 28, 3) := by decide +kernel
theorem dX5_init_51 : decode cX5_init 51 = .ok (.aastore, 1) := by decide +kernel
theorem dX5_init_52 : decode cX5_init 52 = .ok (.iinc 1 1, 3) := by decide +kernel
theorem dX5_init_55 : decode cX5_init 55 = .ok (.goto (-22), 3) := by decide +kernel
theorem dX5_init_58 : decode cX5_init 58 = .ok (.return_, 1) := by decide +kernel
theorem dX5_keep_0 : decode cX5_keep 0 = .ok (.aload_n 0, 1) := by decide +kernel
theorem dX5_keep_1 : decode cX5_keep 1 = .ok (.getfield 17, 3) := by decide +kernel
theorem dX5_keep_4 : decode cX5_keep 4 = .ok (.aload_n 0, 1) := by decide +kernel
theorem dX5_keep_5 : decode cX5_keep 5 = .ok (.getfield 25, 3) := by decide +kernel
theorem dX5_keep_8 : decode cX5_keep 8 = .ok (.iload_n 1, 1) := by decide +kernel
theorem dX5_keep_9 : decode cX5_keep 9 = .ok (.iastore, 1) := by decide +kernel
theorem dX5_keep_10 : decode cX5_keep 10 = .ok (.aload_n 0, 1) := by decide +kernel
theorem dX5_keep_11 : decode cX5_keep 11 = .ok (.getfield 11, 3) := by decide +kernel
theorem dX5_keep_14 : decode cX5_keep 14 = .ok (.aload_n 0, 1) := by decide +kernel
theorem dX5_keep_15 : decode cX5_keep 15 = .ok (.getfield 25, 3) := by decide +kernel
theorem dX5_keep_18 : decode cX5_keep 18 = .ok (.aaload, 1) := by decide +kernel
theorem dX5_keep_19 : decode cX5_keep 19 = .ok (.aload_n 2, 1) := by decide +kernel
theorem dX5_keep_20 : decode cX5_keep 20 = .ok (.invokevirtual 29, 3) := by decide +kernel
theorem dX5_keep_23 : decode cX5_keep 23 = .ok (.aload_n 0, 1) := by decide +kernel
theorem dX5_keep_24 : decode cX5_keep 24 = .ok (.aload_n 0, 1) := by decide +kernel
theorem dX5_keep_25 : decode cX5_keep 25 = .ok (.getfield 25, 3) := by decide +kernel
theorem dX5_keep_28 : decode cX5_keep 28 = .ok (.iconst 1, 1) := by decide +kernel
theorem dX5_keep_29 : decode cX5_keep 29 = .ok (.iadd, 1) := by decide +kernel
theorem dX5_keep_30 : decode cX5_keep 30 = .ok (.bipush 10, 2) := by decide +kernel
theorem dX5_keep_32 : decode cX5_keep 32 = .ok (.if_icmp .ge 12, 3) := by decide +kernel
theorem dX5_keep_35 : decode cX5_keep 35 = .ok (.aload_n 0, 1) := by decide +kernel
theorem dX5_keep_36 : decode cX5_keep 36 = .ok (.getfield 25, 3) := by decide +kernel
theorem dX5_keep_39 : decode cX5_keep 39 = .ok (.iconst 1, 1) := by decide +kernel
theorem dX5_keep_40 : decode cX5_keep 40 = .ok (.iadd, 1) := by decide +kernel
theorem dX5_keep_41 : decode cX5_keep 41 = .ok (.goto 4, 3) := by decide +kernel
theorem dX5_keep_44 : decode cX5_keep 44 = .ok (.iconst 0, 1) := by decide +kernel
theorem dX5_keep_45 : decode cX5_keep 45 = .ok (.putfield 25, 3) := by decide +kernel
theorem dX5_keep_48 : decode cX5_keep 48 = .ok (.aload_n 0, 1) := by decide +kernel
theorem dX5_keep_49 : decode cX5_keep 49 = .ok (.aload_n 0, 1) := by decide +kernel
theorem dX5_keep_50 : decode cX5_keep 50 = .ok (.getfield 21, 3) := by decide +kernel
theorem dX5_keep_53 : decode cX5_keep 53 = .ok (.iconst 1, 1) := by decide +kernel
theorem dX5_keep_54 : decode cX5_keep 54 = .ok (.iadd, 1) := by decide +kernel
theorem dX5_keep_55 : decode cX5_keep 55 = .ok (.bipush 10, 2) := by decide +kernel
theorem dX5_keep_57 : decode cX5_keep 57 = .ok (.invokestatic 33, 3) := by decide +kernel
theorem dX5_keep_60 : decode cX5_keep 60 = .ok (.putfield 21, 3) := by decide +kernel
theorem dX5_keep_63 : decode cX5_keep 63 = .ok (.return_, 1) := by decide +kernel
theorem dX5_stepBack_0 : decode cX5_stepBack 0 = .ok (.aload_n 0, 1) := by decide +kernel
theorem dX5_stepBack_1 : decode cX5_stepBack 1 = .ok (.aload_n 0, 1) := by decide +kernel
theorem dX5_stepBack_2 : decode cX5_stepBack 2 = .ok (.getfield 25, 3) := by decide +kernel
theorem dX5_stepBack_5 : decode cX5_stepBack 5 = .ok (.ifCond .le 12, 3) := by decide +kernel
theorem dX5_stepBack_8 : decode cX5_stepBack 8 = .ok (.aload_n 0, 1) := by decide +kernel
theorem dX5_stepBack_9 : decode cX5_stepBack 9 = .ok (.getfield 25, 3) := by decide +kernel
theorem dX5_stepBack_12 : decode cX5_stepBack 12 = .ok (.iconst 1, 1) := by decide +kernel
theorem dX5_stepBack_13 : decode cX5_stepBack 13 = .ok (.isub, 1) := by decide +kernel
theorem dX5_stepBack_14 : decode cX5_stepBack 14 = .ok (.goto 5, 3) := by decide +kernel
theorem dX5_stepBack_17 : decode cX5_stepBack 17 = .ok (.bipush 9, 2) := by decide +kernel
theorem dX5_stepBack_19 : decode cX5_stepBack 19 = .ok (.putfield 25, 3) := by decide +kernel
theorem dX5_stepBack_22 : decode cX5_stepBack 22 = .ok (.aload_n 0, 1) := by decide +kernel
theorem dX5_stepBack_23 : decode cX5_stepBack 23 = .ok (.aload_n 0, 1) := by decide +kernel
theorem dX5_stepBack_24 : decode cX5_stepBack 24 = .ok (.getfield 21, 3) := by decide +kernel
theorem dX5_stepBack_27 : decode cX5_stepBack 27 = .ok (.iconst 1, 1) := by decide +kernel
theorem dX5_stepBack_28 : decode cX5_stepBack 28 = .ok (.isub, 1) := by decide +kernel
theorem dX5_stepBack_29 : decode cX5_stepBack 29 = .ok (.iconst 0, 1) := by decide +kernel
theorem dX5_stepBack_30 : decode cX5_stepBack 30 = .ok (.invokestatic 39, 3) := by decide +kernel
theorem dX5_stepBack_33 : decode cX5_stepBack 33 = .ok (.putfield 21, 3) := by decide +kernel
theorem dX5_stepBack_36 : decode cX5_stepBack 36 = .ok (.aload_n 0, 1) := by decide +kernel
theorem dX5_stepBack_37 : decode cX5_stepBack 37 = .ok (.getfield 25, 3) := by decide +kernel
theorem dX5_stepBack_40 : decode cX5_stepBack 40 = .ok (.ireturn, 1) := by decide +kernel
theorem dX5_forget_0 : decode cX5_forget 0 = .ok (.aload_n 0, 1) := by decide +kernel
theorem dX5_forget_1 : decode cX5_forget 1 = .ok (.iconst 0, 1) := by decide +kernel
theorem dX5_forget_2 : decode cX5_forget 2 = .ok (.putfield 21, 3) := by decide +kernel
theorem dX5_forget_5 : decode cX5_forget 5 = .ok (.return_, 1) := by decide +kernel
theorem dX6_init_0 : decode cX6_init 0 = .ok (.aload_n 0, 1) := by decide +kernel
theorem dX6_init_1 : decode cX6_init 1 = .ok (.invokespecial 3, 3) := by decide +kernel
theorem dX6_init_4 : decode cX6_init 4 = .ok (.aload_n 0, 1) := by decide +kernel
theorem dX6_init_5 : decode cX6_init 5 = .ok (.new 9, 3) := by decide +kernel
theorem dX6_init_8 : decode cX6_init 8 = .ok (.dup, 1) := by decide +kernel
theorem dX6_init_9 : decode cX6_init 9 = .ok (.invokespecial 11, 3) := by decide +kernel
theorem dX6_init_12 : decode cX6_init 12 = .ok (.putfield 12, 3) := by decide +kernel
theorem dX6_init_15 : decode cX6_init 15 = .ok (.aload_n 0, 1) := by decide +kernel
theorem dX6_init_16 : decode cX6_init 16 = .ok (.iconst 0, 1) := by decide +kernel
theorem dX6_init_17 : decode cX6_init 17 = .ok (.putfield 18, 3) := by decide +kernel
theorem dX6_init_20 : decode cX6_init 20 = .ok (.aload_n 0, 1) := by decide +kernel
theorem dX6_init_21 : decode cX6_init 21 = .ok (.iconst 0, 1) := by decide +kernel
theorem dX6_init_22 : decode cX6_init 22 = .ok (.putfield 22, 3) := by decide +kernel
theorem dX6_init_25 : decode cX6_init 25 = .ok (.aload_n 0, 1) := by decide +kernel
theorem dX6_init_26 : decode cX6_init 26 = .ok (.iconst 0, 1) := by decide +kernel
theorem dX6_init_27 : decode cX6_init 27 = .ok (.putfield 25, 3) := by decide +kernel
theorem dX6_init_30 : decode cX6_init 30 = .ok (.aload_n 0, 1) := by decide +kernel
theorem dX6_init_31 : decode cX6_init 31 = .ok (.iconst 0, 1) := by decide +kernel
theorem dX6_init_32 : decode cX6_init 32 = .ok (.putfield 28, 3) := by decide +kernel
theorem dX6_init_35 : decode cX6_init 35 = .ok (.return_, 1) := by decide +kernel
theorem dX6_read_0 : decode cX6_read 0 = .ok (.aload_n 0, 1) := by decide +kernel
theorem dX6_read_1 : decode cX6_read 1 = .ok (.getfield 12, 3) := by decide +kernel
theorem dX6_read_4 : decode cX6_read 4 = .ok (.iconst 0, 1) := by decide +kernel
theorem dX6_read_5 : decode cX6_read 5 = .ok (.putfield 31, 3) := by decide +kernel
theorem dX6_read_8 : decode cX6_read 8 = .ok (.aload_n 0, 1) := by decide +kernel
theorem dX6_read_9 : decode cX6_read 9 = .ok (.iconst 0, 1) := by decide +kernel
theorem dX6_read_10 : decode cX6_read 10 = .ok (.putfield 18, 3) := by decide +kernel
theorem dX6_read_13 : decode cX6_read 13 = .ok (.aload_n 0, 1) := by decide +kernel
theorem dX6_read_14 : decode cX6_read 14 = .ok (.iconst 0, 1) := by decide +kernel
theorem dX6_read_15 : decode cX6_read 15 = .ok (.putfield 25, 3) := by decide +kernel
theorem dX6_read_18 : decode cX6_read 18 = .ok (.aload_n 0, 1) := by decide +kernel
theorem dX6_read_19 : decode cX6_read 19 = .ok (.iconst 0, 1) := by decide +kernel
theorem dX6_read_20 : decode cX6_read 20 = .ok (.putfield 28, 3) := by decide +kernel
theorem dX6_read_23 : decode cX6_read 23 = .ok (.iload_n 2, 1) := by decide +kernel
theorem dX6_read_24 : decode cX6_read 24 = .ok (.ifCond .eq 9, 3) := by decide +kernel
theorem dX6_read_27 : decode cX6_read 27 = .ok (.sipush 600, 3) := by decide +kernel
theorem dX6_read_30 : decode cX6_read 30 = .ok (.goto 5, 3) := by decide +kernel
theorem dX6_read_33 : decode cX6_read 33 = .ok (.bipush 80, 2) := by decide +kernel
theorem dX6_read_35 : decode cX6_read 35 = .ok (.istore_n 3, 1) := by decide +kernel
theorem dX6_read_36 : decode cX6_read 36 = .ok (.iconst 0, 1) := by decide +kernel
theorem dX6_read_37 : decode cX6_read 37 = .ok (.istore 4, 2) := by decide +kernel
theorem dX6_read_39 : decode cX6_read 39 = .ok (.iload 4, 2) := by decide +kernel
theorem dX6_read_41 : decode cX6_read 41 = .ok (.aload_n 1, 1) := by decide +kernel
theorem dX6_read_42 : decode cX6_read 42 = .ok (.getfield 34, 3) := by decide +kernel
theorem dX6_read_45 : decode cX6_read 45 = .ok (.if_icmp .ge 48, 3) := by decide +kernel
theorem dX6_read_48 : decode cX6_read 48 = .ok (.aload_n 0, 1) := by decide +kernel
theorem dX6_read_49 : decode cX6_read 49 = .ok (.getfield 18, 3) := by decide +kernel
theorem dX6_read_52 : decode cX6_read 52 = .ok (.ifCond .ne 41, 3) := by decide +kernel
theorem dX6_read_55 : decode cX6_read 55 = .ok (.aload_n 0, 1) := by decide +kernel
theorem dX6_read_56 : decode cX6_read 56 = .ok (.iload 4, 2) := by decide +kernel
theorem dX6_read_58 : decode cX6_read 58 = .ok (.putfield 22, 3) := by decide +kernel
theorem dX6_read_61 : decode cX6_read 61 = .ok (.aload_n 0, 1) := by decide +kernel
theorem dX6_read_62 : decode cX6_read 62 = .ok (.iload 4, 2) := by decide +kernel
theorem dX6_read_64 : decode cX6_read 64 = .ok (.iload_n 3, 1) := by decide +kernel
theorem dX6_read_65 : decode cX6_read 65 = .ok (.if_icmp .ge 18, 3) := by decide +kernel
theorem dX6_read_68 : decode cX6_read 68 = .ok (.aload_n 0, 1) := by decide +kernel
theorem dX6_read_69 : decode cX6_read 69 = .ok (.aload_n 1, 1) := by decide +kernel
theorem dX6_read_70 : decode cX6_read 70 = .ok (.getfield 39, 3) := by decide +kernel
theorem dX6_read_73 : decode cX6_read 73 = .ok (.iload 4, 2) := by decide +kernel
theorem dX6_read_75 : decode cX6_read 75 = .ok (.baload, 1) := by decide +kernel
theorem dX6_read_76 : decode cX6_read 76 = .ok (.iload_n 2, 1) := by decide +kernel
theorem dX6_read_77 : decode cX6_read 77 = .ok (.invokevirtual 43, 3) := by decide +kernel
theorem dX6_read_80 : decode cX6_read 80 = .ok (.goto 4, 3) := by decide +kernel
theorem dX6_read_83 : decode cX6_read 83 = .ok (.iconst 1, 1) := by decide +kernel
theorem dX6_read_84 : decode cX6_read 84 = .ok (.putfield 18, 3) := by decide +kernel
theorem dX6_read_87 : decode cX6_read 87 = .ok (.iinc 4 1, 3) := by decide +kernel
theorem dX6_read_90 : decode cX6_read 90 = .ok (.goto (-51), 3) := by decide +kernel
theorem dX6_read_93 : decode cX6_read 93 = .ok (.aload_n 0, 1) := by decide +kernel
theorem dX6_read_94 : decode cX6_read 94 = .ok (.getfield 18, 3) := by decide +kernel
theorem dX6_read_97 : decode cX6_read 97 = .ok (.ifCond .ne 20, 3) := by decide +kernel
theorem dX6_read_100 : decode cX6_read 100 = .ok (.aload_n 0, 1) := by decide +kernel
theorem dX6_read_101 : decode cX6_read 101 = .ok (.aload_n 1, 1) := by decide +kernel
theorem dX6_read_102 : decode cX6_read 102 = .ok (.getfield 34, 3) := by decide +kernel
theorem dX6_read_105 : decode cX6_read 105 = .ok (.putfield 22, 3) := by decide +kernel
theorem dX6_read_108 : decode cX6_read 108 = .ok (.aload_n 0, 1) := by decide +kernel
theorem dX6_read_109 : decode cX6_read 109 = .ok (.aload_n 0, 1) := by decide +kernel
theorem dX6_read_110 : decode cX6_read 110 = .ok (.iload_n 2, 1) := by decide +kernel
theorem dX6_read_111 : decode cX6_read 111 = .ok (.invokevirtual 47, 3) := by decide +kernel
theorem dX6_read_114 : decode cX6_read 114 = .ok (.putfield 18, 3) := by decide +kernel
theorem dX6_read_117 : decode cX6_read 117 = .ok (.aload_n 0, 1) := by decide +kernel
theorem dX6_read_118 : decode cX6_read 118 = .ok (.getfield 18, 3) := by decide +kernel
theorem dX6_read_121 : decode cX6_read 121 = .ok (.ifCond .ne 7, 3) := by decide +kernel
theorem dX6_read_124 : decode cX6_read 124 = .ok (.iconst 1, 1) := by decide +kernel
theorem dX6_read_125 : decode cX6_read 125 = .ok (.goto 4, 3) := by decide +kernel
theorem dX6_read_128 : decode cX6_read 128 = .ok (.iconst 0, 1) := by decide +kernel
theorem dX6_read_129 : decode cX6_read 129 = .ok (.ireturn, 1) := by decide +kernel
theorem dX6_readByte_0 : decode cX6_readByte 0 = .ok (.iload_n 1, 1) := by decide +kernel
theorem dX6_readByte_1 : decode cX6_readByte 1 = .ok (.bipush 97, 2) := by decide +kernel
theorem dX6_readByte_3 : decode cX6_readByte 3 = .ok (.if_icmp .lt 20, 3) := by decide +kernel
theorem dX6_readByte_6 : decode cX6_readByte 6 = .ok (.iload_n 1, 1) := by decide +kernel
theorem dX6_readByte_7 : decode cX6_readByte 7 = .ok (.bipush 122, 2) := by decide +kernel
theorem dX6_readByte_9 : decode cX6_readByte 9 = .ok (.if_icmp .gt 14, 3) := by decide +kernel
theorem dX6_readByte_12 : decode cX6_readByte 12 = .ok (.aload_n 0, 1) := by decide +kernel
theorem dX6_readByte_13 : decode cX6_readByte 13 = .ok (.iload_n 1, 1) := by decide +kernel
theorem dX6_readByte_14 : decode cX6_readByte 14 = .ok (.bipush 97, 2) := by decide +kernel
theorem dX6_readByte_16 : decode cX6_readByte 16 = .ok (.isub, 1) := by decide +kernel
theorem dX6_readByte_17 : decode cX6_readByte 17 = .ok (.iconst 1, 1) := by decide +kernel
theorem dX6_readByte_18 : decode cX6_readByte 18 = .ok (.iadd, 1) := by decide +kernel
theorem dX6_readByte_19 : decode cX6_readByte 19 = .ok (.invokevirtual 51, 3) := by decide +kernel
theorem dX6_readByte_22 : decode cX6_readByte 22 = .ok (.ireturn, 1) := by decide +kernel
theorem dX6_readByte_23 : decode cX6_readByte 23 = .ok (.aload_n 0, 1) := by decide +kernel
theorem dX6_readByte_24 : decode cX6_readByte 24 = .ok (.iconst 0, 1) := by decide +kernel
theorem dX6_readByte_25 : decode cX6_readByte 25 = .ok (.putfield 28, 3) := by decide +kernel
theorem dX6_readByte_28 : decode cX6_readByte 28 = .ok (.iload_n 1, 1) := by decide +kernel
theorem dX6_readByte_29 : decode cX6_readByte 29 = .ok (.bipush 32, 2) := by decide +kernel
theorem dX6_readByte_31 : decode cX6_readByte 31 = .ok (.if_icmp .eq 9, 3) := by decide +kernel
theorem dX6_readByte_34 : decode cX6_readByte 34 = .ok (.iload_n 1, 1) := by decide +kernel
theorem dX6_readByte_35 : decode cX6_readByte 35 = .ok (.bipush 10, 2) := by decide +kernel
theorem dX6_readByte_37 : decode cX6_readByte 37 = .ok (.if_icmp .ne 5, 3) := by decide +kernel
theorem dX6_readByte_40 : decode cX6_readByte 40 = .ok (.iconst 0, 1) := by decide +kernel
theorem dX6_readByte_41 : decode cX6_readByte 41 = .ok (.ireturn, 1) := by decide +kernel
theorem dX6_readByte_42 : decode cX6_readByte 42 = .ok (.iload_n 1, 1) := by decide +kernel
theorem dX6_readByte_43 : decode cX6_readByte 43 = .ok (.bipush 59, 2) := by decide +kernel
theorem dX6_readByte_45 : decode cX6_readByte 45 = .ok (.if_icmp .ne 14, 3) := by decide +kernel
theorem dX6_readByte_48 : decode cX6_readByte 48 = .ok (.iload_n 2, 1) := by decide +kernel
theorem dX6_readByte_49 : decode cX6_readByte 49 = .ok (.ifCond .eq 10, 3) := by decide +kernel
theorem dX6_readByte_52 : decode cX6_readByte 52 = .ok (.aload_n 0, 1) := by decide +kernel
theorem dX6_readByte_53 : decode cX6_readByte 53 = .ok (.invokevirtual 55, 3) := by decide +kernel
theorem dX6_readByte_56 : decode cX6_readByte 56 = .ok (.goto 4, 3) := by decide +kernel
theorem dX6_readByte_59 : decode cX6_readByte 59 = .ok (.iconst 1, 1) := by decide +kernel
theorem dX6_readByte_60 : decode cX6_readByte 60 = .ok (.ireturn, 1) := by decide +kernel
theorem dX6_readLetter_0 : decode cX6_readLetter 0 = .ok (.aload_n 0, 1) := by decide +kernel
theorem dX6_readLetter_1 : decode cX6_readLetter 1 = .ok (.getfield 12, 3) := by decide +kernel
theorem dX6_readLetter_4 : decode cX6_readLetter 4 = .ok (.getfield 31, 3) := by decide +kernel
theorem dX6_readLetter_7 : decode cX6_readLetter 7 = .ok (.bipush 14, 2) := by decide +kernel
theorem dX6_readLetter_9 : decode cX6_readLetter 9 = .ok (.if_icmp .ge 12, 3) := by decide +kernel
theorem dX6_readLetter_12 : decode cX6_readLetter 12 = .ok (.aload_n 0, 1) := by decide +kernel
theorem dX6_readLetter_13 : decode cX6_readLetter 13 = .ok (.getfield 28, 3) := by decide +kernel
theorem dX6_readLetter_16 : decode cX6_readLetter 16 = .ok (.bipush 6, 2) := by decide +kernel
theorem dX6_readLetter_18 : decode cX6_readLetter 18 = .ok (.if_icmp .lt 5, 3) := by decide +kernel
theorem dX6_readLetter_21 : decode cX6_readLetter 21 = .ok (.iconst 2, 1) := by decide +kernel
theorem dX6_readLetter_22 : decode cX6_readLetter 22 = .ok (.ireturn, 1) := by decide +kernel
theorem dX6_readLetter_23 : decode cX6_readLetter 23 = .ok (.aload_n 0, 1) := by decide +kernel
theorem dX6_readLetter_24 : decode cX6_readLetter 24 = .ok (.getfield 28, 3) := by decide +kernel
theorem dX6_readLetter_27 : decode cX6_readLetter 27 = .ok (.ifCond .ne 48, 3) := by decide +kernel
theorem dX6_readLetter_30 : decode cX6_readLetter 30 = .ok (.aload_n 0, 1) := by decide +kernel
theorem dX6_readLetter_31 : decode cX6_readLetter 31 = .ok (.getfield 25, 3) := by decide +kernel
theorem dX6_readLetter_34 : decode cX6_readLetter 34 = .ok (.bipush 8, 2) := by decide +kernel
theorem dX6_readLetter_36 : decode cX6_readLetter 36 = .ok (.if_icmp .lt 5, 3) := by decide +kernel
theorem dX6_readLetter_39 : decode cX6_readLetter 39 = .ok (.iconst 2, 1) := by decide +kernel
theorem dX6_readLetter_40 : decode cX6_readLetter 40 = .ok (.ireturn, 1) := by decide +kernel
theorem dX6_readLetter_41 : decode cX6_readLetter 41 = .ok (.aload_n 0, 1) := by decide +kernel
theorem dX6_readLetter_42 : decode cX6_readLetter 42 = .ok (.getfield 12, 3) := by decide +kernel
theorem dX6_readLetter_45 : decode cX6_readLetter 45 = .ok (.getfield 59, 3) := by decide +kernel
theorem dX6_readLetter_48 : decode cX6_readLetter 48 = .ok (.aload_n 0, 1) := by decide +kernel
theorem dX6_readLetter_49 : decode cX6_readLetter 49 = .ok (.getfield 12, 3) := by decide +kernel
theorem dX6_readLetter_52 : decode cX6_readLetter 52 = .ok (.getfield 31, 3) := by decide +kernel
theorem dX6_readLetter_55 : decode cX6_readLetter 55 = .ok (.bipush 8, 2) := by decide +kernel
theorem dX6_readLetter_57 : decode cX6_readLetter 57 = .ok (.imul, 1) := by decide +kernel
theorem dX6_readLetter_58 : decode cX6_readLetter 58 = .ok (.aload_n 0, 1) := by decide +kernel
theorem dX6_readLetter_59 : decode cX6_readLetter 59 = .ok (.getfield 25, 3) := by decide +kernel
theorem dX6_readLetter_62 : decode cX6_readLetter 62 = .ok (.iadd, 1) := by decide +kernel
theorem dX6_readLetter_63 : decode cX6_readLetter 63 = .ok (.iconst 0, 1) := by decide +kernel
theorem dX6_readLetter_64 : decode cX6_readLetter 64 = .ok (.iastore, 1) := by decide +kernel
theorem dX6_readLetter_65 : decode cX6_readLetter 65 = .ok (.aload_n 0, 1) := by decide +kernel
theorem dX6_readLetter_66 : decode cX6_readLetter 66 = .ok (.dup, 1) := by decide +kernel
theorem dX6_readLetter_67 : decode cX6_readLetter 67 = .ok (.getfield 25, 3) := by decide +kernel
theorem dX6_readLetter_70 : decode cX6_readLetter 70 = .ok (.iconst 1, 1) := by decide +kernel
theorem dX6_readLetter_71 : decode cX6_readLetter 71 = .ok (.iadd, 1) := by decide +kernel
theorem dX6_readLetter_72 : decode cX6_readLetter 72 = .ok (.putfield 25, 3) := by decide +kernel
theorem dX6_readLetter_75 : decode cX6_readLetter 75 = .ok (.aload_n 0, 1) := by decide +kernel
theorem dX6_readLetter_76 : decode cX6_readLetter 76 = .ok (.getfield 12, 3) := by decide +kernel
theorem dX6_readLetter_79 : decode cX6_readLetter 79 = .ok (.getfield 59, 3) := by decide +kernel
theorem dX6_readLetter_82 : decode cX6_readLetter 82 = .ok (.aload_n 0, 1) := by decide +kernel
theorem dX6_readLetter_83 : decode cX6_readLetter 83 = .ok (.getfield 12, 3) := by decide +kernel
theorem dX6_readLetter_86 : decode cX6_readLetter 86 = .ok (.getfield 31, 3) := by decide +kernel
theorem dX6_readLetter_89 : decode cX6_readLetter 89 = .ok (.bipush 8, 2) := by decide +kernel
theorem dX6_readLetter_91 : decode cX6_readLetter 91 = .ok (.imul, 1) := by decide +kernel
theorem dX6_readLetter_92 : decode cX6_readLetter 92 = .ok (.aload_n 0, 1) := by decide +kernel
theorem dX6_readLetter_93 : decode cX6_readLetter 93 = .ok (.getfield 25, 3) := by decide +kernel
theorem dX6_readLetter_96 : decode cX6_readLetter 96 = .ok (.iadd, 1) := by decide +kernel
theorem dX6_readLetter_97 : decode cX6_readLetter 97 = .ok (.iconst 1, 1) := by decide +kernel
theorem dX6_readLetter_98 : decode cX6_readLetter 98 = .ok (.isub, 1) := by decide +kernel
theorem dX6_readLetter_99 : decode cX6_readLetter 99 = .ok (.dup2, 1) := by decide +kernel
theorem dX6_readLetter_100 : decode cX6_readLetter 100 = .ok (.iaload, 1) := by decide +kernel
theorem dX6_readLetter_101 : decode cX6_readLetter 101 = .ok (.iload_n 1, 1) := by decide +kernel
theorem dX6_readLetter_102 : decode cX6_readLetter 102 = .ok (.iconst 5, 1) := by decide +kernel
theorem dX6_readLetter_103 : decode cX6_readLetter 103 = .ok (.aload_n 0, 1) := by decide +kernel
theorem dX6_readLetter_104 : decode cX6_readLetter 104 = .ok (.getfield 28, 3) := by decide +kernel
theorem dX6_readLetter_107 : decode cX6_readLetter 107 = .ok (.imul, 1) := by decide +kernel
theorem dX6_readLetter_108 : decode cX6_readLetter 108 = .ok (.ishl, 1) := by decide +kernel
theorem dX6_readLetter_109 : decode cX6_readLetter 109 = .ok (.ior, 1) := by decide +kernel
theorem dX6_readLetter_110 : decode cX6_readLetter 110 = .ok (.iastore, 1) := by decide +kernel
theorem dX6_readLetter_111 : decode cX6_readLetter 111 = .ok (.aload_n 0, 1) := by decide +kernel
theorem dX6_readLetter_112 : decode cX6_readLetter 112 = .ok (.dup, 1) := by decide +kernel
theorem dX6_readLetter_113 : decode cX6_readLetter 113 = .ok (.getfield 28, 3) := by decide +kernel
theorem dX6_readLetter_116 : decode cX6_readLetter 116 = .ok (.iconst 1, 1) := by decide +kernel
theorem dX6_readLetter_117 : decode cX6_readLetter 117 = .ok (.iadd, 1) := by decide +kernel
theorem dX6_readLetter_118 : decode cX6_readLetter 118 = .ok (.putfield 28, 3) := by decide +kernel
theorem dX6_readLetter_121 : decode cX6_readLetter 121 = .ok (.iconst 0, 1) := by decide +kernel
theorem dX6_readLetter_122 : decode cX6_readLetter 122 = .ok (.ireturn, 1) := by decide +kernel
theorem dX6_closeLine_0 : decode cX6_closeLine 0 = .ok (.aload_n 0, 1) := by decide +kernel
theorem dX6_closeLine_1 : decode cX6_closeLine 1 = .ok (.getfield 25, 3) := by decide +kernel
theorem dX6_closeLine_4 : decode cX6_closeLine 4 = .ok (.ifCond .eq 15, 3) := by decide +kernel
theorem dX6_closeLine_7 : decode cX6_closeLine 7 = .ok (.aload_n 0, 1) := by decide +kernel
theorem dX6_closeLine_8 : decode cX6_closeLine 8 = .ok (.getfield 12, 3) := by decide +kernel
theorem dX6_closeLine_11 : decode cX6_closeLine 11 = .ok (.getfield 31, 3) := by decide +kernel
theorem dX6_closeLine_14 : decode cX6_closeLine 14 = .ok (.bipush 14, 2) := by decide +kernel
theorem dX6_closeLine_16 : decode cX6_closeLine 16 = .ok (.if_icmp .lt 5, 3) := by decide +kernel
theorem dX6_closeLine_19 : decode cX6_closeLine 19 = .ok (.iconst 1, 1) := by decide +kernel
theorem dX6_closeLine_20 : decode cX6_closeLine 20 = .ok (.ireturn, 1) := by decide +kernel
theorem dX6_closeLine_21 : decode cX6_closeLine 21 = .ok (.aload_n 0, 1) := by decide +kernel
theorem dX6_closeLine_22 : decode cX6_closeLine 22 = .ok (.getfield 12, 3) := by decide +kernel
theorem dX6_closeLine_25 : decode cX6_closeLine 25 = .ok (.getfield 62, 3) := by decide +kernel
theorem dX6_closeLine_28 : decode cX6_closeLine 28 = .ok (.aload_n 0, 1) := by decide +kernel
theorem dX6_closeLine_29 : decode cX6_closeLine 29 = .ok (.getfield 12, 3) := by decide +kernel
theorem dX6_closeLine_32 : decode cX6_closeLine 32 = .ok (.getfield 31, 3) := by decide +kernel
theorem dX6_closeLine_35 : decode cX6_closeLine 35 = .ok (.aload_n 0, 1) := by decide +kernel
theorem dX6_closeLine_36 : decode cX6_closeLine 36 = .ok (.getfield 25, 3) := by decide +kernel
theorem dX6_closeLine_39 : decode cX6_closeLine 39 = .ok (.iastore, 1) := by decide +kernel
theorem dX6_closeLine_40 : decode cX6_closeLine 40 = .ok (.aload_n 0, 1) := by decide +kernel
theorem dX6_closeLine_41 : decode cX6_closeLine 41 = .ok (.getfield 12, 3) := by decide +kernel
theorem dX6_closeLine_44 : decode cX6_closeLine 44 = .ok (.dup, 1) := by decide +kernel
theorem dX6_closeLine_45 : decode cX6_closeLine 45 = .ok (.getfield 31, 3) := by decide +kernel
theorem dX6_closeLine_48 : decode cX6_closeLine 48 = .ok (.iconst 1, 1) := by decide +kernel
theorem dX6_closeLine_49 : decode cX6_closeLine 49 = .ok (.iadd, 1) := by decide +kernel
theorem dX6_closeLine_50 : decode cX6_closeLine 50 = .ok (.putfield 31, 3) := by decide +kernel
theorem dX6_closeLine_53 : decode cX6_closeLine 53 = .ok (.aload_n 0, 1) := by decide +kernel
theorem dX6_closeLine_54 : decode cX6_closeLine 54 = .ok (.iconst 0, 1) := by decide +kernel
theorem dX6_closeLine_55 : decode cX6_closeLine 55 = .ok (.putfield 25, 3) := by decide +kernel
theorem dX6_closeLine_58 : decode cX6_closeLine 58 = .ok (.iconst 0, 1) := by decide +kernel
theorem dX6_closeLine_59 : decode cX6_closeLine 59 = .ok (.ireturn, 1) := by decide +kernel
theorem dX6_readEnd_0 : decode cX6_readEnd 0 = .ok (.iload_n 1, 1) := by decide +kernel
theorem dX6_readEnd_1 : decode cX6_readEnd 1 = .ok (.ifCond .eq 16, 3) := by decide +kernel
theorem dX6_readEnd_4 : decode cX6_readEnd 4 = .ok (.aload_n 0, 1) := by decide +kernel
theorem dX6_readEnd_5 : decode cX6_readEnd 5 = .ok (.getfield 25, 3) := by decide +kernel
theorem dX6_readEnd_8 : decode cX6_readEnd 8 = .ok (.ifCond .ne 7, 3) := by decide +kernel
theorem dX6_readEnd_11 : decode cX6_readEnd 11 = .ok (.iconst 0, 1) := by decide +kernel
theorem dX6_readEnd_12 : decode cX6_readEnd 12 = .ok (.goto 4, 3) := by decide +kernel
theorem dX6_readEnd_15 : decode cX6_readEnd 15 = .ok (.iconst 1, 1) := by decide +kernel
theorem dX6_readEnd_16 : decode cX6_readEnd 16 = .ok (.ireturn, 1) := by decide +kernel
theorem dX6_readEnd_17 : decode cX6_readEnd 17 = .ok (.aload_n 0, 1) := by decide +kernel
theorem dX6_readEnd_18 : decode cX6_readEnd 18 = .ok (.invokevirtual 55, 3) := by decide +kernel
theorem dX6_readEnd_21 : decode cX6_readEnd 21 = .ok (.ireturn, 1) := by decide +kernel
theorem dX7_init_0 : decode cX7_init 0 = .ok (.aload_n 0, 1) := by decide +kernel
theorem dX7_init_1 : decode cX7_init 1 = .ok (.invokespecial 3, 3) := by decide +kernel
theorem dX7_init_4 : decode cX7_init 4 = .ok (.aload_n 0, 1) := by decide +kernel
theorem dX7_init_5 : decode cX7_init 5 = .ok (.sipush 640, 3) := by decide +kernel
theorem dX7_init_8 : decode cX7_init 8 = .ok (.newarray .byte, 2) := by decide +kernel
theorem dX7_init_10 : decode cX7_init 10 = .ok (.putfield 9, 3) := by decide +kernel
theorem dX7_init_13 : decode cX7_init 13 = .ok (.aload_n 0, 1) := by decide +kernel
theorem dX7_init_14 : decode cX7_init 14 = .ok (.iconst 0, 1) := by decide +kernel
theorem dX7_init_15 : decode cX7_init 15 = .ok (.putfield 15, 3) := by decide +kernel
theorem dX7_init_18 : decode cX7_init 18 = .ok (.return_, 1) := by decide +kernel
theorem dX7_append_0 : decode cX7_append 0 = .ok (.aload_n 0, 1) := by decide +kernel
theorem dX7_append_1 : decode cX7_append 1 = .ok (.getfield 15, 3) := by decide +kernel
theorem dX7_append_4 : decode cX7_append 4 = .ok (.ifCond .lt 13, 3) := by decide +kernel
theorem dX7_append_7 : decode cX7_append 7 = .ok (.aload_n 0, 1) := by decide +kernel
theorem dX7_append_8 : decode cX7_append 8 = .ok (.getfield 15, 3) := by decide +kernel
theorem dX7_append_11 : decode cX7_append 11 = .ok (.sipush 636, 3) := by decide +kernel
theorem dX7_append_14 : decode cX7_append 14 = .ok (.if_icmp .le 4, 3) := by decide +kernel
theorem dX7_append_17 : decode cX7_append 17 = .ok (.return_, 1) := by decide +kernel
theorem dX7_append_18 : decode cX7_append 18 = .ok (.aload_n 0, 1) := by decide +kernel
theorem dX7_append_19 : decode cX7_append 19 = .ok (.getfield 9, 3) := by decide +kernel
theorem dX7_append_22 : decode cX7_append 22 = .ok (.aload_n 0, 1) := by decide +kernel
theorem dX7_append_23 : decode cX7_append 23 = .ok (.getfield 15, 3) := by decide +kernel
theorem dX7_append_26 : decode cX7_append 26 = .ok (.iload_n 1, 1) := by decide +kernel
theorem dX7_append_27 : decode cX7_append 27 = .ok (.bipush 24, 2) := by decide +kernel
theorem dX7_append_29 : decode cX7_append 29 = .ok (.iushr, 1) := by decide +kernel
theorem dX7_append_30 : decode cX7_append 30 = .ok (.i2b, 1) := by decide +kernel
theorem dX7_append_31 : decode cX7_append 31 = .ok (.bastore, 1) := by decide +kernel
theorem dX7_append_32 : decode cX7_append 32 = .ok (.aload_n 0, 1) := by decide +kernel
theorem dX7_append_33 : decode cX7_append 33 = .ok (.getfield 9, 3) := by decide +kernel
theorem dX7_append_36 : decode cX7_append 36 = .ok (.aload_n 0, 1) := by decide +kernel
theorem dX7_append_37 : decode cX7_append 37 = .ok (.getfield 15, 3) := by decide +kernel
theorem dX7_append_40 : decode cX7_append 40 = .ok (.iconst 1, 1) := by decide +kernel
theorem dX7_append_41 : decode cX7_append 41 = .ok (.iadd, 1) := by decide +kernel
theorem dX7_append_42 : decode cX7_append 42 = .ok (.iload_n 1, 1) := by decide +kernel
theorem dX7_append_43 : decode cX7_append 43 = .ok (.bipush 16, 2) := by decide +kernel
theorem dX7_append_45 : decode cX7_append 45 = .ok (.iushr, 1) := by decide +kernel
theorem dX7_append_46 : decode cX7_append 46 = .ok (.i2b, 1) := by decide +kernel
theorem dX7_append_47 : decode cX7_append 47 = .ok (.bastore, 1) := by decide +kernel
theorem dX7_append_48 : decode cX7_append 48 = .ok (.aload_n 0, 1) := by decide +kernel
theorem dX7_append_49 : decode cX7_append 49 = .ok (.getfield 9, 3) := by decide +kernel
theorem dX7_append_52 : decode cX7_append 52 = .ok (.aload_n 0, 1) := by decide +kernel
theorem dX7_append_53 : decode cX7_append 53 = .ok (.getfield 15, 3) := by decide +kernel
theorem dX7_append_56 : decode cX7_append 56 = .ok (.iconst 2, 1) := by decide +kernel
theorem dX7_append_57 : decode cX7_append 57 = .ok (.iadd, 1) := by decide +kernel
theorem dX7_append_58 : decode cX7_append 58 = .ok (.iload_n 1, 1) := by decide +kernel
theorem dX7_append_59 : decode cX7_append 59 = .ok (.bipush 8, 2) := by decide +kernel
theorem dX7_append_61 : decode cX7_append 61 = .ok (.iushr, 1) := by decide +kernel
theorem dX7_append_62 : decode cX7_append 62 = .ok (.i2b, 1) := by decide +kernel
theorem dX7_append_63 : decode cX7_append 63 = .ok (.bastore, 1) := by decide +kernel
theorem dX7_append_64 : decode cX7_append 64 = .ok (.aload_n 0, 1) := by decide +kernel
theorem dX7_append_65 : decode cX7_append 65 = .ok (.getfield 9, 3) := by decide +kernel
theorem dX7_append_68 : decode cX7_append 68 = .ok (.aload_n 0, 1) := by decide +kernel
theorem dX7_append_69 : decode cX7_append 69 = .ok (.getfield 15, 3) := by decide +kernel
theorem dX7_append_72 : decode cX7_append 72 = .ok (.iconst 3, 1) := by decide +kernel
theorem dX7_append_73 : decode cX7_append 73 = .ok (.iadd, 1) := by decide +kernel
theorem dX7_append_74 : decode cX7_append 74 = .ok (.iload_n 1, 1) := by decide +kernel
theorem dX7_append_75 : decode cX7_append 75 = .ok (.i2b, 1) := by decide +kernel
theorem dX7_append_76 : decode cX7_append 76 = .ok (.bastore, 1) := by decide +kernel
theorem dX7_append_77 : decode cX7_append 77 = .ok (.aload_n 0, 1) := by decide +kernel
theorem dX7_append_78 : decode cX7_append 78 = .ok (.dup, 1) := by decide +kernel
theorem dX7_append_79 : decode cX7_append 79 = .ok (.getfield 15, 3) := by decide +kernel
theorem dX7_append_82 : decode cX7_append 82 = .ok (.iconst 4, 1) := by decide +kernel
theorem dX7_append_83 : decode cX7_append 83 = .ok (.iadd, 1) := by decide +kernel
theorem dX7_append_84 : decode cX7_append 84 = .ok (.putfield 15, 3) := by decide +kernel
theorem dX7_append_87 : decode cX7_append 87 = .ok (.return_, 1) := by decide +kernel
theorem dX8_init_0 : decode cX8_init 0 = .ok (.aload_n 0, 1) := by decide +kernel
theorem dX8_init_1 : decode cX8_init 1 = .ok (.invokespecial 3, 3) := by decide +kernel
theorem dX8_init_4 : decode cX8_init 4 = .ok (.aload_n 0, 1) := by decide +kernel
theorem dX8_init_5 : decode cX8_init 5 = .ok (.iconst 2, 1) := by decide +kernel
theorem dX8_init_6 : decode cX8_init 6 = .ok (.bipush 14, 2) := by decide +kernel
theorem dX8_init_8 : decode cX8_init 8 = .ok (.multianewarray 9 2, 4) := by decide +kernel
theorem dX8_init_12 : decode cX8_init 12 = .ok (.putfield 11, 3) := by decide +kernel
theorem dX8_init_15 : decode cX8_init 15 = .ok (.aload_n 0, 1) := by decide +kernel
theorem dX8_init_16 : decode cX8_init 16 = .ok (.iconst 2, 1) := by decide +kernel
theorem dX8_init_17 : decode cX8_init 17 = .ok (.bipush 14, 2) := by decide +kernel
theorem dX8_init_19 : decode cX8_init 19 = .ok (.multianewarray 9 2, 4) := by decide +kernel
theorem dX8_init_23 : decode cX8_init 23 = .ok (.putfield 16, 3) := by decide +kernel
theorem dX8_init_26 : decode cX8_init 26 = .ok (.aload_n 0, 1) := by decide +kernel
theorem dX8_init_27 : decode cX8_init 27 = .ok (.iconst 2, 1) := by decide +kernel
theorem dX8_init_28 : decode cX8_init 28 = .ok (.bipush 14, 2) := by decide +kernel
theorem dX8_init_30 : decode cX8_init 30 = .ok (.multianewarray 9 2, 4) := by decide +kernel
theorem dX8_init_34 : decode cX8_init 34 = .ok (.putfield 19, 3) := by decide +kernel
theorem dX8_init_37 : decode cX8_init 37 = .ok (.aload_n 0, 1) := by decide +kernel
theorem dX8_init_38 : decode cX8_init 38 = .ok (.iconst 3, 1) := by decide +kernel
theorem dX8_init_39 : decode cX8_init 39 = .ok (.newarray .int, 2) := by decide +kernel
theorem dX8_init_41 : decode cX8_init 41 = .ok (.putfield 22, 3) := by decide +kernel
theorem dX8_init_44 : decode cX8_init 44 = .ok (.aload_n 0, 1) := by decide +kernel
theorem dX8_init_45 : decode cX8_init 45 = .ok (.bipush 14, 2) := by decide +kernel
theorem dX8_init_47 : decode cX8_init 47 = .ok (.newarray .int, 2) := by decide +kernel
theorem dX8_init_49 : decode cX8_init 49 = .ok (.putfield 26, 3) := by decide +kernel
theorem dX8_init_52 : decode cX8_init 52 = .ok (.aload_n 0, 1) := by decide +kernel
theorem dX8_init_53 : decode cX8_init 53 = .ok (.bipush 14, 2) := by decide +kernel
theorem dX8_init_55 : decode cX8_init 55 = .ok (.newarray .int, 2) := by decide +kernel
theorem dX8_init_57 : decode cX8_init 57 = .ok (.putfield 29, 3) := by decide +kernel
theorem dX8_init_60 : decode cX8_init 60 = .ok (.aload_n 0, 1) := by decide +kernel
theorem dX8_init_61 : decode cX8_init 61 = .ok (.bipush 14, 2) := by decide +kernel
theorem dX8_init_63 : decode cX8_init 63 = .ok (.newarray .int, 2) := by decide +kernel
theorem dX8_init_65 : decode cX8_init 65 = .ok (.putfield 32, 3) := by decide +kernel
theorem dX8_init_68 : decode cX8_init 68 = .ok (.aload_n 0, 1) := by decide +kernel
theorem dX8_init_69 : decode cX8_init 69 = .ok (.iconst 0, 1) := by decide +kernel
theorem dX8_init_70 : decode cX8_init 70 = .ok (.putfield 35, 3) := by decide +kernel
theorem dX8_init_73 : decode cX8_init 73 = .ok (.aload_n 0, 1) := by decide +kernel
theorem dX8_init_74 : decode cX8_init 74 = .ok (.iconst 0, 1) := by decide +kernel
theorem dX8_init_75 : decode cX8_init 75 = .ok (.putfield 39, 3) := by decide +kernel
theorem dX8_init_78 : decode cX8_init 78 = .ok (.aload_n 0, 1) := by decide +kernel
theorem dX8_init_79 : decode cX8_init 79 = .ok (.iconst 0, 1) := by decide +kernel
theorem dX8_init_80 : decode cX8_init 80 = .ok (.putfield 42, 3) := by decide +kernel
theorem dX8_init_83 : decode cX8_init 83 = .ok (.aload_n 0, 1) := by decide +kernel
theorem dX8_init_84 : decode cX8_init 84 = .ok (.iconst 0, 1) := by decide +kernel
theorem dX8_init_85 : decode cX8_init 85 = .ok (.putfield 45, 3) := by decide +kernel
theorem dX8_init_88 : decode cX8_init 88 = .ok (.return_, 1) := by decide +kernel
theorem dX8_clear_0 : decode cX8_clear 0 = .ok (.iconst 0, 1) := by decide +kernel
theorem dX8_clear_1 : decode cX8_clear 1 = .ok (.istore_n 1, 1) := by decide +kernel
theorem dX8_clear_2 : decode cX8_clear 2 = .ok (.iload_n 1, 1) := by decide +kernel
theorem dX8_clear_3 : decode cX8_clear 3 = .ok (.iconst 1, 1) := by decide +kernel
theorem dX8_clear_4 : decode cX8_clear 4 = .ok (.if_icmp .gt 50, 3) := by decide +kernel
theorem dX8_clear_7 : decode cX8_clear 7 = .ok (.iconst 0, 1) := by decide +kernel
theorem dX8_clear_8 : decode cX8_clear 8 = .ok (.istore_n 2, 1) := by decide +kernel
theorem dX8_clear_9 : decode cX8_clear 9 = .ok (.iload_n 2, 1) := by decide +kernel
theorem dX8_clear_10 : decode cX8_clear 10 = .ok (.bipush 14, 2) := by decide +kernel
theorem dX8_clear_12 : decode cX8_clear 12 = .ok (.if_icmp .ge 36, 3) := by decide +kernel
theorem dX8_clear_15 : decode cX8_clear 15 = .ok (.aload_n 0, 1) := by decide +kernel
theorem dX8_clear_16 : decode cX8_clear 16 = .ok (.getfield 11, 3) := by decide +kernel
theorem dX8_clear_19 : decode cX8_clear 19 = .ok (.iload_n 1, 1) := by decide +kernel
theorem dX8_clear_20 : decode cX8_clear 20 = .ok (.aaload, 1) := by decide +kernel
theorem dX8_clear_21 : decode cX8_clear 21 = .ok (.iload_n 2, 1) := by decide +kernel
theorem dX8_clear_22 : decode cX8_clear 22 = .ok (.iconst 3, 1) := by decide +kernel
theorem dX8_clear_23 : decode cX8_clear 23 = .ok (.iastore, 1) := by decide +kernel
theorem dX8_clear_24 : decode cX8_clear 24 = .ok (.aload_n 0, 1) := by decide +kernel
theorem dX8_clear_25 : decode cX8_clear 25 = .ok (.getfield 16, 3) := by decide +kernel
theorem dX8_clear_28 : decode cX8_clear 28 = .ok (.iload_n 1, 1) := by decide +kernel
theorem dX8_clear_29 : decode cX8_clear 29 = .ok (.aaload, 1) := by decide +kernel
theorem dX8_clear_30 : decode cX8_clear 30 = .ok (.iload_n 2, 1) := by decide +kernel
theorem dX8_clear_31 : decode cX8_clear 31 = .ok (.iconst (-1), 1) := by decide +kernel
theorem dX8_clear_32 : decode cX8_clear 32 = .ok (.iastore, 1) := by decide +kernel
theorem dX8_clear_33 : decode cX8_clear 33 = .ok (.aload_n 0, 1) := by decide +kernel
theorem dX8_clear_34 : decode cX8_clear 34 = .ok (.getfield 19, 3) := by decide +kernel
theorem dX8_clear_37 : decode cX8_clear 37 = .ok (.iload_n 1, 1) := by decide +kernel
theorem dX8_clear_38 : decode cX8_clear 38 = .ok (.aaload, 1) := by decide +kernel
theorem dX8_clear_39 : decode cX8_clear 39 = .ok (.iload_n 2, 1) := by decide +kernel
theorem dX8_clear_40 : decode cX8_clear 40 = .ok (.iconst (-1), 1) := by decide +kernel
theorem dX8_clear_41 : decode cX8_clear 41 = .ok (.iastore, 1) := by decide +kernel
theorem dX8_clear_42 : decode cX8_clear 42 = .ok (.iinc 2 1, 3) := by decide +kernel
theorem dX8_clear_45 : decode cX8_clear 45 = .ok (.goto (-36), 3) := by decide +kernel
theorem dX8_clear_48 : decode cX8_clear 48 = .ok (.iinc 1 1, 3) := by decide +kernel
theorem dX8_clear_51 : decode cX8_clear 51 = .ok (.goto (-49), 3) := by decide +kernel
theorem dX8_clear_54 : decode cX8_clear 54 = .ok (.aload_n 0, 1) := by decide +kernel
theorem dX8_clear_55 : decode cX8_clear 55 = .ok (.getfield 22, 3) := by decide +kernel
theorem dX8_clear_58 : decode cX8_clear 58 = .ok (.iconst 0, 1) := by decide +kernel
theorem dX8_clear_59 : decode cX8_clear 59 = .ok (.iconst 0, 1) := by decide +kernel
theorem dX8_clear_60 : decode cX8_clear 60 = .ok (.iastore, 1) := by decide +kernel
theorem dX8_clear_61 : decode cX8_clear 61 = .ok (.aload_n 0, 1) := by decide +kernel
theorem dX8_clear_62 : decode cX8_clear 62 = .ok (.getfield 22, 3) := by decide +kernel
end
section
theorem dX8_clear_65 : decode cX8_clear 65 = .ok (.iconst 1, 1) := by decide +kernel
theorem dX8_clear_66 : decode cX8_clear 66 = .ok (.iconst 0, 1) := by decide +kernel
theorem dX8_clear_67 : decode cX8_clear 67 = .ok (.iastore, 1) := by decide +kernel
theorem dX8_clear_68 : decode cX8_clear 68 = .ok (.aload_n 0, 1) := by decide +kernel
theorem dX8_clear_69 : decode cX8_clear 69 = .ok (.getfield 22, 3) := by decide +kernel
theorem dX8_clear_72 : decode cX8_clear 72 = .ok (.iconst 2, 1) := by decide +kernel
theorem dX8_clear_73 : decode cX8_clear 73 = .ok (.iconst 0, 1) := by decide +kernel
theorem dX8_clear_74 : decode cX8_clear 74 = .ok (.iastore, 1) := by decide +kernel
theorem dX8_clear_75 : decode cX8_clear 75 = .ok (.aload_n 0, 1) := by decide +kernel
theorem dX8_clear_76 : decode cX8_clear 76 = .ok (.iconst 0, 1) := by decide +kernel
theorem dX8_clear_77 : decode cX8_clear 77 = .ok (.putfield 35, 3) := by decide +kernel
theorem dX8_clear_80 : decode cX8_clear 80 = .ok (.aload_n 0, 1) := by decide +kernel
theorem dX8_clear_81 : decode cX8_clear 81 = .ok (.iconst 0, 1) := by decide +kernel
theorem dX8_clear_82 : decode cX8_clear 82 = .ok (.putfield 39, 3) := by decide +kernel
theorem dX8_clear_85 : decode cX8_clear 85 = .ok (.aload_n 0, 1) := by decide +kernel
theorem dX8_clear_86 : decode cX8_clear 86 = .ok (.iconst 0, 1) := by decide +kernel
theorem dX8_clear_87 : decode cX8_clear 87 = .ok (.putfield 42, 3) := by decide +kernel
theorem dX8_clear_90 : decode cX8_clear 90 = .ok (.aload_n 0, 1) := by decide +kernel
theorem dX8_clear_91 : decode cX8_clear 91 = .ok (.iconst 0, 1) := by decide +kernel
theorem dX8_clear_92 : decode cX8_clear 92 = .ok (.putfield 45, 3) := by decide +kernel
theorem dX8_clear_95 : decode cX8_clear 95 = .ok (.return_, 1) := by decide +kernel
theorem dX8_isLoose_0 : decode cX8_isLoose 0 = .ok (.iload_n 2, 1) := by decide +kernel
theorem dX8_isLoose_1 : decode cX8_isLoose 1 = .ok (.ifCond .lt 25, 3) := by decide +kernel
theorem dX8_isLoose_4 : decode cX8_isLoose 4 = .ok (.iload_n 2, 1) := by decide +kernel
theorem dX8_isLoose_5 : decode cX8_isLoose 5 = .ok (.bipush 14, 2) := by decide +kernel
theorem dX8_isLoose_7 : decode cX8_isLoose 7 = .ok (.if_icmp .ge 19, 3) := by decide +kernel
theorem dX8_isLoose_10 : decode cX8_isLoose 10 = .ok (.aload_n 0, 1) := by decide +kernel
theorem dX8_isLoose_11 : decode cX8_isLoose 11 = .ok (.getfield 11, 3) := by decide +kernel
theorem dX8_isLoose_14 : decode cX8_isLoose 14 = .ok (.iload_n 1, 1) := by decide +kernel
theorem dX8_isLoose_15 : decode cX8_isLoose 15 = .ok (.aaload, 1) := by decide +kernel
theorem dX8_isLoose_16 : decode cX8_isLoose 16 = .ok (.iload_n 2, 1) := by decide +kernel
theorem dX8_isLoose_17 : decode cX8_isLoose 17 = .ok (.iaload, 1) := by decide +kernel
theorem dX8_isLoose_18 : decode cX8_isLoose 18 = .ok (.iconst 3, 1) := by decide +kernel
theorem dX8_isLoose_19 : decode cX8_isLoose 19 = .ok (.if_icmp .ne 7, 3) := by decide +kernel
theorem dX8_isLoose_22 : decode cX8_isLoose 22 = .ok (.iconst 1, 1) := by decide +kernel
theorem dX8_isLoose_23 : decode cX8_isLoose 23 = .ok (.goto 4, 3) := by decide +kernel
theorem dX8_isLoose_26 : decode cX8_isLoose 26 = .ok (.iconst 0, 1) := by decide +kernel
theorem dX8_isLoose_27 : decode cX8_isLoose 27 = .ok (.ireturn, 1) := by decide +kernel
theorem dX8_join_0 : decode cX8_join 0 = .ok (.aload_n 0, 1) := by decide +kernel
theorem dX8_join_1 : decode cX8_join 1 = .ok (.iconst 0, 1) := by decide +kernel
theorem dX8_join_2 : decode cX8_join 2 = .ok (.iload_n 2, 1) := by decide +kernel
theorem dX8_join_3 : decode cX8_join 3 = .ok (.invokevirtual 48, 3) := by decide +kernel
theorem dX8_join_6 : decode cX8_join 6 = .ok (.ifCond .eq 12, 3) := by decide +kernel
theorem dX8_join_9 : decode cX8_join 9 = .ok (.aload_n 0, 1) := by decide +kernel
theorem dX8_join_10 : decode cX8_join 10 = .ok (.iconst 1, 1) := by decide +kernel
theorem dX8_join_11 : decode cX8_join 11 = .ok (.iload_n 3, 1) := by decide +kernel
theorem dX8_join_12 : decode cX8_join 12 = .ok (.invokevirtual 48, 3) := by decide +kernel
theorem dX8_join_15 : decode cX8_join 15 = .ok (.ifCond .ne 4, 3) := by decide +kernel
theorem dX8_join_18 : decode cX8_join 18 = .ok (.return_, 1) := by decide +kernel
theorem dX8_join_19 : decode cX8_join 19 = .ok (.aload_n 0, 1) := by decide +kernel
theorem dX8_join_20 : decode cX8_join 20 = .ok (.getfield 11, 3) := by decide +kernel
theorem dX8_join_23 : decode cX8_join 23 = .ok (.iconst 0, 1) := by decide +kernel
theorem dX8_join_24 : decode cX8_join 24 = .ok (.aaload, 1) := by decide +kernel
theorem dX8_join_25 : decode cX8_join 25 = .ok (.iload_n 2, 1) := by decide +kernel
theorem dX8_join_26 : decode cX8_join 26 = .ok (.iload_n 1, 1) := by decide +kernel
theorem dX8_join_27 : decode cX8_join 27 = .ok (.iastore, 1) := by decide +kernel
theorem dX8_join_28 : decode cX8_join 28 = .ok (.aload_n 0, 1) := by decide +kernel
theorem dX8_join_29 : decode cX8_join 29 = .ok (.getfield 11, 3) := by decide +kernel
theorem dX8_join_32 : decode cX8_join 32 = .ok (.iconst 1, 1) := by decide +kernel
theorem dX8_join_33 : decode cX8_join 33 = .ok (.aaload, 1) := by decide +kernel
theorem dX8_join_34 : decode cX8_join 34 = .ok (.iload_n 3, 1) := by decide +kernel
theorem dX8_join_35 : decode cX8_join 35 = .ok (.iload_n 1, 1) := by decide +kernel
theorem dX8_join_36 : decode cX8_join 36 = .ok (.iastore, 1) := by decide +kernel
theorem dX8_join_37 : decode cX8_join 37 = .ok (.aload_n 0, 1) := by decide +kernel
theorem dX8_join_38 : decode cX8_join 38 = .ok (.getfield 16, 3) := by decide +kernel
theorem dX8_join_41 : decode cX8_join 41 = .ok (.iconst 0, 1) := by decide +kernel
theorem dX8_join_42 : decode cX8_join 42 = .ok (.aaload, 1) := by decide +kernel
theorem dX8_join_43 : decode cX8_join 43 = .ok (.iload_n 2, 1) := by decide +kernel
theorem dX8_join_44 : decode cX8_join 44 = .ok (.iload_n 3, 1) := by decide +kernel
theorem dX8_join_45 : decode cX8_join 45 = .ok (.iastore, 1) := by decide +kernel
theorem dX8_join_46 : decode cX8_join 46 = .ok (.aload_n 0, 1) := by decide +kernel
theorem dX8_join_47 : decode cX8_join 47 = .ok (.getfield 16, 3) := by decide +kernel
theorem dX8_join_50 : decode cX8_join 50 = .ok (.iconst 1, 1) := by decide +kernel
theorem dX8_join_51 : decode cX8_join 51 = .ok (.aaload, 1) := by decide +kernel
theorem dX8_join_52 : decode cX8_join 52 = .ok (.iload_n 3, 1) := by decide +kernel
theorem dX8_join_53 : decode cX8_join 53 = .ok (.iload_n 2, 1) := by decide +kernel
theorem dX8_join_54 : decode cX8_join 54 = .ok (.iastore, 1) := by decide +kernel
theorem dX8_join_55 : decode cX8_join 55 = .ok (.aload_n 0, 1) := by decide +kernel
theorem dX8_join_56 : decode cX8_join 56 = .ok (.getfield 19, 3) := by decide +kernel
theorem dX8_join_59 : decode cX8_join 59 = .ok (.iconst 0, 1) := by decide +kernel
theorem dX8_join_60 : decode cX8_join 60 = .ok (.aaload, 1) := by decide +kernel
theorem dX8_join_61 : decode cX8_join 61 = .ok (.iload_n 2, 1) := by decide +kernel
theorem dX8_join_62 : decode cX8_join 62 = .ok (.iload 4, 2) := by decide +kernel
theorem dX8_join_64 : decode cX8_join 64 = .ok (.iastore, 1) := by decide +kernel
theorem dX8_join_65 : decode cX8_join 65 = .ok (.aload_n 0, 1) := by decide +kernel
theorem dX8_join_66 : decode cX8_join 66 = .ok (.getfield 19, 3) := by decide +kernel
theorem dX8_join_69 : decode cX8_join 69 = .ok (.iconst 1, 1) := by decide +kernel
theorem dX8_join_70 : decode cX8_join 70 = .ok (.aaload, 1) := by decide +kernel
theorem dX8_join_71 : decode cX8_join 71 = .ok (.iload_n 3, 1) := by decide +kernel
theorem dX8_join_72 : decode cX8_join 72 = .ok (.iload 4, 2) := by decide +kernel
theorem dX8_join_74 : decode cX8_join 74 = .ok (.iastore, 1) := by decide +kernel
theorem dX8_join_75 : decode cX8_join 75 = .ok (.aload_n 0, 1) := by decide +kernel
theorem dX8_join_76 : decode cX8_join 76 = .ok (.getfield 22, 3) := by decide +kernel
theorem dX8_join_79 : decode cX8_join 79 = .ok (.iload_n 1, 1) := by decide +kernel
theorem dX8_join_80 : decode cX8_join 80 = .ok (.dup2, 1) := by decide +kernel
theorem dX8_join_81 : decode cX8_join 81 = .ok (.iaload, 1) := by decide +kernel
theorem dX8_join_82 : decode cX8_join 82 = .ok (.iconst 1, 1) := by decide +kernel
theorem dX8_join_83 : decode cX8_join 83 = .ok (.iadd, 1) := by decide +kernel
theorem dX8_join_84 : decode cX8_join 84 = .ok (.iastore, 1) := by decide +kernel
theorem dX8_join_85 : decode cX8_join 85 = .ok (.return_, 1) := by decide +kernel
theorem dX8_moveBlock_0 : decode cX8_moveBlock 0 = .ok (.aload_n 0, 1) := by decide +kernel
theorem dX8_moveBlock_1 : decode cX8_moveBlock 1 = .ok (.getfield 35, 3) := by decide +kernel
theorem dX8_moveBlock_4 : decode cX8_moveBlock 4 = .ok (.bipush 14, 2) := by decide +kernel
theorem dX8_moveBlock_6 : decode cX8_moveBlock 6 = .ok (.if_icmp .lt 4, 3) := by decide +kernel
theorem dX8_moveBlock_9 : decode cX8_moveBlock 9 = .ok (.return_, 1) := by decide +kernel
theorem dX8_moveBlock_10 : decode cX8_moveBlock 10 = .ok (.aload_n 0, 1) := by decide +kernel
theorem dX8_moveBlock_11 : decode cX8_moveBlock 11 = .ok (.getfield 26, 3) := by decide +kernel
theorem dX8_moveBlock_14 : decode cX8_moveBlock 14 = .ok (.aload_n 0, 1) := by decide +kernel
theorem dX8_moveBlock_15 : decode cX8_moveBlock 15 = .ok (.getfield 35, 3) := by decide +kernel
theorem dX8_moveBlock_18 : decode cX8_moveBlock 18 = .ok (.iload_n 1, 1) := by decide +kernel
theorem dX8_moveBlock_19 : decode cX8_moveBlock 19 = .ok (.iastore, 1) := by decide +kernel
theorem dX8_moveBlock_20 : decode cX8_moveBlock 20 = .ok (.aload_n 0, 1) := by decide +kernel
theorem dX8_moveBlock_21 : decode cX8_moveBlock 21 = .ok (.getfield 29, 3) := by decide +kernel
theorem dX8_moveBlock_24 : decode cX8_moveBlock 24 = .ok (.aload_n 0, 1) := by decide +kernel
theorem dX8_moveBlock_25 : decode cX8_moveBlock 25 = .ok (.getfield 35, 3) := by decide +kernel
theorem dX8_moveBlock_28 : decode cX8_moveBlock 28 = .ok (.iload_n 2, 1) := by decide +kernel
theorem dX8_moveBlock_29 : decode cX8_moveBlock 29 = .ok (.iastore, 1) := by decide +kernel
theorem dX8_moveBlock_30 : decode cX8_moveBlock 30 = .ok (.aload_n 0, 1) := by decide +kernel
theorem dX8_moveBlock_31 : decode cX8_moveBlock 31 = .ok (.getfield 32, 3) := by decide +kernel
theorem dX8_moveBlock_34 : decode cX8_moveBlock 34 = .ok (.aload_n 0, 1) := by decide +kernel
theorem dX8_moveBlock_35 : decode cX8_moveBlock 35 = .ok (.getfield 35, 3) := by decide +kernel
theorem dX8_moveBlock_38 : decode cX8_moveBlock 38 = .ok (.iload_n 3, 1) := by decide +kernel
theorem dX8_moveBlock_39 : decode cX8_moveBlock 39 = .ok (.iastore, 1) := by decide +kernel
theorem dX8_moveBlock_40 : decode cX8_moveBlock 40 = .ok (.iconst 0, 1) := by decide +kernel
theorem dX8_moveBlock_41 : decode cX8_moveBlock 41 = .ok (.istore 4, 2) := by decide +kernel
theorem dX8_moveBlock_43 : decode cX8_moveBlock 43 = .ok (.iload 4, 2) := by decide +kernel
theorem dX8_moveBlock_45 : decode cX8_moveBlock 45 = .ok (.iload_n 3, 1) := by decide +kernel
theorem dX8_moveBlock_46 : decode cX8_moveBlock 46 = .ok (.if_icmp .ge 26, 3) := by decide +kernel
theorem dX8_moveBlock_49 : decode cX8_moveBlock 49 = .ok (.aload_n 0, 1) := by decide +kernel
theorem dX8_moveBlock_50 : decode cX8_moveBlock 50 = .ok (.iconst 1, 1) := by decide +kernel
theorem dX8_moveBlock_51 : decode cX8_moveBlock 51 = .ok (.iload_n 1, 1) := by decide +kernel
theorem dX8_moveBlock_52 : decode cX8_moveBlock 52 = .ok (.iload 4, 2) := by decide +kernel
theorem dX8_moveBlock_54 : decode cX8_moveBlock 54 = .ok (.iadd, 1) := by decide +kernel
theorem dX8_moveBlock_55 : decode cX8_moveBlock 55 = .ok (.iload_n 2, 1) := by decide +kernel
theorem dX8_moveBlock_56 : decode cX8_moveBlock 56 = .ok (.iload 4, 2) := by decide +kernel
theorem dX8_moveBlock_58 : decode cX8_moveBlock 58 = .ok (.iadd, 1) := by decide +kernel
theorem dX8_moveBlock_59 : decode cX8_moveBlock 59 = .ok (.aload_n 0, 1) := by decide +kernel
theorem dX8_moveBlock_60 : decode cX8_moveBlock 60 = .ok (.getfield 35, 3) := by decide +kernel
theorem dX8_moveBlock_63 : decode cX8_moveBlock 63 = .ok (.invokevirtual 52, 3) := by decide +kernel
theorem dX8_moveBlock_66 : decode cX8_moveBlock 66 = .ok (.iinc 4 1, 3) := by decide +kernel
theorem dX8_moveBlock_69 : decode cX8_moveBlock 69 = .ok (.goto (-26), 3) := by decide +kernel
theorem dX8_moveBlock_72 : decode cX8_moveBlock 72 = .ok (.aload_n 0, 1) := by decide +kernel
theorem dX8_moveBlock_73 : decode cX8_moveBlock 73 = .ok (.dup, 1) := by decide +kernel
theorem dX8_moveBlock_74 : decode cX8_moveBlock 74 = .ok (.getfield 35, 3) := by decide +kernel
theorem dX8_moveBlock_77 : decode cX8_moveBlock 77 = .ok (.iconst 1, 1) := by decide +kernel
theorem dX8_moveBlock_78 : decode cX8_moveBlock 78 = .ok (.iadd, 1) := by decide +kernel
theorem dX8_moveBlock_79 : decode cX8_moveBlock 79 = .ok (.putfield 35, 3) := by decide +kernel
theorem dX8_moveBlock_82 : decode cX8_moveBlock 82 = .ok (.return_, 1) := by decide +kernel
theorem dX8_allCouples_0 : decode cX8_allCouples 0 = .ok (.aload_n 0, 1) := by decide +kernel
theorem dX8_allCouples_1 : decode cX8_allCouples 1 = .ok (.getfield 22, 3) := by decide +kernel
theorem dX8_allCouples_4 : decode cX8_allCouples 4 = .ok (.iconst 0, 1) := by decide +kernel
theorem dX8_allCouples_5 : decode cX8_allCouples 5 = .ok (.iaload, 1) := by decide +kernel
theorem dX8_allCouples_6 : decode cX8_allCouples 6 = .ok (.aload_n 0, 1) := by decide +kernel
theorem dX8_allCouples_7 : decode cX8_allCouples 7 = .ok (.getfield 22, 3) := by decide +kernel
theorem dX8_allCouples_10 : decode cX8_allCouples 10 = .ok (.iconst 1, 1) := by decide +kernel
theorem dX8_allCouples_11 : decode cX8_allCouples 11 = .ok (.iaload, 1) := by decide +kernel
theorem dX8_allCouples_12 : decode cX8_allCouples 12 = .ok (.iadd, 1) := by decide +kernel
theorem dX8_allCouples_13 : decode cX8_allCouples 13 = .ok (.aload_n 0, 1) := by decide +kernel
theorem dX8_allCouples_14 : decode cX8_allCouples 14 = .ok (.getfield 22, 3) := by decide +kernel
theorem dX8_allCouples_17 : decode cX8_allCouples 17 = .ok (.iconst 2, 1) := by decide +kernel
theorem dX8_allCouples_18 : decode cX8_allCouples 18 = .ok (.iaload, 1) := by decide +kernel
theorem dX8_allCouples_19 : decode cX8_allCouples 19 = .ok (.iadd, 1) := by decide +kernel
theorem dX8_allCouples_20 : decode cX8_allCouples 20 = .ok (.ireturn, 1) := by decide +kernel
theorem dX8_differencesFrom_0 : decode cX8_differencesFrom 0 = .ok (.iconst 0, 1) := by decide +kernel
theorem dX8_differencesFrom_1 : decode cX8_differencesFrom 1 = .ok (.istore_n 2, 1) := by decide +kernel
theorem dX8_differencesFrom_2 : decode cX8_differencesFrom 2 = .ok (.iconst 0, 1) := by decide +kernel
theorem dX8_differencesFrom_3 : decode cX8_differencesFrom 3 = .ok (.istore_n 3, 1) := by decide +kernel
theorem dX8_differencesFrom_4 : decode cX8_differencesFrom 4 = .ok (.iload_n 3, 1) := by decide +kernel
theorem dX8_differencesFrom_5 : decode cX8_differencesFrom 5 = .ok (.iconst 1, 1) := by decide +kernel
theorem dX8_differencesFrom_6 : decode cX8_differencesFrom 6 = .ok (.if_icmp .gt 70, 3) := by decide +kernel
theorem dX8_differencesFrom_9 : decode cX8_differencesFrom 9 = .ok (.iconst 0, 1) := by decide +kernel
theorem dX8_differencesFrom_10 : decode cX8_differencesFrom 10 = .ok (.istore 4, 2) := by decide +kernel
theorem dX8_differencesFrom_12 : decode cX8_differencesFrom 12 = .ok (.iload 4, 2) := by decide +kernel
theorem dX8_differencesFrom_14 : decode cX8_differencesFrom 14 = .ok (.bipush 14, 2) := by decide +kernel
theorem dX8_differencesFrom_16 : decode cX8_differencesFrom 16 = .ok (.if_icmp .ge 54, 3) := by decide +kernel
theorem dX8_differencesFrom_19 : decode cX8_differencesFrom 19 = .ok (.aload_n 0, 1) := by decide +kernel
theorem dX8_differencesFrom_20 : decode cX8_differencesFrom 20 = .ok (.getfield 11, 3) := by decide +kernel
theorem dX8_differencesFrom_23 : decode cX8_differencesFrom 23 = .ok (.iload_n 3, 1) := by decide +kernel
theorem dX8_differencesFrom_24 : decode cX8_differencesFrom 24 = .ok (.aaload, 1) := by decide +kernel
theorem dX8_differencesFrom_25 : decode cX8_differencesFrom 25 = .ok (.iload 4, 2) := by decide +kernel
theorem dX8_differencesFrom_27 : decode cX8_differencesFrom 27 = .ok (.iaload, 1) := by decide +kernel
theorem dX8_differencesFrom_28 : decode cX8_differencesFrom 28 = .ok (.aload_n 1, 1) := by decide +kernel
theorem dX8_differencesFrom_29 : decode cX8_differencesFrom 29 = .ok (.getfield 11, 3) := by decide +kernel
theorem dX8_differencesFrom_32 : decode cX8_differencesFrom 32 = .ok (.iload_n 3, 1) := by decide +kernel
theorem dX8_differencesFrom_33 : decode cX8_differencesFrom 33 = .ok (.aaload, 1) := by decide +kernel
theorem dX8_differencesFrom_34 : decode cX8_differencesFrom 34 = .ok (.iload 4, 2) := by decide +kernel
theorem dX8_differencesFrom_36 : decode cX8_differencesFrom 36 = .ok (.iaload, 1) := by decide +kernel
theorem dX8_differencesFrom_37 : decode cX8_differencesFrom 37 = .ok (.if_icmp .ne 24, 3) := by decide +kernel
theorem dX8_differencesFrom_40 : decode cX8_differencesFrom 40 = .ok (.aload_n 0, 1) := by decide +kernel
theorem dX8_differencesFrom_41 : decode cX8_differencesFrom 41 = .ok (.getfield 16, 3) := by decide +kernel
theorem dX8_differencesFrom_44 : decode cX8_differencesFrom 44 = .ok (.iload_n 3, 1) := by decide +kernel
theorem dX8_differencesFrom_45 : decode cX8_differencesFrom 45 = .ok (.aaload, 1) := by decide +kernel
theorem dX8_differencesFrom_46 : decode cX8_differencesFrom 46 = .ok (.iload 4, 2) := by decide +kernel
theorem dX8_differencesFrom_48 : decode cX8_differencesFrom 48 = .ok (.iaload, 1) := by decide +kernel
theorem dX8_differencesFrom_49 : decode cX8_differencesFrom 49 = .ok (.aload_n 1, 1) := by decide +kernel
theorem dX8_differencesFrom_50 : decode cX8_differencesFrom 50 = .ok (.getfield 16, 3) := by decide +kernel
theorem dX8_differencesFrom_53 : decode cX8_differencesFrom 53 = .ok (.iload_n 3, 1) := by decide +kernel
theorem dX8_differencesFrom_54 : decode cX8_differencesFrom 54 = .ok (.aaload, 1) := by decide +kernel
theorem dX8_differencesFrom_55 : decode cX8_differencesFrom 55 = .ok (.iload 4, 2) := by decide +kernel
theorem dX8_differencesFrom_57 : decode cX8_differencesFrom 57 = .ok (.iaload, 1) := by decide +kernel
theorem dX8_differencesFrom_58 : decode cX8_differencesFrom 58 = .ok (.if_icmp .eq 6, 3) := by decide +kernel
theorem dX8_differencesFrom_61 : decode cX8_differencesFrom 61 = .ok (.iinc 2 1, 3) := by decide +kernel
theorem dX8_differencesFrom_64 : decode cX8_differencesFrom 64 = .ok (.iinc 4 1, 3) := by decide +kernel
theorem dX8_differencesFrom_67 : decode cX8_differencesFrom 67 = .ok (.goto (-55), 3) := by decide +kernel
theorem dX8_differencesFrom_70 : decode cX8_differencesFrom 70 = .ok (.iinc 3 1, 3) := by decide +kernel
theorem dX8_differencesFrom_73 : decode cX8_differencesFrom 73 = .ok (.goto (-69), 3) := by decide +kernel
theorem dX8_differencesFrom_76 : decode cX8_differencesFrom 76 = .ok (.iload_n 2, 1) := by decide +kernel
theorem dX8_differencesFrom_77 : decode cX8_differencesFrom 77 = .ok (.ireturn, 1) := by decide +kernel
theorem dX9_init_0 : decode cX9_init 0 = .ok (.aload_n 0, 1) := by decide +kernel
theorem dX9_init_1 : decode cX9_init 1 = .ok (.invokespecial 1, 3) := by decide +kernel
theorem dX9_init_4 : decode cX9_init 4 = .ok (.aload_n 0, 1) := by decide +kernel
theorem dX9_init_5 : decode cX9_init 5 = .ok (.new 7, 3) := by decide +kernel
theorem dX9_init_8 : decode cX9_init 8 = .ok (.dup, 1) := by decide +kernel
theorem dX9_init_9 : decode cX9_init 9 = .ok (.invokespecial 9, 3) := by decide +kernel
theorem dX9_init_12 : decode cX9_init 12 = .ok (.putfield 10, 3) := by decide +kernel
theorem dX9_init_15 : decode cX9_init 15 = .ok (.aload_n 0, 1) := by decide +kernel
theorem dX9_init_16 : decode cX9_init 16 = .ok (.new 16, 3) := by decide +kernel
theorem dX9_init_19 : decode cX9_init 19 = .ok (.dup, 1) := by decide +kernel
theorem dX9_init_20 : decode cX9_init 20 = .ok (.invokespecial 18, 3) := by decide +kernel
theorem dX9_init_23 : decode cX9_init 23 = .ok (.putfield 19, 3) := by decide +kernel
theorem dX9_init_26 : decode cX9_init 26 = .ok (.aload_n 0, 1) := by decide +kernel
theorem dX9_init_27 : decode cX9_init 27 = .ok (.new 23, 3) := by decide +kernel
theorem dX9_init_30 : decode cX9_init 30 = .ok (.dup, 1) := by decide +kernel
theorem dX9_init_31 : decode cX9_init 31 = .ok (.invokespecial 25, 3) := by decide +kernel
theorem dX9_init_34 : decode cX9_init 34 = .ok (.putfield 26, 3) := by decide +kernel
theorem dX9_init_37 : decode cX9_init 37 = .ok (.aload_n 0, 1) := by decide +kernel
theorem dX9_init_38 : decode cX9_init 38 = .ok (.new 23, 3) := by decide +kernel
theorem dX9_init_41 : decode cX9_init 41 = .ok (.dup, 1) := by decide +kernel
theorem dX9_init_42 : decode cX9_init 42 = .ok (.invokespecial 25, 3) := by decide +kernel
theorem dX9_init_45 : decode cX9_init 45 = .ok (.putfield 30, 3) := by decide +kernel
theorem dX9_init_48 : decode cX9_init 48 = .ok (.aload_n 0, 1) := by decide +kernel
theorem dX9_init_49 : decode cX9_init 49 = .ok (.new 23, 3) := by decide +kernel
theorem dX9_init_52 : decode cX9_init 52 = .ok (.dup, 1) := by decide +kernel
theorem dX9_init_53 : decode cX9_init 53 = .ok (.invokespecial 25, 3) := by decide +kernel
theorem dX9_init_56 : decode cX9_init 56 = .ok (.putfield 33, 3) := by decide +kernel
theorem dX9_init_59 : decode cX9_init 59 = .ok (.aload_n 0, 1) := by decide +kernel
theorem dX9_init_60 : decode cX9_init 60 = .ok (.new 36, 3) := by decide +kernel
theorem dX9_init_63 : decode cX9_init 63 = .ok (.dup, 1) := by decide +kernel
theorem dX9_init_64 : decode cX9_init 64 = .ok (.invokespecial 38, 3) := by decide +kernel
theorem dX9_init_67 : decode cX9_init 67 = .ok (.putfield 39, 3) := by decide +kernel
theorem dX9_init_70 : decode cX9_init 70 = .ok (.aload_n 0, 1) := by decide +kernel
theorem dX9_init_71 : decode cX9_init 71 = .ok (.new 43, 3) := by decide +kernel
theorem dX9_init_74 : decode cX9_init 74 = .ok (.dup, 1) := by decide +kernel
theorem dX9_init_75 : decode cX9_init 75 = .ok (.invokespecial 45, 3) := by decide +kernel
theorem dX9_init_78 : decode cX9_init 78 = .ok (.putfield 46, 3) := by decide +kernel
theorem dX9_init_81 : decode cX9_init 81 = .ok (.aload_n 0, 1) := by decide +kernel
theorem dX9_init_82 : decode cX9_init 82 = .ok (.new 50, 3) := by decide +kernel
theorem dX9_init_85 : decode cX9_init 85 = .ok (.dup, 1) := by decide +kernel
theorem dX9_init_86 : decode cX9_init 86 = .ok (.invokespecial 52, 3) := by decide +kernel
theorem dX9_init_89 : decode cX9_init 89 = .ok (.putfield 53, 3) := by decide +kernel
theorem dX9_init_92 : decode cX9_init 92 = .ok (.aload_n 0, 1) := by decide +kernel
theorem dX9_init_93 : decode cX9_init 93 = .ok (.new 57, 3) := by decide +kernel
theorem dX9_init_96 : decode cX9_init 96 = .ok (.dup, 1) := by decide +kernel
theorem dX9_init_97 : decode cX9_init 97 = .ok (.invokespecial 59, 3) := by decide +kernel
theorem dX9_init_100 : decode cX9_init 100 = .ok (.putfield 60, 3) := by decide +kernel
theorem dX9_init_103 : decode cX9_init 103 = .ok (.aload_n 0, 1) := by decide +kernel
theorem dX9_init_104 : decode cX9_init 104 = .ok (.new 57, 3) := by decide +kernel
theorem dX9_init_107 : decode cX9_init 107 = .ok (.dup, 1) := by decide +kernel
theorem dX9_init_108 : decode cX9_init 108 = .ok (.invokespecial 59, 3) := by decide +kernel
theorem dX9_init_111 : decode cX9_init 111 = .ok (.putfield 64, 3) := by decide +kernel
theorem dX9_init_114 : decode cX9_init 114 = .ok (.aload_n 0, 1) := by decide +kernel
theorem dX9_init_115 : decode cX9_init 115 = .ok (.iconst 1, 1) := by decide +kernel
theorem dX9_init_116 : decode cX9_init 116 = .ok (.putfield 67, 3) := by decide +kernel
theorem dX9_init_119 : decode cX9_init 119 = .ok (.return_, 1) := by decide +kernel
theorem dX9_feed_0 : decode cX9_feed 0 = .ok (.aload_n 0, 1) := by decide +kernel
theorem dX9_feed_1 : decode cX9_feed 1 = .ok (.getfield 10, 3) := by decide +kernel
theorem dX9_feed_4 : decode cX9_feed 4 = .ok (.getfield 71, 3) := by decide +kernel
theorem dX9_feed_7 : decode cX9_feed 7 = .ok (.sipush 620, 3) := by decide +kernel
theorem dX9_feed_10 : decode cX9_feed 10 = .ok (.if_icmp .le 5, 3) := by decide +kernel
theorem dX9_feed_13 : decode cX9_feed 13 = .ok (.iconst (-1), 1) := by decide +kernel
theorem dX9_feed_14 : decode cX9_feed 14 = .ok (.ireturn, 1) := by decide +kernel
theorem dX9_feed_15 : decode cX9_feed 15 = .ok (.aload_n 0, 1) := by decide +kernel
theorem dX9_feed_16 : decode cX9_feed 16 = .ok (.getfield 10, 3) := by decide +kernel
theorem dX9_feed_19 : decode cX9_feed 19 = .ok (.iload_n 1, 1) := by decide +kernel
theorem dX9_feed_20 : decode cX9_feed 20 = .ok (.invokevirtual 75, 3) := by decide +kernel
theorem dX9_feed_23 : decode cX9_feed 23 = .ok (.aload_n 0, 1) := by decide +kernel
theorem dX9_feed_24 : decode cX9_feed 24 = .ok (.getfield 10, 3) := by decide +kernel
theorem dX9_feed_27 : decode cX9_feed 27 = .ok (.iload_n 2, 1) := by decide +kernel
theorem dX9_feed_28 : decode cX9_feed 28 = .ok (.invokevirtual 75, 3) := by decide +kernel
theorem dX9_feed_31 : decode cX9_feed 31 = .ok (.aload_n 0, 1) := by decide +kernel
theorem dX9_feed_32 : decode cX9_feed 32 = .ok (.getfield 10, 3) := by decide +kernel
theorem dX9_feed_35 : decode cX9_feed 35 = .ok (.iload_n 3, 1) := by decide +kernel
theorem dX9_feed_36 : decode cX9_feed 36 = .ok (.invokevirtual 75, 3) := by decide +kernel
theorem dX9_feed_39 : decode cX9_feed 39 = .ok (.aload_n 0, 1) := by decide +kernel
theorem dX9_feed_40 : decode cX9_feed 40 = .ok (.getfield 10, 3) := by decide +kernel
theorem dX9_feed_43 : decode cX9_feed 43 = .ok (.iload 4, 2) := by decide +kernel
theorem dX9_feed_45 : decode cX9_feed 45 = .ok (.invokevirtual 75, 3) := by decide +kernel
theorem dX9_feed_48 : decode cX9_feed 48 = .ok (.aload_n 0, 1) := by decide +kernel
theorem dX9_feed_49 : decode cX9_feed 49 = .ok (.getfield 10, 3) := by decide +kernel
theorem dX9_feed_52 : decode cX9_feed 52 = .ok (.iload 5, 2) := by decide +kernel
theorem dX9_feed_54 : decode cX9_feed 54 = .ok (.invokevirtual 75, 3) := by decide +kernel
theorem dX9_feed_57 : decode cX9_feed 57 = .ok (.aload_n 0, 1) := by decide +kernel
theorem dX9_feed_58 : decode cX9_feed 58 = .ok (.getfield 10, 3) := by decide +kernel
theorem dX9_feed_61 : decode cX9_feed 61 = .ok (.getfield 71, 3) := by decide +kernel
theorem dX9_feed_64 : decode cX9_feed 64 = .ok (.ireturn, 1) := by decide +kernel
theorem dX9_end_0 : decode cX9_end 0 = .ok (.iload_n 1, 1) := by decide +kernel
theorem dX9_end_1 : decode cX9_end 1 = .ok (.ifCond .lt 14, 3) := by decide +kernel
theorem dX9_end_4 : decode cX9_end 4 = .ok (.iload_n 1, 1) := by decide +kernel
theorem dX9_end_5 : decode cX9_end 5 = .ok (.aload_n 0, 1) := by decide +kernel
theorem dX9_end_6 : decode cX9_end 6 = .ok (.getfield 10, 3) := by decide +kernel
theorem dX9_end_9 : decode cX9_end 9 = .ok (.getfield 71, 3) := by decide +kernel
theorem dX9_end_12 : decode cX9_end 12 = .ok (.if_icmp .le 5, 3) := by decide +kernel
theorem dX9_end_15 : decode cX9_end 15 = .ok (.iconst 0, 1) := by decide +kernel
theorem dX9_end_16 : decode cX9_end 16 = .ok (.ireturn, 1) := by decide +kernel
theorem dX9_end_17 : decode cX9_end 17 = .ok (.aload_n 0, 1) := by decide +kernel
theorem dX9_end_18 : decode cX9_end 18 = .ok (.getfield 10, 3) := by decide +kernel
theorem dX9_end_21 : decode cX9_end 21 = .ok (.iload_n 1, 1) := by decide +kernel
theorem dX9_end_22 : decode cX9_end 22 = .ok (.putfield 71, 3) := by decide +kernel
theorem dX9_end_25 : decode cX9_end 25 = .ok (.iconst 1, 1) := by decide +kernel
theorem dX9_end_26 : decode cX9_end 26 = .ok (.ireturn, 1) := by decide +kernel
theorem dX9_edition_0 : decode cX9_edition 0 = .ok (.iload_n 1, 1) := by decide +kernel
theorem dX9_edition_1 : decode cX9_edition 1 = .ok (.invokestatic 79, 3) := by decide +kernel
theorem dX9_edition_4 : decode cX9_edition 4 = .ok (.ifCond .ne 5, 3) := by decide +kernel
theorem dX9_edition_7 : decode cX9_edition 7 = .ok (.iconst (-1), 1) := by decide +kernel
theorem dX9_edition_8 : decode cX9_edition 8 = .ok (.ireturn, 1) := by decide +kernel
theorem dX9_edition_9 : decode cX9_edition 9 = .ok (.aload_n 0, 1) := by decide +kernel
theorem dX9_edition_10 : decode cX9_edition 10 = .ok (.iconst 1, 1) := by decide +kernel
theorem dX9_edition_11 : decode cX9_edition 11 = .ok (.invokevirtual 83, 3) := by decide +kernel
theorem dX9_edition_14 : decode cX9_edition 14 = .ok (.ifCond .ne 14, 3) := by decide +kernel
theorem dX9_edition_17 : decode cX9_edition 17 = .ok (.bipush (-2), 2) := by decide +kernel
theorem dX9_edition_19 : decode cX9_edition 19 = .ok (.aload_n 0, 1) := by decide +kernel
theorem dX9_edition_20 : decode cX9_edition 20 = .ok (.getfield 19, 3) := by decide +kernel
theorem dX9_edition_23 : decode cX9_edition 23 = .ok (.getfield 87, 3) := by decide +kernel
theorem dX9_edition_26 : decode cX9_edition 26 = .ok (.isub, 1) := by decide +kernel
theorem dX9_edition_27 : decode cX9_edition 27 = .ok (.ireturn, 1) := by decide +kernel
theorem dX9_edition_28 : decode cX9_edition 28 = .ok (.aload_n 0, 1) := by decide +kernel
theorem dX9_edition_29 : decode cX9_edition 29 = .ok (.iload_n 1, 1) := by decide +kernel
theorem dX9_edition_30 : decode cX9_edition 30 = .ok (.invokevirtual 90, 3) := by decide +kernel
theorem dX9_edition_33 : decode cX9_edition 33 = .ok (.aload_n 0, 1) := by decide +kernel
theorem dX9_edition_34 : decode cX9_edition 34 = .ok (.getfield 19, 3) := by decide +kernel
theorem dX9_edition_37 : decode cX9_edition 37 = .ok (.getfield 94, 3) := by decide +kernel
theorem dX9_edition_40 : decode cX9_edition 40 = .ok (.invokevirtual 97, 3) := by decide +kernel
theorem dX9_edition_43 : decode cX9_edition 43 = .ok (.aload_n 0, 1) := by decide +kernel
theorem dX9_edition_44 : decode cX9_edition 44 = .ok (.getfield 39, 3) := by decide +kernel
theorem dX9_edition_47 : decode cX9_edition 47 = .ok (.invokevirtual 101, 3) := by decide +kernel
theorem dX9_edition_50 : decode cX9_edition 50 = .ok (.aload_n 0, 1) := by decide +kernel
theorem dX9_edition_51 : decode cX9_edition 51 = .ok (.iconst 1, 1) := by decide +kernel
theorem dX9_edition_52 : decode cX9_edition 52 = .ok (.putfield 67, 3) := by decide +kernel
theorem dX9_edition_55 : decode cX9_edition 55 = .ok (.aload_n 0, 1) := by decide +kernel
theorem dX9_edition_56 : decode cX9_edition 56 = .ok (.iload_n 1, 1) := by decide +kernel
theorem dX9_edition_57 : decode cX9_edition 57 = .ok (.invokevirtual 90, 3) := by decide +kernel
theorem dX9_edition_60 : decode cX9_edition 60 = .ok (.getfield 104, 3) := by decide +kernel
theorem dX9_edition_63 : decode cX9_edition 63 = .ok (.ireturn, 1) := by decide +kernel
theorem dX9_fault_0 : decode cX9_fault 0 = .ok (.aload_n 0, 1) := by decide +kernel
theorem dX9_fault_1 : decode cX9_fault 1 = .ok (.getfield 19, 3) := by decide +kernel
theorem dX9_fault_4 : decode cX9_fault 4 = .ok (.getfield 107, 3) := by decide +kernel
theorem dX9_fault_7 : decode cX9_fault 7 = .ok (.ireturn, 1) := by decide +kernel
theorem dX9_now_0 : decode cX9_now 0 = .ok (.iload_n 1, 1) := by decide +kernel
theorem dX9_now_1 : decode cX9_now 1 = .ok (.tableswitch 157 0 9 #[55, 63, 71, 81, 91, 99, 109, 125, 141, 149], 55) := by decide +kernel
theorem dX9_now_56 : decode cX9_now 56 = .ok (.aload_n 0, 1) := by decide +kernel
theorem dX9_now_57 : decode cX9_now 57 = .ok (.getfield 26, 3) := by decide +kernel
theorem dX9_now_60 : decode cX9_now 60 = .ok (.getfield 104, 3) := by decide +kernel
theorem dX9_now_63 : decode cX9_now 63 = .ok (.ireturn, 1) := by decide +kernel
theorem dX9_now_64 : decode cX9_now 64 = .ok (.aload_n 0, 1) := by decide +kernel
theorem dX9_now_65 : decode cX9_now 65 = .ok (.getfield 30, 3) := by decide +kernel
theorem dX9_now_68 : decode cX9_now 68 = .ok (.getfield 104, 3) := by decide +kernel
theorem dX9_now_71 : decode cX9_now 71 = .ok (.ireturn, 1) := by decide +kernel
theorem dX9_now_72 : decode cX9_now 72 = .ok (.aload_n 0, 1) := by decide +kernel
theorem dX9_now_73 : decode cX9_now 73 = .ok (.invokevirtual 110, 3) := by decide +kernel
theorem dX9_now_76 : decode cX9_now 76 = .ok (.getfield 114, 3) := by decide +kernel
theorem dX9_now_79 : decode cX9_now 79 = .ok (.iconst 0, 1) := by decide +kernel
theorem dX9_now_80 : decode cX9_now 80 = .ok (.iaload, 1) := by decide +kernel
theorem dX9_now_81 : decode cX9_now 81 = .ok (.ireturn, 1) := by decide +kernel
theorem dX9_now_82 : decode cX9_now 82 = .ok (.aload_n 0, 1) := by decide +kernel
theorem dX9_now_83 : decode cX9_now 83 = .ok (.invokevirtual 110, 3) := by decide +kernel
theorem dX9_now_86 : decode cX9_now 86 = .ok (.getfield 114, 3) := by decide +kernel
theorem dX9_now_89 : decode cX9_now 89 = .ok (.iconst 1, 1) := by decide +kernel
theorem dX9_now_90 : decode cX9_now 90 = .ok (.iaload, 1) := by decide +kernel
theorem dX9_now_91 : decode cX9_now 91 = .ok (.ireturn, 1) := by decide +kernel
theorem dX9_now_92 : decode cX9_now 92 = .ok (.aload_n 0, 1) := by decide +kernel
theorem dX9_now_93 : decode cX9_now 93 = .ok (.invokevirtual 110, 3) := by decide +kernel
theorem dX9_now_96 : decode cX9_now 96 = .ok (.getfield 118, 3) := by decide +kernel
theorem dX9_now_99 : decode cX9_now 99 = .ok (.ireturn, 1) := by decide +kernel
theorem dX9_now_100 : decode cX9_now 100 = .ok (.aload_n 0, 1) := by decide +kernel
theorem dX9_now_101 : decode cX9_now 101 = .ok (.invokevirtual 110, 3) := by decide +kernel
theorem dX9_now_104 : decode cX9_now 104 = .ok (.getfield 114, 3) := by decide +kernel
theorem dX9_now_107 : decode cX9_now 107 = .ok (.iconst 2, 1) := by decide +kernel
theorem dX9_now_108 : decode cX9_now 108 = .ok (.iaload, 1) := by decide +kernel
theorem dX9_now_109 : decode cX9_now 109 = .ok (.ireturn, 1) := by decide +kernel
theorem dX9_now_110 : decode cX9_now 110 = .ok (.aload_n 0, 1) := by decide +kernel
theorem dX9_now_111 : decode cX9_now 111 = .ok (.getfield 26, 3) := by decide +kernel
theorem dX9_now_114 : decode cX9_now 114 = .ok (.getfield 104, 3) := by decide +kernel
theorem dX9_now_117 : decode cX9_now 117 = .ok (.aload_n 0, 1) := by decide +kernel
theorem dX9_now_118 : decode cX9_now 118 = .ok (.invokevirtual 110, 3) := by decide +kernel
theorem dX9_now_121 : decode cX9_now 121 = .ok (.invokevirtual 121, 3) := by decide +kernel
theorem dX9_now_124 : decode cX9_now 124 = .ok (.isub, 1) := by decide +kernel
theorem dX9_now_125 : decode cX9_now 125 = .ok (.ireturn, 1) := by decide +kernel
theorem dX9_now_126 : decode cX9_now 126 = .ok (.aload_n 0, 1) := by decide +kernel
theorem dX9_now_127 : decode cX9_now 127 = .ok (.getfield 30, 3) := by decide +kernel
theorem dX9_now_130 : decode cX9_now 130 = .ok (.getfield 104, 3) := by decide +kernel
theorem dX9_now_133 : decode cX9_now 133 = .ok (.aload_n 0, 1) := by decide +kernel
theorem dX9_now_134 : decode cX9_now 134 = .ok (.invokevirtual 110, 3) := by decide +kernel
theorem dX9_now_137 : decode cX9_now 137 = .ok (.invokevirtual 121, 3) := by decide +kernel
theorem dX9_now_140 : decode cX9_now 140 = .ok (.isub, 1) := by decide +kernel
theorem dX9_now_141 : decode cX9_now 141 = .ok (.ireturn, 1) := by decide +kernel
theorem dX9_now_142 : decode cX9_now 142 = .ok (.aload_n 0, 1) := by decide +kernel
theorem dX9_now_143 : decode cX9_now 143 = .ok (.getfield 39, 3) := by decide +kernel
theorem dX9_now_146 : decode cX9_now 146 = .ok (.getfield 125, 3) := by decide +kernel
theorem dX9_now_149 : decode cX9_now 149 = .ok (.ireturn, 1) := by decide +kernel
theorem dX9_now_150 : decode cX9_now 150 = .ok (.aload_n 0, 1) := by decide +kernel
theorem dX9_now_151 : decode cX9_now 151 = .ok (.getfield 10, 3) := by decide +kernel
theorem dX9_now_154 : decode cX9_now 154 = .ok (.getfield 71, 3) := by decide +kernel
theorem dX9_now_157 : decode cX9_now 157 = .ok (.ireturn, 1) := by decide +kernel
theorem dX9_now_158 : decode cX9_now 158 = .ok (.iconst (-1), 1) := by decide +kernel
theorem dX9_now_159 : decode cX9_now 159 = .ok (.ireturn, 1) := by decide +kernel
theorem dX9_line_0 : decode cX9_line 0 = .ok (.aload_n 0, 1) := by decide +kernel
theorem dX9_line_1 : decode cX9_line 1 = .ok (.iload_n 1, 1) := by decide +kernel
theorem dX9_line_2 : decode cX9_line 2 = .ok (.iload_n 2, 1) := by decide +kernel
theorem dX9_line_3 : decode cX9_line 3 = .ok (.invokevirtual 128, 3) := by decide +kernel
theorem dX9_line_6 : decode cX9_line 6 = .ok (.ifCond .ne 13, 3) := by decide +kernel
theorem dX9_line_9 : decode cX9_line 9 = .ok (.new 132, 3) := by decide +kernel
theorem dX9_line_12 : decode cX9_line 12 = .ok (.dup, 1) := by decide +kernel
theorem dX9_line_13 : decode cX9_line 13 = .ok (.ldc 134, 2) := by decide +kernel
theorem dX9_line_15 : decode cX9_line 15 = .ok (.invokespecial 136, 3) := by decide +kernel
theorem dX9_line_18 : decode cX9_line 18 = .ok (.athrow, 1) := by decide +kernel
theorem dX9_line_19 : decode cX9_line 19 = .ok (.iload_n 3, 1) := by decide +kernel
theorem dX9_line_20 : decode cX9_line 20 = .ok (.tableswitch 78 0 3 #[32, 42, 54, 66], 32) := by decide +kernel
theorem dX9_line_52 : decode cX9_line 52 = .ok (.aload_n 0, 1) := by decide +kernel
theorem dX9_line_53 : decode cX9_line 53 = .ok (.iload_n 1, 1) := by decide +kernel
theorem dX9_line_54 : decode cX9_line 54 = .ok (.invokevirtual 90, 3) := by decide +kernel
theorem dX9_line_57 : decode cX9_line 57 = .ok (.iload_n 2, 1) := by decide +kernel
theorem dX9_line_58 : decode cX9_line 58 = .ok (.invokevirtual 139, 3) := by decide +kernel
theorem dX9_line_61 : decode cX9_line 61 = .ok (.ireturn, 1) := by decide +kernel
theorem dX9_line_62 : decode cX9_line 62 = .ok (.aload_n 0, 1) := by decide +kernel
theorem dX9_line_63 : decode cX9_line 63 = .ok (.invokevirtual 110, 3) := by decide +kernel
theorem dX9_line_66 : decode cX9_line 66 = .ok (.getfield 143, 3) := by decide +kernel
theorem dX9_line_69 : decode cX9_line 69 = .ok (.iload_n 1, 1) := by decide +kernel
theorem dX9_line_70 : decode cX9_line 70 = .ok (.aaload, 1) := by decide +kernel
theorem dX9_line_71 : decode cX9_line 71 = .ok (.iload_n 2, 1) := by decide +kernel
theorem dX9_line_72 : decode cX9_line 72 = .ok (.iaload, 1) := by decide +kernel
theorem dX9_line_73 : decode cX9_line 73 = .ok (.ireturn, 1) := by decide +kernel
theorem dX9_line_74 : decode cX9_line 74 = .ok (.aload_n 0, 1) := by decide +kernel
theorem dX9_line_75 : decode cX9_line 75 = .ok (.invokevirtual 110, 3) := by decide +kernel
theorem dX9_line_78 : decode cX9_line 78 = .ok (.getfield 147, 3) := by decide +kernel
theorem dX9_line_81 : decode cX9_line 81 = .ok (.iload_n 1, 1) := by decide +kernel
theorem dX9_line_82 : decode cX9_line 82 = .ok (.aaload, 1) := by decide +kernel
theorem dX9_line_83 : decode cX9_line 83 = .ok (.iload_n 2, 1) := by decide +kernel
theorem dX9_line_84 : decode cX9_line 84 = .ok (.iaload, 1) := by decide +kernel
theorem dX9_line_85 : decode cX9_line 85 = .ok (.ireturn, 1) := by decide +kernel
theorem dX9_line_86 : decode cX9_line 86 = .ok (.aload_n 0, 1) := by decide +kernel
theorem dX9_line_87 : decode cX9_line 87 = .ok (.invokevirtual 110, 3) := by decide +kernel
theorem dX9_line_90 : decode cX9_line 90 = .ok (.getfield 150, 3) := by decide +kernel
theorem dX9_line_93 : decode cX9_line 93 = .ok (.iload_n 1, 1) := by decide +kernel
theorem dX9_line_94 : decode cX9_line 94 = .ok (.aaload, 1) := by decide +kernel
theorem dX9_line_95 : decode cX9_line 95 = .ok (.iload_n 2, 1) := by decide +kernel
theorem dX9_line_96 : decode cX9_line 96 = .ok (.iaload, 1) := by decide +kernel
theorem dX9_line_97 : decode cX9_line 97 = .ok (.ireturn, 1) := by decide +kernel
theorem dX9_line_98 : decode cX9_line 98 = .ok (.new 132, 3) := by decide +kernel
theorem dX9_line_101 : decode cX9_line 101 = .ok (.dup, 1) := by decide +kernel
theorem dX9_line_102 : decode cX9_line 102 = .ok (.ldc 153, 2) := by decide +kernel
theorem dX9_line_104 : decode cX9_line 104 = .ok (.invokespecial 136, 3) := by decide +kernel
theorem dX9_line_107 : decode cX9_line 107 = .ok (.athrow, 1) := by decide +kernel
theorem dX9_letter_0 : decode cX9_letter 0 = .ok (.aload_n 0, 1) := by decide +kernel
theorem dX9_letter_1 : decode cX9_letter 1 = .ok (.iload_n 1, 1) := by decide +kernel
theorem dX9_letter_2 : decode cX9_letter 2 = .ok (.iload_n 2, 1) := by decide +kernel
theorem dX9_letter_3 : decode cX9_letter 3 = .ok (.invokevirtual 128, 3) := by decide +kernel
theorem dX9_letter_6 : decode cX9_letter 6 = .ok (.ifCond .ne 5, 3) := by decide +kernel
theorem dX9_letter_9 : decode cX9_letter 9 = .ok (.iconst (-1), 1) := by decide +kernel
theorem dX9_letter_10 : decode cX9_letter 10 = .ok (.ireturn, 1) := by decide +kernel
theorem dX9_letter_11 : decode cX9_letter 11 = .ok (.aload_n 0, 1) := by decide +kernel
theorem dX9_letter_12 : decode cX9_letter 12 = .ok (.iload_n 1, 1) := by decide +kernel
theorem dX9_letter_13 : decode cX9_letter 13 = .ok (.invokevirtual 90, 3) := by decide +kernel
theorem dX9_letter_16 : decode cX9_letter 16 = .ok (.iload_n 2, 1) := by decide +kernel
theorem dX9_letter_17 : decode cX9_letter 17 = .ok (.iload_n 3, 1) := by decide +kernel
theorem dX9_letter_18 : decode cX9_letter 18 = .ok (.invokevirtual 155, 3) := by decide +kernel
theorem dX9_letter_21 : decode cX9_letter 21 = .ok (.istore 5, 2) := by decide +kernel
theorem dX9_letter_23 : decode cX9_letter 23 = .ok (.iload 5, 2) := by decide +kernel
theorem dX9_letter_25 : decode cX9_letter 25 = .ok (.ifCond .ne 5, 3) := by decide +kernel
theorem dX9_letter_28 : decode cX9_letter 28 = .ok (.iconst (-1), 1) := by decide +kernel
theorem dX9_letter_29 : decode cX9_letter 29 = .ok (.ireturn, 1) := by decide +kernel
theorem dX9_letter_30 : decode cX9_letter 30 = .ok (.iload 4, 2) := by decide +kernel
theorem dX9_letter_32 : decode cX9_letter 32 = .ok (.iconst (-1), 1) := by decide +kernel
theorem dX9_letter_33 : decode cX9_letter 33 = .ok (.if_icmp .ne 6, 3) := by decide +kernel
theorem dX9_letter_36 : decode cX9_letter 36 = .ok (.iload 5, 2) := by decide +kernel
theorem dX9_letter_38 : decode cX9_letter 38 = .ok (.ireturn, 1) := by decide +kernel
theorem dX9_letter_39 : decode cX9_letter 39 = .ok (.iload 4, 2) := by decide +kernel
theorem dX9_letter_41 : decode cX9_letter 41 = .ok (.ifCond .lt 28, 3) := by decide +kernel
theorem dX9_letter_44 : decode cX9_letter 44 = .ok (.iload 4, 2) := by decide +kernel
theorem dX9_letter_46 : decode cX9_letter 46 = .ok (.iload 5, 2) := by decide +kernel
theorem dX9_letter_48 : decode cX9_letter 48 = .ok (.if_icmp .ge 21, 3) := by decide +kernel
theorem dX9_letter_51 : decode cX9_letter 51 = .ok (.aload_n 0, 1) := by decide +kernel
theorem dX9_letter_52 : decode cX9_letter 52 = .ok (.iload_n 1, 1) := by decide +kernel
theorem dX9_letter_53 : decode cX9_letter 53 = .ok (.invokevirtual 90, 3) := by decide +kernel
theorem dX9_letter_56 : decode cX9_letter 56 = .ok (.iload_n 2, 1) := by decide +kernel
theorem dX9_letter_57 : decode cX9_letter 57 = .ok (.iload_n 3, 1) := by decide +kernel
theorem dX9_letter_58 : decode cX9_letter 58 = .ok (.invokevirtual 159, 3) := by decide +kernel
theorem dX9_letter_61 : decode cX9_letter 61 = .ok (.iload 4, 2) := by decide +kernel
theorem dX9_letter_63 : decode cX9_letter 63 = .ok (.invokestatic 162, 3) := by decide +kernel
theorem dX9_letter_66 : decode cX9_letter 66 = .ok (.goto 4, 3) := by decide +kernel
theorem dX9_letter_69 : decode cX9_letter 69 = .ok (.iconst (-1), 1) := by decide +kernel
theorem dX9_letter_70 : decode cX9_letter 70 = .ok (.ireturn, 1) := by decide +kernel
theorem dX9_block_0 : decode cX9_block 0 = .ok (.aload_n 0, 1) := by decide +kernel
theorem dX9_block_1 : decode cX9_block 1 = .ok (.invokevirtual 110, 3) := by decide +kernel
theorem dX9_block_4 : decode cX9_block 4 = .ok (.astore_n 3, 1) := by decide +kernel
theorem dX9_block_5 : decode cX9_block 5 = .ok (.iload_n 1, 1) := by decide +kernel
theorem dX9_block_6 : decode cX9_block 6 = .ok (.ifCond .lt 11, 3) := by decide +kernel
theorem dX9_block_9 : decode cX9_block 9 = .ok (.iload_n 1, 1) := by decide +kernel
theorem dX9_block_10 : decode cX9_block 10 = .ok (.aload_n 3, 1) := by decide +kernel
theorem dX9_block_11 : decode cX9_block 11 = .ok (.getfield 118, 3) := by decide +kernel
theorem dX9_block_14 : decode cX9_block 14 = .ok (.if_icmp .lt 5, 3) := by decide +kernel
theorem dX9_block_17 : decode cX9_block 17 = .ok (.iconst (-1), 1) := by decide +kernel
theorem dX9_block_18 : decode cX9_block 18 = .ok (.ireturn, 1) := by decide +kernel
theorem dX9_block_19 : decode cX9_block 19 = .ok (.iload_n 2, 1) := by decide +kernel
theorem dX9_block_20 : decode cX9_block 20 = .ok (.tableswitch 49 0 2 #[28, 35, 42], 28) := by decide +kernel
theorem dX9_block_48 : decode cX9_block 48 = .ok (.aload_n 3, 1) := by decide +kernel
theorem dX9_block_49 : decode cX9_block 49 = .ok (.getfield 165, 3) := by decide +kernel
theorem dX9_block_52 : decode cX9_block 52 = .ok (.iload_n 1, 1) := by decide +kernel
theorem dX9_block_53 : decode cX9_block 53 = .ok (.iaload, 1) := by decide +kernel
theorem dX9_block_54 : decode cX9_block 54 = .ok (.ireturn, 1) := by decide +kernel
theorem dX9_block_55 : decode cX9_block 55 = .ok (.aload_n 3, 1) := by decide +kernel
theorem dX9_block_56 : decode cX9_block 56 = .ok (.getfield 168, 3) := by decide +kernel
theorem dX9_block_59 : decode cX9_block 59 = .ok (.iload_n 1, 1) := by decide +kernel
theorem dX9_block_60 : decode cX9_block 60 = .ok (.iaload, 1) := by decide +kernel
theorem dX9_block_61 : decode cX9_block 61 = .ok (.ireturn, 1) := by decide +kernel
theorem dX9_block_62 : decode cX9_block 62 = .ok (.aload_n 3, 1) := by decide +kernel
theorem dX9_block_63 : decode cX9_block 63 = .ok (.getfield 171, 3) := by decide +kernel
theorem dX9_block_66 : decode cX9_block 66 = .ok (.iload_n 1, 1) := by decide +kernel
theorem dX9_block_67 : decode cX9_block 67 = .ok (.iaload, 1) := by decide +kernel
theorem dX9_block_68 : decode cX9_block 68 = .ok (.ireturn, 1) := by decide +kernel
theorem dX9_block_69 : decode cX9_block 69 = .ok (.iconst (-1), 1) := by decide +kernel
theorem dX9_block_70 : decode cX9_block 70 = .ok (.ireturn, 1) := by decide +kernel
theorem dX9_shared_0 : decode cX9_shared 0 = .ok (.aload_n 0, 1) := by decide +kernel
theorem dX9_shared_1 : decode cX9_shared 1 = .ok (.iconst 0, 1) := by decide +kernel
theorem dX9_shared_2 : decode cX9_shared 2 = .ok (.iload_n 1, 1) := by decide +kernel
theorem dX9_shared_3 : decode cX9_shared 3 = .ok (.invokevirtual 128, 3) := by decide +kernel
theorem dX9_shared_6 : decode cX9_shared 6 = .ok (.ifCond .eq 12, 3) := by decide +kernel
theorem dX9_shared_9 : decode cX9_shared 9 = .ok (.aload_n 0, 1) := by decide +kernel
theorem dX9_shared_10 : decode cX9_shared 10 = .ok (.iconst 1, 1) := by decide +kernel
theorem dX9_shared_11 : decode cX9_shared 11 = .ok (.iload_n 2, 1) := by decide +kernel
theorem dX9_shared_12 : decode cX9_shared 12 = .ok (.invokevirtual 128, 3) := by decide +kernel
theorem dX9_shared_15 : decode cX9_shared 15 = .ok (.ifCond .ne 5, 3) := by decide +kernel
theorem dX9_shared_18 : decode cX9_shared 18 = .ok (.iconst (-1), 1) := by decide +kernel
theorem dX9_shared_19 : decode cX9_shared 19 = .ok (.ireturn, 1) := by decide +kernel
theorem dX9_shared_20 : decode cX9_shared 20 = .ok (.aload_n 0, 1) := by decide +kernel
theorem dX9_shared_21 : decode cX9_shared 21 = .ok (.iload_n 1, 1) := by decide +kernel
theorem dX9_shared_22 : decode cX9_shared 22 = .ok (.iload_n 2, 1) := by decide +kernel
theorem dX9_shared_23 : decode cX9_shared 23 = .ok (.invokevirtual 174, 3) := by decide +kernel
theorem dX9_shared_26 : decode cX9_shared 26 = .ok (.ireturn, 1) := by decide +kernel
theorem dX9_stays_0 : decode cX9_stays 0 = .ok (.aload_n 0, 1) := by decide +kernel
theorem dX9_stays_1 : decode cX9_stays 1 = .ok (.iconst 0, 1) := by decide +kernel
theorem dX9_stays_2 : decode cX9_stays 2 = .ok (.iload_n 1, 1) := by decide +kernel
theorem dX9_stays_3 : decode cX9_stays 3 = .ok (.invokevirtual 128, 3) := by decide +kernel
theorem dX9_stays_6 : decode cX9_stays 6 = .ok (.ifCond .eq 12, 3) := by decide +kernel
theorem dX9_stays_9 : decode cX9_stays 9 = .ok (.aload_n 0, 1) := by decide +kernel
theorem dX9_stays_10 : decode cX9_stays 10 = .ok (.iconst 1, 1) := by decide +kernel
theorem dX9_stays_11 : decode cX9_stays 11 = .ok (.iload_n 3, 1) := by decide +kernel
theorem dX9_stays_12 : decode cX9_stays 12 = .ok (.invokevirtual 128, 3) := by decide +kernel
theorem dX9_stays_15 : decode cX9_stays 15 = .ok (.ifCond .ne 5, 3) := by decide +kernel
theorem dX9_stays_18 : decode cX9_stays 18 = .ok (.iconst (-1), 1) := by decide +kernel
theorem dX9_stays_19 : decode cX9_stays 19 = .ok (.ireturn, 1) := by decide +kernel
theorem dX9_stays_20 : decode cX9_stays 20 = .ok (.aload_n 0, 1) := by decide +kernel
theorem dX9_stays_21 : decode cX9_stays 21 = .ok (.iload_n 1, 1) := by decide +kernel
theorem dX9_stays_22 : decode cX9_stays 22 = .ok (.iload_n 3, 1) := by decide +kernel
theorem dX9_stays_23 : decode cX9_stays 23 = .ok (.invokevirtual 174, 3) := by decide +kernel
theorem dX9_stays_26 : decode cX9_stays 26 = .ok (.pop, 1) := by decide +kernel
theorem dX9_stays_27 : decode cX9_stays 27 = .ok (.aload_n 0, 1) := by decide +kernel
theorem dX9_stays_28 : decode cX9_stays 28 = .ok (.getfield 53, 3) := by decide +kernel
theorem dX9_stays_31 : decode cX9_stays 31 = .ok (.iload_n 2, 1) := by decide +kernel
theorem dX9_stays_32 : decode cX9_stays 32 = .ok (.invokevirtual 177, 3) := by decide +kernel
theorem dX9_stays_35 : decode cX9_stays 35 = .ok (.ireturn, 1) := by decide +kernel
theorem dX9_most_0 : decode cX9_most 0 = .ok (.aload_n 0, 1) := by decide +kernel
theorem dX9_most_1 : decode cX9_most 1 = .ok (.getfield 46, 3) := by decide +kernel
theorem dX9_most_4 : decode cX9_most 4 = .ok (.aload_n 0, 1) := by decide +kernel
theorem dX9_most_5 : decode cX9_most 5 = .ok (.getfield 26, 3) := by decide +kernel
theorem dX9_most_8 : decode cX9_most 8 = .ok (.aload_n 0, 1) := by decide +kernel
theorem dX9_most_9 : decode cX9_most 9 = .ok (.getfield 30, 3) := by decide +kernel
theorem dX9_most_12 : decode cX9_most 12 = .ok (.invokevirtual 180, 3) := by decide +kernel
theorem dX9_most_15 : decode cX9_most 15 = .ok (.ireturn, 1) := by decide +kernel
theorem dX9_changes_0 : decode cX9_changes 0 = .ok (.aload_n 0, 1) := by decide +kernel
theorem dX9_changes_1 : decode cX9_changes 1 = .ok (.invokevirtual 110, 3) := by decide +kernel
theorem dX9_changes_4 : decode cX9_changes 4 = .ok (.getfield 184, 3) := by decide +kernel
theorem dX9_changes_7 : decode cX9_changes 7 = .ok (.ireturn, 1) := by decide +kernel
theorem dX9_anchors_0 : decode cX9_anchors 0 = .ok (.iload_n 1, 1) := by decide +kernel
theorem dX9_anchors_1 : decode cX9_anchors 1 = .ok (.ifCond .ne 11, 3) := by decide +kernel
theorem dX9_anchors_4 : decode cX9_anchors 4 = .ok (.aload_n 0, 1) := by decide +kernel
theorem dX9_anchors_5 : decode cX9_anchors 5 = .ok (.invokevirtual 110, 3) := by decide +kernel
theorem dX9_anchors_8 : decode cX9_anchors 8 = .ok (.getfield 187, 3) := by decide +kernel
theorem dX9_anchors_11 : decode cX9_anchors 11 = .ok (.ireturn, 1) := by decide +kernel
theorem dX9_anchors_12 : decode cX9_anchors 12 = .ok (.iload_n 1, 1) := by decide +kernel
theorem dX9_anchors_13 : decode cX9_anchors 13 = .ok (.iconst 1, 1) := by decide +kernel
theorem dX9_anchors_14 : decode cX9_anchors 14 = .ok (.if_icmp .ne 13, 3) := by decide +kernel
theorem dX9_anchors_17 : decode cX9_anchors 17 = .ok (.aload_n 0, 1) := by decide +kernel
theorem dX9_anchors_18 : decode cX9_anchors 18 = .ok (.invokevirtual 110, 3) := by decide +kernel
theorem dX9_anchors_21 : decode cX9_anchors 21 = .ok (.getfield 190, 3) := by decide +kernel
theorem dX9_anchors_24 : decode cX9_anchors 24 = .ok (.goto 4, 3) := by decide +kernel
theorem dX9_anchors_27 : decode cX9_anchors 27 = .ok (.iconst (-1), 1) := by decide +kernel
theorem dX9_anchors_28 : decode cX9_anchors 28 = .ok (.ireturn, 1) := by decide +kernel
theorem dX9_would_0 : decode cX9_would 0 = .ok (.aload_n 0, 1) := by decide +kernel
theorem dX9_would_1 : decode cX9_would 1 = .ok (.iload_n 1, 1) := by decide +kernel
theorem dX9_would_2 : decode cX9_would 2 = .ok (.iload_n 2, 1) := by decide +kernel
theorem dX9_would_3 : decode cX9_would 3 = .ok (.invokevirtual 128, 3) := by decide +kernel
theorem dX9_would_6 : decode cX9_would 6 = .ok (.ifCond .eq 15, 3) := by decide +kernel
theorem dX9_would_9 : decode cX9_would 9 = .ok (.aload_n 0, 1) := by decide +kernel
theorem dX9_would_10 : decode cX9_would 10 = .ok (.iload_n 1, 1) := by decide +kernel
theorem dX9_would_11 : decode cX9_would 11 = .ok (.invokestatic 193, 3) := by decide +kernel
theorem dX9_would_14 : decode cX9_would 14 = .ok (.iload_n 3, 1) := by decide +kernel
theorem dX9_would_15 : decode cX9_would 15 = .ok (.invokevirtual 128, 3) := by decide +kernel
theorem dX9_would_18 : decode cX9_would 18 = .ok (.ifCond .ne 5, 3) := by decide +kernel
theorem dX9_would_21 : decode cX9_would 21 = .ok (.iconst (-1), 1) := by decide +kernel
theorem dX9_would_22 : decode cX9_would 22 = .ok (.ireturn, 1) := by decide +kernel
theorem dX9_would_23 : decode cX9_would 23 = .ok (.aload_n 0, 1) := by decide +kernel
theorem dX9_would_24 : decode cX9_would 24 = .ok (.getfield 33, 3) := by decide +kernel
theorem dX9_would_27 : decode cX9_would 27 = .ok (.aload_n 0, 1) := by decide +kernel
theorem dX9_would_28 : decode cX9_would 28 = .ok (.iload_n 1, 1) := by decide +kernel
theorem dX9_would_29 : decode cX9_would 29 = .ok (.invokevirtual 90, 3) := by decide +kernel
theorem dX9_would_32 : decode cX9_would 32 = .ok (.invokevirtual 97, 3) := by decide +kernel
theorem dX9_would_35 : decode cX9_would 35 = .ok (.aload_n 0, 1) := by decide +kernel
theorem dX9_would_36 : decode cX9_would 36 = .ok (.getfield 33, 3) := by decide +kernel
theorem dX9_would_39 : decode cX9_would 39 = .ok (.iload_n 2, 1) := by decide +kernel
theorem dX9_would_40 : decode cX9_would 40 = .ok (.aload_n 0, 1) := by decide +kernel
theorem dX9_would_41 : decode cX9_would 41 = .ok (.iload_n 1, 1) := by decide +kernel
theorem dX9_would_42 : decode cX9_would 42 = .ok (.invokestatic 193, 3) := by decide +kernel
theorem dX9_would_45 : decode cX9_would 45 = .ok (.invokevirtual 90, 3) := by decide +kernel
theorem dX9_would_48 : decode cX9_would 48 = .ok (.iload_n 3, 1) := by decide +kernel
theorem dX9_would_49 : decode cX9_would 49 = .ok (.invokevirtual 196, 3) := by decide +kernel
theorem dX9_would_52 : decode cX9_would 52 = .ok (.aload_n 0, 1) := by decide +kernel
theorem dX9_would_53 : decode cX9_would 53 = .ok (.getfield 46, 3) := by decide +kernel
theorem dX9_would_56 : decode cX9_would 56 = .ok (.iload_n 1, 1) := by decide +kernel
theorem dX9_would_57 : decode cX9_would 57 = .ok (.ifCond .ne 10, 3) := by decide +kernel
theorem dX9_would_60 : decode cX9_would 60 = .ok (.aload_n 0, 1) := by decide +kernel
theorem dX9_would_61 : decode cX9_would 61 = .ok (.getfield 33, 3) := by decide +kernel
theorem dX9_would_64 : decode cX9_would 64 = .ok (.goto 7, 3) := by decide +kernel
theorem dX9_would_67 : decode cX9_would 67 = .ok (.aload_n 0, 1) := by decide +kernel
theorem dX9_would_68 : decode cX9_would 68 = .ok (.getfield 26, 3) := by decide +kernel
theorem dX9_would_71 : decode cX9_would 71 = .ok (.iload_n 1, 1) := by decide +kernel
theorem dX9_would_72 : decode cX9_would 72 = .ok (.iconst 1, 1) := by decide +kernel
theorem dX9_would_73 : decode cX9_would 73 = .ok (.if_icmp .ne 10, 3) := by decide +kernel
theorem dX9_would_76 : decode cX9_would 76 = .ok (.aload_n 0, 1) := by decide +kernel
theorem dX9_would_77 : decode cX9_would 77 = .ok (.getfield 33, 3) := by decide +kernel
theorem dX9_would_80 : decode cX9_would 80 = .ok (.goto 7, 3) := by decide +kernel
theorem dX9_would_83 : decode cX9_would 83 = .ok (.aload_n 0, 1) := by decide +kernel
theorem dX9_would_84 : decode cX9_would 84 = .ok (.getfield 30, 3) := by decide +kernel
theorem dX9_would_87 : decode cX9_would 87 = .ok (.aload_n 0, 1) := by decide +kernel
theorem dX9_would_88 : decode cX9_would 88 = .ok (.getfield 64, 3) := by decide +kernel
theorem dX9_would_91 : decode cX9_would 91 = .ok (.invokevirtual 200, 3) := by decide +kernel
theorem dX9_would_94 : decode cX9_would 94 = .ok (.aload_n 0, 1) := by decide +kernel
theorem dX9_would_95 : decode cX9_would 95 = .ok (.invokevirtual 110, 3) := by decide +kernel
theorem dX9_would_98 : decode cX9_would 98 = .ok (.aload_n 0, 1) := by decide +kernel
theorem dX9_would_99 : decode cX9_would 99 = .ok (.getfield 64, 3) := by decide +kernel
theorem dX9_would_102 : decode cX9_would 102 = .ok (.invokevirtual 204, 3) := by decide +kernel
theorem dX9_would_105 : decode cX9_would 105 = .ok (.ireturn, 1) := by decide +kernel
theorem dX9_put_0 : decode cX9_put 0 = .ok (.iload_n 1, 1) := by decide +kernel
theorem dX9_put_1 : decode cX9_put 1 = .ok (.invokestatic 79, 3) := by decide +kernel
theorem dX9_put_4 : decode cX9_put 4 = .ok (.ifCond .eq 19, 3) := by decide +kernel
theorem dX9_put_7 : decode cX9_put 7 = .ok (.iload_n 2, 1) := by decide +kernel
theorem dX9_put_8 : decode cX9_put 8 = .ok (.ifCond .lt 15, 3) := by decide +kernel
theorem dX9_put_11 : decode cX9_put 11 = .ok (.iload_n 2, 1) := by decide +kernel
theorem dX9_put_12 : decode cX9_put 12 = .ok (.aload_n 0, 1) := by decide +kernel
theorem dX9_put_13 : decode cX9_put 13 = .ok (.iload_n 1, 1) := by decide +kernel
theorem dX9_put_14 : decode cX9_put 14 = .ok (.invokevirtual 90, 3) := by decide +kernel
theorem dX9_put_17 : decode cX9_put 17 = .ok (.getfield 104, 3) := by decide +kernel
theorem dX9_put_20 : decode cX9_put 20 = .ok (.if_icmp .le 5, 3) := by decide +kernel
theorem dX9_put_23 : decode cX9_put 23 = .ok (.iconst (-1), 1) := by decide +kernel
theorem dX9_put_24 : decode cX9_put 24 = .ok (.ireturn, 1) := by decide +kernel
theorem dX9_put_25 : decode cX9_put 25 = .ok (.aload_n 0, 1) := by decide +kernel
theorem dX9_put_26 : decode cX9_put 26 = .ok (.iload_n 1, 1) := by decide +kernel
theorem dX9_put_27 : decode cX9_put 27 = .ok (.invokevirtual 90, 3) := by decide +kernel
theorem dX9_put_30 : decode cX9_put 30 = .ok (.getfield 104, 3) := by decide +kernel
theorem dX9_put_33 : decode cX9_put 33 = .ok (.bipush 14, 2) := by decide +kernel
theorem dX9_put_35 : decode cX9_put 35 = .ok (.if_icmp .lt 7, 3) := by decide +kernel
theorem dX9_put_38 : decode cX9_put 38 = .ok (.sipush (-1000), 3) := by decide +kernel
theorem dX9_put_41 : decode cX9_put 41 = .ok (.ireturn, 1) := by decide +kernel
theorem dX9_put_42 : decode cX9_put 42 = .ok (.aload_n 0, 1) := by decide +kernel
theorem dX9_put_43 : decode cX9_put 43 = .ok (.iconst 0, 1) := by decide +kernel
theorem dX9_put_44 : decode cX9_put 44 = .ok (.invokevirtual 83, 3) := by decide +kernel
theorem dX9_put_47 : decode cX9_put 47 = .ok (.ifCond .ne 14, 3) := by decide +kernel
theorem dX9_put_50 : decode cX9_put 50 = .ok (.bipush (-2), 2) := by decide +kernel
theorem dX9_put_52 : decode cX9_put 52 = .ok (.aload_n 0, 1) := by decide +kernel
theorem dX9_put_53 : decode cX9_put 53 = .ok (.getfield 19, 3) := by decide +kernel
theorem dX9_put_56 : decode cX9_put 56 = .ok (.getfield 87, 3) := by decide +kernel
theorem dX9_put_59 : decode cX9_put 59 = .ok (.isub, 1) := by decide +kernel
theorem dX9_put_60 : decode cX9_put 60 = .ok (.ireturn, 1) := by decide +kernel
theorem dX9_put_61 : decode cX9_put 61 = .ok (.aload_n 0, 1) := by decide +kernel
theorem dX9_put_62 : decode cX9_put 62 = .ok (.iload_n 1, 1) := by decide +kernel
theorem dX9_put_63 : decode cX9_put 63 = .ok (.invokevirtual 208, 3) := by decide +kernel
theorem dX9_put_66 : decode cX9_put 66 = .ok (.astore_n 3, 1) := by decide +kernel
theorem dX9_put_67 : decode cX9_put 67 = .ok (.aload_n 3, 1) := by decide +kernel
theorem dX9_put_68 : decode cX9_put 68 = .ok (.iload_n 2, 1) := by decide +kernel
theorem dX9_put_69 : decode cX9_put 69 = .ok (.aload_n 0, 1) := by decide +kernel
theorem dX9_put_70 : decode cX9_put 70 = .ok (.getfield 19, 3) := by decide +kernel
theorem dX9_put_73 : decode cX9_put 73 = .ok (.getfield 94, 3) := by decide +kernel
theorem dX9_put_76 : decode cX9_put 76 = .ok (.iconst 0, 1) := by decide +kernel
theorem dX9_put_77 : decode cX9_put 77 = .ok (.invokevirtual 211, 3) := by decide +kernel
theorem dX9_put_80 : decode cX9_put 80 = .ok (.aload_n 3, 1) := by decide +kernel
theorem dX9_put_81 : decode cX9_put 81 = .ok (.getfield 104, 3) := by decide +kernel
theorem dX9_put_84 : decode cX9_put 84 = .ok (.ireturn, 1) := by decide +kernel
theorem dX9_change_0 : decode cX9_change 0 = .ok (.aload_n 0, 1) := by decide +kernel
theorem dX9_change_1 : decode cX9_change 1 = .ok (.iload_n 1, 1) := by decide +kernel
theorem dX9_change_2 : decode cX9_change 2 = .ok (.iload_n 2, 1) := by decide +kernel
theorem dX9_change_3 : decode cX9_change 3 = .ok (.invokevirtual 128, 3) := by decide +kernel
theorem dX9_change_6 : decode cX9_change 6 = .ok (.ifCond .ne 5, 3) := by decide +kernel
theorem dX9_change_9 : decode cX9_change 9 = .ok (.iconst (-1), 1) := by decide +kernel
theorem dX9_change_10 : decode cX9_change 10 = .ok (.ireturn, 1) := by decide +kernel
theorem dX9_change_11 : decode cX9_change 11 = .ok (.aload_n 0, 1) := by decide +kernel
theorem dX9_change_12 : decode cX9_change 12 = .ok (.iconst 0, 1) := by decide +kernel
theorem dX9_change_13 : decode cX9_change 13 = .ok (.invokevirtual 83, 3) := by decide +kernel
theorem dX9_change_16 : decode cX9_change 16 = .ok (.ifCond .ne 14, 3) := by decide +kernel
theorem dX9_change_19 : decode cX9_change 19 = .ok (.bipush (-2), 2) := by decide +kernel
theorem dX9_change_21 : decode cX9_change 21 = .ok (.aload_n 0, 1) := by decide +kernel
theorem dX9_change_22 : decode cX9_change 22 = .ok (.getfield 19, 3) := by decide +kernel
theorem dX9_change_25 : decode cX9_change 25 = .ok (.getfield 87, 3) := by decide +kernel
theorem dX9_change_28 : decode cX9_change 28 = .ok (.isub, 1) := by decide +kernel
theorem dX9_change_29 : decode cX9_change 29 = .ok (.ireturn, 1) := by decide +kernel
theorem dX9_change_30 : decode cX9_change 30 = .ok (.aload_n 0, 1) := by decide +kernel
theorem dX9_change_31 : decode cX9_change 31 = .ok (.iload_n 1, 1) := by decide +kernel
theorem dX9_change_32 : decode cX9_change 32 = .ok (.invokevirtual 208, 3) := by decide +kernel
theorem dX9_change_35 : decode cX9_change 35 = .ok (.astore_n 3, 1) := by decide +kernel
theorem dX9_change_36 : decode cX9_change 36 = .ok (.aload_n 3, 1) := by decide +kernel
theorem dX9_change_37 : decode cX9_change 37 = .ok (.iload_n 2, 1) := by decide +kernel
theorem dX9_change_38 : decode cX9_change 38 = .ok (.aload_n 0, 1) := by decide +kernel
theorem dX9_change_39 : decode cX9_change 39 = .ok (.getfield 19, 3) := by decide +kernel
theorem dX9_change_42 : decode cX9_change 42 = .ok (.getfield 94, 3) := by decide +kernel
theorem dX9_change_45 : decode cX9_change 45 = .ok (.iconst 0, 1) := by decide +kernel
theorem dX9_change_46 : decode cX9_change 46 = .ok (.invokevirtual 196, 3) := by decide +kernel
theorem dX9_change_49 : decode cX9_change 49 = .ok (.aload_n 3, 1) := by decide +kernel
theorem dX9_change_50 : decode cX9_change 50 = .ok (.iload_n 2, 1) := by decide +kernel
theorem dX9_change_51 : decode cX9_change 51 = .ok (.invokevirtual 139, 3) := by decide +kernel
theorem dX9_change_54 : decode cX9_change 54 = .ok (.ireturn, 1) := by decide +kernel
theorem dX9_cut_0 : decode cX9_cut 0 = .ok (.aload_n 0, 1) := by decide +kernel
theorem dX9_cut_1 : decode cX9_cut 1 = .ok (.iload_n 1, 1) := by decide +kernel
theorem dX9_cut_2 : decode cX9_cut 2 = .ok (.iload_n 2, 1) := by decide +kernel
theorem dX9_cut_3 : decode cX9_cut 3 = .ok (.invokevirtual 128, 3) := by decide +kernel
theorem dX9_cut_6 : decode cX9_cut 6 = .ok (.ifCond .ne 5, 3) := by decide +kernel
theorem dX9_cut_9 : decode cX9_cut 9 = .ok (.iconst (-1), 1) := by decide +kernel
theorem dX9_cut_10 : decode cX9_cut 10 = .ok (.ireturn, 1) := by decide +kernel
theorem dX9_cut_11 : decode cX9_cut 11 = .ok (.aload_n 0, 1) := by decide +kernel
theorem dX9_cut_12 : decode cX9_cut 12 = .ok (.iload_n 1, 1) := by decide +kernel
theorem dX9_cut_13 : decode cX9_cut 13 = .ok (.invokevirtual 208, 3) := by decide +kernel
theorem dX9_cut_16 : decode cX9_cut 16 = .ok (.astore_n 3, 1) := by decide +kernel
theorem dX9_cut_17 : decode cX9_cut 17 = .ok (.aload_n 3, 1) := by decide +kernel
theorem dX9_cut_18 : decode cX9_cut 18 = .ok (.iload_n 2, 1) := by decide +kernel
theorem dX9_cut_19 : decode cX9_cut 19 = .ok (.invokevirtual 214, 3) := by decide +kernel
theorem dX9_cut_22 : decode cX9_cut 22 = .ok (.aload_n 3, 1) := by decide +kernel
theorem dX9_cut_23 : decode cX9_cut 23 = .ok (.getfield 104, 3) := by decide +kernel
theorem dX9_cut_26 : decode cX9_cut 26 = .ok (.ireturn, 1) := by decide +kernel
theorem dX9_move_0 : decode cX9_move 0 = .ok (.aload_n 0, 1) := by decide +kernel
theorem dX9_move_1 : decode cX9_move 1 = .ok (.iload_n 1, 1) := by decide +kernel
theorem dX9_move_2 : decode cX9_move 2 = .ok (.iload_n 2, 1) := by decide +kernel
theorem dX9_move_3 : decode cX9_move 3 = .ok (.invokevirtual 128, 3) := by decide +kernel
theorem dX9_move_6 : decode cX9_move 6 = .ok (.ifCond .ne 5, 3) := by decide +kernel
theorem dX9_move_9 : decode cX9_move 9 = .ok (.iconst 0, 1) := by decide +kernel
theorem dX9_move_10 : decode cX9_move 10 = .ok (.ireturn, 1) := by decide +kernel
theorem dX9_move_11 : decode cX9_move 11 = .ok (.aload_n 0, 1) := by decide +kernel
theorem dX9_move_12 : decode cX9_move 12 = .ok (.iload_n 1, 1) := by decide +kernel
theorem dX9_move_13 : decode cX9_move 13 = .ok (.invokevirtual 90, 3) := by decide +kernel
theorem dX9_move_16 : decode cX9_move 16 = .ok (.getfield 104, 3) := by decide +kernel
theorem dX9_move_19 : decode cX9_move 19 = .ok (.istore 5, 2) := by decide +kernel
theorem dX9_move_21 : decode cX9_move 21 = .ok (.iload_n 3, 1) := by decide +kernel
theorem dX9_move_22 : decode cX9_move 22 = .ok (.iconst 1, 1) := by decide +kernel
theorem dX9_move_23 : decode cX9_move 23 = .ok (.if_icmp .lt 25, 3) := by decide +kernel
theorem dX9_move_26 : decode cX9_move 26 = .ok (.iload_n 3, 1) := by decide +kernel
theorem dX9_move_27 : decode cX9_move 27 = .ok (.iload 5, 2) := by decide +kernel
theorem dX9_move_29 : decode cX9_move 29 = .ok (.iload_n 2, 1) := by decide +kernel
theorem dX9_move_30 : decode cX9_move 30 = .ok (.isub, 1) := by decide +kernel
theorem dX9_move_31 : decode cX9_move 31 = .ok (.if_icmp .gt 17, 3) := by decide +kernel
theorem dX9_move_34 : decode cX9_move 34 = .ok (.iload 4, 2) := by decide +kernel
theorem dX9_move_36 : decode cX9_move 36 = .ok (.ifCond .lt 12, 3) := by decide +kernel
theorem dX9_move_39 : decode cX9_move 39 = .ok (.iload 4, 2) := by decide +kernel
theorem dX9_move_41 : decode cX9_move 41 = .ok (.iload 5, 2) := by decide +kernel
theorem dX9_move_43 : decode cX9_move 43 = .ok (.iload_n 3, 1) := by decide +kernel
theorem dX9_move_44 : decode cX9_move 44 = .ok (.isub, 1) := by decide +kernel
theorem dX9_move_45 : decode cX9_move 45 = .ok (.if_icmp .le 5, 3) := by decide +kernel
theorem dX9_move_48 : decode cX9_move 48 = .ok (.iconst 0, 1) := by decide +kernel
theorem dX9_move_49 : decode cX9_move 49 = .ok (.ireturn, 1) := by decide +kernel
theorem dX9_move_50 : decode cX9_move 50 = .ok (.aload_n 0, 1) := by decide +kernel
theorem dX9_move_51 : decode cX9_move 51 = .ok (.iload_n 1, 1) := by decide +kernel
theorem dX9_move_52 : decode cX9_move 52 = .ok (.invokevirtual 208, 3) := by decide +kernel
theorem dX9_move_55 : decode cX9_move 55 = .ok (.astore 6, 2) := by decide +kernel
theorem dX9_move_57 : decode cX9_move 57 = .ok (.aload_n 0, 1) := by decide +kernel
theorem dX9_move_58 : decode cX9_move 58 = .ok (.getfield 33, 3) := by decide +kernel
theorem dX9_move_61 : decode cX9_move 61 = .ok (.aload 6, 2) := by decide +kernel
theorem dX9_move_63 : decode cX9_move 63 = .ok (.invokevirtual 97, 3) := by decide +kernel
theorem dX9_move_66 : decode cX9_move 66 = .ok (.aload 6, 2) := by decide +kernel
theorem dX9_move_68 : decode cX9_move 68 = .ok (.aload_n 0, 1) := by decide +kernel
theorem dX9_move_69 : decode cX9_move 69 = .ok (.getfield 33, 3) := by decide +kernel
theorem dX9_move_72 : decode cX9_move 72 = .ok (.iload_n 2, 1) := by decide +kernel
theorem dX9_move_73 : decode cX9_move 73 = .ok (.iload_n 3, 1) := by decide +kernel
theorem dX9_move_74 : decode cX9_move 74 = .ok (.iload 4, 2) := by decide +kernel
theorem dX9_move_76 : decode cX9_move 76 = .ok (.invokevirtual 217, 3) := by decide +kernel
theorem dX9_move_79 : decode cX9_move 79 = .ok (.iconst 1, 1) := by decide +kernel
theorem dX9_move_80 : decode cX9_move 80 = .ok (.ireturn, 1) := by decide +kernel
theorem dX9_take_0 : decode cX9_take 0 = .ok (.aload_n 0, 1) := by decide +kernel
theorem dX9_take_1 : decode cX9_take 1 = .ok (.iconst 0, 1) := by decide +kernel
theorem dX9_take_2 : decode cX9_take 2 = .ok (.invokevirtual 208, 3) := by decide +kernel
theorem dX9_take_5 : decode cX9_take 5 = .ok (.aload_n 0, 1) := by decide +kernel
theorem dX9_take_6 : decode cX9_take 6 = .ok (.getfield 30, 3) := by decide +kernel
theorem dX9_take_9 : decode cX9_take 9 = .ok (.invokevirtual 97, 3) := by decide +kernel
theorem dX9_take_12 : decode cX9_take 12 = .ok (.aload_n 0, 1) := by decide +kernel
theorem dX9_take_13 : decode cX9_take 13 = .ok (.getfield 26, 3) := by decide +kernel
theorem dX9_take_16 : decode cX9_take 16 = .ok (.getfield 104, 3) := by decide +kernel
theorem dX9_take_19 : decode cX9_take 19 = .ok (.ireturn, 1) := by decide +kernel
theorem dX9_undo_0 : decode cX9_undo 0 = .ok (.aload_n 0, 1) := by decide +kernel
theorem dX9_undo_1 : decode cX9_undo 1 = .ok (.getfield 39, 3) := by decide +kernel
theorem dX9_undo_4 : decode cX9_undo 4 = .ok (.getfield 125, 3) := by decide +kernel
theorem dX9_undo_7 : decode cX9_undo 7 = .ok (.ifCond .ne 5, 3) := by decide +kernel
theorem dX9_undo_10 : decode cX9_undo 10 = .ok (.iconst (-1), 1) := by decide +kernel
theorem dX9_undo_11 : decode cX9_undo 11 = .ok (.ireturn, 1) := by decide +kernel
theorem dX9_undo_12 : decode cX9_undo 12 = .ok (.aload_n 0, 1) := by decide +kernel
theorem dX9_undo_13 : decode cX9_undo 13 = .ok (.getfield 39, 3) := by decide +kernel
theorem dX9_undo_16 : decode cX9_undo 16 = .ok (.invokevirtual 221, 3) := by decide +kernel
theorem dX9_undo_19 : decode cX9_undo 19 = .ok (.istore_n 1, 1) := by decide +kernel
theorem dX9_undo_20 : decode cX9_undo 20 = .ok (.aload_n 0, 1) := by decide +kernel
theorem dX9_undo_21 : decode cX9_undo 21 = .ok (.aload_n 0, 1) := by decide +kernel
theorem dX9_undo_22 : decode cX9_undo 22 = .ok (.getfield 39, 3) := by decide +kernel
theorem dX9_undo_25 : decode cX9_undo 25 = .ok (.getfield 224, 3) := by decide +kernel
theorem dX9_undo_28 : decode cX9_undo 28 = .ok (.iload_n 1, 1) := by decide +kernel
theorem dX9_undo_29 : decode cX9_undo 29 = .ok (.iaload, 1) := by decide +kernel
theorem dX9_undo_30 : decode cX9_undo 30 = .ok (.invokevirtual 90, 3) := by decide +kernel
theorem dX9_undo_33 : decode cX9_undo 33 = .ok (.aload_n 0, 1) := by decide +kernel
theorem dX9_undo_34 : decode cX9_undo 34 = .ok (.getfield 39, 3) := by decide +kernel
theorem dX9_undo_37 : decode cX9_undo 37 = .ok (.getfield 227, 3) := by decide +kernel
theorem dX9_undo_40 : decode cX9_undo 40 = .ok (.iload_n 1, 1) := by decide +kernel
theorem dX9_undo_41 : decode cX9_undo 41 = .ok (.aaload, 1) := by decide +kernel
theorem dX9_undo_42 : decode cX9_undo 42 = .ok (.invokevirtual 97, 3) := by decide +kernel
theorem dX9_undo_45 : decode cX9_undo 45 = .ok (.aload_n 0, 1) := by decide +kernel
theorem dX9_undo_46 : decode cX9_undo 46 = .ok (.iconst 1, 1) := by decide +kernel
theorem dX9_undo_47 : decode cX9_undo 47 = .ok (.putfield 67, 3) := by decide +kernel
theorem dX9_undo_50 : decode cX9_undo 50 = .ok (.aload_n 0, 1) := by decide +kernel
theorem dX9_undo_51 : decode cX9_undo 51 = .ok (.getfield 39, 3) := by decide +kernel
theorem dX9_undo_54 : decode cX9_undo 54 = .ok (.getfield 125, 3) := by decide +kernel
theorem dX9_undo_57 : decode cX9_undo 57 = .ok (.ireturn, 1) := by decide +kernel
theorem dX9_isEdition_0 : decode cX9_isEdition 0 = .ok (.iload_n 0, 1) := by decide +kernel
theorem dX9_isEdition_1 : decode cX9_isEdition 1 = .ok (.ifCond .eq 8, 3) := by decide +kernel
theorem dX9_isEdition_4 : decode cX9_isEdition 4 = .ok (.iload_n 0, 1) := by decide +kernel
theorem dX9_isEdition_5 : decode cX9_isEdition 5 = .ok (.iconst 1, 1) := by decide +kernel
theorem dX9_isEdition_6 : decode cX9_isEdition 6 = .ok (.if_icmp .ne 7, 3) := by decide +kernel
theorem dX9_isEdition_9 : decode cX9_isEdition 9 = .ok (.iconst 1, 1) := by decide +kernel
theorem dX9_isEdition_10 : decode cX9_isEdition 10 = .ok (.goto 4, 3) := by decide +kernel
theorem dX9_isEdition_13 : decode cX9_isEdition 13 = .ok (.iconst 0, 1) := by decide +kernel
theorem dX9_isEdition_14 : decode cX9_isEdition 14 = .ok (.ireturn, 1) := by decide +kernel
theorem dX9_otherThan_0 : decode cX9_otherThan 0 = .ok (.iload_n 0, 1) := by decide +kernel
theorem dX9_otherThan_1 : decode cX9_otherThan 1 = .ok (.ifCond .ne 7, 3) := by decide +kernel
theorem dX9_otherThan_4 : decode cX9_otherThan 4 = .ok (.iconst 1, 1) := by decide +kernel
theorem dX9_otherThan_5 : decode cX9_otherThan 5 = .ok (.goto 4, 3) := by decide +kernel
theorem dX9_otherThan_8 : decode cX9_otherThan 8 = .ok (.iconst 0, 1) := by decide +kernel
theorem dX9_otherThan_9 : decode cX9_otherThan 9 = .ok (.ireturn, 1) := by decide +kernel
theorem dX9_editionOf_0 : decode cX9_editionOf 0 = .ok (.iload_n 1, 1) := by decide +kernel
theorem dX9_editionOf_1 : decode cX9_editionOf 1 = .ok (.ifCond .ne 10, 3) := by decide +kernel
theorem dX9_editionOf_4 : decode cX9_editionOf 4 = .ok (.aload_n 0, 1) := by decide +kernel
theorem dX9_editionOf_5 : decode cX9_editionOf 5 = .ok (.getfield 26, 3) := by decide +kernel
theorem dX9_editionOf_8 : decode cX9_editionOf 8 = .ok (.goto 7, 3) := by decide +kernel
theorem dX9_editionOf_11 : decode cX9_editionOf 11 = .ok (.aload_n 0, 1) := by decide +kernel
theorem dX9_editionOf_12 : decode cX9_editionOf 12 = .ok (.getfield 30, 3) := by decide +kernel
theorem dX9_editionOf_15 : decode cX9_editionOf 15 = .ok (.areturn, 1) := by decide +kernel
theorem dX9_hasLine_0 : decode cX9_hasLine 0 = .ok (.iload_n 1, 1) := by decide +kernel
theorem dX9_hasLine_1 : decode cX9_hasLine 1 = .ok (.invokestatic 79, 3) := by decide +kernel
theorem dX9_hasLine_4 : decode cX9_hasLine 4 = .ok (.ifCond .eq 19, 3) := by decide +kernel
theorem dX9_hasLine_7 : decode cX9_hasLine 7 = .ok (.aload_n 0, 1) := by decide +kernel
theorem dX9_hasLine_8 : decode cX9_hasLine 8 = .ok (.iload_n 1, 1) := by decide +kernel
theorem dX9_hasLine_9 : decode cX9_hasLine 9 = .ok (.invokevirtual 90, 3) := by decide +kernel
theorem dX9_hasLine_12 : decode cX9_hasLine 12 = .ok (.iload_n 2, 1) := by decide +kernel
theorem dX9_hasLine_13 : decode cX9_hasLine 13 = .ok (.invokevirtual 231, 3) := by decide +kernel
theorem dX9_hasLine_16 : decode cX9_hasLine 16 = .ok (.ifCond .eq 7, 3) := by decide +kernel
theorem dX9_hasLine_19 : decode cX9_hasLine 19 = .ok (.iconst 1, 1) := by decide +kernel
theorem dX9_hasLine_20 : decode cX9_hasLine 20 = .ok (.goto 4, 3) := by decide +kernel
theorem dX9_hasLine_23 : decode cX9_hasLine 23 = .ok (.iconst 0, 1) := by decide +kernel
theorem dX9_hasLine_24 : decode cX9_hasLine 24 = .ok (.ireturn, 1) := by decide +kernel
theorem dX9_readTape_0 : decode cX9_readTape 0 = .ok (.aload_n 0, 1) := by decide +kernel
theorem dX9_readTape_1 : decode cX9_readTape 1 = .ok (.getfield 19, 3) := by decide +kernel
theorem dX9_readTape_4 : decode cX9_readTape 4 = .ok (.aload_n 0, 1) := by decide +kernel
theorem dX9_readTape_5 : decode cX9_readTape 5 = .ok (.getfield 10, 3) := by decide +kernel
theorem dX9_readTape_8 : decode cX9_readTape 8 = .ok (.iload_n 1, 1) := by decide +kernel
theorem dX9_readTape_9 : decode cX9_readTape 9 = .ok (.invokevirtual 234, 3) := by decide +kernel
theorem dX9_readTape_12 : decode cX9_readTape 12 = .ok (.istore_n 2, 1) := by decide +kernel
theorem dX9_readTape_13 : decode cX9_readTape 13 = .ok (.aload_n 0, 1) := by decide +kernel
theorem dX9_readTape_14 : decode cX9_readTape 14 = .ok (.getfield 10, 3) := by decide +kernel
theorem dX9_readTape_17 : decode cX9_readTape 17 = .ok (.iconst 0, 1) := by decide +kernel
theorem dX9_readTape_18 : decode cX9_readTape 18 = .ok (.putfield 71, 3) := by decide +kernel
theorem dX9_readTape_21 : decode cX9_readTape 21 = .ok (.iload_n 2, 1) := by decide +kernel
theorem dX9_readTape_22 : decode cX9_readTape 22 = .ok (.ireturn, 1) := by decide +kernel
theorem dX9_startStep_0 : decode cX9_startStep 0 = .ok (.aload_n 0, 1) := by decide +kernel
theorem dX9_startStep_1 : decode cX9_startStep 1 = .ok (.getfield 39, 3) := by decide +kernel
theorem dX9_startStep_4 : decode cX9_startStep 4 = .ok (.iload_n 1, 1) := by decide +kernel
theorem dX9_startStep_5 : decode cX9_startStep 5 = .ok (.aload_n 0, 1) := by decide +kernel
theorem dX9_startStep_6 : decode cX9_startStep 6 = .ok (.iload_n 1, 1) := by decide +kernel
theorem dX9_startStep_7 : decode cX9_startStep 7 = .ok (.invokevirtual 90, 3) := by decide +kernel
theorem dX9_startStep_10 : decode cX9_startStep 10 = .ok (.invokevirtual 238, 3) := by decide +kernel
theorem dX9_startStep_13 : decode cX9_startStep 13 = .ok (.aload_n 0, 1) := by decide +kernel
theorem dX9_startStep_14 : decode cX9_startStep 14 = .ok (.iconst 1, 1) := by decide +kernel
theorem dX9_startStep_15 : decode cX9_startStep 15 = .ok (.putfield 67, 3) := by decide +kernel
theorem dX9_startStep_18 : decode cX9_startStep 18 = .ok (.aload_n 0, 1) := by decide +kernel
theorem dX9_startStep_19 : decode cX9_startStep 19 = .ok (.iload_n 1, 1) := by decide +kernel
theorem dX9_startStep_20 : decode cX9_startStep 20 = .ok (.invokevirtual 90, 3) := by decide +kernel
theorem dX9_startStep_23 : decode cX9_startStep 23 = .ok (.areturn, 1) := by decide +kernel
theorem dX9_compared_0 : decode cX9_compared 0 = .ok (.aload_n 0, 1) := by decide +kernel
theorem dX9_compared_1 : decode cX9_compared 1 = .ok (.getfield 67, 3) := by decide +kernel
theorem dX9_compared_4 : decode cX9_compared 4 = .ok (.ifCond .eq 27, 3) := by decide +kernel
theorem dX9_compared_7 : decode cX9_compared 7 = .ok (.aload_n 0, 1) := by decide +kernel
theorem dX9_compared_8 : decode cX9_compared 8 = .ok (.getfield 46, 3) := by decide +kernel
theorem dX9_compared_11 : decode cX9_compared 11 = .ok (.aload_n 0, 1) := by decide +kernel
theorem dX9_compared_12 : decode cX9_compared 12 = .ok (.getfield 26, 3) := by decide +kernel
theorem dX9_compared_15 : decode cX9_compared 15 = .ok (.aload_n 0, 1) := by decide +kernel
theorem dX9_compared_16 : decode cX9_compared 16 = .ok (.getfield 30, 3) := by decide +kernel
theorem dX9_compared_19 : decode cX9_compared 19 = .ok (.aload_n 0, 1) := by decide +kernel
theorem dX9_compared_20 : decode cX9_compared 20 = .ok (.getfield 60, 3) := by decide +kernel
theorem dX9_compared_23 : decode cX9_compared 23 = .ok (.invokevirtual 200, 3) := by decide +kernel
theorem dX9_compared_26 : decode cX9_compared 26 = .ok (.aload_n 0, 1) := by decide +kernel
theorem dX9_compared_27 : decode cX9_compared 27 = .ok (.iconst 0, 1) := by decide +kernel
theorem dX9_compared_28 : decode cX9_compared 28 = .ok (.putfield 67, 3) := by decide +kernel
theorem dX9_compared_31 : decode cX9_compared 31 = .ok (.aload_n 0, 1) := by decide +kernel
theorem dX9_compared_32 : decode cX9_compared 32 = .ok (.getfield 60, 3) := by decide +kernel
theorem dX9_compared_35 : decode cX9_compared 35 = .ok (.areturn, 1) := by decide +kernel
theorem dX9_measureWords_0 : decode cX9_measureWords 0 = .ok (.aload_n 0, 1) := by decide +kernel
theorem dX9_measureWords_1 : decode cX9_measureWords 1 = .ok (.getfield 53, 3) := by decide +kernel
theorem dX9_measureWords_4 : decode cX9_measureWords 4 = .ok (.aload_n 0, 1) := by decide +kernel
theorem dX9_measureWords_5 : decode cX9_measureWords 5 = .ok (.getfield 26, 3) := by decide +kernel
theorem dX9_measureWords_8 : decode cX9_measureWords 8 = .ok (.getfield 242, 3) := by decide +kernel
theorem dX9_measureWords_11 : decode cX9_measureWords 11 = .ok (.iload_n 1, 1) := by decide +kernel
theorem dX9_measureWords_12 : decode cX9_measureWords 12 = .ok (.bipush 8, 2) := by decide +kernel
theorem dX9_measureWords_14 : decode cX9_measureWords 14 = .ok (.imul, 1) := by decide +kernel
theorem dX9_measureWords_15 : decode cX9_measureWords 15 = .ok (.aload_n 0, 1) := by decide +kernel
theorem dX9_measureWords_16 : decode cX9_measureWords 16 = .ok (.getfield 26, 3) := by decide +kernel
theorem dX9_measureWords_19 : decode cX9_measureWords 19 = .ok (.iload_n 1, 1) := by decide +kernel
theorem dX9_measureWords_20 : decode cX9_measureWords 20 = .ok (.invokevirtual 139, 3) := by decide +kernel
theorem dX9_measureWords_23 : decode cX9_measureWords 23 = .ok (.invokevirtual 245, 3) := by decide +kernel
theorem dX9_measureWords_26 : decode cX9_measureWords 26 = .ok (.aload_n 0, 1) := by decide +kernel
theorem dX9_measureWords_27 : decode cX9_measureWords 27 = .ok (.getfield 53, 3) := by decide +kernel
theorem dX9_measureWords_30 : decode cX9_measureWords 30 = .ok (.aload_n 0, 1) := by decide +kernel
theorem dX9_measureWords_31 : decode cX9_measureWords 31 = .ok (.getfield 30, 3) := by decide +kernel
theorem dX9_measureWords_34 : decode cX9_measureWords 34 = .ok (.getfield 242, 3) := by decide +kernel
theorem dX9_measureWords_37 : decode cX9_measureWords 37 = .ok (.iload_n 2, 1) := by decide +kernel
theorem dX9_measureWords_38 : decode cX9_measureWords 38 = .ok (.bipush 8, 2) := by decide +kernel
theorem dX9_measureWords_40 : decode cX9_measureWords 40 = .ok (.imul, 1) := by decide +kernel
theorem dX9_measureWords_41 : decode cX9_measureWords 41 = .ok (.aload_n 0, 1) := by decide +kernel
theorem dX9_measureWords_42 : decode cX9_measureWords 42 = .ok (.getfield 30, 3) := by decide +kernel
theorem dX9_measureWords_45 : decode cX9_measureWords 45 = .ok (.iload_n 2, 1) := by decide +kernel
theorem dX9_measureWords_46 : decode cX9_measureWords 46 = .ok (.invokevirtual 139, 3) := by decide +kernel
theorem dX9_measureWords_49 : decode cX9_measureWords 49 = .ok (.invokevirtual 249, 3) := by decide +kernel
theorem dX9_measureWords_52 : decode cX9_measureWords 52 = .ok (.aload_n 0, 1) := by decide +kernel
theorem dX9_measureWords_53 : decode cX9_measureWords 53 = .ok (.getfield 53, 3) := by decide +kernel
theorem dX9_measureWords_56 : decode cX9_measureWords 56 = .ok (.invokevirtual 252, 3) := by decide +kernel
theorem dX9_measureWords_59 : decode cX9_measureWords 59 = .ok (.ireturn, 1) := by decide +kernel
theorem dX9_letterIn_0 : decode cX9_letterIn 0 = .ok (.iload_n 0, 1) := by decide +kernel
theorem dX9_letterIn_1 : decode cX9_letterIn 1 = .ok (.iconst 5, 1) := by decide +kernel
theorem dX9_letterIn_2 : decode cX9_letterIn 2 = .ok (.iload_n 1, 1) := by decide +kernel
theorem dX9_letterIn_3 : decode cX9_letterIn 3 = .ok (.imul, 1) := by decide +kernel
theorem dX9_letterIn_4 : decode cX9_letterIn 4 = .ok (.iushr, 1) := by decide +kernel
theorem dX9_letterIn_5 : decode cX9_letterIn 5 = .ok (.bipush 31, 2) := by decide +kernel
theorem dX9_letterIn_7 : decode cX9_letterIn 7 = .ok (.iand, 1) := by decide +kernel
theorem dX9_letterIn_8 : decode cX9_letterIn 8 = .ok (.ireturn, 1) := by decide +kernel
theorem dX10_thrown_0 : decode cX10_thrown 0 = .ok (.aload_n 0, 1) := by decide +kernel
theorem dX10_thrown_1 : decode cX10_thrown 1 = .ok (.getfield 1, 3) := by decide +kernel
theorem dX10_thrown_4 : decode cX10_thrown 4 = .ok (.ireturn, 1) := by decide +kernel
theorem dX10_refuse_0 : decode cX10_refuse 0 = .ok (.aload_n 0, 1) := by decide +kernel
theorem dX10_refuse_1 : decode cX10_refuse 1 = .ok (.iconst 1, 1) := by decide +kernel
theorem dX10_refuse_2 : decode cX10_refuse 2 = .ok (.putfield 1, 3) := by decide +kernel
theorem dX10_refuse_5 : decode cX10_refuse 5 = .ok (.iconst 0, 1) := by decide +kernel
theorem dX10_refuse_6 : decode cX10_refuse 6 = .ok (.ireturn, 1) := by decide +kernel
theorem dX10_isIn_0 : decode cX10_isIn 0 = .ok (.iload_n 0, 1) := by decide +kernel
theorem dX10_isIn_1 : decode cX10_isIn 1 = .ok (.iload_n 1, 1) := by decide +kernel
theorem dX10_isIn_2 : decode cX10_isIn 2 = .ok (.if_icmp .lt 12, 3) := by decide +kernel
theorem dX10_isIn_5 : decode cX10_isIn 5 = .ok (.iload_n 0, 1) := by decide +kernel
theorem dX10_isIn_6 : decode cX10_isIn 6 = .ok (.iload_n 2, 1) := by decide +kernel
theorem dX10_isIn_7 : decode cX10_isIn 7 = .ok (.if_icmp .gt 7, 3) := by decide +kernel
theorem dX10_isIn_10 : decode cX10_isIn 10 = .ok (.iconst 1, 1) := by decide +kernel
theorem dX10_isIn_11 : decode cX10_isIn 11 = .ok (.goto 4, 3) := by decide +kernel
theorem dX10_isIn_14 : decode cX10_isIn 14 = .ok (.iconst 0, 1) := by decide +kernel
theorem dX10_isIn_15 : decode cX10_isIn 15 = .ok (.ireturn, 1) := by decide +kernel
theorem dX10_lays_0 : decode cX10_lays 0 = .ok (.bipush 24, 2) := by decide +kernel
theorem dX10_lays_2 : decode cX10_lays 2 = .ok (.istore_n 2, 1) := by decide +kernel
theorem dX10_lays_3 : decode cX10_lays 3 = .ok (.iload_n 2, 1) := by decide +kernel
theorem dX10_lays_4 : decode cX10_lays 4 = .ok (.ifCond .lt 35, 3) := by decide +kernel
theorem dX10_lays_7 : decode cX10_lays 7 = .ok (.aload_n 0, 1) := by decide +kernel
theorem dX10_lays_8 : decode cX10_lays 8 = .ok (.getfield 7, 3) := by decide +kernel
theorem dX10_lays_11 : decode cX10_lays 11 = .ok (.aload_n 0, 1) := by decide +kernel
theorem dX10_lays_12 : decode cX10_lays 12 = .ok (.getfield 11, 3) := by decide +kernel
theorem dX10_lays_15 : decode cX10_lays 15 = .ok (.iload_n 1, 1) := by decide +kernel
theorem dX10_lays_16 : decode cX10_lays 16 = .ok (.iload_n 2, 1) := by decide +kernel
theorem dX10_lays_17 : decode cX10_lays 17 = .ok (.iushr, 1) := by decide +kernel
theorem dX10_lays_18 : decode cX10_lays 18 = .ok (.sipush 255, 3) := by decide +kernel
theorem dX10_lays_21 : decode cX10_lays 21 = .ok (.iand, 1) := by decide +kernel
theorem dX10_lays_22 : decode cX10_lays 22 = .ok (.iastore, 1) := by decide +kernel
theorem dX10_lays_23 : decode cX10_lays 23 = .ok (.aload_n 0, 1) := by decide +kernel
theorem dX10_lays_24 : decode cX10_lays 24 = .ok (.dup, 1) := by decide +kernel
theorem dX10_lays_25 : decode cX10_lays 25 = .ok (.getfield 11, 3) := by decide +kernel
theorem dX10_lays_28 : decode cX10_lays 28 = .ok (.iconst 1, 1) := by decide +kernel
theorem dX10_lays_29 : decode cX10_lays 29 = .ok (.iadd, 1) := by decide +kernel
theorem dX10_lays_30 : decode cX10_lays 30 = .ok (.putfield 11, 3) := by decide +kernel
theorem dX10_lays_33 : decode cX10_lays 33 = .ok (.iinc 2 (-8), 3) := by decide +kernel
theorem dX10_lays_36 : decode cX10_lays 36 = .ok (.goto (-33), 3) := by decide +kernel
theorem dX10_lays_39 : decode cX10_lays 39 = .ok (.return_, 1) := by decide +kernel
theorem dX10_feed_0 : decode cX10_feed 0 = .ok (.aload_n 0, 1) := by decide +kernel
theorem dX10_feed_1 : decode cX10_feed 1 = .ok (.iconst 0, 1) := by decide +kernel
theorem dX10_feed_2 : decode cX10_feed 2 = .ok (.putfield 1, 3) := by decide +kernel
theorem dX10_feed_5 : decode cX10_feed 5 = .ok (.aload_n 0, 1) := by decide +kernel
theorem dX10_feed_6 : decode cX10_feed 6 = .ok (.getfield 11, 3) := by decide +kernel
theorem dX10_feed_9 : decode cX10_feed 9 = .ok (.bipush 20, 2) := by decide +kernel
theorem dX10_feed_11 : decode cX10_feed 11 = .ok (.iadd, 1) := by decide +kernel
theorem dX10_feed_12 : decode cX10_feed 12 = .ok (.sipush 640, 3) := by decide +kernel
theorem dX10_feed_15 : decode cX10_feed 15 = .ok (.if_icmp .le 5, 3) := by decide +kernel
theorem dX10_feed_18 : decode cX10_feed 18 = .ok (.iconst (-1), 1) := by decide +kernel
theorem dX10_feed_19 : decode cX10_feed 19 = .ok (.ireturn, 1) := by decide +kernel
theorem dX10_feed_20 : decode cX10_feed 20 = .ok (.aload_n 0, 1) := by decide +kernel
theorem dX10_feed_21 : decode cX10_feed 21 = .ok (.iload_n 1, 1) := by decide +kernel
theorem dX10_feed_22 : decode cX10_feed 22 = .ok (.invokevirtual 14, 3) := by decide +kernel
theorem dX10_feed_25 : decode cX10_feed 25 = .ok (.aload_n 0, 1) := by decide +kernel
theorem dX10_feed_26 : decode cX10_feed 26 = .ok (.iload_n 2, 1) := by decide +kernel
theorem dX10_feed_27 : decode cX10_feed 27 = .ok (.invokevirtual 14, 3) := by decide +kernel
theorem dX10_feed_30 : decode cX10_feed 30 = .ok (.aload_n 0, 1) := by decide +kernel
theorem dX10_feed_31 : decode cX10_feed 31 = .ok (.iload_n 3, 1) := by decide +kernel
end
section
theorem dX10_feed_32 : decode cX10_feed 32 = .ok (.invokevirtual 14, 3) := by decide +kernel
theorem dX10_feed_35 : decode cX10_feed 35 = .ok (.aload_n 0, 1) := by decide +kernel
theorem dX10_feed_36 : decode cX10_feed 36 = .ok (.iload 4, 2) := by decide +kernel
theorem dX10_feed_38 : decode cX10_feed 38 = .ok (.invokevirtual 14, 3) := by decide +kernel
theorem dX10_feed_41 : decode cX10_feed 41 = .ok (.aload_n 0, 1) := by decide +kernel
theorem dX10_feed_42 : decode cX10_feed 42 = .ok (.iload 5, 2) := by decide +kernel
theorem dX10_feed_44 : decode cX10_feed 44 = .ok (.invokevirtual 14, 3) := by decide +kernel
theorem dX10_feed_47 : decode cX10_feed 47 = .ok (.aload_n 0, 1) := by decide +kernel
theorem dX10_feed_48 : decode cX10_feed 48 = .ok (.getfield 11, 3) := by decide +kernel
theorem dX10_feed_51 : decode cX10_feed 51 = .ok (.ireturn, 1) := by decide +kernel
theorem dX10_end_0 : decode cX10_end 0 = .ok (.aload_n 0, 1) := by decide +kernel
theorem dX10_end_1 : decode cX10_end 1 = .ok (.iconst 0, 1) := by decide +kernel
theorem dX10_end_2 : decode cX10_end 2 = .ok (.putfield 1, 3) := by decide +kernel
theorem dX10_end_5 : decode cX10_end 5 = .ok (.iload_n 1, 1) := by decide +kernel
theorem dX10_end_6 : decode cX10_end 6 = .ok (.ifCond .lt 11, 3) := by decide +kernel
theorem dX10_end_9 : decode cX10_end 9 = .ok (.iload_n 1, 1) := by decide +kernel
theorem dX10_end_10 : decode cX10_end 10 = .ok (.aload_n 0, 1) := by decide +kernel
theorem dX10_end_11 : decode cX10_end 11 = .ok (.getfield 11, 3) := by decide +kernel
theorem dX10_end_14 : decode cX10_end 14 = .ok (.if_icmp .le 5, 3) := by decide +kernel
theorem dX10_end_17 : decode cX10_end 17 = .ok (.iconst 0, 1) := by decide +kernel
theorem dX10_end_18 : decode cX10_end 18 = .ok (.ireturn, 1) := by decide +kernel
theorem dX10_end_19 : decode cX10_end 19 = .ok (.aload_n 0, 1) := by decide +kernel
theorem dX10_end_20 : decode cX10_end 20 = .ok (.iload_n 1, 1) := by decide +kernel
theorem dX10_end_21 : decode cX10_end 21 = .ok (.putfield 11, 3) := by decide +kernel
theorem dX10_end_24 : decode cX10_end 24 = .ok (.iconst 1, 1) := by decide +kernel
theorem dX10_end_25 : decode cX10_end 25 = .ok (.ireturn, 1) := by decide +kernel
theorem dX10_init_0 : decode cX10_init 0 = .ok (.aload_n 0, 1) := by decide +kernel
theorem dX10_init_1 : decode cX10_init 1 = .ok (.invokespecial 18, 3) := by decide +kernel
theorem dX10_init_4 : decode cX10_init 4 = .ok (.aload_n 0, 1) := by decide +kernel
theorem dX10_init_5 : decode cX10_init 5 = .ok (.sipush 640, 3) := by decide +kernel
theorem dX10_init_8 : decode cX10_init 8 = .ok (.newarray .int, 2) := by decide +kernel
theorem dX10_init_10 : decode cX10_init 10 = .ok (.putfield 7, 3) := by decide +kernel
theorem dX10_init_13 : decode cX10_init 13 = .ok (.aload_n 0, 1) := by decide +kernel
theorem dX10_init_14 : decode cX10_init 14 = .ok (.sipush 254, 3) := by decide +kernel
theorem dX10_init_17 : decode cX10_init 17 = .ok (.newarray .int, 2) := by decide +kernel
theorem dX10_init_19 : decode cX10_init 19 = .ok (.putfield 24, 3) := by decide +kernel
theorem dX10_init_22 : decode cX10_init 22 = .ok (.aload_n 0, 1) := by decide +kernel
theorem dX10_init_23 : decode cX10_init 23 = .ok (.bipush 127, 2) := by decide +kernel
theorem dX10_init_25 : decode cX10_init 25 = .ok (.newarray .int, 2) := by decide +kernel
theorem dX10_init_27 : decode cX10_init 27 = .ok (.putfield 27, 3) := by decide +kernel
theorem dX10_init_30 : decode cX10_init 30 = .ok (.aload_n 0, 1) := by decide +kernel
theorem dX10_init_31 : decode cX10_init 31 = .ok (.sipush 2540, 3) := by decide +kernel
theorem dX10_init_34 : decode cX10_init 34 = .ok (.newarray .int, 2) := by decide +kernel
theorem dX10_init_36 : decode cX10_init 36 = .ok (.putfield 30, 3) := by decide +kernel
theorem dX10_init_39 : decode cX10_init 39 = .ok (.aload_n 0, 1) := by decide +kernel
theorem dX10_init_40 : decode cX10_init 40 = .ok (.bipush 28, 2) := by decide +kernel
theorem dX10_init_42 : decode cX10_init 42 = .ok (.newarray .int, 2) := by decide +kernel
theorem dX10_init_44 : decode cX10_init 44 = .ok (.putfield 33, 3) := by decide +kernel
theorem dX10_init_47 : decode cX10_init 47 = .ok (.aload_n 0, 1) := by decide +kernel
theorem dX10_init_48 : decode cX10_init 48 = .ok (.bipush 28, 2) := by decide +kernel
theorem dX10_init_50 : decode cX10_init 50 = .ok (.newarray .int, 2) := by decide +kernel
theorem dX10_init_52 : decode cX10_init 52 = .ok (.putfield 36, 3) := by decide +kernel
theorem dX10_init_55 : decode cX10_init 55 = .ok (.aload_n 0, 1) := by decide +kernel
theorem dX10_init_56 : decode cX10_init 56 = .ok (.bipush 28, 2) := by decide +kernel
theorem dX10_init_58 : decode cX10_init 58 = .ok (.newarray .int, 2) := by decide +kernel
theorem dX10_init_60 : decode cX10_init 60 = .ok (.putfield 39, 3) := by decide +kernel
theorem dX10_init_63 : decode cX10_init 63 = .ok (.aload_n 0, 1) := by decide +kernel
theorem dX10_init_64 : decode cX10_init 64 = .ok (.bipush 28, 2) := by decide +kernel
theorem dX10_init_66 : decode cX10_init 66 = .ok (.newarray .int, 2) := by decide +kernel
theorem dX10_init_68 : decode cX10_init 68 = .ok (.putfield 42, 3) := by decide +kernel
theorem dX10_init_71 : decode cX10_init 71 = .ok (.aload_n 0, 1) := by decide +kernel
theorem dX10_init_72 : decode cX10_init 72 = .ok (.bipush 28, 2) := by decide +kernel
theorem dX10_init_74 : decode cX10_init 74 = .ok (.newarray .int, 2) := by decide +kernel
theorem dX10_init_76 : decode cX10_init 76 = .ok (.putfield 45, 3) := by decide +kernel
theorem dX10_init_79 : decode cX10_init 79 = .ok (.aload_n 0, 1) := by decide +kernel
theorem dX10_init_80 : decode cX10_init 80 = .ok (.bipush 42, 2) := by decide +kernel
theorem dX10_init_82 : decode cX10_init 82 = .ok (.newarray .int, 2) := by decide +kernel
theorem dX10_init_84 : decode cX10_init 84 = .ok (.putfield 48, 3) := by decide +kernel
theorem dX10_init_87 : decode cX10_init 87 = .ok (.aload_n 0, 1) := by decide +kernel
theorem dX10_init_88 : decode cX10_init 88 = .ok (.bipush 81, 2) := by decide +kernel
theorem dX10_init_90 : decode cX10_init 90 = .ok (.newarray .int, 2) := by decide +kernel
theorem dX10_init_92 : decode cX10_init 92 = .ok (.putfield 51, 3) := by decide +kernel
theorem dX10_init_95 : decode cX10_init 95 = .ok (.return_, 1) := by decide +kernel
theorem dX10_lineAt_0 : decode cX10_lineAt 0 = .ok (.bipush 127, 2) := by decide +kernel
theorem dX10_lineAt_2 : decode cX10_lineAt 2 = .ok (.iload_n 0, 1) := by decide +kernel
theorem dX10_lineAt_3 : decode cX10_lineAt 3 = .ok (.imul, 1) := by decide +kernel
theorem dX10_lineAt_4 : decode cX10_lineAt 4 = .ok (.iconst 1, 1) := by decide +kernel
theorem dX10_lineAt_5 : decode cX10_lineAt 5 = .ok (.iadd, 1) := by decide +kernel
theorem dX10_lineAt_6 : decode cX10_lineAt 6 = .ok (.bipush 9, 2) := by decide +kernel
theorem dX10_lineAt_8 : decode cX10_lineAt 8 = .ok (.iload_n 1, 1) := by decide +kernel
theorem dX10_lineAt_9 : decode cX10_lineAt 9 = .ok (.imul, 1) := by decide +kernel
theorem dX10_lineAt_10 : decode cX10_lineAt 10 = .ok (.iadd, 1) := by decide +kernel
theorem dX10_lineAt_11 : decode cX10_lineAt 11 = .ok (.ireturn, 1) := by decide +kernel
theorem dX10_isEdition_0 : decode cX10_isEdition 0 = .ok (.iload_n 0, 1) := by decide +kernel
theorem dX10_isEdition_1 : decode cX10_isEdition 1 = .ok (.iconst 0, 1) := by decide +kernel
theorem dX10_isEdition_2 : decode cX10_isEdition 2 = .ok (.iconst 1, 1) := by decide +kernel
theorem dX10_isEdition_3 : decode cX10_isEdition 3 = .ok (.invokestatic 54, 3) := by decide +kernel
theorem dX10_isEdition_6 : decode cX10_isEdition 6 = .ok (.ireturn, 1) := by decide +kernel
theorem dX10_many_0 : decode cX10_many 0 = .ok (.aload_n 0, 1) := by decide +kernel
theorem dX10_many_1 : decode cX10_many 1 = .ok (.getfield 24, 3) := by decide +kernel
theorem dX10_many_4 : decode cX10_many 4 = .ok (.bipush 127, 2) := by decide +kernel
theorem dX10_many_6 : decode cX10_many 6 = .ok (.iload_n 1, 1) := by decide +kernel
theorem dX10_many_7 : decode cX10_many 7 = .ok (.imul, 1) := by decide +kernel
theorem dX10_many_8 : decode cX10_many 8 = .ok (.iaload, 1) := by decide +kernel
theorem dX10_many_9 : decode cX10_many 9 = .ok (.ireturn, 1) := by decide +kernel
theorem dX10_isLine_0 : decode cX10_isLine 0 = .ok (.iload_n 1, 1) := by decide +kernel
theorem dX10_isLine_1 : decode cX10_isLine 1 = .ok (.invokestatic 58, 3) := by decide +kernel
theorem dX10_isLine_4 : decode cX10_isLine 4 = .ok (.ifCond .eq 22, 3) := by decide +kernel
theorem dX10_isLine_7 : decode cX10_isLine 7 = .ok (.iload_n 2, 1) := by decide +kernel
theorem dX10_isLine_8 : decode cX10_isLine 8 = .ok (.iconst 0, 1) := by decide +kernel
theorem dX10_isLine_9 : decode cX10_isLine 9 = .ok (.aload_n 0, 1) := by decide +kernel
theorem dX10_isLine_10 : decode cX10_isLine 10 = .ok (.iload_n 1, 1) := by decide +kernel
theorem dX10_isLine_11 : decode cX10_isLine 11 = .ok (.invokevirtual 62, 3) := by decide +kernel
theorem dX10_isLine_14 : decode cX10_isLine 14 = .ok (.iconst 1, 1) := by decide +kernel
theorem dX10_isLine_15 : decode cX10_isLine 15 = .ok (.isub, 1) := by decide +kernel
theorem dX10_isLine_16 : decode cX10_isLine 16 = .ok (.invokestatic 54, 3) := by decide +kernel
theorem dX10_isLine_19 : decode cX10_isLine 19 = .ok (.ifCond .eq 7, 3) := by decide +kernel
theorem dX10_isLine_22 : decode cX10_isLine 22 = .ok (.iconst 1, 1) := by decide +kernel
theorem dX10_isLine_23 : decode cX10_isLine 23 = .ok (.goto 4, 3) := by decide +kernel
theorem dX10_isLine_26 : decode cX10_isLine 26 = .ok (.iconst 0, 1) := by decide +kernel
theorem dX10_isLine_27 : decode cX10_isLine 27 = .ok (.ireturn, 1) := by decide +kernel
theorem dX10_bad_0 : decode cX10_bad 0 = .ok (.aload_n 0, 1) := by decide +kernel
theorem dX10_bad_1 : decode cX10_bad 1 = .ok (.iload_n 1, 1) := by decide +kernel
theorem dX10_bad_2 : decode cX10_bad 2 = .ok (.putfield 66, 3) := by decide +kernel
theorem dX10_bad_5 : decode cX10_bad 5 = .ok (.aload_n 0, 1) := by decide +kernel
theorem dX10_bad_6 : decode cX10_bad 6 = .ok (.iload_n 2, 1) := by decide +kernel
theorem dX10_bad_7 : decode cX10_bad 7 = .ok (.putfield 69, 3) := by decide +kernel
theorem dX10_bad_10 : decode cX10_bad 10 = .ok (.iconst 0, 1) := by decide +kernel
theorem dX10_bad_11 : decode cX10_bad 11 = .ok (.ireturn, 1) := by decide +kernel
theorem dX10_isLetter_0 : decode cX10_isLetter 0 = .ok (.iload_n 0, 1) := by decide +kernel
theorem dX10_isLetter_1 : decode cX10_isLetter 1 = .ok (.bipush 97, 2) := by decide +kernel
theorem dX10_isLetter_3 : decode cX10_isLetter 3 = .ok (.if_icmp .lt 13, 3) := by decide +kernel
theorem dX10_isLetter_6 : decode cX10_isLetter 6 = .ok (.iload_n 0, 1) := by decide +kernel
theorem dX10_isLetter_7 : decode cX10_isLetter 7 = .ok (.bipush 122, 2) := by decide +kernel
theorem dX10_isLetter_9 : decode cX10_isLetter 9 = .ok (.if_icmp .gt 7, 3) := by decide +kernel
theorem dX10_isLetter_12 : decode cX10_isLetter 12 = .ok (.iconst 1, 1) := by decide +kernel
theorem dX10_isLetter_13 : decode cX10_isLetter 13 = .ok (.goto 4, 3) := by decide +kernel
theorem dX10_isLetter_16 : decode cX10_isLetter 16 = .ok (.iconst 0, 1) := by decide +kernel
theorem dX10_isLetter_17 : decode cX10_isLetter 17 = .ok (.ireturn, 1) := by decide +kernel
theorem dX10_readLetter_0 : decode cX10_readLetter 0 = .ok (.iconst 1, 1) := by decide +kernel
theorem dX10_readLetter_1 : decode cX10_readLetter 1 = .ok (.bipush 9, 2) := by decide +kernel
theorem dX10_readLetter_3 : decode cX10_readLetter 3 = .ok (.aload_n 0, 1) := by decide +kernel
theorem dX10_readLetter_4 : decode cX10_readLetter 4 = .ok (.getfield 27, 3) := by decide +kernel
theorem dX10_readLetter_7 : decode cX10_readLetter 7 = .ok (.iconst 0, 1) := by decide +kernel
theorem dX10_readLetter_8 : decode cX10_readLetter 8 = .ok (.iaload, 1) := by decide +kernel
theorem dX10_readLetter_9 : decode cX10_readLetter 9 = .ok (.imul, 1) := by decide +kernel
theorem dX10_readLetter_10 : decode cX10_readLetter 10 = .ok (.iadd, 1) := by decide +kernel
theorem dX10_readLetter_11 : decode cX10_readLetter 11 = .ok (.istore 4, 2) := by decide +kernel
theorem dX10_readLetter_13 : decode cX10_readLetter 13 = .ok (.aload_n 0, 1) := by decide +kernel
theorem dX10_readLetter_14 : decode cX10_readLetter 14 = .ok (.getfield 72, 3) := by decide +kernel
theorem dX10_readLetter_17 : decode cX10_readLetter 17 = .ok (.ifCond .ne 59, 3) := by decide +kernel
theorem dX10_readLetter_20 : decode cX10_readLetter 20 = .ok (.aload_n 0, 1) := by decide +kernel
theorem dX10_readLetter_21 : decode cX10_readLetter 21 = .ok (.getfield 27, 3) := by decide +kernel
theorem dX10_readLetter_24 : decode cX10_readLetter 24 = .ok (.iconst 0, 1) := by decide +kernel
theorem dX10_readLetter_25 : decode cX10_readLetter 25 = .ok (.iaload, 1) := by decide +kernel
theorem dX10_readLetter_26 : decode cX10_readLetter 26 = .ok (.iload_n 3, 1) := by decide +kernel
theorem dX10_readLetter_27 : decode cX10_readLetter 27 = .ok (.if_icmp .eq 15, 3) := by decide +kernel
theorem dX10_readLetter_30 : decode cX10_readLetter 30 = .ok (.aload_n 0, 1) := by decide +kernel
theorem dX10_readLetter_31 : decode cX10_readLetter 31 = .ok (.getfield 27, 3) := by decide +kernel
theorem dX10_readLetter_34 : decode cX10_readLetter 34 = .ok (.iload 4, 2) := by decide +kernel
theorem dX10_readLetter_36 : decode cX10_readLetter 36 = .ok (.iaload, 1) := by decide +kernel
theorem dX10_readLetter_37 : decode cX10_readLetter 37 = .ok (.bipush 8, 2) := by decide +kernel
theorem dX10_readLetter_39 : decode cX10_readLetter 39 = .ok (.if_icmp .ne 10, 3) := by decide +kernel
theorem dX10_readLetter_42 : decode cX10_readLetter 42 = .ok (.aload_n 0, 1) := by decide +kernel
theorem dX10_readLetter_43 : decode cX10_readLetter 43 = .ok (.iconst 2, 1) := by decide +kernel
theorem dX10_readLetter_44 : decode cX10_readLetter 44 = .ok (.iload_n 2, 1) := by decide +kernel
theorem dX10_readLetter_45 : decode cX10_readLetter 45 = .ok (.invokevirtual 75, 3) := by decide +kernel
theorem dX10_readLetter_48 : decode cX10_readLetter 48 = .ok (.ireturn, 1) := by decide +kernel
theorem dX10_readLetter_49 : decode cX10_readLetter 49 = .ok (.aload_n 0, 1) := by decide +kernel
theorem dX10_readLetter_50 : decode cX10_readLetter 50 = .ok (.getfield 27, 3) := by decide +kernel
theorem dX10_readLetter_53 : decode cX10_readLetter 53 = .ok (.iload 4, 2) := by decide +kernel
theorem dX10_readLetter_55 : decode cX10_readLetter 55 = .ok (.dup2, 1) := by decide +kernel
theorem dX10_readLetter_56 : decode cX10_readLetter 56 = .ok (.iaload, 1) := by decide +kernel
theorem dX10_readLetter_57 : decode cX10_readLetter 57 = .ok (.iconst 1, 1) := by decide +kernel
theorem dX10_readLetter_58 : decode cX10_readLetter 58 = .ok (.iadd, 1) := by decide +kernel
theorem dX10_readLetter_59 : decode cX10_readLetter 59 = .ok (.iastore, 1) := by decide +kernel
theorem dX10_readLetter_60 : decode cX10_readLetter 60 = .ok (.aload_n 0, 1) := by decide +kernel
theorem dX10_readLetter_61 : decode cX10_readLetter 61 = .ok (.getfield 27, 3) := by decide +kernel
theorem dX10_readLetter_64 : decode cX10_readLetter 64 = .ok (.iload 4, 2) := by decide +kernel
theorem dX10_readLetter_66 : decode cX10_readLetter 66 = .ok (.aload_n 0, 1) := by decide +kernel
theorem dX10_readLetter_67 : decode cX10_readLetter 67 = .ok (.getfield 27, 3) := by decide +kernel
theorem dX10_readLetter_70 : decode cX10_readLetter 70 = .ok (.iload 4, 2) := by decide +kernel
theorem dX10_readLetter_72 : decode cX10_readLetter 72 = .ok (.iaload, 1) := by decide +kernel
theorem dX10_readLetter_73 : decode cX10_readLetter 73 = .ok (.iadd, 1) := by decide +kernel
theorem dX10_readLetter_74 : decode cX10_readLetter 74 = .ok (.iconst 0, 1) := by decide +kernel
theorem dX10_readLetter_75 : decode cX10_readLetter 75 = .ok (.iastore, 1) := by decide +kernel
theorem dX10_readLetter_76 : decode cX10_readLetter 76 = .ok (.aload_n 0, 1) := by decide +kernel
theorem dX10_readLetter_77 : decode cX10_readLetter 77 = .ok (.getfield 72, 3) := by decide +kernel
theorem dX10_readLetter_80 : decode cX10_readLetter 80 = .ok (.bipush 6, 2) := by decide +kernel
theorem dX10_readLetter_82 : decode cX10_readLetter 82 = .ok (.if_icmp .ne 10, 3) := by decide +kernel
theorem dX10_readLetter_85 : decode cX10_readLetter 85 = .ok (.aload_n 0, 1) := by decide +kernel
theorem dX10_readLetter_86 : decode cX10_readLetter 86 = .ok (.iconst 2, 1) := by decide +kernel
theorem dX10_readLetter_87 : decode cX10_readLetter 87 = .ok (.iload_n 2, 1) := by decide +kernel
theorem dX10_readLetter_88 : decode cX10_readLetter 88 = .ok (.invokevirtual 75, 3) := by decide +kernel
theorem dX10_readLetter_91 : decode cX10_readLetter 91 = .ok (.ireturn, 1) := by decide +kernel
theorem dX10_readLetter_92 : decode cX10_readLetter 92 = .ok (.aload_n 0, 1) := by decide +kernel
theorem dX10_readLetter_93 : decode cX10_readLetter 93 = .ok (.dup, 1) := by decide +kernel
theorem dX10_readLetter_94 : decode cX10_readLetter 94 = .ok (.getfield 72, 3) := by decide +kernel
theorem dX10_readLetter_97 : decode cX10_readLetter 97 = .ok (.iconst 1, 1) := by decide +kernel
theorem dX10_readLetter_98 : decode cX10_readLetter 98 = .ok (.iadd, 1) := by decide +kernel
theorem dX10_readLetter_99 : decode cX10_readLetter 99 = .ok (.putfield 72, 3) := by decide +kernel
theorem dX10_readLetter_102 : decode cX10_readLetter 102 = .ok (.aload_n 0, 1) := by decide +kernel
theorem dX10_readLetter_103 : decode cX10_readLetter 103 = .ok (.getfield 27, 3) := by decide +kernel
theorem dX10_readLetter_106 : decode cX10_readLetter 106 = .ok (.iload 4, 2) := by decide +kernel
theorem dX10_readLetter_108 : decode cX10_readLetter 108 = .ok (.aload_n 0, 1) := by decide +kernel
theorem dX10_readLetter_109 : decode cX10_readLetter 109 = .ok (.getfield 27, 3) := by decide +kernel
theorem dX10_readLetter_112 : decode cX10_readLetter 112 = .ok (.iload 4, 2) := by decide +kernel
theorem dX10_readLetter_114 : decode cX10_readLetter 114 = .ok (.iaload, 1) := by decide +kernel
theorem dX10_readLetter_115 : decode cX10_readLetter 115 = .ok (.iadd, 1) := by decide +kernel
theorem dX10_readLetter_116 : decode cX10_readLetter 116 = .ok (.bipush 27, 2) := by decide +kernel
theorem dX10_readLetter_118 : decode cX10_readLetter 118 = .ok (.aload_n 0, 1) := by decide +kernel
theorem dX10_readLetter_119 : decode cX10_readLetter 119 = .ok (.getfield 27, 3) := by decide +kernel
theorem dX10_readLetter_122 : decode cX10_readLetter 122 = .ok (.iload 4, 2) := by decide +kernel
theorem dX10_readLetter_124 : decode cX10_readLetter 124 = .ok (.aload_n 0, 1) := by decide +kernel
theorem dX10_readLetter_125 : decode cX10_readLetter 125 = .ok (.getfield 27, 3) := by decide +kernel
theorem dX10_readLetter_128 : decode cX10_readLetter 128 = .ok (.iload 4, 2) := by decide +kernel
theorem dX10_readLetter_130 : decode cX10_readLetter 130 = .ok (.iaload, 1) := by decide +kernel
theorem dX10_readLetter_131 : decode cX10_readLetter 131 = .ok (.iadd, 1) := by decide +kernel
theorem dX10_readLetter_132 : decode cX10_readLetter 132 = .ok (.iaload, 1) := by decide +kernel
theorem dX10_readLetter_133 : decode cX10_readLetter 133 = .ok (.imul, 1) := by decide +kernel
theorem dX10_readLetter_134 : decode cX10_readLetter 134 = .ok (.iload_n 1, 1) := by decide +kernel
theorem dX10_readLetter_135 : decode cX10_readLetter 135 = .ok (.iadd, 1) := by decide +kernel
theorem dX10_readLetter_136 : decode cX10_readLetter 136 = .ok (.bipush 96, 2) := by decide +kernel
theorem dX10_readLetter_138 : decode cX10_readLetter 138 = .ok (.isub, 1) := by decide +kernel
theorem dX10_readLetter_139 : decode cX10_readLetter 139 = .ok (.iastore, 1) := by decide +kernel
theorem dX10_readLetter_140 : decode cX10_readLetter 140 = .ok (.iconst 1, 1) := by decide +kernel
theorem dX10_readLetter_141 : decode cX10_readLetter 141 = .ok (.ireturn, 1) := by decide +kernel
theorem dX10_readEnd_0 : decode cX10_readEnd 0 = .ok (.aload_n 0, 1) := by decide +kernel
theorem dX10_readEnd_1 : decode cX10_readEnd 1 = .ok (.iconst 0, 1) := by decide +kernel
theorem dX10_readEnd_2 : decode cX10_readEnd 2 = .ok (.putfield 72, 3) := by decide +kernel
theorem dX10_readEnd_5 : decode cX10_readEnd 5 = .ok (.aload_n 0, 1) := by decide +kernel
theorem dX10_readEnd_6 : decode cX10_readEnd 6 = .ok (.getfield 27, 3) := by decide +kernel
theorem dX10_readEnd_9 : decode cX10_readEnd 9 = .ok (.iconst 0, 1) := by decide +kernel
theorem dX10_readEnd_10 : decode cX10_readEnd 10 = .ok (.iaload, 1) := by decide +kernel
theorem dX10_readEnd_11 : decode cX10_readEnd 11 = .ok (.bipush 14, 2) := by decide +kernel
theorem dX10_readEnd_13 : decode cX10_readEnd 13 = .ok (.if_icmp .eq 22, 3) := by decide +kernel
theorem dX10_readEnd_16 : decode cX10_readEnd 16 = .ok (.aload_n 0, 1) := by decide +kernel
theorem dX10_readEnd_17 : decode cX10_readEnd 17 = .ok (.getfield 27, 3) := by decide +kernel
theorem dX10_readEnd_20 : decode cX10_readEnd 20 = .ok (.iconst 1, 1) := by decide +kernel
theorem dX10_readEnd_21 : decode cX10_readEnd 21 = .ok (.bipush 9, 2) := by decide +kernel
theorem dX10_readEnd_23 : decode cX10_readEnd 23 = .ok (.aload_n 0, 1) := by decide +kernel
theorem dX10_readEnd_24 : decode cX10_readEnd 24 = .ok (.getfield 27, 3) := by decide +kernel
theorem dX10_readEnd_27 : decode cX10_readEnd 27 = .ok (.iconst 0, 1) := by decide +kernel
theorem dX10_readEnd_28 : decode cX10_readEnd 28 = .ok (.iaload, 1) := by decide +kernel
theorem dX10_readEnd_29 : decode cX10_readEnd 29 = .ok (.imul, 1) := by decide +kernel
theorem dX10_readEnd_30 : decode cX10_readEnd 30 = .ok (.iadd, 1) := by decide +kernel
theorem dX10_readEnd_31 : decode cX10_readEnd 31 = .ok (.iaload, 1) := by decide +kernel
theorem dX10_readEnd_32 : decode cX10_readEnd 32 = .ok (.ifCond .ne 10, 3) := by decide +kernel
theorem dX10_readEnd_35 : decode cX10_readEnd 35 = .ok (.aload_n 0, 1) := by decide +kernel
theorem dX10_readEnd_36 : decode cX10_readEnd 36 = .ok (.iconst 1, 1) := by decide +kernel
theorem dX10_readEnd_37 : decode cX10_readEnd 37 = .ok (.iload_n 1, 1) := by decide +kernel
theorem dX10_readEnd_38 : decode cX10_readEnd 38 = .ok (.invokevirtual 75, 3) := by decide +kernel
theorem dX10_readEnd_41 : decode cX10_readEnd 41 = .ok (.ireturn, 1) := by decide +kernel
theorem dX10_readEnd_42 : decode cX10_readEnd 42 = .ok (.aload_n 0, 1) := by decide +kernel
theorem dX10_readEnd_43 : decode cX10_readEnd 43 = .ok (.getfield 27, 3) := by decide +kernel
theorem dX10_readEnd_46 : decode cX10_readEnd 46 = .ok (.iconst 0, 1) := by decide +kernel
theorem dX10_readEnd_47 : decode cX10_readEnd 47 = .ok (.dup2, 1) := by decide +kernel
theorem dX10_readEnd_48 : decode cX10_readEnd 48 = .ok (.iaload, 1) := by decide +kernel
theorem dX10_readEnd_49 : decode cX10_readEnd 49 = .ok (.iconst 1, 1) := by decide +kernel
theorem dX10_readEnd_50 : decode cX10_readEnd 50 = .ok (.iadd, 1) := by decide +kernel
theorem dX10_readEnd_51 : decode cX10_readEnd 51 = .ok (.iastore, 1) := by decide +kernel
theorem dX10_readEnd_52 : decode cX10_readEnd 52 = .ok (.iconst 1, 1) := by decide +kernel
theorem dX10_readEnd_53 : decode cX10_readEnd 53 = .ok (.ireturn, 1) := by decide +kernel
theorem dX10_reads_0 : decode cX10_reads 0 = .ok (.aload_n 0, 1) := by decide +kernel
theorem dX10_reads_1 : decode cX10_reads 1 = .ok (.getfield 11, 3) := by decide +kernel
theorem dX10_reads_4 : decode cX10_reads 4 = .ok (.istore_n 3, 1) := by decide +kernel
theorem dX10_reads_5 : decode cX10_reads 5 = .ok (.aload_n 0, 1) := by decide +kernel
theorem dX10_reads_6 : decode cX10_reads 6 = .ok (.iconst 0, 1) := by decide +kernel
theorem dX10_reads_7 : decode cX10_reads 7 = .ok (.putfield 11, 3) := by decide +kernel
theorem dX10_reads_10 : decode cX10_reads 10 = .ok (.aload_n 0, 1) := by decide +kernel
theorem dX10_reads_11 : decode cX10_reads 11 = .ok (.iconst 0, 1) := by decide +kernel
theorem dX10_reads_12 : decode cX10_reads 12 = .ok (.putfield 66, 3) := by decide +kernel
theorem dX10_reads_15 : decode cX10_reads 15 = .ok (.aload_n 0, 1) := by decide +kernel
theorem dX10_reads_16 : decode cX10_reads 16 = .ok (.iconst 0, 1) := by decide +kernel
theorem dX10_reads_17 : decode cX10_reads 17 = .ok (.putfield 72, 3) := by decide +kernel
theorem dX10_reads_20 : decode cX10_reads 20 = .ok (.iconst 0, 1) := by decide +kernel
theorem dX10_reads_21 : decode cX10_reads 21 = .ok (.istore 4, 2) := by decide +kernel
theorem dX10_reads_23 : decode cX10_reads 23 = .ok (.iload 4, 2) := by decide +kernel
theorem dX10_reads_25 : decode cX10_reads 25 = .ok (.bipush 127, 2) := by decide +kernel
theorem dX10_reads_27 : decode cX10_reads 27 = .ok (.if_icmp .ge 17, 3) := by decide +kernel
theorem dX10_reads_30 : decode cX10_reads 30 = .ok (.aload_n 0, 1) := by decide +kernel
theorem dX10_reads_31 : decode cX10_reads 31 = .ok (.getfield 27, 3) := by decide +kernel
theorem dX10_reads_34 : decode cX10_reads 34 = .ok (.iload 4, 2) := by decide +kernel
theorem dX10_reads_36 : decode cX10_reads 36 = .ok (.iconst 0, 1) := by decide +kernel
theorem dX10_reads_37 : decode cX10_reads 37 = .ok (.iastore, 1) := by decide +kernel
theorem dX10_reads_38 : decode cX10_reads 38 = .ok (.iinc 4 1, 3) := by decide +kernel
theorem dX10_reads_41 : decode cX10_reads 41 = .ok (.goto (-18), 3) := by decide +kernel
theorem dX10_reads_44 : decode cX10_reads 44 = .ok (.iconst 0, 1) := by decide +kernel
theorem dX10_reads_45 : decode cX10_reads 45 = .ok (.istore 4, 2) := by decide +kernel
theorem dX10_reads_47 : decode cX10_reads 47 = .ok (.iload 4, 2) := by decide +kernel
theorem dX10_reads_49 : decode cX10_reads 49 = .ok (.iload_n 3, 1) := by decide +kernel
theorem dX10_reads_50 : decode cX10_reads 50 = .ok (.if_icmp .ge 144, 3) := by decide +kernel
theorem dX10_reads_53 : decode cX10_reads 53 = .ok (.iload 4, 2) := by decide +kernel
theorem dX10_reads_55 : decode cX10_reads 55 = .ok (.iload_n 1, 1) := by decide +kernel
theorem dX10_reads_56 : decode cX10_reads 56 = .ok (.if_icmp .ne 11, 3) := by decide +kernel
theorem dX10_reads_59 : decode cX10_reads 59 = .ok (.aload_n 0, 1) := by decide +kernel
theorem dX10_reads_60 : decode cX10_reads 60 = .ok (.iconst 1, 1) := by decide +kernel
theorem dX10_reads_61 : decode cX10_reads 61 = .ok (.iload 4, 2) := by decide +kernel
theorem dX10_reads_63 : decode cX10_reads 63 = .ok (.invokevirtual 75, 3) := by decide +kernel
theorem dX10_reads_66 : decode cX10_reads 66 = .ok (.ireturn, 1) := by decide +kernel
theorem dX10_reads_67 : decode cX10_reads 67 = .ok (.aload_n 0, 1) := by decide +kernel
theorem dX10_reads_68 : decode cX10_reads 68 = .ok (.getfield 7, 3) := by decide +kernel
theorem dX10_reads_71 : decode cX10_reads 71 = .ok (.iload 4, 2) := by decide +kernel
theorem dX10_reads_73 : decode cX10_reads 73 = .ok (.iaload, 1) := by decide +kernel
theorem dX10_reads_74 : decode cX10_reads 74 = .ok (.istore 5, 2) := by decide +kernel
theorem dX10_reads_76 : decode cX10_reads 76 = .ok (.iload 5, 2) := by decide +kernel
theorem dX10_reads_78 : decode cX10_reads 78 = .ok (.bipush 32, 2) := by decide +kernel
theorem dX10_reads_80 : decode cX10_reads 80 = .ok (.if_icmp .eq 10, 3) := by decide +kernel
theorem dX10_reads_83 : decode cX10_reads 83 = .ok (.iload 5, 2) := by decide +kernel
theorem dX10_reads_85 : decode cX10_reads 85 = .ok (.bipush 10, 2) := by decide +kernel
theorem dX10_reads_87 : decode cX10_reads 87 = .ok (.if_icmp .ne 7, 3) := by decide +kernel
theorem dX10_reads_90 : decode cX10_reads 90 = .ok (.iconst 1, 1) := by decide +kernel
theorem dX10_reads_91 : decode cX10_reads 91 = .ok (.goto 4, 3) := by decide +kernel
theorem dX10_reads_94 : decode cX10_reads 94 = .ok (.iconst 0, 1) := by decide +kernel
theorem dX10_reads_95 : decode cX10_reads 95 = .ok (.istore 6, 2) := by decide +kernel
theorem dX10_reads_97 : decode cX10_reads 97 = .ok (.iload 5, 2) := by decide +kernel
theorem dX10_reads_99 : decode cX10_reads 99 = .ok (.invokestatic 79, 3) := by decide +kernel
theorem dX10_reads_102 : decode cX10_reads 102 = .ok (.ifCond .ne 27, 3) := by decide +kernel
theorem dX10_reads_105 : decode cX10_reads 105 = .ok (.iload 6, 2) := by decide +kernel
theorem dX10_reads_107 : decode cX10_reads 107 = .ok (.ifCond .ne 22, 3) := by decide +kernel
theorem dX10_reads_110 : decode cX10_reads 110 = .ok (.iload_n 2, 1) := by decide +kernel
theorem dX10_reads_111 : decode cX10_reads 111 = .ok (.ifCond .ne 10, 3) := by decide +kernel
theorem dX10_reads_114 : decode cX10_reads 114 = .ok (.iload 5, 2) := by decide +kernel
theorem dX10_reads_116 : decode cX10_reads 116 = .ok (.bipush 59, 2) := by decide +kernel
theorem dX10_reads_118 : decode cX10_reads 118 = .ok (.if_icmp .eq 11, 3) := by decide +kernel
theorem dX10_reads_121 : decode cX10_reads 121 = .ok (.aload_n 0, 1) := by decide +kernel
theorem dX10_reads_122 : decode cX10_reads 122 = .ok (.iconst 1, 1) := by decide +kernel
theorem dX10_reads_123 : decode cX10_reads 123 = .ok (.iload 4, 2) := by decide +kernel
theorem dX10_reads_125 : decode cX10_reads 125 = .ok (.invokevirtual 75, 3) := by decide +kernel
theorem dX10_reads_128 : decode cX10_reads 128 = .ok (.ireturn, 1) := by decide +kernel
theorem dX10_reads_129 : decode cX10_reads 129 = .ok (.iload 5, 2) := by decide +kernel
theorem dX10_reads_131 : decode cX10_reads 131 = .ok (.invokestatic 79, 3) := by decide +kernel
theorem dX10_reads_134 : decode cX10_reads 134 = .ok (.ifCond .eq 26, 3) := by decide +kernel
theorem dX10_reads_137 : decode cX10_reads 137 = .ok (.aload_n 0, 1) := by decide +kernel
theorem dX10_reads_138 : decode cX10_reads 138 = .ok (.iload 5, 2) := by decide +kernel
theorem dX10_reads_140 : decode cX10_reads 140 = .ok (.iload 4, 2) := by decide +kernel
theorem dX10_reads_142 : decode cX10_reads 142 = .ok (.iload_n 2, 1) := by decide +kernel
theorem dX10_reads_143 : decode cX10_reads 143 = .ok (.ifCond .eq 7, 3) := by decide +kernel
theorem dX10_reads_146 : decode cX10_reads 146 = .ok (.iconst 1, 1) := by decide +kernel
theorem dX10_reads_147 : decode cX10_reads 147 = .ok (.goto 5, 3) := by decide +kernel
theorem dX10_reads_150 : decode cX10_reads 150 = .ok (.bipush 14, 2) := by decide +kernel
theorem dX10_reads_152 : decode cX10_reads 152 = .ok (.invokevirtual 82, 3) := by decide +kernel
theorem dX10_reads_155 : decode cX10_reads 155 = .ok (.ifCond .ne 5, 3) := by decide +kernel
theorem dX10_reads_158 : decode cX10_reads 158 = .ok (.iconst 0, 1) := by decide +kernel
theorem dX10_reads_159 : decode cX10_reads 159 = .ok (.ireturn, 1) := by decide +kernel
theorem dX10_reads_160 : decode cX10_reads 160 = .ok (.iload 6, 2) := by decide +kernel
theorem dX10_reads_162 : decode cX10_reads 162 = .ok (.ifCond .eq 8, 3) := by decide +kernel
theorem dX10_reads_165 : decode cX10_reads 165 = .ok (.aload_n 0, 1) := by decide +kernel
theorem dX10_reads_166 : decode cX10_reads 166 = .ok (.iconst 0, 1) := by decide +kernel
theorem dX10_reads_167 : decode cX10_reads 167 = .ok (.putfield 72, 3) := by decide +kernel
theorem dX10_reads_170 : decode cX10_reads 170 = .ok (.iload 5, 2) := by decide +kernel
theorem dX10_reads_172 : decode cX10_reads 172 = .ok (.bipush 59, 2) := by decide +kernel
theorem dX10_reads_174 : decode cX10_reads 174 = .ok (.if_icmp .ne 14, 3) := by decide +kernel
theorem dX10_reads_177 : decode cX10_reads 177 = .ok (.aload_n 0, 1) := by decide +kernel
theorem dX10_reads_178 : decode cX10_reads 178 = .ok (.iload 4, 2) := by decide +kernel
theorem dX10_reads_180 : decode cX10_reads 180 = .ok (.invokevirtual 85, 3) := by decide +kernel
theorem dX10_reads_183 : decode cX10_reads 183 = .ok (.ifCond .ne 5, 3) := by decide +kernel
theorem dX10_reads_186 : decode cX10_reads 186 = .ok (.iconst 0, 1) := by decide +kernel
theorem dX10_reads_187 : decode cX10_reads 187 = .ok (.ireturn, 1) := by decide +kernel
theorem dX10_reads_188 : decode cX10_reads 188 = .ok (.iinc 4 1, 3) := by decide +kernel
theorem dX10_reads_191 : decode cX10_reads 191 = .ok (.goto (-144), 3) := by decide +kernel
theorem dX10_reads_194 : decode cX10_reads 194 = .ok (.iload_n 2, 1) := by decide +kernel
theorem dX10_reads_195 : decode cX10_reads 195 = .ok (.ifCond .eq 9, 3) := by decide +kernel
theorem dX10_reads_198 : decode cX10_reads 198 = .ok (.aload_n 0, 1) := by decide +kernel
theorem dX10_reads_199 : decode cX10_reads 199 = .ok (.iload_n 3, 1) := by decide +kernel
theorem dX10_reads_200 : decode cX10_reads 200 = .ok (.invokevirtual 85, 3) := by decide +kernel
theorem dX10_reads_203 : decode cX10_reads 203 = .ok (.ireturn, 1) := by decide +kernel
theorem dX10_reads_204 : decode cX10_reads 204 = .ok (.aload_n 0, 1) := by decide +kernel
theorem dX10_reads_205 : decode cX10_reads 205 = .ok (.getfield 27, 3) := by decide +kernel
theorem dX10_reads_208 : decode cX10_reads 208 = .ok (.iconst 0, 1) := by decide +kernel
theorem dX10_reads_209 : decode cX10_reads 209 = .ok (.iaload, 1) := by decide +kernel
theorem dX10_reads_210 : decode cX10_reads 210 = .ok (.bipush 14, 2) := by decide +kernel
theorem dX10_reads_212 : decode cX10_reads 212 = .ok (.if_icmp .eq 31, 3) := by decide +kernel
theorem dX10_reads_215 : decode cX10_reads 215 = .ok (.aload_n 0, 1) := by decide +kernel
theorem dX10_reads_216 : decode cX10_reads 216 = .ok (.getfield 27, 3) := by decide +kernel
theorem dX10_reads_219 : decode cX10_reads 219 = .ok (.iconst 1, 1) := by decide +kernel
theorem dX10_reads_220 : decode cX10_reads 220 = .ok (.bipush 9, 2) := by decide +kernel
theorem dX10_reads_222 : decode cX10_reads 222 = .ok (.aload_n 0, 1) := by decide +kernel
theorem dX10_reads_223 : decode cX10_reads 223 = .ok (.getfield 27, 3) := by decide +kernel
theorem dX10_reads_226 : decode cX10_reads 226 = .ok (.iconst 0, 1) := by decide +kernel
theorem dX10_reads_227 : decode cX10_reads 227 = .ok (.iaload, 1) := by decide +kernel
theorem dX10_reads_228 : decode cX10_reads 228 = .ok (.imul, 1) := by decide +kernel
theorem dX10_reads_229 : decode cX10_reads 229 = .ok (.iadd, 1) := by decide +kernel
theorem dX10_reads_230 : decode cX10_reads 230 = .ok (.iaload, 1) := by decide +kernel
theorem dX10_reads_231 : decode cX10_reads 231 = .ok (.ifCond .eq 12, 3) := by decide +kernel
theorem dX10_reads_234 : decode cX10_reads 234 = .ok (.aload_n 0, 1) := by decide +kernel
theorem dX10_reads_235 : decode cX10_reads 235 = .ok (.iconst 1, 1) := by decide +kernel
theorem dX10_reads_236 : decode cX10_reads 236 = .ok (.iload_n 3, 1) := by decide +kernel
theorem dX10_reads_237 : decode cX10_reads 237 = .ok (.invokevirtual 75, 3) := by decide +kernel
theorem dX10_reads_240 : decode cX10_reads 240 = .ok (.ifCond .eq 7, 3) := by decide +kernel
theorem dX10_reads_243 : decode cX10_reads 243 = .ok (.iconst 1, 1) := by decide +kernel
theorem dX10_reads_244 : decode cX10_reads 244 = .ok (.goto 4, 3) := by decide +kernel
theorem dX10_reads_247 : decode cX10_reads 247 = .ok (.iconst 0, 1) := by decide +kernel
theorem dX10_reads_248 : decode cX10_reads 248 = .ok (.ireturn, 1) := by decide +kernel
theorem dX10_edition_0 : decode cX10_edition 0 = .ok (.aload_n 0, 1) := by decide +kernel
theorem dX10_edition_1 : decode cX10_edition 1 = .ok (.iconst 0, 1) := by decide +kernel
theorem dX10_edition_2 : decode cX10_edition 2 = .ok (.putfield 1, 3) := by decide +kernel
theorem dX10_edition_5 : decode cX10_edition 5 = .ok (.iload_n 1, 1) := by decide +kernel
theorem dX10_edition_6 : decode cX10_edition 6 = .ok (.invokestatic 58, 3) := by decide +kernel
theorem dX10_edition_9 : decode cX10_edition 9 = .ok (.ifCond .ne 5, 3) := by decide +kernel
theorem dX10_edition_12 : decode cX10_edition 12 = .ok (.iconst (-1), 1) := by decide +kernel
theorem dX10_edition_13 : decode cX10_edition 13 = .ok (.ireturn, 1) := by decide +kernel
theorem dX10_edition_14 : decode cX10_edition 14 = .ok (.aload_n 0, 1) := by decide +kernel
theorem dX10_edition_15 : decode cX10_edition 15 = .ok (.sipush 600, 3) := by decide +kernel
theorem dX10_edition_18 : decode cX10_edition 18 = .ok (.iconst 0, 1) := by decide +kernel
theorem dX10_edition_19 : decode cX10_edition 19 = .ok (.invokevirtual 88, 3) := by decide +kernel
theorem dX10_edition_22 : decode cX10_edition 22 = .ok (.ifCond .ne 11, 3) := by decide +kernel
theorem dX10_edition_25 : decode cX10_edition 25 = .ok (.bipush (-2), 2) := by decide +kernel
theorem dX10_edition_27 : decode cX10_edition 27 = .ok (.aload_n 0, 1) := by decide +kernel
theorem dX10_edition_28 : decode cX10_edition 28 = .ok (.getfield 69, 3) := by decide +kernel
theorem dX10_edition_31 : decode cX10_edition 31 = .ok (.isub, 1) := by decide +kernel
theorem dX10_edition_32 : decode cX10_edition 32 = .ok (.ireturn, 1) := by decide +kernel
theorem dX10_edition_33 : decode cX10_edition 33 = .ok (.iconst 0, 1) := by decide +kernel
theorem dX10_edition_34 : decode cX10_edition 34 = .ok (.istore_n 2, 1) := by decide +kernel
theorem dX10_edition_35 : decode cX10_edition 35 = .ok (.iload_n 2, 1) := by decide +kernel
theorem dX10_edition_36 : decode cX10_edition 36 = .ok (.bipush 127, 2) := by decide +kernel
theorem dX10_edition_38 : decode cX10_edition 38 = .ok (.if_icmp .ge 26, 3) := by decide +kernel
theorem dX10_edition_41 : decode cX10_edition 41 = .ok (.aload_n 0, 1) := by decide +kernel
theorem dX10_edition_42 : decode cX10_edition 42 = .ok (.getfield 24, 3) := by decide +kernel
theorem dX10_edition_45 : decode cX10_edition 45 = .ok (.bipush 127, 2) := by decide +kernel
theorem dX10_edition_47 : decode cX10_edition 47 = .ok (.iload_n 1, 1) := by decide +kernel
theorem dX10_edition_48 : decode cX10_edition 48 = .ok (.imul, 1) := by decide +kernel
theorem dX10_edition_49 : decode cX10_edition 49 = .ok (.iload_n 2, 1) := by decide +kernel
theorem dX10_edition_50 : decode cX10_edition 50 = .ok (.iadd, 1) := by decide +kernel
theorem dX10_edition_51 : decode cX10_edition 51 = .ok (.aload_n 0, 1) := by decide +kernel
theorem dX10_edition_52 : decode cX10_edition 52 = .ok (.getfield 27, 3) := by decide +kernel
theorem dX10_edition_55 : decode cX10_edition 55 = .ok (.iload_n 2, 1) := by decide +kernel
theorem dX10_edition_56 : decode cX10_edition 56 = .ok (.iaload, 1) := by decide +kernel
theorem dX10_edition_57 : decode cX10_edition 57 = .ok (.iastore, 1) := by decide +kernel
theorem dX10_edition_58 : decode cX10_edition 58 = .ok (.iinc 2 1, 3) := by decide +kernel
theorem dX10_edition_61 : decode cX10_edition 61 = .ok (.goto (-26), 3) := by decide +kernel
theorem dX10_edition_64 : decode cX10_edition 64 = .ok (.aload_n 0, 1) := by decide +kernel
theorem dX10_edition_65 : decode cX10_edition 65 = .ok (.iconst 0, 1) := by decide +kernel
theorem dX10_edition_66 : decode cX10_edition 66 = .ok (.putfield 92, 3) := by decide +kernel
theorem dX10_edition_69 : decode cX10_edition 69 = .ok (.aload_n 0, 1) := by decide +kernel
theorem dX10_edition_70 : decode cX10_edition 70 = .ok (.iload_n 1, 1) := by decide +kernel
theorem dX10_edition_71 : decode cX10_edition 71 = .ok (.invokevirtual 62, 3) := by decide +kernel
theorem dX10_edition_74 : decode cX10_edition 74 = .ok (.ireturn, 1) := by decide +kernel
theorem dX10_fault_0 : decode cX10_fault 0 = .ok (.aload_n 0, 1) := by decide +kernel
theorem dX10_fault_1 : decode cX10_fault 1 = .ok (.iconst 0, 1) := by decide +kernel
theorem dX10_fault_2 : decode cX10_fault 2 = .ok (.putfield 1, 3) := by decide +kernel
theorem dX10_fault_5 : decode cX10_fault 5 = .ok (.aload_n 0, 1) := by decide +kernel
theorem dX10_fault_6 : decode cX10_fault 6 = .ok (.getfield 66, 3) := by decide +kernel
theorem dX10_fault_9 : decode cX10_fault 9 = .ok (.ireturn, 1) := by decide +kernel
theorem dX10_wordsOf_0 : decode cX10_wordsOf 0 = .ok (.aload_n 0, 1) := by decide +kernel
theorem dX10_wordsOf_1 : decode cX10_wordsOf 1 = .ok (.getfield 24, 3) := by decide +kernel
theorem dX10_wordsOf_4 : decode cX10_wordsOf 4 = .ok (.iload_n 1, 1) := by decide +kernel
theorem dX10_wordsOf_5 : decode cX10_wordsOf 5 = .ok (.iload_n 2, 1) := by decide +kernel
theorem dX10_wordsOf_6 : decode cX10_wordsOf 6 = .ok (.invokestatic 95, 3) := by decide +kernel
theorem dX10_wordsOf_9 : decode cX10_wordsOf 9 = .ok (.iaload, 1) := by decide +kernel
theorem dX10_wordsOf_10 : decode cX10_wordsOf 10 = .ok (.ireturn, 1) := by decide +kernel
theorem dX10_word_0 : decode cX10_word 0 = .ok (.aload_n 0, 1) := by decide +kernel
theorem dX10_word_1 : decode cX10_word 1 = .ok (.getfield 24, 3) := by decide +kernel
theorem dX10_word_4 : decode cX10_word 4 = .ok (.iload_n 1, 1) := by decide +kernel
theorem dX10_word_5 : decode cX10_word 5 = .ok (.iload_n 2, 1) := by decide +kernel
theorem dX10_word_6 : decode cX10_word 6 = .ok (.invokestatic 95, 3) := by decide +kernel
theorem dX10_word_9 : decode cX10_word 9 = .ok (.iconst 1, 1) := by decide +kernel
theorem dX10_word_10 : decode cX10_word 10 = .ok (.iadd, 1) := by decide +kernel
theorem dX10_word_11 : decode cX10_word 11 = .ok (.iload_n 3, 1) := by decide +kernel
theorem dX10_word_12 : decode cX10_word 12 = .ok (.iadd, 1) := by decide +kernel
theorem dX10_word_13 : decode cX10_word 13 = .ok (.iaload, 1) := by decide +kernel
theorem dX10_word_14 : decode cX10_word 14 = .ok (.ireturn, 1) := by decide +kernel
theorem dX10_areAlike_0 : decode cX10_areAlike 0 = .ok (.aload_n 0, 1) := by decide +kernel
theorem dX10_areAlike_1 : decode cX10_areAlike 1 = .ok (.iload_n 1, 1) := by decide +kernel
theorem dX10_areAlike_2 : decode cX10_areAlike 2 = .ok (.iload_n 2, 1) := by decide +kernel
theorem dX10_areAlike_3 : decode cX10_areAlike 3 = .ok (.invokevirtual 99, 3) := by decide +kernel
theorem dX10_areAlike_6 : decode cX10_areAlike 6 = .ok (.aload_n 0, 1) := by decide +kernel
theorem dX10_areAlike_7 : decode cX10_areAlike 7 = .ok (.iload_n 3, 1) := by decide +kernel
theorem dX10_areAlike_8 : decode cX10_areAlike 8 = .ok (.iload 4, 2) := by decide +kernel
theorem dX10_areAlike_10 : decode cX10_areAlike 10 = .ok (.invokevirtual 99, 3) := by decide +kernel
theorem dX10_areAlike_13 : decode cX10_areAlike 13 = .ok (.if_icmp .ne 7, 3) := by decide +kernel
theorem dX10_areAlike_16 : decode cX10_areAlike 16 = .ok (.iconst 1, 1) := by decide +kernel
theorem dX10_areAlike_17 : decode cX10_areAlike 17 = .ok (.goto 4, 3) := by decide +kernel
theorem dX10_areAlike_20 : decode cX10_areAlike 20 = .ok (.iconst 0, 1) := by decide +kernel
theorem dX10_areAlike_21 : decode cX10_areAlike 21 = .ok (.istore 5, 2) := by decide +kernel
theorem dX10_areAlike_23 : decode cX10_areAlike 23 = .ok (.iconst 0, 1) := by decide +kernel
theorem dX10_areAlike_24 : decode cX10_areAlike 24 = .ok (.istore 6, 2) := by decide +kernel
theorem dX10_areAlike_26 : decode cX10_areAlike 26 = .ok (.iload 6, 2) := by decide +kernel
theorem dX10_areAlike_28 : decode cX10_areAlike 28 = .ok (.bipush 8, 2) := by decide +kernel
theorem dX10_areAlike_30 : decode cX10_areAlike 30 = .ok (.if_icmp .ge 52, 3) := by decide +kernel
theorem dX10_areAlike_33 : decode cX10_areAlike 33 = .ok (.iload 5, 2) := by decide +kernel
theorem dX10_areAlike_35 : decode cX10_areAlike 35 = .ok (.ifCond .eq 47, 3) := by decide +kernel
theorem dX10_areAlike_38 : decode cX10_areAlike 38 = .ok (.iload 6, 2) := by decide +kernel
theorem dX10_areAlike_40 : decode cX10_areAlike 40 = .ok (.aload_n 0, 1) := by decide +kernel
theorem dX10_areAlike_41 : decode cX10_areAlike 41 = .ok (.iload_n 1, 1) := by decide +kernel
theorem dX10_areAlike_42 : decode cX10_areAlike 42 = .ok (.iload_n 2, 1) := by decide +kernel
theorem dX10_areAlike_43 : decode cX10_areAlike 43 = .ok (.invokevirtual 99, 3) := by decide +kernel
theorem dX10_areAlike_46 : decode cX10_areAlike 46 = .ok (.if_icmp .ge 23, 3) := by decide +kernel
theorem dX10_areAlike_49 : decode cX10_areAlike 49 = .ok (.aload_n 0, 1) := by decide +kernel
theorem dX10_areAlike_50 : decode cX10_areAlike 50 = .ok (.iload_n 1, 1) := by decide +kernel
theorem dX10_areAlike_51 : decode cX10_areAlike 51 = .ok (.iload_n 2, 1) := by decide +kernel
theorem dX10_areAlike_52 : decode cX10_areAlike 52 = .ok (.iload 6, 2) := by decide +kernel
theorem dX10_areAlike_54 : decode cX10_areAlike 54 = .ok (.invokevirtual 102, 3) := by decide +kernel
theorem dX10_areAlike_57 : decode cX10_areAlike 57 = .ok (.aload_n 0, 1) := by decide +kernel
theorem dX10_areAlike_58 : decode cX10_areAlike 58 = .ok (.iload_n 3, 1) := by decide +kernel
theorem dX10_areAlike_59 : decode cX10_areAlike 59 = .ok (.iload 4, 2) := by decide +kernel
theorem dX10_areAlike_61 : decode cX10_areAlike 61 = .ok (.iload 6, 2) := by decide +kernel
theorem dX10_areAlike_63 : decode cX10_areAlike 63 = .ok (.invokevirtual 102, 3) := by decide +kernel
theorem dX10_areAlike_66 : decode cX10_areAlike 66 = .ok (.if_icmp .ne 7, 3) := by decide +kernel
theorem dX10_areAlike_69 : decode cX10_areAlike 69 = .ok (.iconst 1, 1) := by decide +kernel
theorem dX10_areAlike_70 : decode cX10_areAlike 70 = .ok (.goto 4, 3) := by decide +kernel
theorem dX10_areAlike_73 : decode cX10_areAlike 73 = .ok (.iconst 0, 1) := by decide +kernel
theorem dX10_areAlike_74 : decode cX10_areAlike 74 = .ok (.istore 5, 2) := by decide +kernel
theorem dX10_areAlike_76 : decode cX10_areAlike 76 = .ok (.iinc 6 1, 3) := by decide +kernel
theorem dX10_areAlike_79 : decode cX10_areAlike 79 = .ok (.goto (-53), 3) := by decide +kernel
theorem dX10_areAlike_82 : decode cX10_areAlike 82 = .ok (.iload 5, 2) := by decide +kernel
theorem dX10_areAlike_84 : decode cX10_areAlike 84 = .ok (.ireturn, 1) := by decide +kernel
theorem dX10_areAlike__0 : decode cX10_areAlike_ 0 = .ok (.aload_n 0, 1) := by decide +kernel
theorem dX10_areAlike__1 : decode cX10_areAlike_ 1 = .ok (.iconst 0, 1) := by decide +kernel
theorem dX10_areAlike__2 : decode cX10_areAlike_ 2 = .ok (.iload_n 1, 1) := by decide +kernel
theorem dX10_areAlike__3 : decode cX10_areAlike_ 3 = .ok (.iconst 1, 1) := by decide +kernel
theorem dX10_areAlike__4 : decode cX10_areAlike_ 4 = .ok (.iload_n 2, 1) := by decide +kernel
theorem dX10_areAlike__5 : decode cX10_areAlike_ 5 = .ok (.invokevirtual 106, 3) := by decide +kernel
theorem dX10_areAlike__8 : decode cX10_areAlike_ 8 = .ok (.ireturn, 1) := by decide +kernel
theorem dX10_couples_0 : decode cX10_couples 0 = .ok (.aload_n 0, 1) := by decide +kernel
theorem dX10_couples_1 : decode cX10_couples 1 = .ok (.getfield 33, 3) := by decide +kernel
theorem dX10_couples_4 : decode cX10_couples 4 = .ok (.iload_n 1, 1) := by decide +kernel
theorem dX10_couples_5 : decode cX10_couples 5 = .ok (.iload_n 3, 1) := by decide +kernel
theorem dX10_couples_6 : decode cX10_couples 6 = .ok (.iastore, 1) := by decide +kernel
theorem dX10_couples_7 : decode cX10_couples 7 = .ok (.aload_n 0, 1) := by decide +kernel
theorem dX10_couples_8 : decode cX10_couples 8 = .ok (.getfield 33, 3) := by decide +kernel
theorem dX10_couples_11 : decode cX10_couples 11 = .ok (.bipush 14, 2) := by decide +kernel
theorem dX10_couples_13 : decode cX10_couples 13 = .ok (.iload_n 2, 1) := by decide +kernel
theorem dX10_couples_14 : decode cX10_couples 14 = .ok (.iadd, 1) := by decide +kernel
theorem dX10_couples_15 : decode cX10_couples 15 = .ok (.iload_n 3, 1) := by decide +kernel
theorem dX10_couples_16 : decode cX10_couples 16 = .ok (.iastore, 1) := by decide +kernel
theorem dX10_couples_17 : decode cX10_couples 17 = .ok (.aload_n 0, 1) := by decide +kernel
theorem dX10_couples_18 : decode cX10_couples 18 = .ok (.getfield 36, 3) := by decide +kernel
theorem dX10_couples_21 : decode cX10_couples 21 = .ok (.iload_n 1, 1) := by decide +kernel
theorem dX10_couples_22 : decode cX10_couples 22 = .ok (.iload_n 2, 1) := by decide +kernel
theorem dX10_couples_23 : decode cX10_couples 23 = .ok (.iastore, 1) := by decide +kernel
theorem dX10_couples_24 : decode cX10_couples 24 = .ok (.aload_n 0, 1) := by decide +kernel
theorem dX10_couples_25 : decode cX10_couples 25 = .ok (.getfield 36, 3) := by decide +kernel
theorem dX10_couples_28 : decode cX10_couples 28 = .ok (.bipush 14, 2) := by decide +kernel
theorem dX10_couples_30 : decode cX10_couples 30 = .ok (.iload_n 2, 1) := by decide +kernel
theorem dX10_couples_31 : decode cX10_couples 31 = .ok (.iadd, 1) := by decide +kernel
theorem dX10_couples_32 : decode cX10_couples 32 = .ok (.iload_n 1, 1) := by decide +kernel
theorem dX10_couples_33 : decode cX10_couples 33 = .ok (.iastore, 1) := by decide +kernel
theorem dX10_couples_34 : decode cX10_couples 34 = .ok (.return_, 1) := by decide +kernel
theorem dX10_anchorOf_0 : decode cX10_anchorOf 0 = .ok (.iload_n 2, 1) := by decide +kernel
theorem dX10_anchorOf_1 : decode cX10_anchorOf 1 = .ok (.istore 6, 2) := by decide +kernel
theorem dX10_anchorOf_3 : decode cX10_anchorOf 3 = .ok (.iload 6, 2) := by decide +kernel
theorem dX10_anchorOf_5 : decode cX10_anchorOf 5 = .ok (.iload_n 3, 1) := by decide +kernel
theorem dX10_anchorOf_6 : decode cX10_anchorOf 6 = .ok (.if_icmp .ge 29, 3) := by decide +kernel
theorem dX10_anchorOf_9 : decode cX10_anchorOf 9 = .ok (.iload 6, 2) := by decide +kernel
theorem dX10_anchorOf_11 : decode cX10_anchorOf 11 = .ok (.iload_n 1, 1) := by decide +kernel
theorem dX10_anchorOf_12 : decode cX10_anchorOf 12 = .ok (.if_icmp .eq 17, 3) := by decide +kernel
theorem dX10_anchorOf_15 : decode cX10_anchorOf 15 = .ok (.aload_n 0, 1) := by decide +kernel
theorem dX10_anchorOf_16 : decode cX10_anchorOf 16 = .ok (.iconst 0, 1) := by decide +kernel
theorem dX10_anchorOf_17 : decode cX10_anchorOf 17 = .ok (.iload_n 1, 1) := by decide +kernel
theorem dX10_anchorOf_18 : decode cX10_anchorOf 18 = .ok (.iconst 0, 1) := by decide +kernel
theorem dX10_anchorOf_19 : decode cX10_anchorOf 19 = .ok (.iload 6, 2) := by decide +kernel
theorem dX10_anchorOf_21 : decode cX10_anchorOf 21 = .ok (.invokevirtual 106, 3) := by decide +kernel
theorem dX10_anchorOf_24 : decode cX10_anchorOf 24 = .ok (.ifCond .eq 5, 3) := by decide +kernel
theorem dX10_anchorOf_27 : decode cX10_anchorOf 27 = .ok (.iconst (-1), 1) := by decide +kernel
theorem dX10_anchorOf_28 : decode cX10_anchorOf 28 = .ok (.ireturn, 1) := by decide +kernel
theorem dX10_anchorOf_29 : decode cX10_anchorOf 29 = .ok (.iinc 6 1, 3) := by decide +kernel
theorem dX10_anchorOf_32 : decode cX10_anchorOf 32 = .ok (.goto (-29), 3) := by decide +kernel
theorem dX10_anchorOf_35 : decode cX10_anchorOf 35 = .ok (.iconst (-1), 1) := by decide +kernel
theorem dX10_anchorOf_36 : decode cX10_anchorOf 36 = .ok (.istore 6, 2) := by decide +kernel
theorem dX10_anchorOf_38 : decode cX10_anchorOf 38 = .ok (.iload 4, 2) := by decide +kernel
theorem dX10_anchorOf_40 : decode cX10_anchorOf 40 = .ok (.istore 7, 2) := by decide +kernel
theorem dX10_anchorOf_42 : decode cX10_anchorOf 42 = .ok (.iload 7, 2) := by decide +kernel
theorem dX10_anchorOf_44 : decode cX10_anchorOf 44 = .ok (.iload 5, 2) := by decide +kernel
theorem dX10_anchorOf_46 : decode cX10_anchorOf 46 = .ok (.if_icmp .ge 34, 3) := by decide +kernel
theorem dX10_anchorOf_49 : decode cX10_anchorOf 49 = .ok (.aload_n 0, 1) := by decide +kernel
theorem dX10_anchorOf_50 : decode cX10_anchorOf 50 = .ok (.iload_n 1, 1) := by decide +kernel
theorem dX10_anchorOf_51 : decode cX10_anchorOf 51 = .ok (.iload 7, 2) := by decide +kernel
theorem dX10_anchorOf_53 : decode cX10_anchorOf 53 = .ok (.invokevirtual 110, 3) := by decide +kernel
theorem dX10_anchorOf_56 : decode cX10_anchorOf 56 = .ok (.ifCond .ne 6, 3) := by decide +kernel
theorem dX10_anchorOf_59 : decode cX10_anchorOf 59 = .ok (.goto 15, 3) := by decide +kernel
theorem dX10_anchorOf_62 : decode cX10_anchorOf 62 = .ok (.iload 6, 2) := by decide +kernel
theorem dX10_anchorOf_64 : decode cX10_anchorOf 64 = .ok (.iconst (-1), 1) := by decide +kernel
theorem dX10_anchorOf_65 : decode cX10_anchorOf 65 = .ok (.if_icmp .eq 5, 3) := by decide +kernel
theorem dX10_anchorOf_68 : decode cX10_anchorOf 68 = .ok (.iconst (-1), 1) := by decide +kernel
theorem dX10_anchorOf_69 : decode cX10_anchorOf 69 = .ok (.ireturn, 1) := by decide +kernel
theorem dX10_anchorOf_70 : decode cX10_anchorOf 70 = .ok (.iload 7, 2) := by decide +kernel
theorem dX10_anchorOf_72 : decode cX10_anchorOf 72 = .ok (.istore 6, 2) := by decide +kernel
theorem dX10_anchorOf_74 : decode cX10_anchorOf 74 = .ok (.iinc 7 1, 3) := by decide +kernel
theorem dX10_anchorOf_77 : decode cX10_anchorOf 77 = .ok (.goto (-35), 3) := by decide +kernel
theorem dX10_anchorOf_80 : decode cX10_anchorOf 80 = .ok (.iload 6, 2) := by decide +kernel
theorem dX10_anchorOf_82 : decode cX10_anchorOf 82 = .ok (.ireturn, 1) := by decide +kernel
theorem dX10_goesInto_0 : decode cX10_goesInto 0 = .ok (.iload_n 1, 1) := by decide +kernel
theorem dX10_goesInto_1 : decode cX10_goesInto 1 = .ok (.istore 6, 2) := by decide +kernel
theorem dX10_goesInto_3 : decode cX10_goesInto 3 = .ok (.iload_n 2, 1) := by decide +kernel
theorem dX10_goesInto_4 : decode cX10_goesInto 4 = .ok (.istore 7, 2) := by decide +kernel
theorem dX10_goesInto_6 : decode cX10_goesInto 6 = .ok (.iload_n 3, 1) := by decide +kernel
theorem dX10_goesInto_7 : decode cX10_goesInto 7 = .ok (.istore 8, 2) := by decide +kernel
theorem dX10_goesInto_9 : decode cX10_goesInto 9 = .ok (.iload 4, 2) := by decide +kernel
theorem dX10_goesInto_11 : decode cX10_goesInto 11 = .ok (.istore 9, 2) := by decide +kernel
theorem dX10_goesInto_13 : decode cX10_goesInto 13 = .ok (.iload 6, 2) := by decide +kernel
theorem dX10_goesInto_15 : decode cX10_goesInto 15 = .ok (.iload 7, 2) := by decide +kernel
theorem dX10_goesInto_17 : decode cX10_goesInto 17 = .ok (.if_icmp .ge 39, 3) := by decide +kernel
theorem dX10_goesInto_20 : decode cX10_goesInto 20 = .ok (.iload 8, 2) := by decide +kernel
theorem dX10_goesInto_22 : decode cX10_goesInto 22 = .ok (.iload 9, 2) := by decide +kernel
theorem dX10_goesInto_24 : decode cX10_goesInto 24 = .ok (.if_icmp .ge 32, 3) := by decide +kernel
theorem dX10_goesInto_27 : decode cX10_goesInto 27 = .ok (.aload_n 0, 1) := by decide +kernel
theorem dX10_goesInto_28 : decode cX10_goesInto 28 = .ok (.iload 6, 2) := by decide +kernel
theorem dX10_goesInto_30 : decode cX10_goesInto 30 = .ok (.iload 8, 2) := by decide +kernel
theorem dX10_goesInto_32 : decode cX10_goesInto 32 = .ok (.invokevirtual 110, 3) := by decide +kernel
theorem dX10_goesInto_35 : decode cX10_goesInto 35 = .ok (.ifCond .eq 21, 3) := by decide +kernel
theorem dX10_goesInto_38 : decode cX10_goesInto 38 = .ok (.aload_n 0, 1) := by decide +kernel
theorem dX10_goesInto_39 : decode cX10_goesInto 39 = .ok (.iload 6, 2) := by decide +kernel
theorem dX10_goesInto_41 : decode cX10_goesInto 41 = .ok (.iload 8, 2) := by decide +kernel
theorem dX10_goesInto_43 : decode cX10_goesInto 43 = .ok (.iconst 0, 1) := by decide +kernel
theorem dX10_goesInto_44 : decode cX10_goesInto 44 = .ok (.invokevirtual 112, 3) := by decide +kernel
theorem dX10_goesInto_47 : decode cX10_goesInto 47 = .ok (.iinc 6 1, 3) := by decide +kernel
theorem dX10_goesInto_50 : decode cX10_goesInto 50 = .ok (.iinc 8 1, 3) := by decide +kernel
theorem dX10_goesInto_53 : decode cX10_goesInto 53 = .ok (.goto (-40), 3) := by decide +kernel
theorem dX10_goesInto_56 : decode cX10_goesInto 56 = .ok (.iload 6, 2) := by decide +kernel
theorem dX10_goesInto_58 : decode cX10_goesInto 58 = .ok (.iload 7, 2) := by decide +kernel
theorem dX10_goesInto_60 : decode cX10_goesInto 60 = .ok (.if_icmp .ge 43, 3) := by decide +kernel
theorem dX10_goesInto_63 : decode cX10_goesInto 63 = .ok (.iload 8, 2) := by decide +kernel
theorem dX10_goesInto_65 : decode cX10_goesInto 65 = .ok (.iload 9, 2) := by decide +kernel
theorem dX10_goesInto_67 : decode cX10_goesInto 67 = .ok (.if_icmp .ge 36, 3) := by decide +kernel
theorem dX10_goesInto_70 : decode cX10_goesInto 70 = .ok (.aload_n 0, 1) := by decide +kernel
theorem dX10_goesInto_71 : decode cX10_goesInto 71 = .ok (.iload 7, 2) := by decide +kernel
theorem dX10_goesInto_73 : decode cX10_goesInto 73 = .ok (.iconst 1, 1) := by decide +kernel
theorem dX10_goesInto_74 : decode cX10_goesInto 74 = .ok (.isub, 1) := by decide +kernel
theorem dX10_goesInto_75 : decode cX10_goesInto 75 = .ok (.iload 9, 2) := by decide +kernel
theorem dX10_goesInto_77 : decode cX10_goesInto 77 = .ok (.iconst 1, 1) := by decide +kernel
theorem dX10_goesInto_78 : decode cX10_goesInto 78 = .ok (.isub, 1) := by decide +kernel
theorem dX10_goesInto_79 : decode cX10_goesInto 79 = .ok (.invokevirtual 110, 3) := by decide +kernel
theorem dX10_goesInto_82 : decode cX10_goesInto 82 = .ok (.ifCond .eq 21, 3) := by decide +kernel
theorem dX10_goesInto_85 : decode cX10_goesInto 85 = .ok (.iinc 7 (-1), 3) := by decide +kernel
theorem dX10_goesInto_88 : decode cX10_goesInto 88 = .ok (.iinc 9 (-1), 3) := by decide +kernel
theorem dX10_goesInto_91 : decode cX10_goesInto 91 = .ok (.aload_n 0, 1) := by decide +kernel
theorem dX10_goesInto_92 : decode cX10_goesInto 92 = .ok (.iload 7, 2) := by decide +kernel
theorem dX10_goesInto_94 : decode cX10_goesInto 94 = .ok (.iload 9, 2) := by decide +kernel
theorem dX10_goesInto_96 : decode cX10_goesInto 96 = .ok (.iconst 0, 1) := by decide +kernel
theorem dX10_goesInto_97 : decode cX10_goesInto 97 = .ok (.invokevirtual 112, 3) := by decide +kernel
theorem dX10_goesInto_100 : decode cX10_goesInto 100 = .ok (.goto (-44), 3) := by decide +kernel
theorem dX10_goesInto_103 : decode cX10_goesInto 103 = .ok (.bipush 14, 2) := by decide +kernel
theorem dX10_goesInto_105 : decode cX10_goesInto 105 = .ok (.newarray .int, 2) := by decide +kernel
theorem dX10_goesInto_107 : decode cX10_goesInto 107 = .ok (.astore 10, 2) := by decide +kernel
theorem dX10_goesInto_109 : decode cX10_goesInto 109 = .ok (.bipush 14, 2) := by decide +kernel
theorem dX10_goesInto_111 : decode cX10_goesInto 111 = .ok (.newarray .int, 2) := by decide +kernel
theorem dX10_goesInto_113 : decode cX10_goesInto 113 = .ok (.astore 11, 2) := by decide +kernel
theorem dX10_goesInto_115 : decode cX10_goesInto 115 = .ok (.iconst 0, 1) := by decide +kernel
theorem dX10_goesInto_116 : decode cX10_goesInto 116 = .ok (.istore 12, 2) := by decide +kernel
theorem dX10_goesInto_118 : decode cX10_goesInto 118 = .ok (.iconst 0, 1) := by decide +kernel
theorem dX10_goesInto_119 : decode cX10_goesInto 119 = .ok (.istore 13, 2) := by decide +kernel
theorem dX10_goesInto_121 : decode cX10_goesInto 121 = .ok (.iload 7, 2) := by decide +kernel
theorem dX10_goesInto_123 : decode cX10_goesInto 123 = .ok (.iconst 1, 1) := by decide +kernel
theorem dX10_goesInto_124 : decode cX10_goesInto 124 = .ok (.isub, 1) := by decide +kernel
theorem dX10_goesInto_125 : decode cX10_goesInto 125 = .ok (.istore 14, 2) := by decide +kernel
theorem dX10_goesInto_127 : decode cX10_goesInto 127 = .ok (.iload 14, 2) := by decide +kernel
theorem dX10_goesInto_129 : decode cX10_goesInto 129 = .ok (.iload 6, 2) := by decide +kernel
theorem dX10_goesInto_131 : decode cX10_goesInto 131 = .ok (.if_icmp .lt 144, 3) := by decide +kernel
theorem dX10_goesInto_134 : decode cX10_goesInto 134 = .ok (.aload 10, 2) := by decide +kernel
theorem dX10_goesInto_136 : decode cX10_goesInto 136 = .ok (.iload 14, 2) := by decide +kernel
theorem dX10_goesInto_138 : decode cX10_goesInto 138 = .ok (.aload_n 0, 1) := by decide +kernel
theorem dX10_goesInto_139 : decode cX10_goesInto 139 = .ok (.iload 14, 2) := by decide +kernel
theorem dX10_goesInto_141 : decode cX10_goesInto 141 = .ok (.iload 6, 2) := by decide +kernel
theorem dX10_goesInto_143 : decode cX10_goesInto 143 = .ok (.iload 7, 2) := by decide +kernel
theorem dX10_goesInto_145 : decode cX10_goesInto 145 = .ok (.iload 8, 2) := by decide +kernel
theorem dX10_goesInto_147 : decode cX10_goesInto 147 = .ok (.iload 9, 2) := by decide +kernel
theorem dX10_goesInto_149 : decode cX10_goesInto 149 = .ok (.invokevirtual 116, 3) := by decide +kernel
theorem dX10_goesInto_152 : decode cX10_goesInto 152 = .ok (.iastore, 1) := by decide +kernel
theorem dX10_goesInto_153 : decode cX10_goesInto 153 = .ok (.aload 11, 2) := by decide +kernel
theorem dX10_goesInto_155 : decode cX10_goesInto 155 = .ok (.iload 14, 2) := by decide +kernel
theorem dX10_goesInto_157 : decode cX10_goesInto 157 = .ok (.aload 10, 2) := by decide +kernel
theorem dX10_goesInto_159 : decode cX10_goesInto 159 = .ok (.iload 14, 2) := by decide +kernel
theorem dX10_goesInto_161 : decode cX10_goesInto 161 = .ok (.iaload, 1) := by decide +kernel
theorem dX10_goesInto_162 : decode cX10_goesInto 162 = .ok (.iconst (-1), 1) := by decide +kernel
theorem dX10_goesInto_163 : decode cX10_goesInto 163 = .ok (.if_icmp .ne 7, 3) := by decide +kernel
theorem dX10_goesInto_166 : decode cX10_goesInto 166 = .ok (.iconst 0, 1) := by decide +kernel
theorem dX10_goesInto_167 : decode cX10_goesInto 167 = .ok (.goto 4, 3) := by decide +kernel
theorem dX10_goesInto_170 : decode cX10_goesInto 170 = .ok (.iconst 1, 1) := by decide +kernel
theorem dX10_goesInto_171 : decode cX10_goesInto 171 = .ok (.iastore, 1) := by decide +kernel
theorem dX10_goesInto_172 : decode cX10_goesInto 172 = .ok (.aload 10, 2) := by decide +kernel
theorem dX10_goesInto_174 : decode cX10_goesInto 174 = .ok (.iload 14, 2) := by decide +kernel
theorem dX10_goesInto_176 : decode cX10_goesInto 176 = .ok (.iaload, 1) := by decide +kernel
theorem dX10_goesInto_177 : decode cX10_goesInto 177 = .ok (.iconst (-1), 1) := by decide +kernel
theorem dX10_goesInto_178 : decode cX10_goesInto 178 = .ok (.if_icmp .eq 6, 3) := by decide +kernel
theorem dX10_goesInto_181 : decode cX10_goesInto 181 = .ok (.iinc 13 1, 3) := by decide +kernel
theorem dX10_goesInto_184 : decode cX10_goesInto 184 = .ok (.iload 14, 2) := by decide +kernel
theorem dX10_goesInto_186 : decode cX10_goesInto 186 = .ok (.iconst 1, 1) := by decide +kernel
theorem dX10_goesInto_187 : decode cX10_goesInto 187 = .ok (.iadd, 1) := by decide +kernel
theorem dX10_goesInto_188 : decode cX10_goesInto 188 = .ok (.istore 15, 2) := by decide +kernel
theorem dX10_goesInto_190 : decode cX10_goesInto 190 = .ok (.iload 15, 2) := by decide +kernel
theorem dX10_goesInto_192 : decode cX10_goesInto 192 = .ok (.iload 7, 2) := by decide +kernel
theorem dX10_goesInto_194 : decode cX10_goesInto 194 = .ok (.if_icmp .ge 58, 3) := by decide +kernel
theorem dX10_goesInto_197 : decode cX10_goesInto 197 = .ok (.aload 10, 2) := by decide +kernel
theorem dX10_goesInto_199 : decode cX10_goesInto 199 = .ok (.iload 14, 2) := by decide +kernel
theorem dX10_goesInto_201 : decode cX10_goesInto 201 = .ok (.iaload, 1) := by decide +kernel
theorem dX10_goesInto_202 : decode cX10_goesInto 202 = .ok (.iconst (-1), 1) := by decide +kernel
theorem dX10_goesInto_203 : decode cX10_goesInto 203 = .ok (.if_icmp .eq 49, 3) := by decide +kernel
theorem dX10_goesInto_206 : decode cX10_goesInto 206 = .ok (.aload 10, 2) := by decide +kernel
theorem dX10_goesInto_208 : decode cX10_goesInto 208 = .ok (.iload 15, 2) := by decide +kernel
theorem dX10_goesInto_210 : decode cX10_goesInto 210 = .ok (.iaload, 1) := by decide +kernel
theorem dX10_goesInto_211 : decode cX10_goesInto 211 = .ok (.aload 10, 2) := by decide +kernel
theorem dX10_goesInto_213 : decode cX10_goesInto 213 = .ok (.iload 14, 2) := by decide +kernel
theorem dX10_goesInto_215 : decode cX10_goesInto 215 = .ok (.iaload, 1) := by decide +kernel
theorem dX10_goesInto_216 : decode cX10_goesInto 216 = .ok (.if_icmp .le 30, 3) := by decide +kernel
theorem dX10_goesInto_219 : decode cX10_goesInto 219 = .ok (.aload 11, 2) := by decide +kernel
theorem dX10_goesInto_221 : decode cX10_goesInto 221 = .ok (.iload 15, 2) := by decide +kernel
theorem dX10_goesInto_223 : decode cX10_goesInto 223 = .ok (.iaload, 1) := by decide +kernel
theorem dX10_goesInto_224 : decode cX10_goesInto 224 = .ok (.iconst 1, 1) := by decide +kernel
theorem dX10_goesInto_225 : decode cX10_goesInto 225 = .ok (.iadd, 1) := by decide +kernel
theorem dX10_goesInto_226 : decode cX10_goesInto 226 = .ok (.aload 11, 2) := by decide +kernel
theorem dX10_goesInto_228 : decode cX10_goesInto 228 = .ok (.iload 14, 2) := by decide +kernel
theorem dX10_goesInto_230 : decode cX10_goesInto 230 = .ok (.iaload, 1) := by decide +kernel
theorem dX10_goesInto_231 : decode cX10_goesInto 231 = .ok (.if_icmp .le 15, 3) := by decide +kernel
theorem dX10_goesInto_234 : decode cX10_goesInto 234 = .ok (.aload 11, 2) := by decide +kernel
theorem dX10_goesInto_236 : decode cX10_goesInto 236 = .ok (.iload 14, 2) := by decide +kernel
theorem dX10_goesInto_238 : decode cX10_goesInto 238 = .ok (.aload 11, 2) := by decide +kernel
theorem dX10_goesInto_240 : decode cX10_goesInto 240 = .ok (.iload 15, 2) := by decide +kernel
theorem dX10_goesInto_242 : decode cX10_goesInto 242 = .ok (.iaload, 1) := by decide +kernel
theorem dX10_goesInto_243 : decode cX10_goesInto 243 = .ok (.iconst 1, 1) := by decide +kernel
theorem dX10_goesInto_244 : decode cX10_goesInto 244 = .ok (.iadd, 1) := by decide +kernel
theorem dX10_goesInto_245 : decode cX10_goesInto 245 = .ok (.iastore, 1) := by decide +kernel
theorem dX10_goesInto_246 : decode cX10_goesInto 246 = .ok (.iinc 15 1, 3) := by decide +kernel
theorem dX10_goesInto_249 : decode cX10_goesInto 249 = .ok (.goto (-59), 3) := by decide +kernel
theorem dX10_goesInto_252 : decode cX10_goesInto 252 = .ok (.aload 11, 2) := by decide +kernel
theorem dX10_goesInto_254 : decode cX10_goesInto 254 = .ok (.iload 14, 2) := by decide +kernel
theorem dX10_goesInto_256 : decode cX10_goesInto 256 = .ok (.iaload, 1) := by decide +kernel
theorem dX10_goesInto_257 : decode cX10_goesInto 257 = .ok (.iload 12, 2) := by decide +kernel
theorem dX10_goesInto_259 : decode cX10_goesInto 259 = .ok (.if_icmp .le 10, 3) := by decide +kernel
theorem dX10_goesInto_262 : decode cX10_goesInto 262 = .ok (.aload 11, 2) := by decide +kernel
theorem dX10_goesInto_264 : decode cX10_goesInto 264 = .ok (.iload 14, 2) := by decide +kernel
theorem dX10_goesInto_266 : decode cX10_goesInto 266 = .ok (.iaload, 1) := by decide +kernel
theorem dX10_goesInto_267 : decode cX10_goesInto 267 = .ok (.istore 12, 2) := by decide +kernel
theorem dX10_goesInto_269 : decode cX10_goesInto 269 = .ok (.iinc 14 (-1), 3) := by decide +kernel
theorem dX10_goesInto_272 : decode cX10_goesInto 272 = .ok (.goto (-145), 3) := by decide +kernel
theorem dX10_goesInto_275 : decode cX10_goesInto 275 = .ok (.iload 5, 2) := by decide +kernel
theorem dX10_goesInto_277 : decode cX10_goesInto 277 = .ok (.ifCond .eq 15, 3) := by decide +kernel
theorem dX10_goesInto_280 : decode cX10_goesInto 280 = .ok (.aload_n 0, 1) := by decide +kernel
theorem dX10_goesInto_281 : decode cX10_goesInto 281 = .ok (.iload 13, 2) := by decide +kernel
theorem dX10_goesInto_283 : decode cX10_goesInto 283 = .ok (.putfield 120, 3) := by decide +kernel
theorem dX10_goesInto_286 : decode cX10_goesInto 286 = .ok (.aload_n 0, 1) := by decide +kernel
theorem dX10_goesInto_287 : decode cX10_goesInto 287 = .ok (.iload 12, 2) := by decide +kernel
theorem dX10_goesInto_289 : decode cX10_goesInto 289 = .ok (.putfield 123, 3) := by decide +kernel
theorem dX10_goesInto_292 : decode cX10_goesInto 292 = .ok (.iload 12, 2) := by decide +kernel
theorem dX10_goesInto_294 : decode cX10_goesInto 294 = .ok (.ifCond .ne 4, 3) := by decide +kernel
theorem dX10_goesInto_297 : decode cX10_goesInto 297 = .ok (.return_, 1) := by decide +kernel
theorem dX10_goesInto_298 : decode cX10_goesInto 298 = .ok (.iload 12, 2) := by decide +kernel
theorem dX10_goesInto_300 : decode cX10_goesInto 300 = .ok (.istore 14, 2) := by decide +kernel
theorem dX10_goesInto_302 : decode cX10_goesInto 302 = .ok (.iconst (-1), 1) := by decide +kernel
theorem dX10_goesInto_303 : decode cX10_goesInto 303 = .ok (.istore 15, 2) := by decide +kernel
theorem dX10_goesInto_305 : decode cX10_goesInto 305 = .ok (.iload 6, 2) := by decide +kernel
theorem dX10_goesInto_307 : decode cX10_goesInto 307 = .ok (.istore 16, 2) := by decide +kernel
theorem dX10_goesInto_309 : decode cX10_goesInto 309 = .ok (.iload 8, 2) := by decide +kernel
theorem dX10_goesInto_311 : decode cX10_goesInto 311 = .ok (.istore 17, 2) := by decide +kernel
theorem dX10_goesInto_313 : decode cX10_goesInto 313 = .ok (.iload 6, 2) := by decide +kernel
theorem dX10_goesInto_315 : decode cX10_goesInto 315 = .ok (.istore 18, 2) := by decide +kernel
theorem dX10_goesInto_317 : decode cX10_goesInto 317 = .ok (.iload 18, 2) := by decide +kernel
theorem dX10_goesInto_319 : decode cX10_goesInto 319 = .ok (.iload 7, 2) := by decide +kernel
theorem dX10_goesInto_321 : decode cX10_goesInto 321 = .ok (.if_icmp .ge 90, 3) := by decide +kernel
theorem dX10_goesInto_324 : decode cX10_goesInto 324 = .ok (.iload 14, 2) := by decide +kernel
theorem dX10_goesInto_326 : decode cX10_goesInto 326 = .ok (.ifCond .le 85, 3) := by decide +kernel
theorem dX10_goesInto_329 : decode cX10_goesInto 329 = .ok (.aload 11, 2) := by decide +kernel
theorem dX10_goesInto_331 : decode cX10_goesInto 331 = .ok (.iload 18, 2) := by decide +kernel
theorem dX10_goesInto_333 : decode cX10_goesInto 333 = .ok (.iaload, 1) := by decide +kernel
theorem dX10_goesInto_334 : decode cX10_goesInto 334 = .ok (.iload 14, 2) := by decide +kernel
theorem dX10_goesInto_336 : decode cX10_goesInto 336 = .ok (.if_icmp .ne 69, 3) := by decide +kernel
theorem dX10_goesInto_339 : decode cX10_goesInto 339 = .ok (.aload 10, 2) := by decide +kernel
theorem dX10_goesInto_341 : decode cX10_goesInto 341 = .ok (.iload 18, 2) := by decide +kernel
theorem dX10_goesInto_343 : decode cX10_goesInto 343 = .ok (.iaload, 1) := by decide +kernel
theorem dX10_goesInto_344 : decode cX10_goesInto 344 = .ok (.iload 15, 2) := by decide +kernel
theorem dX10_goesInto_346 : decode cX10_goesInto 346 = .ok (.if_icmp .gt 6, 3) := by decide +kernel
theorem dX10_goesInto_349 : decode cX10_goesInto 349 = .ok (.goto 56, 3) := by decide +kernel
theorem dX10_goesInto_352 : decode cX10_goesInto 352 = .ok (.aload_n 0, 1) := by decide +kernel
theorem dX10_goesInto_353 : decode cX10_goesInto 353 = .ok (.iload 16, 2) := by decide +kernel
theorem dX10_goesInto_355 : decode cX10_goesInto 355 = .ok (.iload 18, 2) := by decide +kernel
theorem dX10_goesInto_357 : decode cX10_goesInto 357 = .ok (.iload 17, 2) := by decide +kernel
theorem dX10_goesInto_359 : decode cX10_goesInto 359 = .ok (.aload 10, 2) := by decide +kernel
theorem dX10_goesInto_361 : decode cX10_goesInto 361 = .ok (.iload 18, 2) := by decide +kernel
theorem dX10_goesInto_363 : decode cX10_goesInto 363 = .ok (.iaload, 1) := by decide +kernel
theorem dX10_goesInto_364 : decode cX10_goesInto 364 = .ok (.iconst 0, 1) := by decide +kernel
theorem dX10_goesInto_365 : decode cX10_goesInto 365 = .ok (.invokevirtual 126, 3) := by decide +kernel
theorem dX10_goesInto_368 : decode cX10_goesInto 368 = .ok (.aload_n 0, 1) := by decide +kernel
theorem dX10_goesInto_369 : decode cX10_goesInto 369 = .ok (.iload 18, 2) := by decide +kernel
theorem dX10_goesInto_371 : decode cX10_goesInto 371 = .ok (.aload 10, 2) := by decide +kernel
theorem dX10_goesInto_373 : decode cX10_goesInto 373 = .ok (.iload 18, 2) := by decide +kernel
theorem dX10_goesInto_375 : decode cX10_goesInto 375 = .ok (.iaload, 1) := by decide +kernel
theorem dX10_goesInto_376 : decode cX10_goesInto 376 = .ok (.iconst 0, 1) := by decide +kernel
theorem dX10_goesInto_377 : decode cX10_goesInto 377 = .ok (.invokevirtual 112, 3) := by decide +kernel
theorem dX10_goesInto_380 : decode cX10_goesInto 380 = .ok (.aload 10, 2) := by decide +kernel
theorem dX10_goesInto_382 : decode cX10_goesInto 382 = .ok (.iload 18, 2) := by decide +kernel
theorem dX10_goesInto_384 : decode cX10_goesInto 384 = .ok (.iaload, 1) := by decide +kernel
theorem dX10_goesInto_385 : decode cX10_goesInto 385 = .ok (.istore 15, 2) := by decide +kernel
theorem dX10_goesInto_387 : decode cX10_goesInto 387 = .ok (.iload 18, 2) := by decide +kernel
theorem dX10_goesInto_389 : decode cX10_goesInto 389 = .ok (.iconst 1, 1) := by decide +kernel
theorem dX10_goesInto_390 : decode cX10_goesInto 390 = .ok (.iadd, 1) := by decide +kernel
theorem dX10_goesInto_391 : decode cX10_goesInto 391 = .ok (.istore 16, 2) := by decide +kernel
theorem dX10_goesInto_393 : decode cX10_goesInto 393 = .ok (.aload 10, 2) := by decide +kernel
theorem dX10_goesInto_395 : decode cX10_goesInto 395 = .ok (.iload 18, 2) := by decide +kernel
theorem dX10_goesInto_397 : decode cX10_goesInto 397 = .ok (.iaload, 1) := by decide +kernel
theorem dX10_goesInto_398 : decode cX10_goesInto 398 = .ok (.iconst 1, 1) := by decide +kernel
theorem dX10_goesInto_399 : decode cX10_goesInto 399 = .ok (.iadd, 1) := by decide +kernel
theorem dX10_goesInto_400 : decode cX10_goesInto 400 = .ok (.istore 17, 2) := by decide +kernel
theorem dX10_goesInto_402 : decode cX10_goesInto 402 = .ok (.iinc 14 (-1), 3) := by decide +kernel
theorem dX10_goesInto_405 : decode cX10_goesInto 405 = .ok (.iinc 18 1, 3) := by decide +kernel
theorem dX10_goesInto_408 : decode cX10_goesInto 408 = .ok (.goto (-91), 3) := by decide +kernel
theorem dX10_goesInto_411 : decode cX10_goesInto 411 = .ok (.aload_n 0, 1) := by decide +kernel
theorem dX10_goesInto_412 : decode cX10_goesInto 412 = .ok (.iload 16, 2) := by decide +kernel
theorem dX10_goesInto_414 : decode cX10_goesInto 414 = .ok (.iload 7, 2) := by decide +kernel
theorem dX10_goesInto_416 : decode cX10_goesInto 416 = .ok (.iload 17, 2) := by decide +kernel
theorem dX10_goesInto_418 : decode cX10_goesInto 418 = .ok (.iload 9, 2) := by decide +kernel
theorem dX10_goesInto_420 : decode cX10_goesInto 420 = .ok (.iconst 0, 1) := by decide +kernel
theorem dX10_goesInto_421 : decode cX10_goesInto 421 = .ok (.invokevirtual 126, 3) := by decide +kernel
theorem dX10_goesInto_424 : decode cX10_goesInto 424 = .ok (.return_, 1) := by decide +kernel
theorem dX10_isLoose_0 : decode cX10_isLoose 0 = .ok (.iload_n 2, 1) := by decide +kernel
theorem dX10_isLoose_1 : decode cX10_isLoose 1 = .ok (.aload_n 0, 1) := by decide +kernel
theorem dX10_isLoose_2 : decode cX10_isLoose 2 = .ok (.iload_n 1, 1) := by decide +kernel
theorem dX10_isLoose_3 : decode cX10_isLoose 3 = .ok (.invokevirtual 62, 3) := by decide +kernel
theorem dX10_isLoose_6 : decode cX10_isLoose 6 = .ok (.if_icmp .ge 22, 3) := by decide +kernel
theorem dX10_isLoose_9 : decode cX10_isLoose 9 = .ok (.aload_n 0, 1) := by decide +kernel
theorem dX10_isLoose_10 : decode cX10_isLoose 10 = .ok (.getfield 33, 3) := by decide +kernel
theorem dX10_isLoose_13 : decode cX10_isLoose 13 = .ok (.bipush 14, 2) := by decide +kernel
theorem dX10_isLoose_15 : decode cX10_isLoose 15 = .ok (.iload_n 1, 1) := by decide +kernel
theorem dX10_isLoose_16 : decode cX10_isLoose 16 = .ok (.imul, 1) := by decide +kernel
theorem dX10_isLoose_17 : decode cX10_isLoose 17 = .ok (.iload_n 2, 1) := by decide +kernel
theorem dX10_isLoose_18 : decode cX10_isLoose 18 = .ok (.iadd, 1) := by decide +kernel
theorem dX10_isLoose_19 : decode cX10_isLoose 19 = .ok (.iaload, 1) := by decide +kernel
theorem dX10_isLoose_20 : decode cX10_isLoose 20 = .ok (.iconst 3, 1) := by decide +kernel
theorem dX10_isLoose_21 : decode cX10_isLoose 21 = .ok (.if_icmp .ne 7, 3) := by decide +kernel
theorem dX10_isLoose_24 : decode cX10_isLoose 24 = .ok (.iconst 1, 1) := by decide +kernel
theorem dX10_isLoose_25 : decode cX10_isLoose 25 = .ok (.goto 4, 3) := by decide +kernel
theorem dX10_isLoose_28 : decode cX10_isLoose 28 = .ok (.iconst 0, 1) := by decide +kernel
theorem dX10_isLoose_29 : decode cX10_isLoose 29 = .ok (.ireturn, 1) := by decide +kernel
theorem dX10_blockFrom_0 : decode cX10_blockFrom 0 = .ok (.iconst 0, 1) := by decide +kernel
theorem dX10_blockFrom_1 : decode cX10_blockFrom 1 = .ok (.istore_n 3, 1) := by decide +kernel
theorem dX10_blockFrom_2 : decode cX10_blockFrom 2 = .ok (.aload_n 0, 1) := by decide +kernel
theorem dX10_blockFrom_3 : decode cX10_blockFrom 3 = .ok (.iconst 0, 1) := by decide +kernel
theorem dX10_blockFrom_4 : decode cX10_blockFrom 4 = .ok (.iload_n 1, 1) := by decide +kernel
theorem dX10_blockFrom_5 : decode cX10_blockFrom 5 = .ok (.iload_n 3, 1) := by decide +kernel
theorem dX10_blockFrom_6 : decode cX10_blockFrom 6 = .ok (.iadd, 1) := by decide +kernel
theorem dX10_blockFrom_7 : decode cX10_blockFrom 7 = .ok (.invokevirtual 130, 3) := by decide +kernel
theorem dX10_blockFrom_10 : decode cX10_blockFrom 10 = .ok (.ifCond .eq 33, 3) := by decide +kernel
theorem dX10_blockFrom_13 : decode cX10_blockFrom 13 = .ok (.aload_n 0, 1) := by decide +kernel
theorem dX10_blockFrom_14 : decode cX10_blockFrom 14 = .ok (.iconst 1, 1) := by decide +kernel
theorem dX10_blockFrom_15 : decode cX10_blockFrom 15 = .ok (.iload_n 2, 1) := by decide +kernel
theorem dX10_blockFrom_16 : decode cX10_blockFrom 16 = .ok (.iload_n 3, 1) := by decide +kernel
theorem dX10_blockFrom_17 : decode cX10_blockFrom 17 = .ok (.iadd, 1) := by decide +kernel
theorem dX10_blockFrom_18 : decode cX10_blockFrom 18 = .ok (.invokevirtual 130, 3) := by decide +kernel
theorem dX10_blockFrom_21 : decode cX10_blockFrom 21 = .ok (.ifCond .eq 22, 3) := by decide +kernel
theorem dX10_blockFrom_24 : decode cX10_blockFrom 24 = .ok (.aload_n 0, 1) := by decide +kernel
theorem dX10_blockFrom_25 : decode cX10_blockFrom 25 = .ok (.iload_n 1, 1) := by decide +kernel
theorem dX10_blockFrom_26 : decode cX10_blockFrom 26 = .ok (.iload_n 3, 1) := by decide +kernel
theorem dX10_blockFrom_27 : decode cX10_blockFrom 27 = .ok (.iadd, 1) := by decide +kernel
theorem dX10_blockFrom_28 : decode cX10_blockFrom 28 = .ok (.iload_n 2, 1) := by decide +kernel
theorem dX10_blockFrom_29 : decode cX10_blockFrom 29 = .ok (.iload_n 3, 1) := by decide +kernel
theorem dX10_blockFrom_30 : decode cX10_blockFrom 30 = .ok (.iadd, 1) := by decide +kernel
theorem dX10_blockFrom_31 : decode cX10_blockFrom 31 = .ok (.invokevirtual 110, 3) := by decide +kernel
theorem dX10_blockFrom_34 : decode cX10_blockFrom 34 = .ok (.ifCond .eq 9, 3) := by decide +kernel
theorem dX10_blockFrom_37 : decode cX10_blockFrom 37 = .ok (.iinc 3 1, 3) := by decide +kernel
theorem dX10_blockFrom_40 : decode cX10_blockFrom 40 = .ok (.goto (-38), 3) := by decide +kernel
theorem dX10_blockFrom_43 : decode cX10_blockFrom 43 = .ok (.iload_n 3, 1) := by decide +kernel
theorem dX10_blockFrom_44 : decode cX10_blockFrom 44 = .ok (.ireturn, 1) := by decide +kernel
theorem dX10_laysBlocks_0 : decode cX10_laysBlocks 0 = .ok (.aload_n 0, 1) := by decide +kernel
theorem dX10_laysBlocks_1 : decode cX10_laysBlocks 1 = .ok (.iconst 0, 1) := by decide +kernel
theorem dX10_laysBlocks_2 : decode cX10_laysBlocks 2 = .ok (.putfield 133, 3) := by decide +kernel
theorem dX10_laysBlocks_5 : decode cX10_laysBlocks 5 = .ok (.iconst 1, 1) := by decide +kernel
theorem dX10_laysBlocks_6 : decode cX10_laysBlocks 6 = .ok (.istore_n 1, 1) := by decide +kernel
theorem dX10_laysBlocks_7 : decode cX10_laysBlocks 7 = .ok (.iload_n 1, 1) := by decide +kernel
theorem dX10_laysBlocks_8 : decode cX10_laysBlocks 8 = .ok (.ifCond .le 177, 3) := by decide +kernel
theorem dX10_laysBlocks_11 : decode cX10_laysBlocks 11 = .ok (.iconst 0, 1) := by decide +kernel
theorem dX10_laysBlocks_12 : decode cX10_laysBlocks 12 = .ok (.istore_n 1, 1) := by decide +kernel
theorem dX10_laysBlocks_13 : decode cX10_laysBlocks 13 = .ok (.iconst 0, 1) := by decide +kernel
theorem dX10_laysBlocks_14 : decode cX10_laysBlocks 14 = .ok (.istore_n 2, 1) := by decide +kernel
theorem dX10_laysBlocks_15 : decode cX10_laysBlocks 15 = .ok (.iconst 0, 1) := by decide +kernel
theorem dX10_laysBlocks_16 : decode cX10_laysBlocks 16 = .ok (.istore_n 3, 1) := by decide +kernel
theorem dX10_laysBlocks_17 : decode cX10_laysBlocks 17 = .ok (.iload_n 3, 1) := by decide +kernel
theorem dX10_laysBlocks_18 : decode cX10_laysBlocks 18 = .ok (.sipush 196, 3) := by decide +kernel
theorem dX10_laysBlocks_21 : decode cX10_laysBlocks 21 = .ok (.if_icmp .ge 37, 3) := by decide +kernel
theorem dX10_laysBlocks_24 : decode cX10_laysBlocks 24 = .ok (.aload_n 0, 1) := by decide +kernel
theorem dX10_laysBlocks_25 : decode cX10_laysBlocks 25 = .ok (.iload_n 3, 1) := by decide +kernel
theorem dX10_laysBlocks_26 : decode cX10_laysBlocks 26 = .ok (.bipush 14, 2) := by decide +kernel
theorem dX10_laysBlocks_28 : decode cX10_laysBlocks 28 = .ok (.idiv, 1) := by decide +kernel
theorem dX10_laysBlocks_29 : decode cX10_laysBlocks 29 = .ok (.iload_n 3, 1) := by decide +kernel
theorem dX10_laysBlocks_30 : decode cX10_laysBlocks 30 = .ok (.bipush 14, 2) := by decide +kernel
theorem dX10_laysBlocks_32 : decode cX10_laysBlocks 32 = .ok (.irem, 1) := by decide +kernel
theorem dX10_laysBlocks_33 : decode cX10_laysBlocks 33 = .ok (.invokevirtual 136, 3) := by decide +kernel
theorem dX10_laysBlocks_36 : decode cX10_laysBlocks 36 = .ok (.istore 4, 2) := by decide +kernel
theorem dX10_laysBlocks_38 : decode cX10_laysBlocks 38 = .ok (.iload 4, 2) := by decide +kernel
theorem dX10_laysBlocks_40 : decode cX10_laysBlocks 40 = .ok (.iload_n 1, 1) := by decide +kernel
theorem dX10_laysBlocks_41 : decode cX10_laysBlocks 41 = .ok (.if_icmp .gt 6, 3) := by decide +kernel
theorem dX10_laysBlocks_44 : decode cX10_laysBlocks 44 = .ok (.goto 8, 3) := by decide +kernel
theorem dX10_laysBlocks_47 : decode cX10_laysBlocks 47 = .ok (.iload 4, 2) := by decide +kernel
theorem dX10_laysBlocks_49 : decode cX10_laysBlocks 49 = .ok (.istore_n 1, 1) := by decide +kernel
theorem dX10_laysBlocks_50 : decode cX10_laysBlocks 50 = .ok (.iload_n 3, 1) := by decide +kernel
theorem dX10_laysBlocks_51 : decode cX10_laysBlocks 51 = .ok (.istore_n 2, 1) := by decide +kernel
theorem dX10_laysBlocks_52 : decode cX10_laysBlocks 52 = .ok (.iinc 3 1, 3) := by decide +kernel
theorem dX10_laysBlocks_55 : decode cX10_laysBlocks 55 = .ok (.goto (-38), 3) := by decide +kernel
theorem dX10_laysBlocks_58 : decode cX10_laysBlocks 58 = .ok (.iload_n 1, 1) := by decide +kernel
theorem dX10_laysBlocks_59 : decode cX10_laysBlocks 59 = .ok (.ifCond .ne 4, 3) := by decide +kernel
theorem dX10_laysBlocks_62 : decode cX10_laysBlocks 62 = .ok (.return_, 1) := by decide +kernel
theorem dX10_laysBlocks_63 : decode cX10_laysBlocks 63 = .ok (.iconst 0, 1) := by decide +kernel
theorem dX10_laysBlocks_64 : decode cX10_laysBlocks 64 = .ok (.istore_n 3, 1) := by decide +kernel
theorem dX10_laysBlocks_65 : decode cX10_laysBlocks 65 = .ok (.iload_n 3, 1) := by decide +kernel
theorem dX10_laysBlocks_66 : decode cX10_laysBlocks 66 = .ok (.iload_n 1, 1) := by decide +kernel
theorem dX10_laysBlocks_67 : decode cX10_laysBlocks 67 = .ok (.if_icmp .ge 59, 3) := by decide +kernel
theorem dX10_laysBlocks_70 : decode cX10_laysBlocks 70 = .ok (.aload_n 0, 1) := by decide +kernel
theorem dX10_laysBlocks_71 : decode cX10_laysBlocks 71 = .ok (.iload_n 2, 1) := by decide +kernel
theorem dX10_laysBlocks_72 : decode cX10_laysBlocks 72 = .ok (.bipush 14, 2) := by decide +kernel
theorem dX10_laysBlocks_74 : decode cX10_laysBlocks 74 = .ok (.idiv, 1) := by decide +kernel
theorem dX10_laysBlocks_75 : decode cX10_laysBlocks 75 = .ok (.iload_n 3, 1) := by decide +kernel
theorem dX10_laysBlocks_76 : decode cX10_laysBlocks 76 = .ok (.iadd, 1) := by decide +kernel
theorem dX10_laysBlocks_77 : decode cX10_laysBlocks 77 = .ok (.iload_n 2, 1) := by decide +kernel
theorem dX10_laysBlocks_78 : decode cX10_laysBlocks 78 = .ok (.bipush 14, 2) := by decide +kernel
theorem dX10_laysBlocks_80 : decode cX10_laysBlocks 80 = .ok (.irem, 1) := by decide +kernel
theorem dX10_laysBlocks_81 : decode cX10_laysBlocks 81 = .ok (.iload_n 3, 1) := by decide +kernel
theorem dX10_laysBlocks_82 : decode cX10_laysBlocks 82 = .ok (.iadd, 1) := by decide +kernel
theorem dX10_laysBlocks_83 : decode cX10_laysBlocks 83 = .ok (.iconst 1, 1) := by decide +kernel
theorem dX10_laysBlocks_84 : decode cX10_laysBlocks 84 = .ok (.invokevirtual 112, 3) := by decide +kernel
theorem dX10_laysBlocks_87 : decode cX10_laysBlocks 87 = .ok (.aload_n 0, 1) := by decide +kernel
theorem dX10_laysBlocks_88 : decode cX10_laysBlocks 88 = .ok (.getfield 39, 3) := by decide +kernel
theorem dX10_laysBlocks_91 : decode cX10_laysBlocks 91 = .ok (.iload_n 2, 1) := by decide +kernel
theorem dX10_laysBlocks_92 : decode cX10_laysBlocks 92 = .ok (.bipush 14, 2) := by decide +kernel
theorem dX10_laysBlocks_94 : decode cX10_laysBlocks 94 = .ok (.idiv, 1) := by decide +kernel
theorem dX10_laysBlocks_95 : decode cX10_laysBlocks 95 = .ok (.iload_n 3, 1) := by decide +kernel
theorem dX10_laysBlocks_96 : decode cX10_laysBlocks 96 = .ok (.iadd, 1) := by decide +kernel
theorem dX10_laysBlocks_97 : decode cX10_laysBlocks 97 = .ok (.aload_n 0, 1) := by decide +kernel
theorem dX10_laysBlocks_98 : decode cX10_laysBlocks 98 = .ok (.getfield 133, 3) := by decide +kernel
theorem dX10_laysBlocks_101 : decode cX10_laysBlocks 101 = .ok (.iastore, 1) := by decide +kernel
theorem dX10_laysBlocks_102 : decode cX10_laysBlocks 102 = .ok (.aload_n 0, 1) := by decide +kernel
theorem dX10_laysBlocks_103 : decode cX10_laysBlocks 103 = .ok (.getfield 39, 3) := by decide +kernel
theorem dX10_laysBlocks_106 : decode cX10_laysBlocks 106 = .ok (.bipush 14, 2) := by decide +kernel
theorem dX10_laysBlocks_108 : decode cX10_laysBlocks 108 = .ok (.iload_n 2, 1) := by decide +kernel
theorem dX10_laysBlocks_109 : decode cX10_laysBlocks 109 = .ok (.bipush 14, 2) := by decide +kernel
theorem dX10_laysBlocks_111 : decode cX10_laysBlocks 111 = .ok (.irem, 1) := by decide +kernel
theorem dX10_laysBlocks_112 : decode cX10_laysBlocks 112 = .ok (.iadd, 1) := by decide +kernel
theorem dX10_laysBlocks_113 : decode cX10_laysBlocks 113 = .ok (.iload_n 3, 1) := by decide +kernel
theorem dX10_laysBlocks_114 : decode cX10_laysBlocks 114 = .ok (.iadd, 1) := by decide +kernel
theorem dX10_laysBlocks_115 : decode cX10_laysBlocks 115 = .ok (.aload_n 0, 1) := by decide +kernel
theorem dX10_laysBlocks_116 : decode cX10_laysBlocks 116 = .ok (.getfield 133, 3) := by decide +kernel
theorem dX10_laysBlocks_119 : decode cX10_laysBlocks 119 = .ok (.iastore, 1) := by decide +kernel
theorem dX10_laysBlocks_120 : decode cX10_laysBlocks 120 = .ok (.iinc 3 1, 3) := by decide +kernel
theorem dX10_laysBlocks_123 : decode cX10_laysBlocks 123 = .ok (.goto (-58), 3) := by decide +kernel
theorem dX10_laysBlocks_126 : decode cX10_laysBlocks 126 = .ok (.aload_n 0, 1) := by decide +kernel
theorem dX10_laysBlocks_127 : decode cX10_laysBlocks 127 = .ok (.getfield 48, 3) := by decide +kernel
theorem dX10_laysBlocks_130 : decode cX10_laysBlocks 130 = .ok (.iconst 3, 1) := by decide +kernel
theorem dX10_laysBlocks_131 : decode cX10_laysBlocks 131 = .ok (.aload_n 0, 1) := by decide +kernel
theorem dX10_laysBlocks_132 : decode cX10_laysBlocks 132 = .ok (.getfield 133, 3) := by decide +kernel
theorem dX10_laysBlocks_135 : decode cX10_laysBlocks 135 = .ok (.imul, 1) := by decide +kernel
theorem dX10_laysBlocks_136 : decode cX10_laysBlocks 136 = .ok (.iload_n 2, 1) := by decide +kernel
theorem dX10_laysBlocks_137 : decode cX10_laysBlocks 137 = .ok (.bipush 14, 2) := by decide +kernel
theorem dX10_laysBlocks_139 : decode cX10_laysBlocks 139 = .ok (.idiv, 1) := by decide +kernel
theorem dX10_laysBlocks_140 : decode cX10_laysBlocks 140 = .ok (.iastore, 1) := by decide +kernel
theorem dX10_laysBlocks_141 : decode cX10_laysBlocks 141 = .ok (.aload_n 0, 1) := by decide +kernel
theorem dX10_laysBlocks_142 : decode cX10_laysBlocks 142 = .ok (.getfield 48, 3) := by decide +kernel
theorem dX10_laysBlocks_145 : decode cX10_laysBlocks 145 = .ok (.iconst 3, 1) := by decide +kernel
theorem dX10_laysBlocks_146 : decode cX10_laysBlocks 146 = .ok (.aload_n 0, 1) := by decide +kernel
theorem dX10_laysBlocks_147 : decode cX10_laysBlocks 147 = .ok (.getfield 133, 3) := by decide +kernel
theorem dX10_laysBlocks_150 : decode cX10_laysBlocks 150 = .ok (.imul, 1) := by decide +kernel
theorem dX10_laysBlocks_151 : decode cX10_laysBlocks 151 = .ok (.iconst 1, 1) := by decide +kernel
theorem dX10_laysBlocks_152 : decode cX10_laysBlocks 152 = .ok (.iadd, 1) := by decide +kernel
theorem dX10_laysBlocks_153 : decode cX10_laysBlocks 153 = .ok (.iload_n 2, 1) := by decide +kernel
theorem dX10_laysBlocks_154 : decode cX10_laysBlocks 154 = .ok (.bipush 14, 2) := by decide +kernel
theorem dX10_laysBlocks_156 : decode cX10_laysBlocks 156 = .ok (.irem, 1) := by decide +kernel
theorem dX10_laysBlocks_157 : decode cX10_laysBlocks 157 = .ok (.iastore, 1) := by decide +kernel
theorem dX10_laysBlocks_158 : decode cX10_laysBlocks 158 = .ok (.aload_n 0, 1) := by decide +kernel
theorem dX10_laysBlocks_159 : decode cX10_laysBlocks 159 = .ok (.getfield 48, 3) := by decide +kernel
theorem dX10_laysBlocks_162 : decode cX10_laysBlocks 162 = .ok (.iconst 3, 1) := by decide +kernel
theorem dX10_laysBlocks_163 : decode cX10_laysBlocks 163 = .ok (.aload_n 0, 1) := by decide +kernel
theorem dX10_laysBlocks_164 : decode cX10_laysBlocks 164 = .ok (.getfield 133, 3) := by decide +kernel
theorem dX10_laysBlocks_167 : decode cX10_laysBlocks 167 = .ok (.imul, 1) := by decide +kernel
theorem dX10_laysBlocks_168 : decode cX10_laysBlocks 168 = .ok (.iconst 2, 1) := by decide +kernel
theorem dX10_laysBlocks_169 : decode cX10_laysBlocks 169 = .ok (.iadd, 1) := by decide +kernel
theorem dX10_laysBlocks_170 : decode cX10_laysBlocks 170 = .ok (.iload_n 1, 1) := by decide +kernel
theorem dX10_laysBlocks_171 : decode cX10_laysBlocks 171 = .ok (.iastore, 1) := by decide +kernel
theorem dX10_laysBlocks_172 : decode cX10_laysBlocks 172 = .ok (.aload_n 0, 1) := by decide +kernel
theorem dX10_laysBlocks_173 : decode cX10_laysBlocks 173 = .ok (.dup, 1) := by decide +kernel
theorem dX10_laysBlocks_174 : decode cX10_laysBlocks 174 = .ok (.getfield 133, 3) := by decide +kernel
theorem dX10_laysBlocks_177 : decode cX10_laysBlocks 177 = .ok (.iconst 1, 1) := by decide +kernel
theorem dX10_laysBlocks_178 : decode cX10_laysBlocks 178 = .ok (.iadd, 1) := by decide +kernel
theorem dX10_laysBlocks_179 : decode cX10_laysBlocks 179 = .ok (.putfield 133, 3) := by decide +kernel
theorem dX10_laysBlocks_182 : decode cX10_laysBlocks 182 = .ok (.goto (-175), 3) := by decide +kernel
theorem dX10_laysBlocks_185 : decode cX10_laysBlocks 185 = .ok (.return_, 1) := by decide +kernel
theorem dX10_sharedOf_0 : decode cX10_sharedOf 0 = .ok (.aload_n 0, 1) := by decide +kernel
theorem dX10_sharedOf_1 : decode cX10_sharedOf 1 = .ok (.iconst 0, 1) := by decide +kernel
theorem dX10_sharedOf_2 : decode cX10_sharedOf 2 = .ok (.iload_n 1, 1) := by decide +kernel
theorem dX10_sharedOf_3 : decode cX10_sharedOf 3 = .ok (.invokevirtual 99, 3) := by decide +kernel
theorem dX10_sharedOf_6 : decode cX10_sharedOf 6 = .ok (.istore_n 3, 1) := by decide +kernel
theorem dX10_sharedOf_7 : decode cX10_sharedOf 7 = .ok (.aload_n 0, 1) := by decide +kernel
theorem dX10_sharedOf_8 : decode cX10_sharedOf 8 = .ok (.iconst 1, 1) := by decide +kernel
theorem dX10_sharedOf_9 : decode cX10_sharedOf 9 = .ok (.iload_n 2, 1) := by decide +kernel
theorem dX10_sharedOf_10 : decode cX10_sharedOf 10 = .ok (.invokevirtual 99, 3) := by decide +kernel
theorem dX10_sharedOf_13 : decode cX10_sharedOf 13 = .ok (.istore 4, 2) := by decide +kernel
theorem dX10_sharedOf_15 : decode cX10_sharedOf 15 = .ok (.iload_n 3, 1) := by decide +kernel
theorem dX10_sharedOf_16 : decode cX10_sharedOf 16 = .ok (.istore 5, 2) := by decide +kernel
theorem dX10_sharedOf_18 : decode cX10_sharedOf 18 = .ok (.iload 5, 2) := by decide +kernel
theorem dX10_sharedOf_20 : decode cX10_sharedOf 20 = .ok (.ifCond .lt 187, 3) := by decide +kernel
theorem dX10_sharedOf_23 : decode cX10_sharedOf 23 = .ok (.iload 4, 2) := by decide +kernel
theorem dX10_sharedOf_25 : decode cX10_sharedOf 25 = .ok (.istore 6, 2) := by decide +kernel
theorem dX10_sharedOf_27 : decode cX10_sharedOf 27 = .ok (.iload 6, 2) := by decide +kernel
theorem dX10_sharedOf_29 : decode cX10_sharedOf 29 = .ok (.ifCond .lt 172, 3) := by decide +kernel
theorem dX10_sharedOf_32 : decode cX10_sharedOf 32 = .ok (.iconst 0, 1) := by decide +kernel
theorem dX10_sharedOf_33 : decode cX10_sharedOf 33 = .ok (.istore 7, 2) := by decide +kernel
theorem dX10_sharedOf_35 : decode cX10_sharedOf 35 = .ok (.iload 5, 2) := by decide +kernel
theorem dX10_sharedOf_37 : decode cX10_sharedOf 37 = .ok (.iload_n 3, 1) := by decide +kernel
theorem dX10_sharedOf_38 : decode cX10_sharedOf 38 = .ok (.if_icmp .ge 142, 3) := by decide +kernel
theorem dX10_sharedOf_41 : decode cX10_sharedOf 41 = .ok (.iload 6, 2) := by decide +kernel
theorem dX10_sharedOf_43 : decode cX10_sharedOf 43 = .ok (.iload 4, 2) := by decide +kernel
theorem dX10_sharedOf_45 : decode cX10_sharedOf 45 = .ok (.if_icmp .ge 135, 3) := by decide +kernel
theorem dX10_sharedOf_48 : decode cX10_sharedOf 48 = .ok (.aload_n 0, 1) := by decide +kernel
theorem dX10_sharedOf_49 : decode cX10_sharedOf 49 = .ok (.getfield 51, 3) := by decide +kernel
theorem dX10_sharedOf_52 : decode cX10_sharedOf 52 = .ok (.bipush 9, 2) := by decide +kernel
theorem dX10_sharedOf_54 : decode cX10_sharedOf 54 = .ok (.iload 5, 2) := by decide +kernel
theorem dX10_sharedOf_56 : decode cX10_sharedOf 56 = .ok (.imul, 1) := by decide +kernel
theorem dX10_sharedOf_57 : decode cX10_sharedOf 57 = .ok (.bipush 9, 2) := by decide +kernel
theorem dX10_sharedOf_59 : decode cX10_sharedOf 59 = .ok (.iadd, 1) := by decide +kernel
theorem dX10_sharedOf_60 : decode cX10_sharedOf 60 = .ok (.iload 6, 2) := by decide +kernel
theorem dX10_sharedOf_62 : decode cX10_sharedOf 62 = .ok (.iadd, 1) := by decide +kernel
theorem dX10_sharedOf_63 : decode cX10_sharedOf 63 = .ok (.iaload, 1) := by decide +kernel
theorem dX10_sharedOf_64 : decode cX10_sharedOf 64 = .ok (.aload_n 0, 1) := by decide +kernel
theorem dX10_sharedOf_65 : decode cX10_sharedOf 65 = .ok (.getfield 51, 3) := by decide +kernel
theorem dX10_sharedOf_68 : decode cX10_sharedOf 68 = .ok (.bipush 9, 2) := by decide +kernel
end
section
theorem dX10_sharedOf_70 : decode cX10_sharedOf 70 = .ok (.iload 5, 2) := by decide +kernel
theorem dX10_sharedOf_72 : decode cX10_sharedOf 72 = .ok (.imul, 1) := by decide +kernel
theorem dX10_sharedOf_73 : decode cX10_sharedOf 73 = .ok (.iload 6, 2) := by decide +kernel
theorem dX10_sharedOf_75 : decode cX10_sharedOf 75 = .ok (.iadd, 1) := by decide +kernel
theorem dX10_sharedOf_76 : decode cX10_sharedOf 76 = .ok (.iconst 1, 1) := by decide +kernel
theorem dX10_sharedOf_77 : decode cX10_sharedOf 77 = .ok (.iadd, 1) := by decide +kernel
theorem dX10_sharedOf_78 : decode cX10_sharedOf 78 = .ok (.iaload, 1) := by decide +kernel
theorem dX10_sharedOf_79 : decode cX10_sharedOf 79 = .ok (.if_icmp .le 22, 3) := by decide +kernel
theorem dX10_sharedOf_82 : decode cX10_sharedOf 82 = .ok (.aload_n 0, 1) := by decide +kernel
theorem dX10_sharedOf_83 : decode cX10_sharedOf 83 = .ok (.getfield 51, 3) := by decide +kernel
theorem dX10_sharedOf_86 : decode cX10_sharedOf 86 = .ok (.bipush 9, 2) := by decide +kernel
theorem dX10_sharedOf_88 : decode cX10_sharedOf 88 = .ok (.iload 5, 2) := by decide +kernel
theorem dX10_sharedOf_90 : decode cX10_sharedOf 90 = .ok (.imul, 1) := by decide +kernel
theorem dX10_sharedOf_91 : decode cX10_sharedOf 91 = .ok (.bipush 9, 2) := by decide +kernel
theorem dX10_sharedOf_93 : decode cX10_sharedOf 93 = .ok (.iadd, 1) := by decide +kernel
theorem dX10_sharedOf_94 : decode cX10_sharedOf 94 = .ok (.iload 6, 2) := by decide +kernel
theorem dX10_sharedOf_96 : decode cX10_sharedOf 96 = .ok (.iadd, 1) := by decide +kernel
theorem dX10_sharedOf_97 : decode cX10_sharedOf 97 = .ok (.iaload, 1) := by decide +kernel
theorem dX10_sharedOf_98 : decode cX10_sharedOf 98 = .ok (.goto 18, 3) := by decide +kernel
theorem dX10_sharedOf_101 : decode cX10_sharedOf 101 = .ok (.aload_n 0, 1) := by decide +kernel
theorem dX10_sharedOf_102 : decode cX10_sharedOf 102 = .ok (.getfield 51, 3) := by decide +kernel
theorem dX10_sharedOf_105 : decode cX10_sharedOf 105 = .ok (.bipush 9, 2) := by decide +kernel
theorem dX10_sharedOf_107 : decode cX10_sharedOf 107 = .ok (.iload 5, 2) := by decide +kernel
theorem dX10_sharedOf_109 : decode cX10_sharedOf 109 = .ok (.imul, 1) := by decide +kernel
theorem dX10_sharedOf_110 : decode cX10_sharedOf 110 = .ok (.iload 6, 2) := by decide +kernel
theorem dX10_sharedOf_112 : decode cX10_sharedOf 112 = .ok (.iadd, 1) := by decide +kernel
theorem dX10_sharedOf_113 : decode cX10_sharedOf 113 = .ok (.iconst 1, 1) := by decide +kernel
theorem dX10_sharedOf_114 : decode cX10_sharedOf 114 = .ok (.iadd, 1) := by decide +kernel
theorem dX10_sharedOf_115 : decode cX10_sharedOf 115 = .ok (.iaload, 1) := by decide +kernel
theorem dX10_sharedOf_116 : decode cX10_sharedOf 116 = .ok (.istore 7, 2) := by decide +kernel
theorem dX10_sharedOf_118 : decode cX10_sharedOf 118 = .ok (.aload_n 0, 1) := by decide +kernel
theorem dX10_sharedOf_119 : decode cX10_sharedOf 119 = .ok (.iconst 0, 1) := by decide +kernel
theorem dX10_sharedOf_120 : decode cX10_sharedOf 120 = .ok (.iload_n 1, 1) := by decide +kernel
theorem dX10_sharedOf_121 : decode cX10_sharedOf 121 = .ok (.iload 5, 2) := by decide +kernel
theorem dX10_sharedOf_123 : decode cX10_sharedOf 123 = .ok (.invokevirtual 102, 3) := by decide +kernel
theorem dX10_sharedOf_126 : decode cX10_sharedOf 126 = .ok (.aload_n 0, 1) := by decide +kernel
theorem dX10_sharedOf_127 : decode cX10_sharedOf 127 = .ok (.iconst 1, 1) := by decide +kernel
theorem dX10_sharedOf_128 : decode cX10_sharedOf 128 = .ok (.iload_n 2, 1) := by decide +kernel
theorem dX10_sharedOf_129 : decode cX10_sharedOf 129 = .ok (.iload 6, 2) := by decide +kernel
theorem dX10_sharedOf_131 : decode cX10_sharedOf 131 = .ok (.invokevirtual 102, 3) := by decide +kernel
theorem dX10_sharedOf_134 : decode cX10_sharedOf 134 = .ok (.if_icmp .ne 46, 3) := by decide +kernel
theorem dX10_sharedOf_137 : decode cX10_sharedOf 137 = .ok (.aload_n 0, 1) := by decide +kernel
theorem dX10_sharedOf_138 : decode cX10_sharedOf 138 = .ok (.getfield 51, 3) := by decide +kernel
theorem dX10_sharedOf_141 : decode cX10_sharedOf 141 = .ok (.bipush 9, 2) := by decide +kernel
theorem dX10_sharedOf_143 : decode cX10_sharedOf 143 = .ok (.iload 5, 2) := by decide +kernel
theorem dX10_sharedOf_145 : decode cX10_sharedOf 145 = .ok (.imul, 1) := by decide +kernel
theorem dX10_sharedOf_146 : decode cX10_sharedOf 146 = .ok (.bipush 10, 2) := by decide +kernel
theorem dX10_sharedOf_148 : decode cX10_sharedOf 148 = .ok (.iadd, 1) := by decide +kernel
theorem dX10_sharedOf_149 : decode cX10_sharedOf 149 = .ok (.iload 6, 2) := by decide +kernel
theorem dX10_sharedOf_151 : decode cX10_sharedOf 151 = .ok (.iadd, 1) := by decide +kernel
theorem dX10_sharedOf_152 : decode cX10_sharedOf 152 = .ok (.iaload, 1) := by decide +kernel
theorem dX10_sharedOf_153 : decode cX10_sharedOf 153 = .ok (.iconst 1, 1) := by decide +kernel
theorem dX10_sharedOf_154 : decode cX10_sharedOf 154 = .ok (.iadd, 1) := by decide +kernel
theorem dX10_sharedOf_155 : decode cX10_sharedOf 155 = .ok (.iload 7, 2) := by decide +kernel
theorem dX10_sharedOf_157 : decode cX10_sharedOf 157 = .ok (.if_icmp .le 23, 3) := by decide +kernel
theorem dX10_sharedOf_160 : decode cX10_sharedOf 160 = .ok (.aload_n 0, 1) := by decide +kernel
theorem dX10_sharedOf_161 : decode cX10_sharedOf 161 = .ok (.getfield 51, 3) := by decide +kernel
theorem dX10_sharedOf_164 : decode cX10_sharedOf 164 = .ok (.bipush 9, 2) := by decide +kernel
theorem dX10_sharedOf_166 : decode cX10_sharedOf 166 = .ok (.iload 5, 2) := by decide +kernel
theorem dX10_sharedOf_168 : decode cX10_sharedOf 168 = .ok (.imul, 1) := by decide +kernel
theorem dX10_sharedOf_169 : decode cX10_sharedOf 169 = .ok (.bipush 10, 2) := by decide +kernel
theorem dX10_sharedOf_171 : decode cX10_sharedOf 171 = .ok (.iadd, 1) := by decide +kernel
theorem dX10_sharedOf_172 : decode cX10_sharedOf 172 = .ok (.iload 6, 2) := by decide +kernel
theorem dX10_sharedOf_174 : decode cX10_sharedOf 174 = .ok (.iadd, 1) := by decide +kernel
theorem dX10_sharedOf_175 : decode cX10_sharedOf 175 = .ok (.iaload, 1) := by decide +kernel
theorem dX10_sharedOf_176 : decode cX10_sharedOf 176 = .ok (.iconst 1, 1) := by decide +kernel
theorem dX10_sharedOf_177 : decode cX10_sharedOf 177 = .ok (.iadd, 1) := by decide +kernel
theorem dX10_sharedOf_178 : decode cX10_sharedOf 178 = .ok (.istore 7, 2) := by decide +kernel
theorem dX10_sharedOf_180 : decode cX10_sharedOf 180 = .ok (.aload_n 0, 1) := by decide +kernel
theorem dX10_sharedOf_181 : decode cX10_sharedOf 181 = .ok (.getfield 51, 3) := by decide +kernel
theorem dX10_sharedOf_184 : decode cX10_sharedOf 184 = .ok (.bipush 9, 2) := by decide +kernel
theorem dX10_sharedOf_186 : decode cX10_sharedOf 186 = .ok (.iload 5, 2) := by decide +kernel
theorem dX10_sharedOf_188 : decode cX10_sharedOf 188 = .ok (.imul, 1) := by decide +kernel
theorem dX10_sharedOf_189 : decode cX10_sharedOf 189 = .ok (.iload 6, 2) := by decide +kernel
theorem dX10_sharedOf_191 : decode cX10_sharedOf 191 = .ok (.iadd, 1) := by decide +kernel
theorem dX10_sharedOf_192 : decode cX10_sharedOf 192 = .ok (.iload 7, 2) := by decide +kernel
theorem dX10_sharedOf_194 : decode cX10_sharedOf 194 = .ok (.iastore, 1) := by decide +kernel
theorem dX10_sharedOf_195 : decode cX10_sharedOf 195 = .ok (.iinc 6 (-1), 3) := by decide +kernel
theorem dX10_sharedOf_198 : decode cX10_sharedOf 198 = .ok (.goto (-171), 3) := by decide +kernel
theorem dX10_sharedOf_201 : decode cX10_sharedOf 201 = .ok (.iinc 5 (-1), 3) := by decide +kernel
theorem dX10_sharedOf_204 : decode cX10_sharedOf 204 = .ok (.goto (-186), 3) := by decide +kernel
theorem dX10_sharedOf_207 : decode cX10_sharedOf 207 = .ok (.aload_n 0, 1) := by decide +kernel
theorem dX10_sharedOf_208 : decode cX10_sharedOf 208 = .ok (.getfield 51, 3) := by decide +kernel
theorem dX10_sharedOf_211 : decode cX10_sharedOf 211 = .ok (.iconst 0, 1) := by decide +kernel
theorem dX10_sharedOf_212 : decode cX10_sharedOf 212 = .ok (.iaload, 1) := by decide +kernel
theorem dX10_sharedOf_213 : decode cX10_sharedOf 213 = .ok (.ireturn, 1) := by decide +kernel
theorem dX10_laysEdits_0 : decode cX10_laysEdits 0 = .ok (.iconst 0, 1) := by decide +kernel
theorem dX10_laysEdits_1 : decode cX10_laysEdits 1 = .ok (.istore_n 1, 1) := by decide +kernel
theorem dX10_laysEdits_2 : decode cX10_laysEdits 2 = .ok (.iload_n 1, 1) := by decide +kernel
theorem dX10_laysEdits_3 : decode cX10_laysEdits 3 = .ok (.iconst (-1), 1) := by decide +kernel
theorem dX10_laysEdits_4 : decode cX10_laysEdits 4 = .ok (.if_icmp .eq 130, 3) := by decide +kernel
theorem dX10_laysEdits_7 : decode cX10_laysEdits 7 = .ok (.iconst (-1), 1) := by decide +kernel
theorem dX10_laysEdits_8 : decode cX10_laysEdits 8 = .ok (.istore_n 1, 1) := by decide +kernel
theorem dX10_laysEdits_9 : decode cX10_laysEdits 9 = .ok (.iconst 0, 1) := by decide +kernel
theorem dX10_laysEdits_10 : decode cX10_laysEdits 10 = .ok (.istore_n 2, 1) := by decide +kernel
theorem dX10_laysEdits_11 : decode cX10_laysEdits 11 = .ok (.iconst 0, 1) := by decide +kernel
theorem dX10_laysEdits_12 : decode cX10_laysEdits 12 = .ok (.istore_n 3, 1) := by decide +kernel
theorem dX10_laysEdits_13 : decode cX10_laysEdits 13 = .ok (.iload_n 3, 1) := by decide +kernel
theorem dX10_laysEdits_14 : decode cX10_laysEdits 14 = .ok (.sipush 196, 3) := by decide +kernel
theorem dX10_laysEdits_17 : decode cX10_laysEdits 17 = .ok (.if_icmp .ge 96, 3) := by decide +kernel
theorem dX10_laysEdits_20 : decode cX10_laysEdits 20 = .ok (.aload_n 0, 1) := by decide +kernel
theorem dX10_laysEdits_21 : decode cX10_laysEdits 21 = .ok (.iconst 0, 1) := by decide +kernel
theorem dX10_laysEdits_22 : decode cX10_laysEdits 22 = .ok (.iload_n 3, 1) := by decide +kernel
theorem dX10_laysEdits_23 : decode cX10_laysEdits 23 = .ok (.bipush 14, 2) := by decide +kernel
theorem dX10_laysEdits_25 : decode cX10_laysEdits 25 = .ok (.idiv, 1) := by decide +kernel
theorem dX10_laysEdits_26 : decode cX10_laysEdits 26 = .ok (.invokevirtual 130, 3) := by decide +kernel
theorem dX10_laysEdits_29 : decode cX10_laysEdits 29 = .ok (.ifCond .eq 78, 3) := by decide +kernel
theorem dX10_laysEdits_32 : decode cX10_laysEdits 32 = .ok (.aload_n 0, 1) := by decide +kernel
theorem dX10_laysEdits_33 : decode cX10_laysEdits 33 = .ok (.iconst 1, 1) := by decide +kernel
theorem dX10_laysEdits_34 : decode cX10_laysEdits 34 = .ok (.iload_n 3, 1) := by decide +kernel
theorem dX10_laysEdits_35 : decode cX10_laysEdits 35 = .ok (.bipush 14, 2) := by decide +kernel
theorem dX10_laysEdits_37 : decode cX10_laysEdits 37 = .ok (.irem, 1) := by decide +kernel
theorem dX10_laysEdits_38 : decode cX10_laysEdits 38 = .ok (.invokevirtual 130, 3) := by decide +kernel
theorem dX10_laysEdits_41 : decode cX10_laysEdits 41 = .ok (.ifCond .ne 6, 3) := by decide +kernel
theorem dX10_laysEdits_44 : decode cX10_laysEdits 44 = .ok (.goto 63, 3) := by decide +kernel
theorem dX10_laysEdits_47 : decode cX10_laysEdits 47 = .ok (.aload_n 0, 1) := by decide +kernel
theorem dX10_laysEdits_48 : decode cX10_laysEdits 48 = .ok (.iload_n 3, 1) := by decide +kernel
theorem dX10_laysEdits_49 : decode cX10_laysEdits 49 = .ok (.bipush 14, 2) := by decide +kernel
theorem dX10_laysEdits_51 : decode cX10_laysEdits 51 = .ok (.idiv, 1) := by decide +kernel
theorem dX10_laysEdits_52 : decode cX10_laysEdits 52 = .ok (.iload_n 3, 1) := by decide +kernel
theorem dX10_laysEdits_53 : decode cX10_laysEdits 53 = .ok (.bipush 14, 2) := by decide +kernel
theorem dX10_laysEdits_55 : decode cX10_laysEdits 55 = .ok (.irem, 1) := by decide +kernel
theorem dX10_laysEdits_56 : decode cX10_laysEdits 56 = .ok (.invokevirtual 139, 3) := by decide +kernel
theorem dX10_laysEdits_59 : decode cX10_laysEdits 59 = .ok (.istore 4, 2) := by decide +kernel
theorem dX10_laysEdits_61 : decode cX10_laysEdits 61 = .ok (.iconst 2, 1) := by decide +kernel
theorem dX10_laysEdits_62 : decode cX10_laysEdits 62 = .ok (.iload 4, 2) := by decide +kernel
theorem dX10_laysEdits_64 : decode cX10_laysEdits 64 = .ok (.imul, 1) := by decide +kernel
theorem dX10_laysEdits_65 : decode cX10_laysEdits 65 = .ok (.aload_n 0, 1) := by decide +kernel
theorem dX10_laysEdits_66 : decode cX10_laysEdits 66 = .ok (.iconst 0, 1) := by decide +kernel
theorem dX10_laysEdits_67 : decode cX10_laysEdits 67 = .ok (.iload_n 3, 1) := by decide +kernel
theorem dX10_laysEdits_68 : decode cX10_laysEdits 68 = .ok (.bipush 14, 2) := by decide +kernel
theorem dX10_laysEdits_70 : decode cX10_laysEdits 70 = .ok (.idiv, 1) := by decide +kernel
theorem dX10_laysEdits_71 : decode cX10_laysEdits 71 = .ok (.invokevirtual 99, 3) := by decide +kernel
theorem dX10_laysEdits_74 : decode cX10_laysEdits 74 = .ok (.if_icmp .lt 33, 3) := by decide +kernel
theorem dX10_laysEdits_77 : decode cX10_laysEdits 77 = .ok (.iconst 2, 1) := by decide +kernel
theorem dX10_laysEdits_78 : decode cX10_laysEdits 78 = .ok (.iload 4, 2) := by decide +kernel
theorem dX10_laysEdits_80 : decode cX10_laysEdits 80 = .ok (.imul, 1) := by decide +kernel
theorem dX10_laysEdits_81 : decode cX10_laysEdits 81 = .ok (.aload_n 0, 1) := by decide +kernel
theorem dX10_laysEdits_82 : decode cX10_laysEdits 82 = .ok (.iconst 1, 1) := by decide +kernel
theorem dX10_laysEdits_83 : decode cX10_laysEdits 83 = .ok (.iload_n 3, 1) := by decide +kernel
theorem dX10_laysEdits_84 : decode cX10_laysEdits 84 = .ok (.bipush 14, 2) := by decide +kernel
theorem dX10_laysEdits_86 : decode cX10_laysEdits 86 = .ok (.irem, 1) := by decide +kernel
theorem dX10_laysEdits_87 : decode cX10_laysEdits 87 = .ok (.invokevirtual 99, 3) := by decide +kernel
theorem dX10_laysEdits_90 : decode cX10_laysEdits 90 = .ok (.if_icmp .lt 17, 3) := by decide +kernel
theorem dX10_laysEdits_93 : decode cX10_laysEdits 93 = .ok (.iload 4, 2) := by decide +kernel
theorem dX10_laysEdits_95 : decode cX10_laysEdits 95 = .ok (.iload_n 2, 1) := by decide +kernel
theorem dX10_laysEdits_96 : decode cX10_laysEdits 96 = .ok (.if_icmp .gt 6, 3) := by decide +kernel
theorem dX10_laysEdits_99 : decode cX10_laysEdits 99 = .ok (.goto 8, 3) := by decide +kernel
theorem dX10_laysEdits_102 : decode cX10_laysEdits 102 = .ok (.iload 4, 2) := by decide +kernel
theorem dX10_laysEdits_104 : decode cX10_laysEdits 104 = .ok (.istore_n 2, 1) := by decide +kernel
theorem dX10_laysEdits_105 : decode cX10_laysEdits 105 = .ok (.iload_n 3, 1) := by decide +kernel
theorem dX10_laysEdits_106 : decode cX10_laysEdits 106 = .ok (.istore_n 1, 1) := by decide +kernel
theorem dX10_laysEdits_107 : decode cX10_laysEdits 107 = .ok (.iinc 3 1, 3) := by decide +kernel
theorem dX10_laysEdits_110 : decode cX10_laysEdits 110 = .ok (.goto (-97), 3) := by decide +kernel
theorem dX10_laysEdits_113 : decode cX10_laysEdits 113 = .ok (.iload_n 1, 1) := by decide +kernel
theorem dX10_laysEdits_114 : decode cX10_laysEdits 114 = .ok (.iconst (-1), 1) := by decide +kernel
theorem dX10_laysEdits_115 : decode cX10_laysEdits 115 = .ok (.if_icmp .eq 16, 3) := by decide +kernel
theorem dX10_laysEdits_118 : decode cX10_laysEdits 118 = .ok (.aload_n 0, 1) := by decide +kernel
theorem dX10_laysEdits_119 : decode cX10_laysEdits 119 = .ok (.iload_n 1, 1) := by decide +kernel
theorem dX10_laysEdits_120 : decode cX10_laysEdits 120 = .ok (.bipush 14, 2) := by decide +kernel
theorem dX10_laysEdits_122 : decode cX10_laysEdits 122 = .ok (.idiv, 1) := by decide +kernel
theorem dX10_laysEdits_123 : decode cX10_laysEdits 123 = .ok (.iload_n 1, 1) := by decide +kernel
theorem dX10_laysEdits_124 : decode cX10_laysEdits 124 = .ok (.bipush 14, 2) := by decide +kernel
theorem dX10_laysEdits_126 : decode cX10_laysEdits 126 = .ok (.irem, 1) := by decide +kernel
theorem dX10_laysEdits_127 : decode cX10_laysEdits 127 = .ok (.iconst 2, 1) := by decide +kernel
theorem dX10_laysEdits_128 : decode cX10_laysEdits 128 = .ok (.invokevirtual 112, 3) := by decide +kernel
theorem dX10_laysEdits_131 : decode cX10_laysEdits 131 = .ok (.goto (-129), 3) := by decide +kernel
theorem dX10_laysEdits_134 : decode cX10_laysEdits 134 = .ok (.return_, 1) := by decide +kernel
theorem dX10_laysAll_0 : decode cX10_laysAll 0 = .ok (.iconst 0, 1) := by decide +kernel
theorem dX10_laysAll_1 : decode cX10_laysAll 1 = .ok (.istore_n 1, 1) := by decide +kernel
theorem dX10_laysAll_2 : decode cX10_laysAll 2 = .ok (.iload_n 1, 1) := by decide +kernel
theorem dX10_laysAll_3 : decode cX10_laysAll 3 = .ok (.bipush 28, 2) := by decide +kernel
theorem dX10_laysAll_5 : decode cX10_laysAll 5 = .ok (.if_icmp .ge 30, 3) := by decide +kernel
theorem dX10_laysAll_8 : decode cX10_laysAll 8 = .ok (.aload_n 0, 1) := by decide +kernel
theorem dX10_laysAll_9 : decode cX10_laysAll 9 = .ok (.getfield 33, 3) := by decide +kernel
theorem dX10_laysAll_12 : decode cX10_laysAll 12 = .ok (.iload_n 1, 1) := by decide +kernel
theorem dX10_laysAll_13 : decode cX10_laysAll 13 = .ok (.iconst 3, 1) := by decide +kernel
theorem dX10_laysAll_14 : decode cX10_laysAll 14 = .ok (.iastore, 1) := by decide +kernel
theorem dX10_laysAll_15 : decode cX10_laysAll 15 = .ok (.aload_n 0, 1) := by decide +kernel
theorem dX10_laysAll_16 : decode cX10_laysAll 16 = .ok (.getfield 36, 3) := by decide +kernel
theorem dX10_laysAll_19 : decode cX10_laysAll 19 = .ok (.iload_n 1, 1) := by decide +kernel
theorem dX10_laysAll_20 : decode cX10_laysAll 20 = .ok (.iconst (-1), 1) := by decide +kernel
theorem dX10_laysAll_21 : decode cX10_laysAll 21 = .ok (.iastore, 1) := by decide +kernel
theorem dX10_laysAll_22 : decode cX10_laysAll 22 = .ok (.aload_n 0, 1) := by decide +kernel
theorem dX10_laysAll_23 : decode cX10_laysAll 23 = .ok (.getfield 39, 3) := by decide +kernel
theorem dX10_laysAll_26 : decode cX10_laysAll 26 = .ok (.iload_n 1, 1) := by decide +kernel
theorem dX10_laysAll_27 : decode cX10_laysAll 27 = .ok (.iconst (-1), 1) := by decide +kernel
theorem dX10_laysAll_28 : decode cX10_laysAll 28 = .ok (.iastore, 1) := by decide +kernel
theorem dX10_laysAll_29 : decode cX10_laysAll 29 = .ok (.iinc 1 1, 3) := by decide +kernel
theorem dX10_laysAll_32 : decode cX10_laysAll 32 = .ok (.goto (-30), 3) := by decide +kernel
theorem dX10_laysAll_35 : decode cX10_laysAll 35 = .ok (.aload_n 0, 1) := by decide +kernel
theorem dX10_laysAll_36 : decode cX10_laysAll 36 = .ok (.iconst 0, 1) := by decide +kernel
theorem dX10_laysAll_37 : decode cX10_laysAll 37 = .ok (.aload_n 0, 1) := by decide +kernel
theorem dX10_laysAll_38 : decode cX10_laysAll 38 = .ok (.iconst 0, 1) := by decide +kernel
theorem dX10_laysAll_39 : decode cX10_laysAll 39 = .ok (.invokevirtual 62, 3) := by decide +kernel
theorem dX10_laysAll_42 : decode cX10_laysAll 42 = .ok (.iconst 0, 1) := by decide +kernel
theorem dX10_laysAll_43 : decode cX10_laysAll 43 = .ok (.aload_n 0, 1) := by decide +kernel
theorem dX10_laysAll_44 : decode cX10_laysAll 44 = .ok (.iconst 1, 1) := by decide +kernel
theorem dX10_laysAll_45 : decode cX10_laysAll 45 = .ok (.invokevirtual 62, 3) := by decide +kernel
theorem dX10_laysAll_48 : decode cX10_laysAll 48 = .ok (.iconst 1, 1) := by decide +kernel
theorem dX10_laysAll_49 : decode cX10_laysAll 49 = .ok (.invokevirtual 126, 3) := by decide +kernel
theorem dX10_laysAll_52 : decode cX10_laysAll 52 = .ok (.aload_n 0, 1) := by decide +kernel
theorem dX10_laysAll_53 : decode cX10_laysAll 53 = .ok (.invokevirtual 142, 3) := by decide +kernel
theorem dX10_laysAll_56 : decode cX10_laysAll 56 = .ok (.aload_n 0, 1) := by decide +kernel
theorem dX10_laysAll_57 : decode cX10_laysAll 57 = .ok (.invokevirtual 145, 3) := by decide +kernel
theorem dX10_laysAll_60 : decode cX10_laysAll 60 = .ok (.return_, 1) := by decide +kernel
theorem dX10_having_0 : decode cX10_having 0 = .ok (.iconst 0, 1) := by decide +kernel
theorem dX10_having_1 : decode cX10_having 1 = .ok (.istore_n 3, 1) := by decide +kernel
theorem dX10_having_2 : decode cX10_having 2 = .ok (.iconst 0, 1) := by decide +kernel
theorem dX10_having_3 : decode cX10_having 3 = .ok (.istore 4, 2) := by decide +kernel
theorem dX10_having_5 : decode cX10_having 5 = .ok (.iload 4, 2) := by decide +kernel
theorem dX10_having_7 : decode cX10_having 7 = .ok (.aload_n 0, 1) := by decide +kernel
theorem dX10_having_8 : decode cX10_having 8 = .ok (.iload_n 1, 1) := by decide +kernel
theorem dX10_having_9 : decode cX10_having 9 = .ok (.invokevirtual 62, 3) := by decide +kernel
theorem dX10_having_12 : decode cX10_having 12 = .ok (.if_icmp .ge 28, 3) := by decide +kernel
theorem dX10_having_15 : decode cX10_having 15 = .ok (.aload_n 0, 1) := by decide +kernel
theorem dX10_having_16 : decode cX10_having 16 = .ok (.getfield 33, 3) := by decide +kernel
theorem dX10_having_19 : decode cX10_having 19 = .ok (.bipush 14, 2) := by decide +kernel
theorem dX10_having_21 : decode cX10_having 21 = .ok (.iload_n 1, 1) := by decide +kernel
theorem dX10_having_22 : decode cX10_having 22 = .ok (.imul, 1) := by decide +kernel
theorem dX10_having_23 : decode cX10_having 23 = .ok (.iload 4, 2) := by decide +kernel
theorem dX10_having_25 : decode cX10_having 25 = .ok (.iadd, 1) := by decide +kernel
theorem dX10_having_26 : decode cX10_having 26 = .ok (.iaload, 1) := by decide +kernel
theorem dX10_having_27 : decode cX10_having 27 = .ok (.iload_n 2, 1) := by decide +kernel
theorem dX10_having_28 : decode cX10_having 28 = .ok (.if_icmp .ne 6, 3) := by decide +kernel
theorem dX10_having_31 : decode cX10_having 31 = .ok (.iinc 3 1, 3) := by decide +kernel
theorem dX10_having_34 : decode cX10_having 34 = .ok (.iinc 4 1, 3) := by decide +kernel
theorem dX10_having_37 : decode cX10_having 37 = .ok (.goto (-32), 3) := by decide +kernel
theorem dX10_having_40 : decode cX10_having 40 = .ok (.iload_n 3, 1) := by decide +kernel
theorem dX10_having_41 : decode cX10_having 41 = .ok (.ireturn, 1) := by decide +kernel
theorem dX10_now_0 : decode cX10_now 0 = .ok (.aload_n 0, 1) := by decide +kernel
theorem dX10_now_1 : decode cX10_now 1 = .ok (.iconst 0, 1) := by decide +kernel
theorem dX10_now_2 : decode cX10_now 2 = .ok (.putfield 1, 3) := by decide +kernel
theorem dX10_now_5 : decode cX10_now 5 = .ok (.aload_n 0, 1) := by decide +kernel
theorem dX10_now_6 : decode cX10_now 6 = .ok (.invokevirtual 148, 3) := by decide +kernel
theorem dX10_now_9 : decode cX10_now 9 = .ok (.iload_n 1, 1) := by decide +kernel
theorem dX10_now_10 : decode cX10_now 10 = .ok (.tableswitch 110 0 9 #[54, 54, 60, 67, 74, 79, 86, 93, 100, 105], 54) := by decide +kernel
theorem dX10_now_64 : decode cX10_now 64 = .ok (.aload_n 0, 1) := by decide +kernel
theorem dX10_now_65 : decode cX10_now 65 = .ok (.iload_n 1, 1) := by decide +kernel
theorem dX10_now_66 : decode cX10_now 66 = .ok (.invokevirtual 62, 3) := by decide +kernel
theorem dX10_now_69 : decode cX10_now 69 = .ok (.ireturn, 1) := by decide +kernel
theorem dX10_now_70 : decode cX10_now 70 = .ok (.aload_n 0, 1) := by decide +kernel
theorem dX10_now_71 : decode cX10_now 71 = .ok (.iconst 0, 1) := by decide +kernel
theorem dX10_now_72 : decode cX10_now 72 = .ok (.iconst 0, 1) := by decide +kernel
theorem dX10_now_73 : decode cX10_now 73 = .ok (.invokevirtual 151, 3) := by decide +kernel
theorem dX10_now_76 : decode cX10_now 76 = .ok (.ireturn, 1) := by decide +kernel
theorem dX10_now_77 : decode cX10_now 77 = .ok (.aload_n 0, 1) := by decide +kernel
theorem dX10_now_78 : decode cX10_now 78 = .ok (.iconst 0, 1) := by decide +kernel
theorem dX10_now_79 : decode cX10_now 79 = .ok (.iconst 1, 1) := by decide +kernel
theorem dX10_now_80 : decode cX10_now 80 = .ok (.invokevirtual 151, 3) := by decide +kernel
theorem dX10_now_83 : decode cX10_now 83 = .ok (.ireturn, 1) := by decide +kernel
theorem dX10_now_84 : decode cX10_now 84 = .ok (.aload_n 0, 1) := by decide +kernel
theorem dX10_now_85 : decode cX10_now 85 = .ok (.getfield 133, 3) := by decide +kernel
theorem dX10_now_88 : decode cX10_now 88 = .ok (.ireturn, 1) := by decide +kernel
theorem dX10_now_89 : decode cX10_now 89 = .ok (.aload_n 0, 1) := by decide +kernel
theorem dX10_now_90 : decode cX10_now 90 = .ok (.iconst 0, 1) := by decide +kernel
theorem dX10_now_91 : decode cX10_now 91 = .ok (.iconst 2, 1) := by decide +kernel
theorem dX10_now_92 : decode cX10_now 92 = .ok (.invokevirtual 151, 3) := by decide +kernel
theorem dX10_now_95 : decode cX10_now 95 = .ok (.ireturn, 1) := by decide +kernel
theorem dX10_now_96 : decode cX10_now 96 = .ok (.aload_n 0, 1) := by decide +kernel
theorem dX10_now_97 : decode cX10_now 97 = .ok (.iconst 0, 1) := by decide +kernel
theorem dX10_now_98 : decode cX10_now 98 = .ok (.iconst 3, 1) := by decide +kernel
theorem dX10_now_99 : decode cX10_now 99 = .ok (.invokevirtual 151, 3) := by decide +kernel
theorem dX10_now_102 : decode cX10_now 102 = .ok (.ireturn, 1) := by decide +kernel
theorem dX10_now_103 : decode cX10_now 103 = .ok (.aload_n 0, 1) := by decide +kernel
theorem dX10_now_104 : decode cX10_now 104 = .ok (.iconst 1, 1) := by decide +kernel
theorem dX10_now_105 : decode cX10_now 105 = .ok (.iconst 3, 1) := by decide +kernel
theorem dX10_now_106 : decode cX10_now 106 = .ok (.invokevirtual 151, 3) := by decide +kernel
theorem dX10_now_109 : decode cX10_now 109 = .ok (.ireturn, 1) := by decide +kernel
theorem dX10_now_110 : decode cX10_now 110 = .ok (.aload_n 0, 1) := by decide +kernel
theorem dX10_now_111 : decode cX10_now 111 = .ok (.getfield 92, 3) := by decide +kernel
theorem dX10_now_114 : decode cX10_now 114 = .ok (.ireturn, 1) := by decide +kernel
theorem dX10_now_115 : decode cX10_now 115 = .ok (.aload_n 0, 1) := by decide +kernel
theorem dX10_now_116 : decode cX10_now 116 = .ok (.getfield 11, 3) := by decide +kernel
theorem dX10_now_119 : decode cX10_now 119 = .ok (.ireturn, 1) := by decide +kernel
theorem dX10_now_120 : decode cX10_now 120 = .ok (.iconst (-1), 1) := by decide +kernel
theorem dX10_now_121 : decode cX10_now 121 = .ok (.ireturn, 1) := by decide +kernel
theorem dX10_line_0 : decode cX10_line 0 = .ok (.aload_n 0, 1) := by decide +kernel
theorem dX10_line_1 : decode cX10_line 1 = .ok (.iconst 0, 1) := by decide +kernel
theorem dX10_line_2 : decode cX10_line 2 = .ok (.putfield 1, 3) := by decide +kernel
theorem dX10_line_5 : decode cX10_line 5 = .ok (.aload_n 0, 1) := by decide +kernel
theorem dX10_line_6 : decode cX10_line 6 = .ok (.iload_n 1, 1) := by decide +kernel
theorem dX10_line_7 : decode cX10_line 7 = .ok (.iload_n 2, 1) := by decide +kernel
theorem dX10_line_8 : decode cX10_line 8 = .ok (.invokevirtual 154, 3) := by decide +kernel
theorem dX10_line_11 : decode cX10_line 11 = .ok (.ifCond .eq 12, 3) := by decide +kernel
theorem dX10_line_14 : decode cX10_line 14 = .ok (.iload_n 3, 1) := by decide +kernel
theorem dX10_line_15 : decode cX10_line 15 = .ok (.iconst 0, 1) := by decide +kernel
theorem dX10_line_16 : decode cX10_line 16 = .ok (.iconst 3, 1) := by decide +kernel
theorem dX10_line_17 : decode cX10_line 17 = .ok (.invokestatic 54, 3) := by decide +kernel
theorem dX10_line_20 : decode cX10_line 20 = .ok (.ifCond .ne 8, 3) := by decide +kernel
theorem dX10_line_23 : decode cX10_line 23 = .ok (.aload_n 0, 1) := by decide +kernel
theorem dX10_line_24 : decode cX10_line 24 = .ok (.invokevirtual 157, 3) := by decide +kernel
theorem dX10_line_27 : decode cX10_line 27 = .ok (.ireturn, 1) := by decide +kernel
theorem dX10_line_28 : decode cX10_line 28 = .ok (.aload_n 0, 1) := by decide +kernel
theorem dX10_line_29 : decode cX10_line 29 = .ok (.invokevirtual 148, 3) := by decide +kernel
theorem dX10_line_32 : decode cX10_line 32 = .ok (.bipush 14, 2) := by decide +kernel
theorem dX10_line_34 : decode cX10_line 34 = .ok (.iload_n 1, 1) := by decide +kernel
theorem dX10_line_35 : decode cX10_line 35 = .ok (.imul, 1) := by decide +kernel
theorem dX10_line_36 : decode cX10_line 36 = .ok (.iload_n 2, 1) := by decide +kernel
theorem dX10_line_37 : decode cX10_line 37 = .ok (.iadd, 1) := by decide +kernel
theorem dX10_line_38 : decode cX10_line 38 = .ok (.istore 4, 2) := by decide +kernel
theorem dX10_line_40 : decode cX10_line 40 = .ok (.iload_n 3, 1) := by decide +kernel
theorem dX10_line_41 : decode cX10_line 41 = .ok (.ifCond .ne 12, 3) := by decide +kernel
theorem dX10_line_44 : decode cX10_line 44 = .ok (.aload_n 0, 1) := by decide +kernel
theorem dX10_line_45 : decode cX10_line 45 = .ok (.iload_n 1, 1) := by decide +kernel
theorem dX10_line_46 : decode cX10_line 46 = .ok (.iload_n 2, 1) := by decide +kernel
theorem dX10_line_47 : decode cX10_line 47 = .ok (.invokevirtual 99, 3) := by decide +kernel
theorem dX10_line_50 : decode cX10_line 50 = .ok (.goto 40, 3) := by decide +kernel
theorem dX10_line_53 : decode cX10_line 53 = .ok (.iload_n 3, 1) := by decide +kernel
theorem dX10_line_54 : decode cX10_line 54 = .ok (.iconst 1, 1) := by decide +kernel
theorem dX10_line_55 : decode cX10_line 55 = .ok (.if_icmp .ne 13, 3) := by decide +kernel
theorem dX10_line_58 : decode cX10_line 58 = .ok (.aload_n 0, 1) := by decide +kernel
theorem dX10_line_59 : decode cX10_line 59 = .ok (.getfield 33, 3) := by decide +kernel
theorem dX10_line_62 : decode cX10_line 62 = .ok (.iload 4, 2) := by decide +kernel
theorem dX10_line_64 : decode cX10_line 64 = .ok (.iaload, 1) := by decide +kernel
theorem dX10_line_65 : decode cX10_line 65 = .ok (.goto 25, 3) := by decide +kernel
theorem dX10_line_68 : decode cX10_line 68 = .ok (.iload_n 3, 1) := by decide +kernel
theorem dX10_line_69 : decode cX10_line 69 = .ok (.iconst 2, 1) := by decide +kernel
theorem dX10_line_70 : decode cX10_line 70 = .ok (.if_icmp .ne 13, 3) := by decide +kernel
theorem dX10_line_73 : decode cX10_line 73 = .ok (.aload_n 0, 1) := by decide +kernel
theorem dX10_line_74 : decode cX10_line 74 = .ok (.getfield 36, 3) := by decide +kernel
theorem dX10_line_77 : decode cX10_line 77 = .ok (.iload 4, 2) := by decide +kernel
theorem dX10_line_79 : decode cX10_line 79 = .ok (.iaload, 1) := by decide +kernel
theorem dX10_line_80 : decode cX10_line 80 = .ok (.goto 10, 3) := by decide +kernel
theorem dX10_line_83 : decode cX10_line 83 = .ok (.aload_n 0, 1) := by decide +kernel
theorem dX10_line_84 : decode cX10_line 84 = .ok (.getfield 39, 3) := by decide +kernel
theorem dX10_line_87 : decode cX10_line 87 = .ok (.iload 4, 2) := by decide +kernel
theorem dX10_line_89 : decode cX10_line 89 = .ok (.iaload, 1) := by decide +kernel
theorem dX10_line_90 : decode cX10_line 90 = .ok (.ireturn, 1) := by decide +kernel
theorem dX10_lettersOf_0 : decode cX10_lettersOf 0 = .ok (.iconst 0, 1) := by decide +kernel
theorem dX10_lettersOf_1 : decode cX10_lettersOf 1 = .ok (.istore_n 1, 1) := by decide +kernel
theorem dX10_lettersOf_2 : decode cX10_lettersOf 2 = .ok (.iload_n 0, 1) := by decide +kernel
theorem dX10_lettersOf_3 : decode cX10_lettersOf 3 = .ok (.istore_n 2, 1) := by decide +kernel
theorem dX10_lettersOf_4 : decode cX10_lettersOf 4 = .ok (.iload_n 2, 1) := by decide +kernel
theorem dX10_lettersOf_5 : decode cX10_lettersOf 5 = .ok (.ifCond .le 14, 3) := by decide +kernel
theorem dX10_lettersOf_8 : decode cX10_lettersOf 8 = .ok (.iinc 1 1, 3) := by decide +kernel
theorem dX10_lettersOf_11 : decode cX10_lettersOf 11 = .ok (.iload_n 2, 1) := by decide +kernel
theorem dX10_lettersOf_12 : decode cX10_lettersOf 12 = .ok (.bipush 27, 2) := by decide +kernel
theorem dX10_lettersOf_14 : decode cX10_lettersOf 14 = .ok (.idiv, 1) := by decide +kernel
theorem dX10_lettersOf_15 : decode cX10_lettersOf 15 = .ok (.istore_n 2, 1) := by decide +kernel
theorem dX10_lettersOf_16 : decode cX10_lettersOf 16 = .ok (.goto (-12), 3) := by decide +kernel
theorem dX10_lettersOf_19 : decode cX10_lettersOf 19 = .ok (.iload_n 1, 1) := by decide +kernel
theorem dX10_lettersOf_20 : decode cX10_lettersOf 20 = .ok (.ireturn, 1) := by decide +kernel
theorem dX10_letter_0 : decode cX10_letter 0 = .ok (.aload_n 0, 1) := by decide +kernel
theorem dX10_letter_1 : decode cX10_letter 1 = .ok (.iconst 0, 1) := by decide +kernel
theorem dX10_letter_2 : decode cX10_letter 2 = .ok (.putfield 1, 3) := by decide +kernel
theorem dX10_letter_5 : decode cX10_letter 5 = .ok (.aload_n 0, 1) := by decide +kernel
theorem dX10_letter_6 : decode cX10_letter 6 = .ok (.iload_n 1, 1) := by decide +kernel
theorem dX10_letter_7 : decode cX10_letter 7 = .ok (.iload_n 2, 1) := by decide +kernel
theorem dX10_letter_8 : decode cX10_letter 8 = .ok (.invokevirtual 154, 3) := by decide +kernel
theorem dX10_letter_11 : decode cX10_letter 11 = .ok (.ifCond .eq 19, 3) := by decide +kernel
theorem dX10_letter_14 : decode cX10_letter 14 = .ok (.iload_n 3, 1) := by decide +kernel
theorem dX10_letter_15 : decode cX10_letter 15 = .ok (.iconst 0, 1) := by decide +kernel
theorem dX10_letter_16 : decode cX10_letter 16 = .ok (.aload_n 0, 1) := by decide +kernel
theorem dX10_letter_17 : decode cX10_letter 17 = .ok (.iload_n 1, 1) := by decide +kernel
theorem dX10_letter_18 : decode cX10_letter 18 = .ok (.iload_n 2, 1) := by decide +kernel
theorem dX10_letter_19 : decode cX10_letter 19 = .ok (.invokevirtual 99, 3) := by decide +kernel
theorem dX10_letter_22 : decode cX10_letter 22 = .ok (.iconst 1, 1) := by decide +kernel
theorem dX10_letter_23 : decode cX10_letter 23 = .ok (.isub, 1) := by decide +kernel
theorem dX10_letter_24 : decode cX10_letter 24 = .ok (.invokestatic 54, 3) := by decide +kernel
theorem dX10_letter_27 : decode cX10_letter 27 = .ok (.ifCond .ne 5, 3) := by decide +kernel
theorem dX10_letter_30 : decode cX10_letter 30 = .ok (.iconst (-1), 1) := by decide +kernel
theorem dX10_letter_31 : decode cX10_letter 31 = .ok (.ireturn, 1) := by decide +kernel
theorem dX10_letter_32 : decode cX10_letter 32 = .ok (.aload_n 0, 1) := by decide +kernel
theorem dX10_letter_33 : decode cX10_letter 33 = .ok (.iload_n 1, 1) := by decide +kernel
theorem dX10_letter_34 : decode cX10_letter 34 = .ok (.iload_n 2, 1) := by decide +kernel
theorem dX10_letter_35 : decode cX10_letter 35 = .ok (.iload_n 3, 1) := by decide +kernel
theorem dX10_letter_36 : decode cX10_letter 36 = .ok (.invokevirtual 102, 3) := by decide +kernel
theorem dX10_letter_39 : decode cX10_letter 39 = .ok (.istore 5, 2) := by decide +kernel
theorem dX10_letter_41 : decode cX10_letter 41 = .ok (.iload 5, 2) := by decide +kernel
theorem dX10_letter_43 : decode cX10_letter 43 = .ok (.invokestatic 161, 3) := by decide +kernel
theorem dX10_letter_46 : decode cX10_letter 46 = .ok (.istore 6, 2) := by decide +kernel
theorem dX10_letter_48 : decode cX10_letter 48 = .ok (.iload 4, 2) := by decide +kernel
theorem dX10_letter_50 : decode cX10_letter 50 = .ok (.iconst (-1), 1) := by decide +kernel
theorem dX10_letter_51 : decode cX10_letter 51 = .ok (.if_icmp .ne 6, 3) := by decide +kernel
theorem dX10_letter_54 : decode cX10_letter 54 = .ok (.iload 6, 2) := by decide +kernel
theorem dX10_letter_56 : decode cX10_letter 56 = .ok (.ireturn, 1) := by decide +kernel
theorem dX10_letter_57 : decode cX10_letter 57 = .ok (.iload 4, 2) := by decide +kernel
theorem dX10_letter_59 : decode cX10_letter 59 = .ok (.iconst 0, 1) := by decide +kernel
theorem dX10_letter_60 : decode cX10_letter 60 = .ok (.iload 6, 2) := by decide +kernel
theorem dX10_letter_62 : decode cX10_letter 62 = .ok (.iconst 1, 1) := by decide +kernel
theorem dX10_letter_63 : decode cX10_letter 63 = .ok (.isub, 1) := by decide +kernel
theorem dX10_letter_64 : decode cX10_letter 64 = .ok (.invokestatic 54, 3) := by decide +kernel
theorem dX10_letter_67 : decode cX10_letter 67 = .ok (.ifCond .ne 5, 3) := by decide +kernel
theorem dX10_letter_70 : decode cX10_letter 70 = .ok (.iconst (-1), 1) := by decide +kernel
theorem dX10_letter_71 : decode cX10_letter 71 = .ok (.ireturn, 1) := by decide +kernel
theorem dX10_letter_72 : decode cX10_letter 72 = .ok (.iload 6, 2) := by decide +kernel
theorem dX10_letter_74 : decode cX10_letter 74 = .ok (.iconst 1, 1) := by decide +kernel
theorem dX10_letter_75 : decode cX10_letter 75 = .ok (.isub, 1) := by decide +kernel
theorem dX10_letter_76 : decode cX10_letter 76 = .ok (.iload 4, 2) := by decide +kernel
theorem dX10_letter_78 : decode cX10_letter 78 = .ok (.isub, 1) := by decide +kernel
theorem dX10_letter_79 : decode cX10_letter 79 = .ok (.istore 7, 2) := by decide +kernel
theorem dX10_letter_81 : decode cX10_letter 81 = .ok (.iload 7, 2) := by decide +kernel
theorem dX10_letter_83 : decode cX10_letter 83 = .ok (.ifCond .le 16, 3) := by decide +kernel
theorem dX10_letter_86 : decode cX10_letter 86 = .ok (.iload 5, 2) := by decide +kernel
theorem dX10_letter_88 : decode cX10_letter 88 = .ok (.bipush 27, 2) := by decide +kernel
theorem dX10_letter_90 : decode cX10_letter 90 = .ok (.idiv, 1) := by decide +kernel
theorem dX10_letter_91 : decode cX10_letter 91 = .ok (.istore 5, 2) := by decide +kernel
theorem dX10_letter_93 : decode cX10_letter 93 = .ok (.iinc 7 (-1), 3) := by decide +kernel
theorem dX10_letter_96 : decode cX10_letter 96 = .ok (.goto (-15), 3) := by decide +kernel
theorem dX10_letter_99 : decode cX10_letter 99 = .ok (.iload 5, 2) := by decide +kernel
theorem dX10_letter_101 : decode cX10_letter 101 = .ok (.bipush 27, 2) := by decide +kernel
theorem dX10_letter_103 : decode cX10_letter 103 = .ok (.irem, 1) := by decide +kernel
theorem dX10_letter_104 : decode cX10_letter 104 = .ok (.ireturn, 1) := by decide +kernel
theorem dX10_block_0 : decode cX10_block 0 = .ok (.aload_n 0, 1) := by decide +kernel
theorem dX10_block_1 : decode cX10_block 1 = .ok (.iconst 0, 1) := by decide +kernel
theorem dX10_block_2 : decode cX10_block 2 = .ok (.putfield 1, 3) := by decide +kernel
theorem dX10_block_5 : decode cX10_block 5 = .ok (.aload_n 0, 1) := by decide +kernel
theorem dX10_block_6 : decode cX10_block 6 = .ok (.invokevirtual 148, 3) := by decide +kernel
theorem dX10_block_9 : decode cX10_block 9 = .ok (.iload_n 1, 1) := by decide +kernel
theorem dX10_block_10 : decode cX10_block 10 = .ok (.iconst 0, 1) := by decide +kernel
theorem dX10_block_11 : decode cX10_block 11 = .ok (.aload_n 0, 1) := by decide +kernel
theorem dX10_block_12 : decode cX10_block 12 = .ok (.getfield 133, 3) := by decide +kernel
theorem dX10_block_15 : decode cX10_block 15 = .ok (.iconst 1, 1) := by decide +kernel
theorem dX10_block_16 : decode cX10_block 16 = .ok (.isub, 1) := by decide +kernel
theorem dX10_block_17 : decode cX10_block 17 = .ok (.invokestatic 54, 3) := by decide +kernel
theorem dX10_block_20 : decode cX10_block 20 = .ok (.ifCond .eq 25, 3) := by decide +kernel
theorem dX10_block_23 : decode cX10_block 23 = .ok (.iload_n 2, 1) := by decide +kernel
theorem dX10_block_24 : decode cX10_block 24 = .ok (.iconst 0, 1) := by decide +kernel
theorem dX10_block_25 : decode cX10_block 25 = .ok (.iconst 2, 1) := by decide +kernel
theorem dX10_block_26 : decode cX10_block 26 = .ok (.invokestatic 54, 3) := by decide +kernel
theorem dX10_block_29 : decode cX10_block 29 = .ok (.ifCond .eq 16, 3) := by decide +kernel
theorem dX10_block_32 : decode cX10_block 32 = .ok (.aload_n 0, 1) := by decide +kernel
theorem dX10_block_33 : decode cX10_block 33 = .ok (.getfield 48, 3) := by decide +kernel
theorem dX10_block_36 : decode cX10_block 36 = .ok (.iconst 3, 1) := by decide +kernel
theorem dX10_block_37 : decode cX10_block 37 = .ok (.iload_n 1, 1) := by decide +kernel
theorem dX10_block_38 : decode cX10_block 38 = .ok (.imul, 1) := by decide +kernel
theorem dX10_block_39 : decode cX10_block 39 = .ok (.iload_n 2, 1) := by decide +kernel
theorem dX10_block_40 : decode cX10_block 40 = .ok (.iadd, 1) := by decide +kernel
theorem dX10_block_41 : decode cX10_block 41 = .ok (.iaload, 1) := by decide +kernel
theorem dX10_block_42 : decode cX10_block 42 = .ok (.goto 4, 3) := by decide +kernel
theorem dX10_block_45 : decode cX10_block 45 = .ok (.iconst (-1), 1) := by decide +kernel
theorem dX10_block_46 : decode cX10_block 46 = .ok (.ireturn, 1) := by decide +kernel
theorem dX10_areLines_0 : decode cX10_areLines 0 = .ok (.aload_n 0, 1) := by decide +kernel
theorem dX10_areLines_1 : decode cX10_areLines 1 = .ok (.iconst 0, 1) := by decide +kernel
theorem dX10_areLines_2 : decode cX10_areLines 2 = .ok (.iload_n 1, 1) := by decide +kernel
theorem dX10_areLines_3 : decode cX10_areLines 3 = .ok (.invokevirtual 154, 3) := by decide +kernel
theorem dX10_areLines_6 : decode cX10_areLines 6 = .ok (.ifCond .eq 16, 3) := by decide +kernel
theorem dX10_areLines_9 : decode cX10_areLines 9 = .ok (.aload_n 0, 1) := by decide +kernel
theorem dX10_areLines_10 : decode cX10_areLines 10 = .ok (.iconst 1, 1) := by decide +kernel
theorem dX10_areLines_11 : decode cX10_areLines 11 = .ok (.iload_n 2, 1) := by decide +kernel
theorem dX10_areLines_12 : decode cX10_areLines 12 = .ok (.invokevirtual 154, 3) := by decide +kernel
theorem dX10_areLines_15 : decode cX10_areLines 15 = .ok (.ifCond .eq 7, 3) := by decide +kernel
theorem dX10_areLines_18 : decode cX10_areLines 18 = .ok (.iconst 1, 1) := by decide +kernel
theorem dX10_areLines_19 : decode cX10_areLines 19 = .ok (.goto 4, 3) := by decide +kernel
theorem dX10_areLines_22 : decode cX10_areLines 22 = .ok (.iconst 0, 1) := by decide +kernel
theorem dX10_areLines_23 : decode cX10_areLines 23 = .ok (.ireturn, 1) := by decide +kernel
theorem dX10_shared_0 : decode cX10_shared 0 = .ok (.aload_n 0, 1) := by decide +kernel
theorem dX10_shared_1 : decode cX10_shared 1 = .ok (.iconst 0, 1) := by decide +kernel
theorem dX10_shared_2 : decode cX10_shared 2 = .ok (.putfield 1, 3) := by decide +kernel
theorem dX10_shared_5 : decode cX10_shared 5 = .ok (.aload_n 0, 1) := by decide +kernel
theorem dX10_shared_6 : decode cX10_shared 6 = .ok (.iload_n 1, 1) := by decide +kernel
theorem dX10_shared_7 : decode cX10_shared 7 = .ok (.iload_n 2, 1) := by decide +kernel
theorem dX10_shared_8 : decode cX10_shared 8 = .ok (.invokevirtual 164, 3) := by decide +kernel
theorem dX10_shared_11 : decode cX10_shared 11 = .ok (.ifCond .eq 12, 3) := by decide +kernel
theorem dX10_shared_14 : decode cX10_shared 14 = .ok (.aload_n 0, 1) := by decide +kernel
theorem dX10_shared_15 : decode cX10_shared 15 = .ok (.iload_n 1, 1) := by decide +kernel
theorem dX10_shared_16 : decode cX10_shared 16 = .ok (.iload_n 2, 1) := by decide +kernel
theorem dX10_shared_17 : decode cX10_shared 17 = .ok (.invokevirtual 139, 3) := by decide +kernel
theorem dX10_shared_20 : decode cX10_shared 20 = .ok (.goto 4, 3) := by decide +kernel
theorem dX10_shared_23 : decode cX10_shared 23 = .ok (.iconst (-1), 1) := by decide +kernel
theorem dX10_shared_24 : decode cX10_shared 24 = .ok (.ireturn, 1) := by decide +kernel
theorem dX10_stays_0 : decode cX10_stays 0 = .ok (.aload_n 0, 1) := by decide +kernel
theorem dX10_stays_1 : decode cX10_stays 1 = .ok (.iconst 0, 1) := by decide +kernel
theorem dX10_stays_2 : decode cX10_stays 2 = .ok (.putfield 1, 3) := by decide +kernel
theorem dX10_stays_5 : decode cX10_stays 5 = .ok (.aload_n 0, 1) := by decide +kernel
theorem dX10_stays_6 : decode cX10_stays 6 = .ok (.iload_n 1, 1) := by decide +kernel
theorem dX10_stays_7 : decode cX10_stays 7 = .ok (.iload_n 3, 1) := by decide +kernel
theorem dX10_stays_8 : decode cX10_stays 8 = .ok (.invokevirtual 164, 3) := by decide +kernel
theorem dX10_stays_11 : decode cX10_stays 11 = .ok (.ifCond .eq 19, 3) := by decide +kernel
theorem dX10_stays_14 : decode cX10_stays 14 = .ok (.iload_n 2, 1) := by decide +kernel
theorem dX10_stays_15 : decode cX10_stays 15 = .ok (.iconst 0, 1) := by decide +kernel
theorem dX10_stays_16 : decode cX10_stays 16 = .ok (.aload_n 0, 1) := by decide +kernel
theorem dX10_stays_17 : decode cX10_stays 17 = .ok (.iconst 0, 1) := by decide +kernel
theorem dX10_stays_18 : decode cX10_stays 18 = .ok (.iload_n 1, 1) := by decide +kernel
theorem dX10_stays_19 : decode cX10_stays 19 = .ok (.invokevirtual 99, 3) := by decide +kernel
theorem dX10_stays_22 : decode cX10_stays 22 = .ok (.iconst 1, 1) := by decide +kernel
theorem dX10_stays_23 : decode cX10_stays 23 = .ok (.isub, 1) := by decide +kernel
theorem dX10_stays_24 : decode cX10_stays 24 = .ok (.invokestatic 54, 3) := by decide +kernel
theorem dX10_stays_27 : decode cX10_stays 27 = .ok (.ifCond .ne 5, 3) := by decide +kernel
theorem dX10_stays_30 : decode cX10_stays 30 = .ok (.iconst (-1), 1) := by decide +kernel
theorem dX10_stays_31 : decode cX10_stays 31 = .ok (.ireturn, 1) := by decide +kernel
theorem dX10_stays_32 : decode cX10_stays 32 = .ok (.aload_n 0, 1) := by decide +kernel
theorem dX10_stays_33 : decode cX10_stays 33 = .ok (.iload_n 1, 1) := by decide +kernel
theorem dX10_stays_34 : decode cX10_stays 34 = .ok (.iload_n 3, 1) := by decide +kernel
theorem dX10_stays_35 : decode cX10_stays 35 = .ok (.invokevirtual 139, 3) := by decide +kernel
theorem dX10_stays_38 : decode cX10_stays 38 = .ok (.istore 4, 2) := by decide +kernel
theorem dX10_stays_40 : decode cX10_stays 40 = .ok (.iconst 0, 1) := by decide +kernel
theorem dX10_stays_41 : decode cX10_stays 41 = .ok (.istore 5, 2) := by decide +kernel
theorem dX10_stays_43 : decode cX10_stays 43 = .ok (.iconst 0, 1) := by decide +kernel
theorem dX10_stays_44 : decode cX10_stays 44 = .ok (.istore 6, 2) := by decide +kernel
theorem dX10_stays_46 : decode cX10_stays 46 = .ok (.iload 6, 2) := by decide +kernel
theorem dX10_stays_48 : decode cX10_stays 48 = .ok (.iload_n 2, 1) := by decide +kernel
theorem dX10_stays_49 : decode cX10_stays 49 = .ok (.if_icmp .gt 117, 3) := by decide +kernel
theorem dX10_stays_52 : decode cX10_stays 52 = .ok (.iload 4, 2) := by decide +kernel
theorem dX10_stays_54 : decode cX10_stays 54 = .ok (.ifCond .le 112, 3) := by decide +kernel
theorem dX10_stays_57 : decode cX10_stays 57 = .ok (.iconst (-1), 1) := by decide +kernel
theorem dX10_stays_58 : decode cX10_stays 58 = .ok (.istore 7, 2) := by decide +kernel
theorem dX10_stays_60 : decode cX10_stays 60 = .ok (.iload 5, 2) := by decide +kernel
theorem dX10_stays_62 : decode cX10_stays 62 = .ok (.istore 8, 2) := by decide +kernel
theorem dX10_stays_64 : decode cX10_stays 64 = .ok (.iload 8, 2) := by decide +kernel
theorem dX10_stays_66 : decode cX10_stays 66 = .ok (.aload_n 0, 1) := by decide +kernel
theorem dX10_stays_67 : decode cX10_stays 67 = .ok (.iconst 1, 1) := by decide +kernel
theorem dX10_stays_68 : decode cX10_stays 68 = .ok (.iload_n 3, 1) := by decide +kernel
theorem dX10_stays_69 : decode cX10_stays 69 = .ok (.invokevirtual 99, 3) := by decide +kernel
theorem dX10_stays_72 : decode cX10_stays 72 = .ok (.if_icmp .ge 61, 3) := by decide +kernel
theorem dX10_stays_75 : decode cX10_stays 75 = .ok (.iload 7, 2) := by decide +kernel
theorem dX10_stays_77 : decode cX10_stays 77 = .ok (.iconst (-1), 1) := by decide +kernel
theorem dX10_stays_78 : decode cX10_stays 78 = .ok (.if_icmp .ne 55, 3) := by decide +kernel
theorem dX10_stays_81 : decode cX10_stays 81 = .ok (.aload_n 0, 1) := by decide +kernel
theorem dX10_stays_82 : decode cX10_stays 82 = .ok (.iconst 0, 1) := by decide +kernel
theorem dX10_stays_83 : decode cX10_stays 83 = .ok (.iload_n 1, 1) := by decide +kernel
theorem dX10_stays_84 : decode cX10_stays 84 = .ok (.iload 6, 2) := by decide +kernel
theorem dX10_stays_86 : decode cX10_stays 86 = .ok (.invokevirtual 102, 3) := by decide +kernel
theorem dX10_stays_89 : decode cX10_stays 89 = .ok (.aload_n 0, 1) := by decide +kernel
theorem dX10_stays_90 : decode cX10_stays 90 = .ok (.iconst 1, 1) := by decide +kernel
theorem dX10_stays_91 : decode cX10_stays 91 = .ok (.iload_n 3, 1) := by decide +kernel
theorem dX10_stays_92 : decode cX10_stays 92 = .ok (.iload 8, 2) := by decide +kernel
theorem dX10_stays_94 : decode cX10_stays 94 = .ok (.invokevirtual 102, 3) := by decide +kernel
theorem dX10_stays_97 : decode cX10_stays 97 = .ok (.if_icmp .ne 30, 3) := by decide +kernel
theorem dX10_stays_100 : decode cX10_stays 100 = .ok (.aload_n 0, 1) := by decide +kernel
theorem dX10_stays_101 : decode cX10_stays 101 = .ok (.getfield 51, 3) := by decide +kernel
theorem dX10_stays_104 : decode cX10_stays 104 = .ok (.bipush 9, 2) := by decide +kernel
theorem dX10_stays_106 : decode cX10_stays 106 = .ok (.iload 6, 2) := by decide +kernel
theorem dX10_stays_108 : decode cX10_stays 108 = .ok (.imul, 1) := by decide +kernel
theorem dX10_stays_109 : decode cX10_stays 109 = .ok (.bipush 10, 2) := by decide +kernel
theorem dX10_stays_111 : decode cX10_stays 111 = .ok (.iadd, 1) := by decide +kernel
theorem dX10_stays_112 : decode cX10_stays 112 = .ok (.iload 8, 2) := by decide +kernel
theorem dX10_stays_114 : decode cX10_stays 114 = .ok (.iadd, 1) := by decide +kernel
theorem dX10_stays_115 : decode cX10_stays 115 = .ok (.iaload, 1) := by decide +kernel
theorem dX10_stays_116 : decode cX10_stays 116 = .ok (.iload 4, 2) := by decide +kernel
theorem dX10_stays_118 : decode cX10_stays 118 = .ok (.iconst 1, 1) := by decide +kernel
theorem dX10_stays_119 : decode cX10_stays 119 = .ok (.isub, 1) := by decide +kernel
theorem dX10_stays_120 : decode cX10_stays 120 = .ok (.if_icmp .ne 7, 3) := by decide +kernel
theorem dX10_stays_123 : decode cX10_stays 123 = .ok (.iload 8, 2) := by decide +kernel
theorem dX10_stays_125 : decode cX10_stays 125 = .ok (.istore 7, 2) := by decide +kernel
theorem dX10_stays_127 : decode cX10_stays 127 = .ok (.iinc 8 1, 3) := by decide +kernel
theorem dX10_stays_130 : decode cX10_stays 130 = .ok (.goto (-66), 3) := by decide +kernel
theorem dX10_stays_133 : decode cX10_stays 133 = .ok (.iload 6, 2) := by decide +kernel
theorem dX10_stays_135 : decode cX10_stays 135 = .ok (.iload_n 2, 1) := by decide +kernel
theorem dX10_stays_136 : decode cX10_stays 136 = .ok (.if_icmp .ne 6, 3) := by decide +kernel
theorem dX10_stays_139 : decode cX10_stays 139 = .ok (.iload 7, 2) := by decide +kernel
theorem dX10_stays_141 : decode cX10_stays 141 = .ok (.ireturn, 1) := by decide +kernel
theorem dX10_stays_142 : decode cX10_stays 142 = .ok (.iload 7, 2) := by decide +kernel
theorem dX10_stays_144 : decode cX10_stays 144 = .ok (.iconst (-1), 1) := by decide +kernel
theorem dX10_stays_145 : decode cX10_stays 145 = .ok (.if_icmp .ne 6, 3) := by decide +kernel
theorem dX10_stays_148 : decode cX10_stays 148 = .ok (.goto 12, 3) := by decide +kernel
theorem dX10_stays_151 : decode cX10_stays 151 = .ok (.iload 7, 2) := by decide +kernel
theorem dX10_stays_153 : decode cX10_stays 153 = .ok (.iconst 1, 1) := by decide +kernel
theorem dX10_stays_154 : decode cX10_stays 154 = .ok (.iadd, 1) := by decide +kernel
theorem dX10_stays_155 : decode cX10_stays 155 = .ok (.istore 5, 2) := by decide +kernel
theorem dX10_stays_157 : decode cX10_stays 157 = .ok (.iinc 4 (-1), 3) := by decide +kernel
theorem dX10_stays_160 : decode cX10_stays 160 = .ok (.iinc 6 1, 3) := by decide +kernel
theorem dX10_stays_163 : decode cX10_stays 163 = .ok (.goto (-117), 3) := by decide +kernel
theorem dX10_stays_166 : decode cX10_stays 166 = .ok (.iconst (-1), 1) := by decide +kernel
theorem dX10_stays_167 : decode cX10_stays 167 = .ok (.ireturn, 1) := by decide +kernel
theorem dX10_most_0 : decode cX10_most 0 = .ok (.aload_n 0, 1) := by decide +kernel
theorem dX10_most_1 : decode cX10_most 1 = .ok (.iconst 0, 1) := by decide +kernel
theorem dX10_most_2 : decode cX10_most 2 = .ok (.putfield 1, 3) := by decide +kernel
theorem dX10_most_5 : decode cX10_most 5 = .ok (.sipush 225, 3) := by decide +kernel
theorem dX10_most_8 : decode cX10_most 8 = .ok (.newarray .int, 2) := by decide +kernel
theorem dX10_most_10 : decode cX10_most 10 = .ok (.astore_n 1, 1) := by decide +kernel
theorem dX10_most_11 : decode cX10_most 11 = .ok (.aload_n 0, 1) := by decide +kernel
theorem dX10_most_12 : decode cX10_most 12 = .ok (.iconst 0, 1) := by decide +kernel
theorem dX10_most_13 : decode cX10_most 13 = .ok (.invokevirtual 62, 3) := by decide +kernel
theorem dX10_most_16 : decode cX10_most 16 = .ok (.iconst 1, 1) := by decide +kernel
theorem dX10_most_17 : decode cX10_most 17 = .ok (.isub, 1) := by decide +kernel
theorem dX10_most_18 : decode cX10_most 18 = .ok (.istore_n 2, 1) := by decide +kernel
theorem dX10_most_19 : decode cX10_most 19 = .ok (.iload_n 2, 1) := by decide +kernel
theorem dX10_most_20 : decode cX10_most 20 = .ok (.ifCond .lt 130, 3) := by decide +kernel
theorem dX10_most_23 : decode cX10_most 23 = .ok (.aload_n 0, 1) := by decide +kernel
theorem dX10_most_24 : decode cX10_most 24 = .ok (.iconst 1, 1) := by decide +kernel
theorem dX10_most_25 : decode cX10_most 25 = .ok (.invokevirtual 62, 3) := by decide +kernel
theorem dX10_most_28 : decode cX10_most 28 = .ok (.iconst 1, 1) := by decide +kernel
theorem dX10_most_29 : decode cX10_most 29 = .ok (.isub, 1) := by decide +kernel
theorem dX10_most_30 : decode cX10_most 30 = .ok (.istore_n 3, 1) := by decide +kernel
theorem dX10_most_31 : decode cX10_most 31 = .ok (.iload_n 3, 1) := by decide +kernel
theorem dX10_most_32 : decode cX10_most 32 = .ok (.ifCond .lt 112, 3) := by decide +kernel
theorem dX10_most_35 : decode cX10_most 35 = .ok (.aload_n 1, 1) := by decide +kernel
theorem dX10_most_36 : decode cX10_most 36 = .ok (.bipush 15, 2) := by decide +kernel
theorem dX10_most_38 : decode cX10_most 38 = .ok (.iload_n 2, 1) := by decide +kernel
theorem dX10_most_39 : decode cX10_most 39 = .ok (.imul, 1) := by decide +kernel
theorem dX10_most_40 : decode cX10_most 40 = .ok (.bipush 15, 2) := by decide +kernel
theorem dX10_most_42 : decode cX10_most 42 = .ok (.iadd, 1) := by decide +kernel
theorem dX10_most_43 : decode cX10_most 43 = .ok (.iload_n 3, 1) := by decide +kernel
theorem dX10_most_44 : decode cX10_most 44 = .ok (.iadd, 1) := by decide +kernel
theorem dX10_most_45 : decode cX10_most 45 = .ok (.iaload, 1) := by decide +kernel
theorem dX10_most_46 : decode cX10_most 46 = .ok (.aload_n 1, 1) := by decide +kernel
theorem dX10_most_47 : decode cX10_most 47 = .ok (.bipush 15, 2) := by decide +kernel
theorem dX10_most_49 : decode cX10_most 49 = .ok (.iload_n 2, 1) := by decide +kernel
theorem dX10_most_50 : decode cX10_most 50 = .ok (.imul, 1) := by decide +kernel
theorem dX10_most_51 : decode cX10_most 51 = .ok (.iload_n 3, 1) := by decide +kernel
theorem dX10_most_52 : decode cX10_most 52 = .ok (.iadd, 1) := by decide +kernel
theorem dX10_most_53 : decode cX10_most 53 = .ok (.iconst 1, 1) := by decide +kernel
theorem dX10_most_54 : decode cX10_most 54 = .ok (.iadd, 1) := by decide +kernel
theorem dX10_most_55 : decode cX10_most 55 = .ok (.iaload, 1) := by decide +kernel
theorem dX10_most_56 : decode cX10_most 56 = .ok (.if_icmp .le 17, 3) := by decide +kernel
theorem dX10_most_59 : decode cX10_most 59 = .ok (.aload_n 1, 1) := by decide +kernel
theorem dX10_most_60 : decode cX10_most 60 = .ok (.bipush 15, 2) := by decide +kernel
theorem dX10_most_62 : decode cX10_most 62 = .ok (.iload_n 2, 1) := by decide +kernel
theorem dX10_most_63 : decode cX10_most 63 = .ok (.imul, 1) := by decide +kernel
theorem dX10_most_64 : decode cX10_most 64 = .ok (.bipush 15, 2) := by decide +kernel
theorem dX10_most_66 : decode cX10_most 66 = .ok (.iadd, 1) := by decide +kernel
theorem dX10_most_67 : decode cX10_most 67 = .ok (.iload_n 3, 1) := by decide +kernel
theorem dX10_most_68 : decode cX10_most 68 = .ok (.iadd, 1) := by decide +kernel
theorem dX10_most_69 : decode cX10_most 69 = .ok (.iaload, 1) := by decide +kernel
theorem dX10_most_70 : decode cX10_most 70 = .ok (.goto 13, 3) := by decide +kernel
theorem dX10_most_73 : decode cX10_most 73 = .ok (.aload_n 1, 1) := by decide +kernel
theorem dX10_most_74 : decode cX10_most 74 = .ok (.bipush 15, 2) := by decide +kernel
theorem dX10_most_76 : decode cX10_most 76 = .ok (.iload_n 2, 1) := by decide +kernel
theorem dX10_most_77 : decode cX10_most 77 = .ok (.imul, 1) := by decide +kernel
theorem dX10_most_78 : decode cX10_most 78 = .ok (.iload_n 3, 1) := by decide +kernel
theorem dX10_most_79 : decode cX10_most 79 = .ok (.iadd, 1) := by decide +kernel
theorem dX10_most_80 : decode cX10_most 80 = .ok (.iconst 1, 1) := by decide +kernel
theorem dX10_most_81 : decode cX10_most 81 = .ok (.iadd, 1) := by decide +kernel
theorem dX10_most_82 : decode cX10_most 82 = .ok (.iaload, 1) := by decide +kernel
theorem dX10_most_83 : decode cX10_most 83 = .ok (.istore 4, 2) := by decide +kernel
theorem dX10_most_85 : decode cX10_most 85 = .ok (.aload_n 1, 1) := by decide +kernel
theorem dX10_most_86 : decode cX10_most 86 = .ok (.bipush 15, 2) := by decide +kernel
theorem dX10_most_88 : decode cX10_most 88 = .ok (.iload_n 2, 1) := by decide +kernel
theorem dX10_most_89 : decode cX10_most 89 = .ok (.imul, 1) := by decide +kernel
theorem dX10_most_90 : decode cX10_most 90 = .ok (.iload_n 3, 1) := by decide +kernel
theorem dX10_most_91 : decode cX10_most 91 = .ok (.iadd, 1) := by decide +kernel
theorem dX10_most_92 : decode cX10_most 92 = .ok (.aload_n 0, 1) := by decide +kernel
theorem dX10_most_93 : decode cX10_most 93 = .ok (.iload_n 2, 1) := by decide +kernel
theorem dX10_most_94 : decode cX10_most 94 = .ok (.iload_n 3, 1) := by decide +kernel
theorem dX10_most_95 : decode cX10_most 95 = .ok (.invokevirtual 110, 3) := by decide +kernel
theorem dX10_most_98 : decode cX10_most 98 = .ok (.ifCond .eq 37, 3) := by decide +kernel
theorem dX10_most_101 : decode cX10_most 101 = .ok (.aload_n 1, 1) := by decide +kernel
theorem dX10_most_102 : decode cX10_most 102 = .ok (.bipush 15, 2) := by decide +kernel
theorem dX10_most_104 : decode cX10_most 104 = .ok (.iload_n 2, 1) := by decide +kernel
theorem dX10_most_105 : decode cX10_most 105 = .ok (.imul, 1) := by decide +kernel
theorem dX10_most_106 : decode cX10_most 106 = .ok (.bipush 16, 2) := by decide +kernel
theorem dX10_most_108 : decode cX10_most 108 = .ok (.iadd, 1) := by decide +kernel
theorem dX10_most_109 : decode cX10_most 109 = .ok (.iload_n 3, 1) := by decide +kernel
theorem dX10_most_110 : decode cX10_most 110 = .ok (.iadd, 1) := by decide +kernel
theorem dX10_most_111 : decode cX10_most 111 = .ok (.iaload, 1) := by decide +kernel
theorem dX10_most_112 : decode cX10_most 112 = .ok (.iconst 1, 1) := by decide +kernel
theorem dX10_most_113 : decode cX10_most 113 = .ok (.iadd, 1) := by decide +kernel
theorem dX10_most_114 : decode cX10_most 114 = .ok (.iload 4, 2) := by decide +kernel
theorem dX10_most_116 : decode cX10_most 116 = .ok (.if_icmp .le 19, 3) := by decide +kernel
theorem dX10_most_119 : decode cX10_most 119 = .ok (.aload_n 1, 1) := by decide +kernel
theorem dX10_most_120 : decode cX10_most 120 = .ok (.bipush 15, 2) := by decide +kernel
theorem dX10_most_122 : decode cX10_most 122 = .ok (.iload_n 2, 1) := by decide +kernel
theorem dX10_most_123 : decode cX10_most 123 = .ok (.imul, 1) := by decide +kernel
theorem dX10_most_124 : decode cX10_most 124 = .ok (.bipush 16, 2) := by decide +kernel
theorem dX10_most_126 : decode cX10_most 126 = .ok (.iadd, 1) := by decide +kernel
theorem dX10_most_127 : decode cX10_most 127 = .ok (.iload_n 3, 1) := by decide +kernel
theorem dX10_most_128 : decode cX10_most 128 = .ok (.iadd, 1) := by decide +kernel
theorem dX10_most_129 : decode cX10_most 129 = .ok (.iaload, 1) := by decide +kernel
theorem dX10_most_130 : decode cX10_most 130 = .ok (.iconst 1, 1) := by decide +kernel
theorem dX10_most_131 : decode cX10_most 131 = .ok (.iadd, 1) := by decide +kernel
theorem dX10_most_132 : decode cX10_most 132 = .ok (.goto 5, 3) := by decide +kernel
theorem dX10_most_135 : decode cX10_most 135 = .ok (.iload 4, 2) := by decide +kernel
theorem dX10_most_137 : decode cX10_most 137 = .ok (.iastore, 1) := by decide +kernel
theorem dX10_most_138 : decode cX10_most 138 = .ok (.iinc 3 (-1), 3) := by decide +kernel
theorem dX10_most_141 : decode cX10_most 141 = .ok (.goto (-110), 3) := by decide +kernel
theorem dX10_most_144 : decode cX10_most 144 = .ok (.iinc 2 (-1), 3) := by decide +kernel
theorem dX10_most_147 : decode cX10_most 147 = .ok (.goto (-128), 3) := by decide +kernel
theorem dX10_most_150 : decode cX10_most 150 = .ok (.aload_n 1, 1) := by decide +kernel
theorem dX10_most_151 : decode cX10_most 151 = .ok (.iconst 0, 1) := by decide +kernel
theorem dX10_most_152 : decode cX10_most 152 = .ok (.iaload, 1) := by decide +kernel
theorem dX10_most_153 : decode cX10_most 153 = .ok (.ireturn, 1) := by decide +kernel
theorem dX10_changes_0 : decode cX10_changes 0 = .ok (.aload_n 0, 1) := by decide +kernel
theorem dX10_changes_1 : decode cX10_changes 1 = .ok (.iconst 0, 1) := by decide +kernel
theorem dX10_changes_2 : decode cX10_changes 2 = .ok (.putfield 1, 3) := by decide +kernel
theorem dX10_changes_5 : decode cX10_changes 5 = .ok (.aload_n 0, 1) := by decide +kernel
theorem dX10_changes_6 : decode cX10_changes 6 = .ok (.invokevirtual 148, 3) := by decide +kernel
theorem dX10_changes_9 : decode cX10_changes 9 = .ok (.iconst 0, 1) := by decide +kernel
theorem dX10_changes_10 : decode cX10_changes 10 = .ok (.istore_n 1, 1) := by decide +kernel
theorem dX10_changes_11 : decode cX10_changes 11 = .ok (.iconst 0, 1) := by decide +kernel
theorem dX10_changes_12 : decode cX10_changes 12 = .ok (.istore_n 2, 1) := by decide +kernel
theorem dX10_changes_13 : decode cX10_changes 13 = .ok (.iload_n 2, 1) := by decide +kernel
theorem dX10_changes_14 : decode cX10_changes 14 = .ok (.iconst 2, 1) := by decide +kernel
theorem dX10_changes_15 : decode cX10_changes 15 = .ok (.if_icmp .ge 86, 3) := by decide +kernel
theorem dX10_changes_18 : decode cX10_changes 18 = .ok (.iconst 0, 1) := by decide +kernel
theorem dX10_changes_19 : decode cX10_changes 19 = .ok (.istore_n 3, 1) := by decide +kernel
theorem dX10_changes_20 : decode cX10_changes 20 = .ok (.iload_n 3, 1) := by decide +kernel
theorem dX10_changes_21 : decode cX10_changes 21 = .ok (.aload_n 0, 1) := by decide +kernel
theorem dX10_changes_22 : decode cX10_changes 22 = .ok (.iload_n 2, 1) := by decide +kernel
theorem dX10_changes_23 : decode cX10_changes 23 = .ok (.invokevirtual 62, 3) := by decide +kernel
theorem dX10_changes_26 : decode cX10_changes 26 = .ok (.if_icmp .ge 69, 3) := by decide +kernel
theorem dX10_changes_29 : decode cX10_changes 29 = .ok (.aload_n 0, 1) := by decide +kernel
theorem dX10_changes_30 : decode cX10_changes 30 = .ok (.getfield 33, 3) := by decide +kernel
theorem dX10_changes_33 : decode cX10_changes 33 = .ok (.bipush 14, 2) := by decide +kernel
theorem dX10_changes_35 : decode cX10_changes 35 = .ok (.iload_n 2, 1) := by decide +kernel
theorem dX10_changes_36 : decode cX10_changes 36 = .ok (.imul, 1) := by decide +kernel
theorem dX10_changes_37 : decode cX10_changes 37 = .ok (.iload_n 3, 1) := by decide +kernel
theorem dX10_changes_38 : decode cX10_changes 38 = .ok (.iadd, 1) := by decide +kernel
theorem dX10_changes_39 : decode cX10_changes 39 = .ok (.iaload, 1) := by decide +kernel
theorem dX10_changes_40 : decode cX10_changes 40 = .ok (.istore 4, 2) := by decide +kernel
theorem dX10_changes_42 : decode cX10_changes 42 = .ok (.iload 4, 2) := by decide +kernel
theorem dX10_changes_44 : decode cX10_changes 44 = .ok (.iconst 3, 1) := by decide +kernel
theorem dX10_changes_45 : decode cX10_changes 45 = .ok (.if_icmp .eq 9, 3) := by decide +kernel
theorem dX10_changes_48 : decode cX10_changes 48 = .ok (.iload 4, 2) := by decide +kernel
theorem dX10_changes_50 : decode cX10_changes 50 = .ok (.iconst 2, 1) := by decide +kernel
theorem dX10_changes_51 : decode cX10_changes 51 = .ok (.if_icmp .ne 12, 3) := by decide +kernel
theorem dX10_changes_54 : decode cX10_changes 54 = .ok (.iload_n 1, 1) := by decide +kernel
theorem dX10_changes_55 : decode cX10_changes 55 = .ok (.aload_n 0, 1) := by decide +kernel
theorem dX10_changes_56 : decode cX10_changes 56 = .ok (.iload_n 2, 1) := by decide +kernel
theorem dX10_changes_57 : decode cX10_changes 57 = .ok (.iload_n 3, 1) := by decide +kernel
theorem dX10_changes_58 : decode cX10_changes 58 = .ok (.invokevirtual 99, 3) := by decide +kernel
theorem dX10_changes_61 : decode cX10_changes 61 = .ok (.iadd, 1) := by decide +kernel
theorem dX10_changes_62 : decode cX10_changes 62 = .ok (.istore_n 1, 1) := by decide +kernel
theorem dX10_changes_63 : decode cX10_changes 63 = .ok (.iload 4, 2) := by decide +kernel
theorem dX10_changes_65 : decode cX10_changes 65 = .ok (.iconst 2, 1) := by decide +kernel
theorem dX10_changes_66 : decode cX10_changes 66 = .ok (.if_icmp .ne 23, 3) := by decide +kernel
theorem dX10_changes_69 : decode cX10_changes 69 = .ok (.iload_n 2, 1) := by decide +kernel
theorem dX10_changes_70 : decode cX10_changes 70 = .ok (.ifCond .ne 19, 3) := by decide +kernel
theorem dX10_changes_73 : decode cX10_changes 73 = .ok (.iload_n 1, 1) := by decide +kernel
theorem dX10_changes_74 : decode cX10_changes 74 = .ok (.iconst 2, 1) := by decide +kernel
theorem dX10_changes_75 : decode cX10_changes 75 = .ok (.aload_n 0, 1) := by decide +kernel
theorem dX10_changes_76 : decode cX10_changes 76 = .ok (.iload_n 3, 1) := by decide +kernel
theorem dX10_changes_77 : decode cX10_changes 77 = .ok (.aload_n 0, 1) := by decide +kernel
theorem dX10_changes_78 : decode cX10_changes 78 = .ok (.getfield 36, 3) := by decide +kernel
theorem dX10_changes_81 : decode cX10_changes 81 = .ok (.iload_n 3, 1) := by decide +kernel
theorem dX10_changes_82 : decode cX10_changes 82 = .ok (.iaload, 1) := by decide +kernel
theorem dX10_changes_83 : decode cX10_changes 83 = .ok (.invokevirtual 139, 3) := by decide +kernel
theorem dX10_changes_86 : decode cX10_changes 86 = .ok (.imul, 1) := by decide +kernel
theorem dX10_changes_87 : decode cX10_changes 87 = .ok (.isub, 1) := by decide +kernel
theorem dX10_changes_88 : decode cX10_changes 88 = .ok (.istore_n 1, 1) := by decide +kernel
theorem dX10_changes_89 : decode cX10_changes 89 = .ok (.iinc 3 1, 3) := by decide +kernel
theorem dX10_changes_92 : decode cX10_changes 92 = .ok (.goto (-72), 3) := by decide +kernel
theorem dX10_changes_95 : decode cX10_changes 95 = .ok (.iinc 2 1, 3) := by decide +kernel
theorem dX10_changes_98 : decode cX10_changes 98 = .ok (.goto (-85), 3) := by decide +kernel
theorem dX10_changes_101 : decode cX10_changes 101 = .ok (.iload_n 1, 1) := by decide +kernel
theorem dX10_changes_102 : decode cX10_changes 102 = .ok (.ireturn, 1) := by decide +kernel
theorem dX10_anchors_0 : decode cX10_anchors 0 = .ok (.aload_n 0, 1) := by decide +kernel
theorem dX10_anchors_1 : decode cX10_anchors 1 = .ok (.iconst 0, 1) := by decide +kernel
theorem dX10_anchors_2 : decode cX10_anchors 2 = .ok (.putfield 1, 3) := by decide +kernel
theorem dX10_anchors_5 : decode cX10_anchors 5 = .ok (.aload_n 0, 1) := by decide +kernel
theorem dX10_anchors_6 : decode cX10_anchors 6 = .ok (.invokevirtual 148, 3) := by decide +kernel
theorem dX10_anchors_9 : decode cX10_anchors 9 = .ok (.iload_n 1, 1) := by decide +kernel
theorem dX10_anchors_10 : decode cX10_anchors 10 = .ok (.ifCond .ne 10, 3) := by decide +kernel
theorem dX10_anchors_13 : decode cX10_anchors 13 = .ok (.aload_n 0, 1) := by decide +kernel
theorem dX10_anchors_14 : decode cX10_anchors 14 = .ok (.getfield 120, 3) := by decide +kernel
theorem dX10_anchors_17 : decode cX10_anchors 17 = .ok (.goto 16, 3) := by decide +kernel
theorem dX10_anchors_20 : decode cX10_anchors 20 = .ok (.iload_n 1, 1) := by decide +kernel
theorem dX10_anchors_21 : decode cX10_anchors 21 = .ok (.iconst 1, 1) := by decide +kernel
theorem dX10_anchors_22 : decode cX10_anchors 22 = .ok (.if_icmp .ne 10, 3) := by decide +kernel
theorem dX10_anchors_25 : decode cX10_anchors 25 = .ok (.aload_n 0, 1) := by decide +kernel
theorem dX10_anchors_26 : decode cX10_anchors 26 = .ok (.getfield 123, 3) := by decide +kernel
theorem dX10_anchors_29 : decode cX10_anchors 29 = .ok (.goto 4, 3) := by decide +kernel
theorem dX10_anchors_32 : decode cX10_anchors 32 = .ok (.iconst (-1), 1) := by decide +kernel
theorem dX10_anchors_33 : decode cX10_anchors 33 = .ok (.ireturn, 1) := by decide +kernel
theorem dX10_copiesLine_0 : decode cX10_copiesLine 0 = .ok (.iconst 0, 1) := by decide +kernel
theorem dX10_copiesLine_1 : decode cX10_copiesLine 1 = .ok (.istore_n 3, 1) := by decide +kernel
theorem dX10_copiesLine_2 : decode cX10_copiesLine 2 = .ok (.iload_n 3, 1) := by decide +kernel
theorem dX10_copiesLine_3 : decode cX10_copiesLine 3 = .ok (.bipush 9, 2) := by decide +kernel
theorem dX10_copiesLine_5 : decode cX10_copiesLine 5 = .ok (.if_icmp .ge 25, 3) := by decide +kernel
theorem dX10_copiesLine_8 : decode cX10_copiesLine 8 = .ok (.aload_n 0, 1) := by decide +kernel
theorem dX10_copiesLine_9 : decode cX10_copiesLine 9 = .ok (.getfield 24, 3) := by decide +kernel
theorem dX10_copiesLine_12 : decode cX10_copiesLine 12 = .ok (.iload_n 1, 1) := by decide +kernel
theorem dX10_copiesLine_13 : decode cX10_copiesLine 13 = .ok (.iload_n 3, 1) := by decide +kernel
theorem dX10_copiesLine_14 : decode cX10_copiesLine 14 = .ok (.iadd, 1) := by decide +kernel
theorem dX10_copiesLine_15 : decode cX10_copiesLine 15 = .ok (.aload_n 0, 1) := by decide +kernel
theorem dX10_copiesLine_16 : decode cX10_copiesLine 16 = .ok (.getfield 24, 3) := by decide +kernel
theorem dX10_copiesLine_19 : decode cX10_copiesLine 19 = .ok (.iload_n 2, 1) := by decide +kernel
theorem dX10_copiesLine_20 : decode cX10_copiesLine 20 = .ok (.iload_n 3, 1) := by decide +kernel
theorem dX10_copiesLine_21 : decode cX10_copiesLine 21 = .ok (.iadd, 1) := by decide +kernel
theorem dX10_copiesLine_22 : decode cX10_copiesLine 22 = .ok (.iaload, 1) := by decide +kernel
theorem dX10_copiesLine_23 : decode cX10_copiesLine 23 = .ok (.iastore, 1) := by decide +kernel
theorem dX10_copiesLine_24 : decode cX10_copiesLine 24 = .ok (.iinc 3 1, 3) := by decide +kernel
theorem dX10_copiesLine_27 : decode cX10_copiesLine 27 = .ok (.goto (-25), 3) := by decide +kernel
theorem dX10_copiesLine_30 : decode cX10_copiesLine 30 = .ok (.return_, 1) := by decide +kernel
theorem dX10_would_0 : decode cX10_would 0 = .ok (.aload_n 0, 1) := by decide +kernel
theorem dX10_would_1 : decode cX10_would 1 = .ok (.iconst 0, 1) := by decide +kernel
theorem dX10_would_2 : decode cX10_would 2 = .ok (.putfield 1, 3) := by decide +kernel
theorem dX10_would_5 : decode cX10_would 5 = .ok (.aload_n 0, 1) := by decide +kernel
theorem dX10_would_6 : decode cX10_would 6 = .ok (.iload_n 1, 1) := by decide +kernel
theorem dX10_would_7 : decode cX10_would 7 = .ok (.iload_n 2, 1) := by decide +kernel
theorem dX10_would_8 : decode cX10_would 8 = .ok (.invokevirtual 154, 3) := by decide +kernel
theorem dX10_would_11 : decode cX10_would 11 = .ok (.ifCond .eq 14, 3) := by decide +kernel
theorem dX10_would_14 : decode cX10_would 14 = .ok (.aload_n 0, 1) := by decide +kernel
theorem dX10_would_15 : decode cX10_would 15 = .ok (.iconst 1, 1) := by decide +kernel
theorem dX10_would_16 : decode cX10_would 16 = .ok (.iload_n 1, 1) := by decide +kernel
theorem dX10_would_17 : decode cX10_would 17 = .ok (.isub, 1) := by decide +kernel
theorem dX10_would_18 : decode cX10_would 18 = .ok (.iload_n 3, 1) := by decide +kernel
theorem dX10_would_19 : decode cX10_would 19 = .ok (.invokevirtual 154, 3) := by decide +kernel
theorem dX10_would_22 : decode cX10_would 22 = .ok (.ifCond .ne 5, 3) := by decide +kernel
theorem dX10_would_25 : decode cX10_would 25 = .ok (.iconst (-1), 1) := by decide +kernel
theorem dX10_would_26 : decode cX10_would 26 = .ok (.ireturn, 1) := by decide +kernel
theorem dX10_would_27 : decode cX10_would 27 = .ok (.aload_n 0, 1) := by decide +kernel
theorem dX10_would_28 : decode cX10_would 28 = .ok (.invokevirtual 148, 3) := by decide +kernel
theorem dX10_would_31 : decode cX10_would 31 = .ok (.bipush 9, 2) := by decide +kernel
theorem dX10_would_33 : decode cX10_would 33 = .ok (.newarray .int, 2) := by decide +kernel
theorem dX10_would_35 : decode cX10_would 35 = .ok (.astore 4, 2) := by decide +kernel
theorem dX10_would_37 : decode cX10_would 37 = .ok (.iconst 0, 1) := by decide +kernel
theorem dX10_would_38 : decode cX10_would 38 = .ok (.istore 5, 2) := by decide +kernel
theorem dX10_would_40 : decode cX10_would 40 = .ok (.iload 5, 2) := by decide +kernel
theorem dX10_would_42 : decode cX10_would 42 = .ok (.bipush 28, 2) := by decide +kernel
theorem dX10_would_44 : decode cX10_would 44 = .ok (.if_icmp .ge 37, 3) := by decide +kernel
theorem dX10_would_47 : decode cX10_would 47 = .ok (.aload_n 0, 1) := by decide +kernel
theorem dX10_would_48 : decode cX10_would 48 = .ok (.getfield 42, 3) := by decide +kernel
theorem dX10_would_51 : decode cX10_would 51 = .ok (.iload 5, 2) := by decide +kernel
theorem dX10_would_53 : decode cX10_would 53 = .ok (.aload_n 0, 1) := by decide +kernel
theorem dX10_would_54 : decode cX10_would 54 = .ok (.getfield 33, 3) := by decide +kernel
theorem dX10_would_57 : decode cX10_would 57 = .ok (.iload 5, 2) := by decide +kernel
theorem dX10_would_59 : decode cX10_would 59 = .ok (.iaload, 1) := by decide +kernel
theorem dX10_would_60 : decode cX10_would 60 = .ok (.iastore, 1) := by decide +kernel
theorem dX10_would_61 : decode cX10_would 61 = .ok (.aload_n 0, 1) := by decide +kernel
theorem dX10_would_62 : decode cX10_would 62 = .ok (.getfield 45, 3) := by decide +kernel
theorem dX10_would_65 : decode cX10_would 65 = .ok (.iload 5, 2) := by decide +kernel
theorem dX10_would_67 : decode cX10_would 67 = .ok (.aload_n 0, 1) := by decide +kernel
theorem dX10_would_68 : decode cX10_would 68 = .ok (.getfield 36, 3) := by decide +kernel
theorem dX10_would_71 : decode cX10_would 71 = .ok (.iload 5, 2) := by decide +kernel
theorem dX10_would_73 : decode cX10_would 73 = .ok (.iaload, 1) := by decide +kernel
theorem dX10_would_74 : decode cX10_would 74 = .ok (.iastore, 1) := by decide +kernel
theorem dX10_would_75 : decode cX10_would 75 = .ok (.iinc 5 1, 3) := by decide +kernel
theorem dX10_would_78 : decode cX10_would 78 = .ok (.goto (-38), 3) := by decide +kernel
theorem dX10_would_81 : decode cX10_would 81 = .ok (.iconst 0, 1) := by decide +kernel
theorem dX10_would_82 : decode cX10_would 82 = .ok (.istore 5, 2) := by decide +kernel
theorem dX10_would_84 : decode cX10_would 84 = .ok (.iload 5, 2) := by decide +kernel
theorem dX10_would_86 : decode cX10_would 86 = .ok (.bipush 9, 2) := by decide +kernel
theorem dX10_would_88 : decode cX10_would 88 = .ok (.if_icmp .ge 27, 3) := by decide +kernel
theorem dX10_would_91 : decode cX10_would 91 = .ok (.aload 4, 2) := by decide +kernel
theorem dX10_would_93 : decode cX10_would 93 = .ok (.iload 5, 2) := by decide +kernel
theorem dX10_would_95 : decode cX10_would 95 = .ok (.aload_n 0, 1) := by decide +kernel
theorem dX10_would_96 : decode cX10_would 96 = .ok (.getfield 24, 3) := by decide +kernel
theorem dX10_would_99 : decode cX10_would 99 = .ok (.iload_n 1, 1) := by decide +kernel
theorem dX10_would_100 : decode cX10_would 100 = .ok (.iload_n 2, 1) := by decide +kernel
theorem dX10_would_101 : decode cX10_would 101 = .ok (.invokestatic 95, 3) := by decide +kernel
theorem dX10_would_104 : decode cX10_would 104 = .ok (.iload 5, 2) := by decide +kernel
theorem dX10_would_106 : decode cX10_would 106 = .ok (.iadd, 1) := by decide +kernel
theorem dX10_would_107 : decode cX10_would 107 = .ok (.iaload, 1) := by decide +kernel
theorem dX10_would_108 : decode cX10_would 108 = .ok (.iastore, 1) := by decide +kernel
theorem dX10_would_109 : decode cX10_would 109 = .ok (.iinc 5 1, 3) := by decide +kernel
theorem dX10_would_112 : decode cX10_would 112 = .ok (.goto (-28), 3) := by decide +kernel
theorem dX10_would_115 : decode cX10_would 115 = .ok (.aload_n 0, 1) := by decide +kernel
theorem dX10_would_116 : decode cX10_would 116 = .ok (.iload_n 1, 1) := by decide +kernel
theorem dX10_would_117 : decode cX10_would 117 = .ok (.iload_n 2, 1) := by decide +kernel
theorem dX10_would_118 : decode cX10_would 118 = .ok (.invokestatic 95, 3) := by decide +kernel
theorem dX10_would_121 : decode cX10_would 121 = .ok (.iconst 1, 1) := by decide +kernel
theorem dX10_would_122 : decode cX10_would 122 = .ok (.iload_n 1, 1) := by decide +kernel
theorem dX10_would_123 : decode cX10_would 123 = .ok (.isub, 1) := by decide +kernel
theorem dX10_would_124 : decode cX10_would 124 = .ok (.iload_n 3, 1) := by decide +kernel
theorem dX10_would_125 : decode cX10_would 125 = .ok (.invokestatic 95, 3) := by decide +kernel
theorem dX10_would_128 : decode cX10_would 128 = .ok (.invokevirtual 167, 3) := by decide +kernel
theorem dX10_would_131 : decode cX10_would 131 = .ok (.aload_n 0, 1) := by decide +kernel
theorem dX10_would_132 : decode cX10_would 132 = .ok (.invokevirtual 148, 3) := by decide +kernel
theorem dX10_would_135 : decode cX10_would 135 = .ok (.iconst 0, 1) := by decide +kernel
theorem dX10_would_136 : decode cX10_would 136 = .ok (.istore 5, 2) := by decide +kernel
theorem dX10_would_138 : decode cX10_would 138 = .ok (.iload 5, 2) := by decide +kernel
theorem dX10_would_140 : decode cX10_would 140 = .ok (.bipush 9, 2) := by decide +kernel
theorem dX10_would_142 : decode cX10_would 142 = .ok (.if_icmp .ge 27, 3) := by decide +kernel
theorem dX10_would_145 : decode cX10_would 145 = .ok (.aload_n 0, 1) := by decide +kernel
theorem dX10_would_146 : decode cX10_would 146 = .ok (.getfield 24, 3) := by decide +kernel
theorem dX10_would_149 : decode cX10_would 149 = .ok (.iload_n 1, 1) := by decide +kernel
theorem dX10_would_150 : decode cX10_would 150 = .ok (.iload_n 2, 1) := by decide +kernel
theorem dX10_would_151 : decode cX10_would 151 = .ok (.invokestatic 95, 3) := by decide +kernel
theorem dX10_would_154 : decode cX10_would 154 = .ok (.iload 5, 2) := by decide +kernel
theorem dX10_would_156 : decode cX10_would 156 = .ok (.iadd, 1) := by decide +kernel
theorem dX10_would_157 : decode cX10_would 157 = .ok (.aload 4, 2) := by decide +kernel
theorem dX10_would_159 : decode cX10_would 159 = .ok (.iload 5, 2) := by decide +kernel
theorem dX10_would_161 : decode cX10_would 161 = .ok (.iaload, 1) := by decide +kernel
theorem dX10_would_162 : decode cX10_would 162 = .ok (.iastore, 1) := by decide +kernel
theorem dX10_would_163 : decode cX10_would 163 = .ok (.iinc 5 1, 3) := by decide +kernel
theorem dX10_would_166 : decode cX10_would 166 = .ok (.goto (-28), 3) := by decide +kernel
theorem dX10_would_169 : decode cX10_would 169 = .ok (.iconst 0, 1) := by decide +kernel
theorem dX10_would_170 : decode cX10_would 170 = .ok (.istore 5, 2) := by decide +kernel
theorem dX10_would_172 : decode cX10_would 172 = .ok (.iconst 0, 1) := by decide +kernel
theorem dX10_would_173 : decode cX10_would 173 = .ok (.istore 6, 2) := by decide +kernel
theorem dX10_would_175 : decode cX10_would 175 = .ok (.iload 6, 2) := by decide +kernel
theorem dX10_would_177 : decode cX10_would 177 = .ok (.bipush 28, 2) := by decide +kernel
theorem dX10_would_179 : decode cX10_would 179 = .ok (.if_icmp .ge 46, 3) := by decide +kernel
theorem dX10_would_182 : decode cX10_would 182 = .ok (.aload_n 0, 1) := by decide +kernel
theorem dX10_would_183 : decode cX10_would 183 = .ok (.getfield 42, 3) := by decide +kernel
theorem dX10_would_186 : decode cX10_would 186 = .ok (.iload 6, 2) := by decide +kernel
theorem dX10_would_188 : decode cX10_would 188 = .ok (.iaload, 1) := by decide +kernel
theorem dX10_would_189 : decode cX10_would 189 = .ok (.aload_n 0, 1) := by decide +kernel
theorem dX10_would_190 : decode cX10_would 190 = .ok (.getfield 33, 3) := by decide +kernel
theorem dX10_would_193 : decode cX10_would 193 = .ok (.iload 6, 2) := by decide +kernel
theorem dX10_would_195 : decode cX10_would 195 = .ok (.iaload, 1) := by decide +kernel
theorem dX10_would_196 : decode cX10_would 196 = .ok (.if_icmp .ne 20, 3) := by decide +kernel
theorem dX10_would_199 : decode cX10_would 199 = .ok (.aload_n 0, 1) := by decide +kernel
theorem dX10_would_200 : decode cX10_would 200 = .ok (.getfield 45, 3) := by decide +kernel
theorem dX10_would_203 : decode cX10_would 203 = .ok (.iload 6, 2) := by decide +kernel
theorem dX10_would_205 : decode cX10_would 205 = .ok (.iaload, 1) := by decide +kernel
theorem dX10_would_206 : decode cX10_would 206 = .ok (.aload_n 0, 1) := by decide +kernel
theorem dX10_would_207 : decode cX10_would 207 = .ok (.getfield 36, 3) := by decide +kernel
theorem dX10_would_210 : decode cX10_would 210 = .ok (.iload 6, 2) := by decide +kernel
theorem dX10_would_212 : decode cX10_would 212 = .ok (.iaload, 1) := by decide +kernel
theorem dX10_would_213 : decode cX10_would 213 = .ok (.if_icmp .eq 6, 3) := by decide +kernel
theorem dX10_would_216 : decode cX10_would 216 = .ok (.iinc 5 1, 3) := by decide +kernel
theorem dX10_would_219 : decode cX10_would 219 = .ok (.iinc 6 1, 3) := by decide +kernel
theorem dX10_would_222 : decode cX10_would 222 = .ok (.goto (-47), 3) := by decide +kernel
theorem dX10_would_225 : decode cX10_would 225 = .ok (.iload 5, 2) := by decide +kernel
theorem dX10_would_227 : decode cX10_would 227 = .ok (.ireturn, 1) := by decide +kernel
theorem dX10_snap_0 : decode cX10_snap 0 = .ok (.aload_n 0, 1) := by decide +kernel
theorem dX10_snap_1 : decode cX10_snap 1 = .ok (.getfield 92, 3) := by decide +kernel
theorem dX10_snap_4 : decode cX10_snap 4 = .ok (.bipush 10, 2) := by decide +kernel
theorem dX10_snap_6 : decode cX10_snap 6 = .ok (.if_icmp .ne 44, 3) := by decide +kernel
theorem dX10_snap_9 : decode cX10_snap 9 = .ok (.iconst 0, 1) := by decide +kernel
theorem dX10_snap_10 : decode cX10_snap 10 = .ok (.istore_n 1, 1) := by decide +kernel
theorem dX10_snap_11 : decode cX10_snap 11 = .ok (.iload_n 1, 1) := by decide +kernel
theorem dX10_snap_12 : decode cX10_snap 12 = .ok (.sipush 2286, 3) := by decide +kernel
theorem dX10_snap_15 : decode cX10_snap 15 = .ok (.if_icmp .ge 25, 3) := by decide +kernel
theorem dX10_snap_18 : decode cX10_snap 18 = .ok (.aload_n 0, 1) := by decide +kernel
theorem dX10_snap_19 : decode cX10_snap 19 = .ok (.getfield 30, 3) := by decide +kernel
theorem dX10_snap_22 : decode cX10_snap 22 = .ok (.iload_n 1, 1) := by decide +kernel
theorem dX10_snap_23 : decode cX10_snap 23 = .ok (.aload_n 0, 1) := by decide +kernel
theorem dX10_snap_24 : decode cX10_snap 24 = .ok (.getfield 30, 3) := by decide +kernel
theorem dX10_snap_27 : decode cX10_snap 27 = .ok (.iload_n 1, 1) := by decide +kernel
theorem dX10_snap_28 : decode cX10_snap 28 = .ok (.sipush 254, 3) := by decide +kernel
theorem dX10_snap_31 : decode cX10_snap 31 = .ok (.iadd, 1) := by decide +kernel
theorem dX10_snap_32 : decode cX10_snap 32 = .ok (.iaload, 1) := by decide +kernel
theorem dX10_snap_33 : decode cX10_snap 33 = .ok (.iastore, 1) := by decide +kernel
theorem dX10_snap_34 : decode cX10_snap 34 = .ok (.iinc 1 1, 3) := by decide +kernel
theorem dX10_snap_37 : decode cX10_snap 37 = .ok (.goto (-26), 3) := by decide +kernel
theorem dX10_snap_40 : decode cX10_snap 40 = .ok (.aload_n 0, 1) := by decide +kernel
theorem dX10_snap_41 : decode cX10_snap 41 = .ok (.dup, 1) := by decide +kernel
theorem dX10_snap_42 : decode cX10_snap 42 = .ok (.getfield 92, 3) := by decide +kernel
theorem dX10_snap_45 : decode cX10_snap 45 = .ok (.iconst 1, 1) := by decide +kernel
theorem dX10_snap_46 : decode cX10_snap 46 = .ok (.isub, 1) := by decide +kernel
theorem dX10_snap_47 : decode cX10_snap 47 = .ok (.putfield 92, 3) := by decide +kernel
theorem dX10_snap_50 : decode cX10_snap 50 = .ok (.iconst 0, 1) := by decide +kernel
theorem dX10_snap_51 : decode cX10_snap 51 = .ok (.istore_n 1, 1) := by decide +kernel
theorem dX10_snap_52 : decode cX10_snap 52 = .ok (.iload_n 1, 1) := by decide +kernel
theorem dX10_snap_53 : decode cX10_snap 53 = .ok (.sipush 254, 3) := by decide +kernel
theorem dX10_snap_56 : decode cX10_snap 56 = .ok (.if_icmp .ge 30, 3) := by decide +kernel
theorem dX10_snap_59 : decode cX10_snap 59 = .ok (.aload_n 0, 1) := by decide +kernel
theorem dX10_snap_60 : decode cX10_snap 60 = .ok (.getfield 30, 3) := by decide +kernel
theorem dX10_snap_63 : decode cX10_snap 63 = .ok (.sipush 254, 3) := by decide +kernel
theorem dX10_snap_66 : decode cX10_snap 66 = .ok (.aload_n 0, 1) := by decide +kernel
theorem dX10_snap_67 : decode cX10_snap 67 = .ok (.getfield 92, 3) := by decide +kernel
theorem dX10_snap_70 : decode cX10_snap 70 = .ok (.imul, 1) := by decide +kernel
theorem dX10_snap_71 : decode cX10_snap 71 = .ok (.iload_n 1, 1) := by decide +kernel
theorem dX10_snap_72 : decode cX10_snap 72 = .ok (.iadd, 1) := by decide +kernel
theorem dX10_snap_73 : decode cX10_snap 73 = .ok (.aload_n 0, 1) := by decide +kernel
theorem dX10_snap_74 : decode cX10_snap 74 = .ok (.getfield 24, 3) := by decide +kernel
theorem dX10_snap_77 : decode cX10_snap 77 = .ok (.iload_n 1, 1) := by decide +kernel
theorem dX10_snap_78 : decode cX10_snap 78 = .ok (.iaload, 1) := by decide +kernel
theorem dX10_snap_79 : decode cX10_snap 79 = .ok (.iastore, 1) := by decide +kernel
theorem dX10_snap_80 : decode cX10_snap 80 = .ok (.iinc 1 1, 3) := by decide +kernel
theorem dX10_snap_83 : decode cX10_snap 83 = .ok (.goto (-31), 3) := by decide +kernel
theorem dX10_snap_86 : decode cX10_snap 86 = .ok (.aload_n 0, 1) := by decide +kernel
theorem dX10_snap_87 : decode cX10_snap 87 = .ok (.dup, 1) := by decide +kernel
theorem dX10_snap_88 : decode cX10_snap 88 = .ok (.getfield 92, 3) := by decide +kernel
theorem dX10_snap_91 : decode cX10_snap 91 = .ok (.iconst 1, 1) := by decide +kernel
theorem dX10_snap_92 : decode cX10_snap 92 = .ok (.iadd, 1) := by decide +kernel
theorem dX10_snap_93 : decode cX10_snap 93 = .ok (.putfield 92, 3) := by decide +kernel
theorem dX10_snap_96 : decode cX10_snap 96 = .ok (.return_, 1) := by decide +kernel
theorem dX10_opens_0 : decode cX10_opens 0 = .ok (.aload_n 0, 1) := by decide +kernel
theorem dX10_opens_1 : decode cX10_opens 1 = .ok (.iload_n 1, 1) := by decide +kernel
theorem dX10_opens_2 : decode cX10_opens 2 = .ok (.invokevirtual 62, 3) := by decide +kernel
theorem dX10_opens_5 : decode cX10_opens 5 = .ok (.istore_n 3, 1) := by decide +kernel
theorem dX10_opens_6 : decode cX10_opens 6 = .ok (.iload_n 3, 1) := by decide +kernel
theorem dX10_opens_7 : decode cX10_opens 7 = .ok (.iload_n 2, 1) := by decide +kernel
theorem dX10_opens_8 : decode cX10_opens 8 = .ok (.if_icmp .le 25, 3) := by decide +kernel
theorem dX10_opens_11 : decode cX10_opens 11 = .ok (.aload_n 0, 1) := by decide +kernel
theorem dX10_opens_12 : decode cX10_opens 12 = .ok (.iload_n 1, 1) := by decide +kernel
theorem dX10_opens_13 : decode cX10_opens 13 = .ok (.iload_n 3, 1) := by decide +kernel
theorem dX10_opens_14 : decode cX10_opens 14 = .ok (.invokestatic 95, 3) := by decide +kernel
theorem dX10_opens_17 : decode cX10_opens 17 = .ok (.iload_n 1, 1) := by decide +kernel
theorem dX10_opens_18 : decode cX10_opens 18 = .ok (.iload_n 3, 1) := by decide +kernel
theorem dX10_opens_19 : decode cX10_opens 19 = .ok (.iconst 1, 1) := by decide +kernel
theorem dX10_opens_20 : decode cX10_opens 20 = .ok (.isub, 1) := by decide +kernel
theorem dX10_opens_21 : decode cX10_opens 21 = .ok (.invokestatic 95, 3) := by decide +kernel
theorem dX10_opens_24 : decode cX10_opens 24 = .ok (.invokevirtual 167, 3) := by decide +kernel
theorem dX10_opens_27 : decode cX10_opens 27 = .ok (.iinc 3 (-1), 3) := by decide +kernel
theorem dX10_opens_30 : decode cX10_opens 30 = .ok (.goto (-24), 3) := by decide +kernel
theorem dX10_opens_33 : decode cX10_opens 33 = .ok (.aload_n 0, 1) := by decide +kernel
theorem dX10_opens_34 : decode cX10_opens 34 = .ok (.getfield 24, 3) := by decide +kernel
theorem dX10_opens_37 : decode cX10_opens 37 = .ok (.bipush 127, 2) := by decide +kernel
theorem dX10_opens_39 : decode cX10_opens 39 = .ok (.iload_n 1, 1) := by decide +kernel
theorem dX10_opens_40 : decode cX10_opens 40 = .ok (.imul, 1) := by decide +kernel
theorem dX10_opens_41 : decode cX10_opens 41 = .ok (.dup2, 1) := by decide +kernel
theorem dX10_opens_42 : decode cX10_opens 42 = .ok (.iaload, 1) := by decide +kernel
theorem dX10_opens_43 : decode cX10_opens 43 = .ok (.iconst 1, 1) := by decide +kernel
theorem dX10_opens_44 : decode cX10_opens 44 = .ok (.iadd, 1) := by decide +kernel
theorem dX10_opens_45 : decode cX10_opens 45 = .ok (.iastore, 1) := by decide +kernel
theorem dX10_opens_46 : decode cX10_opens 46 = .ok (.return_, 1) := by decide +kernel
theorem dX10_closes_0 : decode cX10_closes 0 = .ok (.iload_n 2, 1) := by decide +kernel
theorem dX10_closes_1 : decode cX10_closes 1 = .ok (.istore_n 3, 1) := by decide +kernel
theorem dX10_closes_2 : decode cX10_closes 2 = .ok (.iload_n 3, 1) := by decide +kernel
theorem dX10_closes_3 : decode cX10_closes 3 = .ok (.iconst 1, 1) := by decide +kernel
theorem dX10_closes_4 : decode cX10_closes 4 = .ok (.iadd, 1) := by decide +kernel
theorem dX10_closes_5 : decode cX10_closes 5 = .ok (.aload_n 0, 1) := by decide +kernel
theorem dX10_closes_6 : decode cX10_closes 6 = .ok (.iload_n 1, 1) := by decide +kernel
theorem dX10_closes_7 : decode cX10_closes 7 = .ok (.invokevirtual 62, 3) := by decide +kernel
theorem dX10_closes_10 : decode cX10_closes 10 = .ok (.if_icmp .ge 25, 3) := by decide +kernel
theorem dX10_closes_13 : decode cX10_closes 13 = .ok (.aload_n 0, 1) := by decide +kernel
theorem dX10_closes_14 : decode cX10_closes 14 = .ok (.iload_n 1, 1) := by decide +kernel
theorem dX10_closes_15 : decode cX10_closes 15 = .ok (.iload_n 3, 1) := by decide +kernel
theorem dX10_closes_16 : decode cX10_closes 16 = .ok (.invokestatic 95, 3) := by decide +kernel
theorem dX10_closes_19 : decode cX10_closes 19 = .ok (.iload_n 1, 1) := by decide +kernel
theorem dX10_closes_20 : decode cX10_closes 20 = .ok (.iload_n 3, 1) := by decide +kernel
theorem dX10_closes_21 : decode cX10_closes 21 = .ok (.iconst 1, 1) := by decide +kernel
theorem dX10_closes_22 : decode cX10_closes 22 = .ok (.iadd, 1) := by decide +kernel
theorem dX10_closes_23 : decode cX10_closes 23 = .ok (.invokestatic 95, 3) := by decide +kernel
theorem dX10_closes_26 : decode cX10_closes 26 = .ok (.invokevirtual 167, 3) := by decide +kernel
theorem dX10_closes_29 : decode cX10_closes 29 = .ok (.iinc 3 1, 3) := by decide +kernel
theorem dX10_closes_32 : decode cX10_closes 32 = .ok (.goto (-30), 3) := by decide +kernel
theorem dX10_closes_35 : decode cX10_closes 35 = .ok (.aload_n 0, 1) := by decide +kernel
theorem dX10_closes_36 : decode cX10_closes 36 = .ok (.getfield 24, 3) := by decide +kernel
theorem dX10_closes_39 : decode cX10_closes 39 = .ok (.bipush 127, 2) := by decide +kernel
theorem dX10_closes_41 : decode cX10_closes 41 = .ok (.iload_n 1, 1) := by decide +kernel
theorem dX10_closes_42 : decode cX10_closes 42 = .ok (.imul, 1) := by decide +kernel
theorem dX10_closes_43 : decode cX10_closes 43 = .ok (.dup2, 1) := by decide +kernel
theorem dX10_closes_44 : decode cX10_closes 44 = .ok (.iaload, 1) := by decide +kernel
end
section
theorem dX10_closes_45 : decode cX10_closes 45 = .ok (.iconst 1, 1) := by decide +kernel
theorem dX10_closes_46 : decode cX10_closes 46 = .ok (.isub, 1) := by decide +kernel
theorem dX10_closes_47 : decode cX10_closes 47 = .ok (.iastore, 1) := by decide +kernel
theorem dX10_closes_48 : decode cX10_closes 48 = .ok (.return_, 1) := by decide +kernel
theorem dX10_laysRead_0 : decode cX10_laysRead 0 = .ok (.iconst 0, 1) := by decide +kernel
theorem dX10_laysRead_1 : decode cX10_laysRead 1 = .ok (.istore_n 3, 1) := by decide +kernel
theorem dX10_laysRead_2 : decode cX10_laysRead 2 = .ok (.iload_n 3, 1) := by decide +kernel
theorem dX10_laysRead_3 : decode cX10_laysRead 3 = .ok (.bipush 9, 2) := by decide +kernel
theorem dX10_laysRead_5 : decode cX10_laysRead 5 = .ok (.if_icmp .ge 29, 3) := by decide +kernel
theorem dX10_laysRead_8 : decode cX10_laysRead 8 = .ok (.aload_n 0, 1) := by decide +kernel
theorem dX10_laysRead_9 : decode cX10_laysRead 9 = .ok (.getfield 24, 3) := by decide +kernel
theorem dX10_laysRead_12 : decode cX10_laysRead 12 = .ok (.iload_n 1, 1) := by decide +kernel
theorem dX10_laysRead_13 : decode cX10_laysRead 13 = .ok (.iload_n 2, 1) := by decide +kernel
theorem dX10_laysRead_14 : decode cX10_laysRead 14 = .ok (.invokestatic 95, 3) := by decide +kernel
theorem dX10_laysRead_17 : decode cX10_laysRead 17 = .ok (.iload_n 3, 1) := by decide +kernel
theorem dX10_laysRead_18 : decode cX10_laysRead 18 = .ok (.iadd, 1) := by decide +kernel
theorem dX10_laysRead_19 : decode cX10_laysRead 19 = .ok (.aload_n 0, 1) := by decide +kernel
theorem dX10_laysRead_20 : decode cX10_laysRead 20 = .ok (.getfield 27, 3) := by decide +kernel
theorem dX10_laysRead_23 : decode cX10_laysRead 23 = .ok (.iconst 1, 1) := by decide +kernel
theorem dX10_laysRead_24 : decode cX10_laysRead 24 = .ok (.iload_n 3, 1) := by decide +kernel
theorem dX10_laysRead_25 : decode cX10_laysRead 25 = .ok (.iadd, 1) := by decide +kernel
theorem dX10_laysRead_26 : decode cX10_laysRead 26 = .ok (.iaload, 1) := by decide +kernel
theorem dX10_laysRead_27 : decode cX10_laysRead 27 = .ok (.iastore, 1) := by decide +kernel
theorem dX10_laysRead_28 : decode cX10_laysRead 28 = .ok (.iinc 3 1, 3) := by decide +kernel
theorem dX10_laysRead_31 : decode cX10_laysRead 31 = .ok (.goto (-29), 3) := by decide +kernel
theorem dX10_laysRead_34 : decode cX10_laysRead 34 = .ok (.return_, 1) := by decide +kernel
theorem dX10_put_0 : decode cX10_put 0 = .ok (.aload_n 0, 1) := by decide +kernel
theorem dX10_put_1 : decode cX10_put 1 = .ok (.iconst 0, 1) := by decide +kernel
theorem dX10_put_2 : decode cX10_put 2 = .ok (.putfield 1, 3) := by decide +kernel
theorem dX10_put_5 : decode cX10_put 5 = .ok (.iload_n 1, 1) := by decide +kernel
theorem dX10_put_6 : decode cX10_put 6 = .ok (.invokestatic 58, 3) := by decide +kernel
theorem dX10_put_9 : decode cX10_put 9 = .ok (.ifCond .eq 16, 3) := by decide +kernel
theorem dX10_put_12 : decode cX10_put 12 = .ok (.iload_n 2, 1) := by decide +kernel
theorem dX10_put_13 : decode cX10_put 13 = .ok (.iconst 0, 1) := by decide +kernel
theorem dX10_put_14 : decode cX10_put 14 = .ok (.aload_n 0, 1) := by decide +kernel
theorem dX10_put_15 : decode cX10_put 15 = .ok (.iload_n 1, 1) := by decide +kernel
theorem dX10_put_16 : decode cX10_put 16 = .ok (.invokevirtual 62, 3) := by decide +kernel
theorem dX10_put_19 : decode cX10_put 19 = .ok (.invokestatic 54, 3) := by decide +kernel
theorem dX10_put_22 : decode cX10_put 22 = .ok (.ifCond .ne 5, 3) := by decide +kernel
theorem dX10_put_25 : decode cX10_put 25 = .ok (.iconst (-1), 1) := by decide +kernel
theorem dX10_put_26 : decode cX10_put 26 = .ok (.ireturn, 1) := by decide +kernel
theorem dX10_put_27 : decode cX10_put 27 = .ok (.aload_n 0, 1) := by decide +kernel
theorem dX10_put_28 : decode cX10_put 28 = .ok (.iload_n 1, 1) := by decide +kernel
theorem dX10_put_29 : decode cX10_put 29 = .ok (.invokevirtual 62, 3) := by decide +kernel
theorem dX10_put_32 : decode cX10_put 32 = .ok (.bipush 14, 2) := by decide +kernel
theorem dX10_put_34 : decode cX10_put 34 = .ok (.if_icmp .ne 7, 3) := by decide +kernel
theorem dX10_put_37 : decode cX10_put 37 = .ok (.sipush (-1000), 3) := by decide +kernel
theorem dX10_put_40 : decode cX10_put 40 = .ok (.ireturn, 1) := by decide +kernel
theorem dX10_put_41 : decode cX10_put 41 = .ok (.aload_n 0, 1) := by decide +kernel
theorem dX10_put_42 : decode cX10_put 42 = .ok (.bipush 80, 2) := by decide +kernel
theorem dX10_put_44 : decode cX10_put 44 = .ok (.iconst 1, 1) := by decide +kernel
theorem dX10_put_45 : decode cX10_put 45 = .ok (.invokevirtual 88, 3) := by decide +kernel
theorem dX10_put_48 : decode cX10_put 48 = .ok (.ifCond .ne 11, 3) := by decide +kernel
theorem dX10_put_51 : decode cX10_put 51 = .ok (.bipush (-2), 2) := by decide +kernel
theorem dX10_put_53 : decode cX10_put 53 = .ok (.aload_n 0, 1) := by decide +kernel
theorem dX10_put_54 : decode cX10_put 54 = .ok (.getfield 69, 3) := by decide +kernel
theorem dX10_put_57 : decode cX10_put 57 = .ok (.isub, 1) := by decide +kernel
theorem dX10_put_58 : decode cX10_put 58 = .ok (.ireturn, 1) := by decide +kernel
theorem dX10_put_59 : decode cX10_put 59 = .ok (.aload_n 0, 1) := by decide +kernel
theorem dX10_put_60 : decode cX10_put 60 = .ok (.invokevirtual 171, 3) := by decide +kernel
theorem dX10_put_63 : decode cX10_put 63 = .ok (.aload_n 0, 1) := by decide +kernel
theorem dX10_put_64 : decode cX10_put 64 = .ok (.iload_n 1, 1) := by decide +kernel
theorem dX10_put_65 : decode cX10_put 65 = .ok (.iload_n 2, 1) := by decide +kernel
theorem dX10_put_66 : decode cX10_put 66 = .ok (.invokevirtual 174, 3) := by decide +kernel
theorem dX10_put_69 : decode cX10_put 69 = .ok (.aload_n 0, 1) := by decide +kernel
theorem dX10_put_70 : decode cX10_put 70 = .ok (.iload_n 1, 1) := by decide +kernel
theorem dX10_put_71 : decode cX10_put 71 = .ok (.iload_n 2, 1) := by decide +kernel
theorem dX10_put_72 : decode cX10_put 72 = .ok (.invokevirtual 177, 3) := by decide +kernel
theorem dX10_put_75 : decode cX10_put 75 = .ok (.aload_n 0, 1) := by decide +kernel
theorem dX10_put_76 : decode cX10_put 76 = .ok (.iload_n 1, 1) := by decide +kernel
theorem dX10_put_77 : decode cX10_put 77 = .ok (.invokevirtual 62, 3) := by decide +kernel
theorem dX10_put_80 : decode cX10_put 80 = .ok (.ireturn, 1) := by decide +kernel
theorem dX10_change_0 : decode cX10_change 0 = .ok (.aload_n 0, 1) := by decide +kernel
theorem dX10_change_1 : decode cX10_change 1 = .ok (.iconst 0, 1) := by decide +kernel
theorem dX10_change_2 : decode cX10_change 2 = .ok (.putfield 1, 3) := by decide +kernel
theorem dX10_change_5 : decode cX10_change 5 = .ok (.aload_n 0, 1) := by decide +kernel
theorem dX10_change_6 : decode cX10_change 6 = .ok (.iload_n 1, 1) := by decide +kernel
theorem dX10_change_7 : decode cX10_change 7 = .ok (.iload_n 2, 1) := by decide +kernel
theorem dX10_change_8 : decode cX10_change 8 = .ok (.invokevirtual 154, 3) := by decide +kernel
theorem dX10_change_11 : decode cX10_change 11 = .ok (.ifCond .ne 5, 3) := by decide +kernel
theorem dX10_change_14 : decode cX10_change 14 = .ok (.iconst (-1), 1) := by decide +kernel
theorem dX10_change_15 : decode cX10_change 15 = .ok (.ireturn, 1) := by decide +kernel
theorem dX10_change_16 : decode cX10_change 16 = .ok (.aload_n 0, 1) := by decide +kernel
theorem dX10_change_17 : decode cX10_change 17 = .ok (.bipush 80, 2) := by decide +kernel
theorem dX10_change_19 : decode cX10_change 19 = .ok (.iconst 1, 1) := by decide +kernel
theorem dX10_change_20 : decode cX10_change 20 = .ok (.invokevirtual 88, 3) := by decide +kernel
theorem dX10_change_23 : decode cX10_change 23 = .ok (.ifCond .ne 11, 3) := by decide +kernel
theorem dX10_change_26 : decode cX10_change 26 = .ok (.bipush (-2), 2) := by decide +kernel
theorem dX10_change_28 : decode cX10_change 28 = .ok (.aload_n 0, 1) := by decide +kernel
theorem dX10_change_29 : decode cX10_change 29 = .ok (.getfield 69, 3) := by decide +kernel
theorem dX10_change_32 : decode cX10_change 32 = .ok (.isub, 1) := by decide +kernel
theorem dX10_change_33 : decode cX10_change 33 = .ok (.ireturn, 1) := by decide +kernel
theorem dX10_change_34 : decode cX10_change 34 = .ok (.aload_n 0, 1) := by decide +kernel
theorem dX10_change_35 : decode cX10_change 35 = .ok (.invokevirtual 171, 3) := by decide +kernel
theorem dX10_change_38 : decode cX10_change 38 = .ok (.aload_n 0, 1) := by decide +kernel
theorem dX10_change_39 : decode cX10_change 39 = .ok (.iload_n 1, 1) := by decide +kernel
theorem dX10_change_40 : decode cX10_change 40 = .ok (.iload_n 2, 1) := by decide +kernel
theorem dX10_change_41 : decode cX10_change 41 = .ok (.invokevirtual 177, 3) := by decide +kernel
theorem dX10_change_44 : decode cX10_change 44 = .ok (.aload_n 0, 1) := by decide +kernel
theorem dX10_change_45 : decode cX10_change 45 = .ok (.iload_n 1, 1) := by decide +kernel
theorem dX10_change_46 : decode cX10_change 46 = .ok (.iload_n 2, 1) := by decide +kernel
theorem dX10_change_47 : decode cX10_change 47 = .ok (.invokevirtual 99, 3) := by decide +kernel
theorem dX10_change_50 : decode cX10_change 50 = .ok (.ireturn, 1) := by decide +kernel
theorem dX10_cut_0 : decode cX10_cut 0 = .ok (.aload_n 0, 1) := by decide +kernel
theorem dX10_cut_1 : decode cX10_cut 1 = .ok (.iconst 0, 1) := by decide +kernel
theorem dX10_cut_2 : decode cX10_cut 2 = .ok (.putfield 1, 3) := by decide +kernel
theorem dX10_cut_5 : decode cX10_cut 5 = .ok (.aload_n 0, 1) := by decide +kernel
theorem dX10_cut_6 : decode cX10_cut 6 = .ok (.iload_n 1, 1) := by decide +kernel
theorem dX10_cut_7 : decode cX10_cut 7 = .ok (.iload_n 2, 1) := by decide +kernel
theorem dX10_cut_8 : decode cX10_cut 8 = .ok (.invokevirtual 154, 3) := by decide +kernel
theorem dX10_cut_11 : decode cX10_cut 11 = .ok (.ifCond .ne 5, 3) := by decide +kernel
theorem dX10_cut_14 : decode cX10_cut 14 = .ok (.iconst (-1), 1) := by decide +kernel
theorem dX10_cut_15 : decode cX10_cut 15 = .ok (.ireturn, 1) := by decide +kernel
theorem dX10_cut_16 : decode cX10_cut 16 = .ok (.aload_n 0, 1) := by decide +kernel
theorem dX10_cut_17 : decode cX10_cut 17 = .ok (.invokevirtual 171, 3) := by decide +kernel
theorem dX10_cut_20 : decode cX10_cut 20 = .ok (.aload_n 0, 1) := by decide +kernel
theorem dX10_cut_21 : decode cX10_cut 21 = .ok (.iload_n 1, 1) := by decide +kernel
theorem dX10_cut_22 : decode cX10_cut 22 = .ok (.iload_n 2, 1) := by decide +kernel
theorem dX10_cut_23 : decode cX10_cut 23 = .ok (.invokevirtual 180, 3) := by decide +kernel
theorem dX10_cut_26 : decode cX10_cut 26 = .ok (.aload_n 0, 1) := by decide +kernel
theorem dX10_cut_27 : decode cX10_cut 27 = .ok (.iload_n 1, 1) := by decide +kernel
theorem dX10_cut_28 : decode cX10_cut 28 = .ok (.invokevirtual 62, 3) := by decide +kernel
theorem dX10_cut_31 : decode cX10_cut 31 = .ok (.ireturn, 1) := by decide +kernel
theorem dX10_move_0 : decode cX10_move 0 = .ok (.aload_n 0, 1) := by decide +kernel
theorem dX10_move_1 : decode cX10_move 1 = .ok (.iconst 0, 1) := by decide +kernel
theorem dX10_move_2 : decode cX10_move 2 = .ok (.putfield 1, 3) := by decide +kernel
theorem dX10_move_5 : decode cX10_move 5 = .ok (.aload_n 0, 1) := by decide +kernel
theorem dX10_move_6 : decode cX10_move 6 = .ok (.iload_n 1, 1) := by decide +kernel
theorem dX10_move_7 : decode cX10_move 7 = .ok (.iload_n 2, 1) := by decide +kernel
theorem dX10_move_8 : decode cX10_move 8 = .ok (.invokevirtual 154, 3) := by decide +kernel
theorem dX10_move_11 : decode cX10_move 11 = .ok (.ifCond .eq 35, 3) := by decide +kernel
theorem dX10_move_14 : decode cX10_move 14 = .ok (.iload_n 3, 1) := by decide +kernel
theorem dX10_move_15 : decode cX10_move 15 = .ok (.iconst 1, 1) := by decide +kernel
theorem dX10_move_16 : decode cX10_move 16 = .ok (.if_icmp .lt 30, 3) := by decide +kernel
theorem dX10_move_19 : decode cX10_move 19 = .ok (.iload_n 3, 1) := by decide +kernel
theorem dX10_move_20 : decode cX10_move 20 = .ok (.aload_n 0, 1) := by decide +kernel
theorem dX10_move_21 : decode cX10_move 21 = .ok (.iload_n 1, 1) := by decide +kernel
theorem dX10_move_22 : decode cX10_move 22 = .ok (.invokevirtual 62, 3) := by decide +kernel
theorem dX10_move_25 : decode cX10_move 25 = .ok (.iload_n 2, 1) := by decide +kernel
theorem dX10_move_26 : decode cX10_move 26 = .ok (.isub, 1) := by decide +kernel
theorem dX10_move_27 : decode cX10_move 27 = .ok (.if_icmp .gt 19, 3) := by decide +kernel
theorem dX10_move_30 : decode cX10_move 30 = .ok (.iload 4, 2) := by decide +kernel
theorem dX10_move_32 : decode cX10_move 32 = .ok (.iconst 0, 1) := by decide +kernel
theorem dX10_move_33 : decode cX10_move 33 = .ok (.aload_n 0, 1) := by decide +kernel
theorem dX10_move_34 : decode cX10_move 34 = .ok (.iload_n 1, 1) := by decide +kernel
theorem dX10_move_35 : decode cX10_move 35 = .ok (.invokevirtual 62, 3) := by decide +kernel
theorem dX10_move_38 : decode cX10_move 38 = .ok (.iload_n 3, 1) := by decide +kernel
theorem dX10_move_39 : decode cX10_move 39 = .ok (.isub, 1) := by decide +kernel
theorem dX10_move_40 : decode cX10_move 40 = .ok (.invokestatic 54, 3) := by decide +kernel
theorem dX10_move_43 : decode cX10_move 43 = .ok (.ifCond .ne 5, 3) := by decide +kernel
theorem dX10_move_46 : decode cX10_move 46 = .ok (.iconst 0, 1) := by decide +kernel
theorem dX10_move_47 : decode cX10_move 47 = .ok (.ireturn, 1) := by decide +kernel
theorem dX10_move_48 : decode cX10_move 48 = .ok (.aload_n 0, 1) := by decide +kernel
theorem dX10_move_49 : decode cX10_move 49 = .ok (.invokevirtual 171, 3) := by decide +kernel
theorem dX10_move_52 : decode cX10_move 52 = .ok (.bipush 126, 2) := by decide +kernel
theorem dX10_move_54 : decode cX10_move 54 = .ok (.newarray .int, 2) := by decide +kernel
theorem dX10_move_56 : decode cX10_move 56 = .ok (.astore 5, 2) := by decide +kernel
theorem dX10_move_58 : decode cX10_move 58 = .ok (.iconst 0, 1) := by decide +kernel
theorem dX10_move_59 : decode cX10_move 59 = .ok (.istore 6, 2) := by decide +kernel
theorem dX10_move_61 : decode cX10_move 61 = .ok (.iload 6, 2) := by decide +kernel
theorem dX10_move_63 : decode cX10_move 63 = .ok (.bipush 9, 2) := by decide +kernel
theorem dX10_move_65 : decode cX10_move 65 = .ok (.iload_n 3, 1) := by decide +kernel
theorem dX10_move_66 : decode cX10_move 66 = .ok (.imul, 1) := by decide +kernel
theorem dX10_move_67 : decode cX10_move 67 = .ok (.if_icmp .ge 27, 3) := by decide +kernel
theorem dX10_move_70 : decode cX10_move 70 = .ok (.aload 5, 2) := by decide +kernel
theorem dX10_move_72 : decode cX10_move 72 = .ok (.iload 6, 2) := by decide +kernel
theorem dX10_move_74 : decode cX10_move 74 = .ok (.aload_n 0, 1) := by decide +kernel
theorem dX10_move_75 : decode cX10_move 75 = .ok (.getfield 24, 3) := by decide +kernel
theorem dX10_move_78 : decode cX10_move 78 = .ok (.iload_n 1, 1) := by decide +kernel
theorem dX10_move_79 : decode cX10_move 79 = .ok (.iload_n 2, 1) := by decide +kernel
theorem dX10_move_80 : decode cX10_move 80 = .ok (.invokestatic 95, 3) := by decide +kernel
theorem dX10_move_83 : decode cX10_move 83 = .ok (.iload 6, 2) := by decide +kernel
theorem dX10_move_85 : decode cX10_move 85 = .ok (.iadd, 1) := by decide +kernel
theorem dX10_move_86 : decode cX10_move 86 = .ok (.iaload, 1) := by decide +kernel
theorem dX10_move_87 : decode cX10_move 87 = .ok (.iastore, 1) := by decide +kernel
theorem dX10_move_88 : decode cX10_move 88 = .ok (.iinc 6 1, 3) := by decide +kernel
theorem dX10_move_91 : decode cX10_move 91 = .ok (.goto (-30), 3) := by decide +kernel
theorem dX10_move_94 : decode cX10_move 94 = .ok (.iconst 0, 1) := by decide +kernel
theorem dX10_move_95 : decode cX10_move 95 = .ok (.istore 6, 2) := by decide +kernel
theorem dX10_move_97 : decode cX10_move 97 = .ok (.iload 6, 2) := by decide +kernel
theorem dX10_move_99 : decode cX10_move 99 = .ok (.iload_n 3, 1) := by decide +kernel
theorem dX10_move_100 : decode cX10_move 100 = .ok (.if_icmp .ge 15, 3) := by decide +kernel
theorem dX10_move_103 : decode cX10_move 103 = .ok (.aload_n 0, 1) := by decide +kernel
theorem dX10_move_104 : decode cX10_move 104 = .ok (.iload_n 1, 1) := by decide +kernel
theorem dX10_move_105 : decode cX10_move 105 = .ok (.iload_n 2, 1) := by decide +kernel
theorem dX10_move_106 : decode cX10_move 106 = .ok (.invokevirtual 180, 3) := by decide +kernel
theorem dX10_move_109 : decode cX10_move 109 = .ok (.iinc 6 1, 3) := by decide +kernel
theorem dX10_move_112 : decode cX10_move 112 = .ok (.goto (-15), 3) := by decide +kernel
theorem dX10_move_115 : decode cX10_move 115 = .ok (.iconst 0, 1) := by decide +kernel
theorem dX10_move_116 : decode cX10_move 116 = .ok (.istore 6, 2) := by decide +kernel
theorem dX10_move_118 : decode cX10_move 118 = .ok (.iload 6, 2) := by decide +kernel
theorem dX10_move_120 : decode cX10_move 120 = .ok (.iload_n 3, 1) := by decide +kernel
theorem dX10_move_121 : decode cX10_move 121 = .ok (.if_icmp .ge 63, 3) := by decide +kernel
theorem dX10_move_124 : decode cX10_move 124 = .ok (.aload_n 0, 1) := by decide +kernel
theorem dX10_move_125 : decode cX10_move 125 = .ok (.iload_n 1, 1) := by decide +kernel
theorem dX10_move_126 : decode cX10_move 126 = .ok (.iload 4, 2) := by decide +kernel
theorem dX10_move_128 : decode cX10_move 128 = .ok (.iload 6, 2) := by decide +kernel
theorem dX10_move_130 : decode cX10_move 130 = .ok (.iadd, 1) := by decide +kernel
theorem dX10_move_131 : decode cX10_move 131 = .ok (.invokevirtual 174, 3) := by decide +kernel
theorem dX10_move_134 : decode cX10_move 134 = .ok (.iconst 0, 1) := by decide +kernel
theorem dX10_move_135 : decode cX10_move 135 = .ok (.istore 7, 2) := by decide +kernel
theorem dX10_move_137 : decode cX10_move 137 = .ok (.iload 7, 2) := by decide +kernel
theorem dX10_move_139 : decode cX10_move 139 = .ok (.bipush 9, 2) := by decide +kernel
theorem dX10_move_141 : decode cX10_move 141 = .ok (.if_icmp .ge 37, 3) := by decide +kernel
theorem dX10_move_144 : decode cX10_move 144 = .ok (.aload_n 0, 1) := by decide +kernel
theorem dX10_move_145 : decode cX10_move 145 = .ok (.getfield 24, 3) := by decide +kernel
theorem dX10_move_148 : decode cX10_move 148 = .ok (.iload_n 1, 1) := by decide +kernel
theorem dX10_move_149 : decode cX10_move 149 = .ok (.iload 4, 2) := by decide +kernel
theorem dX10_move_151 : decode cX10_move 151 = .ok (.iload 6, 2) := by decide +kernel
theorem dX10_move_153 : decode cX10_move 153 = .ok (.iadd, 1) := by decide +kernel
theorem dX10_move_154 : decode cX10_move 154 = .ok (.invokestatic 95, 3) := by decide +kernel
theorem dX10_move_157 : decode cX10_move 157 = .ok (.iload 7, 2) := by decide +kernel
theorem dX10_move_159 : decode cX10_move 159 = .ok (.iadd, 1) := by decide +kernel
theorem dX10_move_160 : decode cX10_move 160 = .ok (.aload 5, 2) := by decide +kernel
theorem dX10_move_162 : decode cX10_move 162 = .ok (.bipush 9, 2) := by decide +kernel
theorem dX10_move_164 : decode cX10_move 164 = .ok (.iload 6, 2) := by decide +kernel
theorem dX10_move_166 : decode cX10_move 166 = .ok (.imul, 1) := by decide +kernel
theorem dX10_move_167 : decode cX10_move 167 = .ok (.iload 7, 2) := by decide +kernel
theorem dX10_move_169 : decode cX10_move 169 = .ok (.iadd, 1) := by decide +kernel
theorem dX10_move_170 : decode cX10_move 170 = .ok (.iaload, 1) := by decide +kernel
theorem dX10_move_171 : decode cX10_move 171 = .ok (.iastore, 1) := by decide +kernel
theorem dX10_move_172 : decode cX10_move 172 = .ok (.iinc 7 1, 3) := by decide +kernel
theorem dX10_move_175 : decode cX10_move 175 = .ok (.goto (-38), 3) := by decide +kernel
theorem dX10_move_178 : decode cX10_move 178 = .ok (.iinc 6 1, 3) := by decide +kernel
theorem dX10_move_181 : decode cX10_move 181 = .ok (.goto (-63), 3) := by decide +kernel
theorem dX10_move_184 : decode cX10_move 184 = .ok (.iconst 1, 1) := by decide +kernel
theorem dX10_move_185 : decode cX10_move 185 = .ok (.ireturn, 1) := by decide +kernel
theorem dX10_take_0 : decode cX10_take 0 = .ok (.aload_n 0, 1) := by decide +kernel
theorem dX10_take_1 : decode cX10_take 1 = .ok (.iconst 0, 1) := by decide +kernel
theorem dX10_take_2 : decode cX10_take 2 = .ok (.putfield 1, 3) := by decide +kernel
theorem dX10_take_5 : decode cX10_take 5 = .ok (.aload_n 0, 1) := by decide +kernel
theorem dX10_take_6 : decode cX10_take 6 = .ok (.invokevirtual 171, 3) := by decide +kernel
theorem dX10_take_9 : decode cX10_take 9 = .ok (.iconst 0, 1) := by decide +kernel
theorem dX10_take_10 : decode cX10_take 10 = .ok (.istore_n 1, 1) := by decide +kernel
theorem dX10_take_11 : decode cX10_take 11 = .ok (.iload_n 1, 1) := by decide +kernel
theorem dX10_take_12 : decode cX10_take 12 = .ok (.bipush 127, 2) := by decide +kernel
theorem dX10_take_14 : decode cX10_take 14 = .ok (.if_icmp .ge 24, 3) := by decide +kernel
theorem dX10_take_17 : decode cX10_take 17 = .ok (.aload_n 0, 1) := by decide +kernel
theorem dX10_take_18 : decode cX10_take 18 = .ok (.getfield 24, 3) := by decide +kernel
theorem dX10_take_21 : decode cX10_take 21 = .ok (.iload_n 1, 1) := by decide +kernel
theorem dX10_take_22 : decode cX10_take 22 = .ok (.aload_n 0, 1) := by decide +kernel
theorem dX10_take_23 : decode cX10_take 23 = .ok (.getfield 24, 3) := by decide +kernel
theorem dX10_take_26 : decode cX10_take 26 = .ok (.bipush 127, 2) := by decide +kernel
theorem dX10_take_28 : decode cX10_take 28 = .ok (.iload_n 1, 1) := by decide +kernel
theorem dX10_take_29 : decode cX10_take 29 = .ok (.iadd, 1) := by decide +kernel
theorem dX10_take_30 : decode cX10_take 30 = .ok (.iaload, 1) := by decide +kernel
theorem dX10_take_31 : decode cX10_take 31 = .ok (.iastore, 1) := by decide +kernel
theorem dX10_take_32 : decode cX10_take 32 = .ok (.iinc 1 1, 3) := by decide +kernel
theorem dX10_take_35 : decode cX10_take 35 = .ok (.goto (-24), 3) := by decide +kernel
theorem dX10_take_38 : decode cX10_take 38 = .ok (.aload_n 0, 1) := by decide +kernel
theorem dX10_take_39 : decode cX10_take 39 = .ok (.iconst 0, 1) := by decide +kernel
theorem dX10_take_40 : decode cX10_take 40 = .ok (.invokevirtual 62, 3) := by decide +kernel
theorem dX10_take_43 : decode cX10_take 43 = .ok (.ireturn, 1) := by decide +kernel
theorem dX10_undo_0 : decode cX10_undo 0 = .ok (.aload_n 0, 1) := by decide +kernel
theorem dX10_undo_1 : decode cX10_undo 1 = .ok (.iconst 0, 1) := by decide +kernel
theorem dX10_undo_2 : decode cX10_undo 2 = .ok (.putfield 1, 3) := by decide +kernel
theorem dX10_undo_5 : decode cX10_undo 5 = .ok (.aload_n 0, 1) := by decide +kernel
theorem dX10_undo_6 : decode cX10_undo 6 = .ok (.getfield 92, 3) := by decide +kernel
theorem dX10_undo_9 : decode cX10_undo 9 = .ok (.ifCond .ne 5, 3) := by decide +kernel
theorem dX10_undo_12 : decode cX10_undo 12 = .ok (.iconst (-1), 1) := by decide +kernel
theorem dX10_undo_13 : decode cX10_undo 13 = .ok (.ireturn, 1) := by decide +kernel
theorem dX10_undo_14 : decode cX10_undo 14 = .ok (.aload_n 0, 1) := by decide +kernel
theorem dX10_undo_15 : decode cX10_undo 15 = .ok (.dup, 1) := by decide +kernel
theorem dX10_undo_16 : decode cX10_undo 16 = .ok (.getfield 92, 3) := by decide +kernel
theorem dX10_undo_19 : decode cX10_undo 19 = .ok (.iconst 1, 1) := by decide +kernel
theorem dX10_undo_20 : decode cX10_undo 20 = .ok (.isub, 1) := by decide +kernel
theorem dX10_undo_21 : decode cX10_undo 21 = .ok (.putfield 92, 3) := by decide +kernel
theorem dX10_undo_24 : decode cX10_undo 24 = .ok (.iconst 0, 1) := by decide +kernel
theorem dX10_undo_25 : decode cX10_undo 25 = .ok (.istore_n 1, 1) := by decide +kernel
theorem dX10_undo_26 : decode cX10_undo 26 = .ok (.iload_n 1, 1) := by decide +kernel
theorem dX10_undo_27 : decode cX10_undo 27 = .ok (.sipush 254, 3) := by decide +kernel
theorem dX10_undo_30 : decode cX10_undo 30 = .ok (.if_icmp .ge 30, 3) := by decide +kernel
theorem dX10_undo_33 : decode cX10_undo 33 = .ok (.aload_n 0, 1) := by decide +kernel
theorem dX10_undo_34 : decode cX10_undo 34 = .ok (.getfield 24, 3) := by decide +kernel
theorem dX10_undo_37 : decode cX10_undo 37 = .ok (.iload_n 1, 1) := by decide +kernel
theorem dX10_undo_38 : decode cX10_undo 38 = .ok (.aload_n 0, 1) := by decide +kernel
theorem dX10_undo_39 : decode cX10_undo 39 = .ok (.getfield 30, 3) := by decide +kernel
theorem dX10_undo_42 : decode cX10_undo 42 = .ok (.sipush 254, 3) := by decide +kernel
theorem dX10_undo_45 : decode cX10_undo 45 = .ok (.aload_n 0, 1) := by decide +kernel
theorem dX10_undo_46 : decode cX10_undo 46 = .ok (.getfield 92, 3) := by decide +kernel
theorem dX10_undo_49 : decode cX10_undo 49 = .ok (.imul, 1) := by decide +kernel
theorem dX10_undo_50 : decode cX10_undo 50 = .ok (.iload_n 1, 1) := by decide +kernel
theorem dX10_undo_51 : decode cX10_undo 51 = .ok (.iadd, 1) := by decide +kernel
theorem dX10_undo_52 : decode cX10_undo 52 = .ok (.iaload, 1) := by decide +kernel
theorem dX10_undo_53 : decode cX10_undo 53 = .ok (.iastore, 1) := by decide +kernel
theorem dX10_undo_54 : decode cX10_undo 54 = .ok (.iinc 1 1, 3) := by decide +kernel
theorem dX10_undo_57 : decode cX10_undo 57 = .ok (.goto (-31), 3) := by decide +kernel
theorem dX10_undo_60 : decode cX10_undo 60 = .ok (.aload_n 0, 1) := by decide +kernel
theorem dX10_undo_61 : decode cX10_undo 61 = .ok (.getfield 92, 3) := by decide +kernel
theorem dX10_undo_64 : decode cX10_undo 64 = .ok (.ireturn, 1) := by decide +kernel
theorem dL_line_0 : decode cL_line 0 = .ok (.aload 4, 2) := by decide +kernel
theorem dL_line_2 : decode cL_line 2 = .ok (.iconst 0, 1) := by decide +kernel
theorem dL_line_3 : decode cL_line 3 = .ok (.aload_n 0, 1) := by decide +kernel
theorem dL_line_4 : decode cL_line 4 = .ok (.iload_n 1, 1) := by decide +kernel
theorem dL_line_5 : decode cL_line 5 = .ok (.iload_n 2, 1) := by decide +kernel
theorem dL_line_6 : decode cL_line 6 = .ok (.iload_n 3, 1) := by decide +kernel
theorem dL_line_7 : decode cL_line 7 = .ok (.invokevirtual 7, 3) := by decide +kernel
theorem dL_line_10 : decode cL_line 10 = .ok (.i2l, 1) := by decide +kernel
theorem dL_line_11 : decode cL_line 11 = .ok (.lastore, 1) := by decide +kernel
theorem dL_line_12 : decode cL_line 12 = .ok (.goto 7, 3) := by decide +kernel
theorem dL_line_15 : decode cL_line 15 = .ok (.astore 5, 2) := by decide +kernel
theorem dL_line_17 : decode cL_line 17 = .ok (.iconst 1, 1) := by decide +kernel
theorem dL_line_18 : decode cL_line 18 = .ok (.ireturn, 1) := by decide +kernel
theorem dL_line_19 : decode cL_line 19 = .ok (.iconst 0, 1) := by decide +kernel
theorem dL_line_20 : decode cL_line 20 = .ok (.ireturn, 1) := by decide +kernel
theorem dL_law_0 : decode cL_law 0 = .ok (.new 8, 3) := by decide +kernel
theorem dL_law_3 : decode cL_law 3 = .ok (.dup, 1) := by decide +kernel
theorem dL_law_4 : decode cL_law 4 = .ok (.invokespecial 15, 3) := by decide +kernel
theorem dL_law_7 : decode cL_law 7 = .ok (.astore_n 1, 1) := by decide +kernel
theorem dL_law_8 : decode cL_law 8 = .ok (.new 16, 3) := by decide +kernel
theorem dL_law_11 : decode cL_law 11 = .ok (.dup, 1) := by decide +kernel
theorem dL_law_12 : decode cL_law 12 = .ok (.invokespecial 18, 3) := by decide +kernel
theorem dL_law_15 : decode cL_law 15 = .ok (.astore_n 2, 1) := by decide +kernel
theorem dL_law_16 : decode cL_law 16 = .ok (.iconst 1, 1) := by decide +kernel
theorem dL_law_17 : decode cL_law 17 = .ok (.newarray .long, 2) := by decide +kernel
theorem dL_law_19 : decode cL_law 19 = .ok (.astore_n 3, 1) := by decide +kernel
theorem dL_law_20 : decode cL_law 20 = .ok (.iconst 0, 1) := by decide +kernel
theorem dL_law_21 : decode cL_law 21 = .ok (.istore 4, 2) := by decide +kernel
theorem dL_law_23 : decode cL_law 23 = .ok (.iload 4, 2) := by decide +kernel
theorem dL_law_25 : decode cL_law 25 = .ok (.aload_n 0, 1) := by decide +kernel
theorem dL_law_26 : decode cL_law 26 = .ok (.arraylength, 1) := by decide +kernel
theorem dL_law_27 : decode cL_law 27 = .ok (.bipush 6, 2) := by decide +kernel
theorem dL_law_29 : decode cL_law 29 = .ok (.isub, 1) := by decide +kernel
theorem dL_law_30 : decode cL_law 30 = .ok (.if_icmp .gt 835, 3) := by decide +kernel
theorem dL_law_33 : decode cL_law 33 = .ok (.aload_n 0, 1) := by decide +kernel
theorem dL_law_34 : decode cL_law 34 = .ok (.iload 4, 2) := by decide +kernel
theorem dL_law_36 : decode cL_law 36 = .ok (.iaload, 1) := by decide +kernel
theorem dL_law_37 : decode cL_law 37 = .ok (.bipush 31, 2) := by decide +kernel
theorem dL_law_39 : decode cL_law 39 = .ok (.iand, 1) := by decide +kernel
theorem dL_law_40 : decode cL_law 40 = .ok (.tableswitch 819 0 19 #[96, 169, 194, 219, 232, 257, 337, 398, 435, 472, 521, 534, 547, 572, 621, 658, 695, 732, 793, 806], 96) := by decide +kernel
theorem dL_law_136 : decode cL_law 136 = .ok (.aload_n 1, 1) := by decide +kernel
theorem dL_law_137 : decode cL_law 137 = .ok (.aload_n 0, 1) := by decide +kernel
theorem dL_law_138 : decode cL_law 138 = .ok (.iload 4, 2) := by decide +kernel
theorem dL_law_140 : decode cL_law 140 = .ok (.iconst 1, 1) := by decide +kernel
theorem dL_law_141 : decode cL_law 141 = .ok (.iadd, 1) := by decide +kernel
theorem dL_law_142 : decode cL_law 142 = .ok (.iaload, 1) := by decide +kernel
theorem dL_law_143 : decode cL_law 143 = .ok (.aload_n 0, 1) := by decide +kernel
theorem dL_law_144 : decode cL_law 144 = .ok (.iload 4, 2) := by decide +kernel
theorem dL_law_146 : decode cL_law 146 = .ok (.iconst 2, 1) := by decide +kernel
theorem dL_law_147 : decode cL_law 147 = .ok (.iadd, 1) := by decide +kernel
theorem dL_law_148 : decode cL_law 148 = .ok (.iaload, 1) := by decide +kernel
theorem dL_law_149 : decode cL_law 149 = .ok (.aload_n 0, 1) := by decide +kernel
theorem dL_law_150 : decode cL_law 150 = .ok (.iload 4, 2) := by decide +kernel
theorem dL_law_152 : decode cL_law 152 = .ok (.iconst 3, 1) := by decide +kernel
theorem dL_law_153 : decode cL_law 153 = .ok (.iadd, 1) := by decide +kernel
theorem dL_law_154 : decode cL_law 154 = .ok (.iaload, 1) := by decide +kernel
theorem dL_law_155 : decode cL_law 155 = .ok (.aload_n 0, 1) := by decide +kernel
theorem dL_law_156 : decode cL_law 156 = .ok (.iload 4, 2) := by decide +kernel
theorem dL_law_158 : decode cL_law 158 = .ok (.iconst 4, 1) := by decide +kernel
theorem dL_law_159 : decode cL_law 159 = .ok (.iadd, 1) := by decide +kernel
theorem dL_law_160 : decode cL_law 160 = .ok (.iaload, 1) := by decide +kernel
theorem dL_law_161 : decode cL_law 161 = .ok (.aload_n 0, 1) := by decide +kernel
theorem dL_law_162 : decode cL_law 162 = .ok (.iload 4, 2) := by decide +kernel
theorem dL_law_164 : decode cL_law 164 = .ok (.iconst 5, 1) := by decide +kernel
theorem dL_law_165 : decode cL_law 165 = .ok (.iadd, 1) := by decide +kernel
theorem dL_law_166 : decode cL_law 166 = .ok (.iaload, 1) := by decide +kernel
theorem dL_law_167 : decode cL_law 167 = .ok (.invokevirtual 19, 3) := by decide +kernel
theorem dL_law_170 : decode cL_law 170 = .ok (.aload_n 2, 1) := by decide +kernel
theorem dL_law_171 : decode cL_law 171 = .ok (.aload_n 0, 1) := by decide +kernel
theorem dL_law_172 : decode cL_law 172 = .ok (.iload 4, 2) := by decide +kernel
theorem dL_law_174 : decode cL_law 174 = .ok (.iconst 1, 1) := by decide +kernel
theorem dL_law_175 : decode cL_law 175 = .ok (.iadd, 1) := by decide +kernel
theorem dL_law_176 : decode cL_law 176 = .ok (.iaload, 1) := by decide +kernel
theorem dL_law_177 : decode cL_law 177 = .ok (.aload_n 0, 1) := by decide +kernel
theorem dL_law_178 : decode cL_law 178 = .ok (.iload 4, 2) := by decide +kernel
theorem dL_law_180 : decode cL_law 180 = .ok (.iconst 2, 1) := by decide +kernel
theorem dL_law_181 : decode cL_law 181 = .ok (.iadd, 1) := by decide +kernel
theorem dL_law_182 : decode cL_law 182 = .ok (.iaload, 1) := by decide +kernel
theorem dL_law_183 : decode cL_law 183 = .ok (.aload_n 0, 1) := by decide +kernel
theorem dL_law_184 : decode cL_law 184 = .ok (.iload 4, 2) := by decide +kernel
theorem dL_law_186 : decode cL_law 186 = .ok (.iconst 3, 1) := by decide +kernel
theorem dL_law_187 : decode cL_law 187 = .ok (.iadd, 1) := by decide +kernel
theorem dL_law_188 : decode cL_law 188 = .ok (.iaload, 1) := by decide +kernel
theorem dL_law_189 : decode cL_law 189 = .ok (.aload_n 0, 1) := by decide +kernel
theorem dL_law_190 : decode cL_law 190 = .ok (.iload 4, 2) := by decide +kernel
theorem dL_law_192 : decode cL_law 192 = .ok (.iconst 4, 1) := by decide +kernel
theorem dL_law_193 : decode cL_law 193 = .ok (.iadd, 1) := by decide +kernel
theorem dL_law_194 : decode cL_law 194 = .ok (.iaload, 1) := by decide +kernel
theorem dL_law_195 : decode cL_law 195 = .ok (.aload_n 0, 1) := by decide +kernel
theorem dL_law_196 : decode cL_law 196 = .ok (.iload 4, 2) := by decide +kernel
theorem dL_law_198 : decode cL_law 198 = .ok (.iconst 5, 1) := by decide +kernel
theorem dL_law_199 : decode cL_law 199 = .ok (.iadd, 1) := by decide +kernel
theorem dL_law_200 : decode cL_law 200 = .ok (.iaload, 1) := by decide +kernel
theorem dL_law_201 : decode cL_law 201 = .ok (.invokevirtual 23, 3) := by decide +kernel
theorem dL_law_204 : decode cL_law 204 = .ok (.if_icmp .eq 655, 3) := by decide +kernel
theorem dL_law_207 : decode cL_law 207 = .ok (.iconst 0, 1) := by decide +kernel
theorem dL_law_208 : decode cL_law 208 = .ok (.ireturn, 1) := by decide +kernel
theorem dL_law_209 : decode cL_law 209 = .ok (.aload_n 1, 1) := by decide +kernel
theorem dL_law_210 : decode cL_law 210 = .ok (.aload_n 0, 1) := by decide +kernel
theorem dL_law_211 : decode cL_law 211 = .ok (.iload 4, 2) := by decide +kernel
theorem dL_law_213 : decode cL_law 213 = .ok (.iconst 1, 1) := by decide +kernel
theorem dL_law_214 : decode cL_law 214 = .ok (.iadd, 1) := by decide +kernel
theorem dL_law_215 : decode cL_law 215 = .ok (.iaload, 1) := by decide +kernel
theorem dL_law_216 : decode cL_law 216 = .ok (.invokevirtual 24, 3) := by decide +kernel
theorem dL_law_219 : decode cL_law 219 = .ok (.aload_n 2, 1) := by decide +kernel
theorem dL_law_220 : decode cL_law 220 = .ok (.aload_n 0, 1) := by decide +kernel
theorem dL_law_221 : decode cL_law 221 = .ok (.iload 4, 2) := by decide +kernel
theorem dL_law_223 : decode cL_law 223 = .ok (.iconst 1, 1) := by decide +kernel
theorem dL_law_224 : decode cL_law 224 = .ok (.iadd, 1) := by decide +kernel
theorem dL_law_225 : decode cL_law 225 = .ok (.iaload, 1) := by decide +kernel
theorem dL_law_226 : decode cL_law 226 = .ok (.invokevirtual 28, 3) := by decide +kernel
theorem dL_law_229 : decode cL_law 229 = .ok (.if_icmp .eq 630, 3) := by decide +kernel
theorem dL_law_232 : decode cL_law 232 = .ok (.iconst 0, 1) := by decide +kernel
theorem dL_law_233 : decode cL_law 233 = .ok (.ireturn, 1) := by decide +kernel
theorem dL_law_234 : decode cL_law 234 = .ok (.aload_n 1, 1) := by decide +kernel
theorem dL_law_235 : decode cL_law 235 = .ok (.aload_n 0, 1) := by decide +kernel
theorem dL_law_236 : decode cL_law 236 = .ok (.iload 4, 2) := by decide +kernel
theorem dL_law_238 : decode cL_law 238 = .ok (.iconst 1, 1) := by decide +kernel
theorem dL_law_239 : decode cL_law 239 = .ok (.iadd, 1) := by decide +kernel
theorem dL_law_240 : decode cL_law 240 = .ok (.iaload, 1) := by decide +kernel
theorem dL_law_241 : decode cL_law 241 = .ok (.invokevirtual 29, 3) := by decide +kernel
theorem dL_law_244 : decode cL_law 244 = .ok (.aload_n 2, 1) := by decide +kernel
theorem dL_law_245 : decode cL_law 245 = .ok (.aload_n 0, 1) := by decide +kernel
theorem dL_law_246 : decode cL_law 246 = .ok (.iload 4, 2) := by decide +kernel
theorem dL_law_248 : decode cL_law 248 = .ok (.iconst 1, 1) := by decide +kernel
theorem dL_law_249 : decode cL_law 249 = .ok (.iadd, 1) := by decide +kernel
theorem dL_law_250 : decode cL_law 250 = .ok (.iaload, 1) := by decide +kernel
theorem dL_law_251 : decode cL_law 251 = .ok (.invokevirtual 33, 3) := by decide +kernel
theorem dL_law_254 : decode cL_law 254 = .ok (.if_icmp .eq 605, 3) := by decide +kernel
theorem dL_law_257 : decode cL_law 257 = .ok (.iconst 0, 1) := by decide +kernel
theorem dL_law_258 : decode cL_law 258 = .ok (.ireturn, 1) := by decide +kernel
theorem dL_law_259 : decode cL_law 259 = .ok (.aload_n 1, 1) := by decide +kernel
theorem dL_law_260 : decode cL_law 260 = .ok (.invokevirtual 34, 3) := by decide +kernel
theorem dL_law_263 : decode cL_law 263 = .ok (.aload_n 2, 1) := by decide +kernel
theorem dL_law_264 : decode cL_law 264 = .ok (.invokevirtual 38, 3) := by decide +kernel
theorem dL_law_267 : decode cL_law 267 = .ok (.if_icmp .eq 592, 3) := by decide +kernel
theorem dL_law_270 : decode cL_law 270 = .ok (.iconst 0, 1) := by decide +kernel
theorem dL_law_271 : decode cL_law 271 = .ok (.ireturn, 1) := by decide +kernel
theorem dL_law_272 : decode cL_law 272 = .ok (.aload_n 1, 1) := by decide +kernel
theorem dL_law_273 : decode cL_law 273 = .ok (.aload_n 0, 1) := by decide +kernel
theorem dL_law_274 : decode cL_law 274 = .ok (.iload 4, 2) := by decide +kernel
theorem dL_law_276 : decode cL_law 276 = .ok (.iconst 1, 1) := by decide +kernel
theorem dL_law_277 : decode cL_law 277 = .ok (.iadd, 1) := by decide +kernel
theorem dL_law_278 : decode cL_law 278 = .ok (.iaload, 1) := by decide +kernel
theorem dL_law_279 : decode cL_law 279 = .ok (.invokevirtual 39, 3) := by decide +kernel
theorem dL_law_282 : decode cL_law 282 = .ok (.aload_n 2, 1) := by decide +kernel
theorem dL_law_283 : decode cL_law 283 = .ok (.aload_n 0, 1) := by decide +kernel
theorem dL_law_284 : decode cL_law 284 = .ok (.iload 4, 2) := by decide +kernel
theorem dL_law_286 : decode cL_law 286 = .ok (.iconst 1, 1) := by decide +kernel
theorem dL_law_287 : decode cL_law 287 = .ok (.iadd, 1) := by decide +kernel
theorem dL_law_288 : decode cL_law 288 = .ok (.iaload, 1) := by decide +kernel
theorem dL_law_289 : decode cL_law 289 = .ok (.invokevirtual 42, 3) := by decide +kernel
theorem dL_law_292 : decode cL_law 292 = .ok (.if_icmp .eq 567, 3) := by decide +kernel
theorem dL_law_295 : decode cL_law 295 = .ok (.iconst 0, 1) := by decide +kernel
theorem dL_law_296 : decode cL_law 296 = .ok (.ireturn, 1) := by decide +kernel
theorem dL_law_297 : decode cL_law 297 = .ok (.aload_n 1, 1) := by decide +kernel
theorem dL_law_298 : decode cL_law 298 = .ok (.aload_n 0, 1) := by decide +kernel
theorem dL_law_299 : decode cL_law 299 = .ok (.iload 4, 2) := by decide +kernel
theorem dL_law_301 : decode cL_law 301 = .ok (.iconst 1, 1) := by decide +kernel
theorem dL_law_302 : decode cL_law 302 = .ok (.iadd, 1) := by decide +kernel
theorem dL_law_303 : decode cL_law 303 = .ok (.iaload, 1) := by decide +kernel
theorem dL_law_304 : decode cL_law 304 = .ok (.aload_n 0, 1) := by decide +kernel
theorem dL_law_305 : decode cL_law 305 = .ok (.iload 4, 2) := by decide +kernel
theorem dL_law_307 : decode cL_law 307 = .ok (.iconst 2, 1) := by decide +kernel
theorem dL_law_308 : decode cL_law 308 = .ok (.iadd, 1) := by decide +kernel
theorem dL_law_309 : decode cL_law 309 = .ok (.iaload, 1) := by decide +kernel
theorem dL_law_310 : decode cL_law 310 = .ok (.aload_n 0, 1) := by decide +kernel
theorem dL_law_311 : decode cL_law 311 = .ok (.iload 4, 2) := by decide +kernel
theorem dL_law_313 : decode cL_law 313 = .ok (.iconst 3, 1) := by decide +kernel
theorem dL_law_314 : decode cL_law 314 = .ok (.iadd, 1) := by decide +kernel
theorem dL_law_315 : decode cL_law 315 = .ok (.iaload, 1) := by decide +kernel
theorem dL_law_316 : decode cL_law 316 = .ok (.aload_n 3, 1) := by decide +kernel
theorem dL_law_317 : decode cL_law 317 = .ok (.invokestatic 43, 3) := by decide +kernel
theorem dL_law_320 : decode cL_law 320 = .ok (.istore 5, 2) := by decide +kernel
theorem dL_law_322 : decode cL_law 322 = .ok (.aload_n 2, 1) := by decide +kernel
theorem dL_law_323 : decode cL_law 323 = .ok (.aload_n 0, 1) := by decide +kernel
theorem dL_law_324 : decode cL_law 324 = .ok (.iload 4, 2) := by decide +kernel
theorem dL_law_326 : decode cL_law 326 = .ok (.iconst 1, 1) := by decide +kernel
theorem dL_law_327 : decode cL_law 327 = .ok (.iadd, 1) := by decide +kernel
theorem dL_law_328 : decode cL_law 328 = .ok (.iaload, 1) := by decide +kernel
theorem dL_law_329 : decode cL_law 329 = .ok (.aload_n 0, 1) := by decide +kernel
theorem dL_law_330 : decode cL_law 330 = .ok (.iload 4, 2) := by decide +kernel
theorem dL_law_332 : decode cL_law 332 = .ok (.iconst 2, 1) := by decide +kernel
theorem dL_law_333 : decode cL_law 333 = .ok (.iadd, 1) := by decide +kernel
theorem dL_law_334 : decode cL_law 334 = .ok (.iaload, 1) := by decide +kernel
theorem dL_law_335 : decode cL_law 335 = .ok (.aload_n 0, 1) := by decide +kernel
theorem dL_law_336 : decode cL_law 336 = .ok (.iload 4, 2) := by decide +kernel
theorem dL_law_338 : decode cL_law 338 = .ok (.iconst 3, 1) := by decide +kernel
theorem dL_law_339 : decode cL_law 339 = .ok (.iadd, 1) := by decide +kernel
theorem dL_law_340 : decode cL_law 340 = .ok (.iaload, 1) := by decide +kernel
theorem dL_law_341 : decode cL_law 341 = .ok (.invokevirtual 48, 3) := by decide +kernel
theorem dL_law_344 : decode cL_law 344 = .ok (.istore 6, 2) := by decide +kernel
theorem dL_law_346 : decode cL_law 346 = .ok (.aload_n 2, 1) := by decide +kernel
theorem dL_law_347 : decode cL_law 347 = .ok (.invokevirtual 49, 3) := by decide +kernel
theorem dL_law_350 : decode cL_law 350 = .ok (.iload 5, 2) := by decide +kernel
theorem dL_law_352 : decode cL_law 352 = .ok (.if_icmp .eq 5, 3) := by decide +kernel
theorem dL_law_355 : decode cL_law 355 = .ok (.iconst 0, 1) := by decide +kernel
theorem dL_law_356 : decode cL_law 356 = .ok (.ireturn, 1) := by decide +kernel
theorem dL_law_357 : decode cL_law 357 = .ok (.iload 5, 2) := by decide +kernel
theorem dL_law_359 : decode cL_law 359 = .ok (.ifCond .ne 15, 3) := by decide +kernel
theorem dL_law_362 : decode cL_law 362 = .ok (.aload_n 3, 1) := by decide +kernel
theorem dL_law_363 : decode cL_law 363 = .ok (.iconst 0, 1) := by decide +kernel
theorem dL_law_364 : decode cL_law 364 = .ok (.laload, 1) := by decide +kernel
theorem dL_law_365 : decode cL_law 365 = .ok (.iload 6, 2) := by decide +kernel
theorem dL_law_367 : decode cL_law 367 = .ok (.i2l, 1) := by decide +kernel
theorem dL_law_368 : decode cL_law 368 = .ok (.lcmp, 1) := by decide +kernel
theorem dL_law_369 : decode cL_law 369 = .ok (.ifCond .eq 5, 3) := by decide +kernel
theorem dL_law_372 : decode cL_law 372 = .ok (.iconst 0, 1) := by decide +kernel
theorem dL_law_373 : decode cL_law 373 = .ok (.ireturn, 1) := by decide +kernel
theorem dL_law_374 : decode cL_law 374 = .ok (.goto 485, 3) := by decide +kernel
theorem dL_law_377 : decode cL_law 377 = .ok (.aload_n 1, 1) := by decide +kernel
theorem dL_law_378 : decode cL_law 378 = .ok (.aload_n 0, 1) := by decide +kernel
theorem dL_law_379 : decode cL_law 379 = .ok (.iload 4, 2) := by decide +kernel
theorem dL_law_381 : decode cL_law 381 = .ok (.iconst 1, 1) := by decide +kernel
theorem dL_law_382 : decode cL_law 382 = .ok (.iadd, 1) := by decide +kernel
theorem dL_law_383 : decode cL_law 383 = .ok (.iaload, 1) := by decide +kernel
theorem dL_law_384 : decode cL_law 384 = .ok (.aload_n 0, 1) := by decide +kernel
theorem dL_law_385 : decode cL_law 385 = .ok (.iload 4, 2) := by decide +kernel
theorem dL_law_387 : decode cL_law 387 = .ok (.iconst 2, 1) := by decide +kernel
theorem dL_law_388 : decode cL_law 388 = .ok (.iadd, 1) := by decide +kernel
theorem dL_law_389 : decode cL_law 389 = .ok (.iaload, 1) := by decide +kernel
theorem dL_law_390 : decode cL_law 390 = .ok (.aload_n 0, 1) := by decide +kernel
theorem dL_law_391 : decode cL_law 391 = .ok (.iload 4, 2) := by decide +kernel
theorem dL_law_393 : decode cL_law 393 = .ok (.iconst 3, 1) := by decide +kernel
theorem dL_law_394 : decode cL_law 394 = .ok (.iadd, 1) := by decide +kernel
theorem dL_law_395 : decode cL_law 395 = .ok (.iaload, 1) := by decide +kernel
theorem dL_law_396 : decode cL_law 396 = .ok (.aload_n 0, 1) := by decide +kernel
theorem dL_law_397 : decode cL_law 397 = .ok (.iload 4, 2) := by decide +kernel
theorem dL_law_399 : decode cL_law 399 = .ok (.iconst 4, 1) := by decide +kernel
theorem dL_law_400 : decode cL_law 400 = .ok (.iadd, 1) := by decide +kernel
theorem dL_law_401 : decode cL_law 401 = .ok (.iaload, 1) := by decide +kernel
theorem dL_law_402 : decode cL_law 402 = .ok (.invokevirtual 52, 3) := by decide +kernel
theorem dL_law_405 : decode cL_law 405 = .ok (.aload_n 2, 1) := by decide +kernel
theorem dL_law_406 : decode cL_law 406 = .ok (.aload_n 0, 1) := by decide +kernel
theorem dL_law_407 : decode cL_law 407 = .ok (.iload 4, 2) := by decide +kernel
theorem dL_law_409 : decode cL_law 409 = .ok (.iconst 1, 1) := by decide +kernel
theorem dL_law_410 : decode cL_law 410 = .ok (.iadd, 1) := by decide +kernel
theorem dL_law_411 : decode cL_law 411 = .ok (.iaload, 1) := by decide +kernel
theorem dL_law_412 : decode cL_law 412 = .ok (.aload_n 0, 1) := by decide +kernel
theorem dL_law_413 : decode cL_law 413 = .ok (.iload 4, 2) := by decide +kernel
theorem dL_law_415 : decode cL_law 415 = .ok (.iconst 2, 1) := by decide +kernel
theorem dL_law_416 : decode cL_law 416 = .ok (.iadd, 1) := by decide +kernel
theorem dL_law_417 : decode cL_law 417 = .ok (.iaload, 1) := by decide +kernel
theorem dL_law_418 : decode cL_law 418 = .ok (.aload_n 0, 1) := by decide +kernel
theorem dL_law_419 : decode cL_law 419 = .ok (.iload 4, 2) := by decide +kernel
theorem dL_law_421 : decode cL_law 421 = .ok (.iconst 3, 1) := by decide +kernel
theorem dL_law_422 : decode cL_law 422 = .ok (.iadd, 1) := by decide +kernel
theorem dL_law_423 : decode cL_law 423 = .ok (.iaload, 1) := by decide +kernel
theorem dL_law_424 : decode cL_law 424 = .ok (.aload_n 0, 1) := by decide +kernel
theorem dL_law_425 : decode cL_law 425 = .ok (.iload 4, 2) := by decide +kernel
theorem dL_law_427 : decode cL_law 427 = .ok (.iconst 4, 1) := by decide +kernel
theorem dL_law_428 : decode cL_law 428 = .ok (.iadd, 1) := by decide +kernel
theorem dL_law_429 : decode cL_law 429 = .ok (.iaload, 1) := by decide +kernel
theorem dL_law_430 : decode cL_law 430 = .ok (.invokevirtual 56, 3) := by decide +kernel
theorem dL_law_433 : decode cL_law 433 = .ok (.if_icmp .eq 426, 3) := by decide +kernel
theorem dL_law_436 : decode cL_law 436 = .ok (.iconst 0, 1) := by decide +kernel
theorem dL_law_437 : decode cL_law 437 = .ok (.ireturn, 1) := by decide +kernel
theorem dL_law_438 : decode cL_law 438 = .ok (.aload_n 1, 1) := by decide +kernel
theorem dL_law_439 : decode cL_law 439 = .ok (.aload_n 0, 1) := by decide +kernel
theorem dL_law_440 : decode cL_law 440 = .ok (.iload 4, 2) := by decide +kernel
theorem dL_law_442 : decode cL_law 442 = .ok (.iconst 1, 1) := by decide +kernel
theorem dL_law_443 : decode cL_law 443 = .ok (.iadd, 1) := by decide +kernel
theorem dL_law_444 : decode cL_law 444 = .ok (.iaload, 1) := by decide +kernel
theorem dL_law_445 : decode cL_law 445 = .ok (.aload_n 0, 1) := by decide +kernel
theorem dL_law_446 : decode cL_law 446 = .ok (.iload 4, 2) := by decide +kernel
theorem dL_law_448 : decode cL_law 448 = .ok (.iconst 2, 1) := by decide +kernel
theorem dL_law_449 : decode cL_law 449 = .ok (.iadd, 1) := by decide +kernel
theorem dL_law_450 : decode cL_law 450 = .ok (.iaload, 1) := by decide +kernel
theorem dL_law_451 : decode cL_law 451 = .ok (.invokevirtual 57, 3) := by decide +kernel
theorem dL_law_454 : decode cL_law 454 = .ok (.aload_n 2, 1) := by decide +kernel
theorem dL_law_455 : decode cL_law 455 = .ok (.aload_n 0, 1) := by decide +kernel
theorem dL_law_456 : decode cL_law 456 = .ok (.iload 4, 2) := by decide +kernel
theorem dL_law_458 : decode cL_law 458 = .ok (.iconst 1, 1) := by decide +kernel
theorem dL_law_459 : decode cL_law 459 = .ok (.iadd, 1) := by decide +kernel
theorem dL_law_460 : decode cL_law 460 = .ok (.iaload, 1) := by decide +kernel
theorem dL_law_461 : decode cL_law 461 = .ok (.aload_n 0, 1) := by decide +kernel
theorem dL_law_462 : decode cL_law 462 = .ok (.iload 4, 2) := by decide +kernel
theorem dL_law_464 : decode cL_law 464 = .ok (.iconst 2, 1) := by decide +kernel
theorem dL_law_465 : decode cL_law 465 = .ok (.iadd, 1) := by decide +kernel
theorem dL_law_466 : decode cL_law 466 = .ok (.iaload, 1) := by decide +kernel
theorem dL_law_467 : decode cL_law 467 = .ok (.invokevirtual 61, 3) := by decide +kernel
theorem dL_law_470 : decode cL_law 470 = .ok (.if_icmp .eq 389, 3) := by decide +kernel
theorem dL_law_473 : decode cL_law 473 = .ok (.iconst 0, 1) := by decide +kernel
theorem dL_law_474 : decode cL_law 474 = .ok (.ireturn, 1) := by decide +kernel
theorem dL_law_475 : decode cL_law 475 = .ok (.aload_n 1, 1) := by decide +kernel
theorem dL_law_476 : decode cL_law 476 = .ok (.aload_n 0, 1) := by decide +kernel
theorem dL_law_477 : decode cL_law 477 = .ok (.iload 4, 2) := by decide +kernel
theorem dL_law_479 : decode cL_law 479 = .ok (.iconst 1, 1) := by decide +kernel
theorem dL_law_480 : decode cL_law 480 = .ok (.iadd, 1) := by decide +kernel
theorem dL_law_481 : decode cL_law 481 = .ok (.iaload, 1) := by decide +kernel
theorem dL_law_482 : decode cL_law 482 = .ok (.aload_n 0, 1) := by decide +kernel
theorem dL_law_483 : decode cL_law 483 = .ok (.iload 4, 2) := by decide +kernel
theorem dL_law_485 : decode cL_law 485 = .ok (.iconst 2, 1) := by decide +kernel
theorem dL_law_486 : decode cL_law 486 = .ok (.iadd, 1) := by decide +kernel
theorem dL_law_487 : decode cL_law 487 = .ok (.iaload, 1) := by decide +kernel
theorem dL_law_488 : decode cL_law 488 = .ok (.invokevirtual 62, 3) := by decide +kernel
theorem dL_law_491 : decode cL_law 491 = .ok (.aload_n 2, 1) := by decide +kernel
theorem dL_law_492 : decode cL_law 492 = .ok (.aload_n 0, 1) := by decide +kernel
theorem dL_law_493 : decode cL_law 493 = .ok (.iload 4, 2) := by decide +kernel
theorem dL_law_495 : decode cL_law 495 = .ok (.iconst 1, 1) := by decide +kernel
theorem dL_law_496 : decode cL_law 496 = .ok (.iadd, 1) := by decide +kernel
theorem dL_law_497 : decode cL_law 497 = .ok (.iaload, 1) := by decide +kernel
theorem dL_law_498 : decode cL_law 498 = .ok (.aload_n 0, 1) := by decide +kernel
theorem dL_law_499 : decode cL_law 499 = .ok (.iload 4, 2) := by decide +kernel
theorem dL_law_501 : decode cL_law 501 = .ok (.iconst 2, 1) := by decide +kernel
theorem dL_law_502 : decode cL_law 502 = .ok (.iadd, 1) := by decide +kernel
theorem dL_law_503 : decode cL_law 503 = .ok (.iaload, 1) := by decide +kernel
theorem dL_law_504 : decode cL_law 504 = .ok (.invokevirtual 65, 3) := by decide +kernel
theorem dL_law_507 : decode cL_law 507 = .ok (.if_icmp .eq 352, 3) := by decide +kernel
theorem dL_law_510 : decode cL_law 510 = .ok (.iconst 0, 1) := by decide +kernel
theorem dL_law_511 : decode cL_law 511 = .ok (.ireturn, 1) := by decide +kernel
theorem dL_law_512 : decode cL_law 512 = .ok (.aload_n 1, 1) := by decide +kernel
theorem dL_law_513 : decode cL_law 513 = .ok (.aload_n 0, 1) := by decide +kernel
theorem dL_law_514 : decode cL_law 514 = .ok (.iload 4, 2) := by decide +kernel
theorem dL_law_516 : decode cL_law 516 = .ok (.iconst 1, 1) := by decide +kernel
theorem dL_law_517 : decode cL_law 517 = .ok (.iadd, 1) := by decide +kernel
theorem dL_law_518 : decode cL_law 518 = .ok (.iaload, 1) := by decide +kernel
theorem dL_law_519 : decode cL_law 519 = .ok (.aload_n 0, 1) := by decide +kernel
theorem dL_law_520 : decode cL_law 520 = .ok (.iload 4, 2) := by decide +kernel
theorem dL_law_522 : decode cL_law 522 = .ok (.iconst 2, 1) := by decide +kernel
theorem dL_law_523 : decode cL_law 523 = .ok (.iadd, 1) := by decide +kernel
theorem dL_law_524 : decode cL_law 524 = .ok (.iaload, 1) := by decide +kernel
theorem dL_law_525 : decode cL_law 525 = .ok (.aload_n 0, 1) := by decide +kernel
theorem dL_law_526 : decode cL_law 526 = .ok (.iload 4, 2) := by decide +kernel
theorem dL_law_528 : decode cL_law 528 = .ok (.iconst 3, 1) := by decide +kernel
theorem dL_law_529 : decode cL_law 529 = .ok (.iadd, 1) := by decide +kernel
theorem dL_law_530 : decode cL_law 530 = .ok (.iaload, 1) := by decide +kernel
theorem dL_law_531 : decode cL_law 531 = .ok (.invokevirtual 66, 3) := by decide +kernel
theorem dL_law_534 : decode cL_law 534 = .ok (.aload_n 2, 1) := by decide +kernel
theorem dL_law_535 : decode cL_law 535 = .ok (.aload_n 0, 1) := by decide +kernel
theorem dL_law_536 : decode cL_law 536 = .ok (.iload 4, 2) := by decide +kernel
theorem dL_law_538 : decode cL_law 538 = .ok (.iconst 1, 1) := by decide +kernel
theorem dL_law_539 : decode cL_law 539 = .ok (.iadd, 1) := by decide +kernel
theorem dL_law_540 : decode cL_law 540 = .ok (.iaload, 1) := by decide +kernel
theorem dL_law_541 : decode cL_law 541 = .ok (.aload_n 0, 1) := by decide +kernel
theorem dL_law_542 : decode cL_law 542 = .ok (.iload 4, 2) := by decide +kernel
theorem dL_law_544 : decode cL_law 544 = .ok (.iconst 2, 1) := by decide +kernel
theorem dL_law_545 : decode cL_law 545 = .ok (.iadd, 1) := by decide +kernel
theorem dL_law_546 : decode cL_law 546 = .ok (.iaload, 1) := by decide +kernel
theorem dL_law_547 : decode cL_law 547 = .ok (.aload_n 0, 1) := by decide +kernel
theorem dL_law_548 : decode cL_law 548 = .ok (.iload 4, 2) := by decide +kernel
theorem dL_law_550 : decode cL_law 550 = .ok (.iconst 3, 1) := by decide +kernel
theorem dL_law_551 : decode cL_law 551 = .ok (.iadd, 1) := by decide +kernel
theorem dL_law_552 : decode cL_law 552 = .ok (.iaload, 1) := by decide +kernel
theorem dL_law_553 : decode cL_law 553 = .ok (.invokevirtual 69, 3) := by decide +kernel
theorem dL_law_556 : decode cL_law 556 = .ok (.if_icmp .eq 303, 3) := by decide +kernel
theorem dL_law_559 : decode cL_law 559 = .ok (.iconst 0, 1) := by decide +kernel
theorem dL_law_560 : decode cL_law 560 = .ok (.ireturn, 1) := by decide +kernel
theorem dL_law_561 : decode cL_law 561 = .ok (.aload_n 1, 1) := by decide +kernel
theorem dL_law_562 : decode cL_law 562 = .ok (.invokevirtual 70, 3) := by decide +kernel
theorem dL_law_565 : decode cL_law 565 = .ok (.aload_n 2, 1) := by decide +kernel
theorem dL_law_566 : decode cL_law 566 = .ok (.invokevirtual 73, 3) := by decide +kernel
theorem dL_law_569 : decode cL_law 569 = .ok (.if_icmp .eq 290, 3) := by decide +kernel
theorem dL_law_572 : decode cL_law 572 = .ok (.iconst 0, 1) := by decide +kernel
theorem dL_law_573 : decode cL_law 573 = .ok (.ireturn, 1) := by decide +kernel
theorem dL_law_574 : decode cL_law 574 = .ok (.aload_n 1, 1) := by decide +kernel
theorem dL_law_575 : decode cL_law 575 = .ok (.invokevirtual 74, 3) := by decide +kernel
theorem dL_law_578 : decode cL_law 578 = .ok (.aload_n 2, 1) := by decide +kernel
theorem dL_law_579 : decode cL_law 579 = .ok (.invokevirtual 77, 3) := by decide +kernel
theorem dL_law_582 : decode cL_law 582 = .ok (.if_icmp .eq 277, 3) := by decide +kernel
theorem dL_law_585 : decode cL_law 585 = .ok (.iconst 0, 1) := by decide +kernel
theorem dL_law_586 : decode cL_law 586 = .ok (.ireturn, 1) := by decide +kernel
theorem dL_law_587 : decode cL_law 587 = .ok (.aload_n 1, 1) := by decide +kernel
theorem dL_law_588 : decode cL_law 588 = .ok (.aload_n 0, 1) := by decide +kernel
theorem dL_law_589 : decode cL_law 589 = .ok (.iload 4, 2) := by decide +kernel
theorem dL_law_591 : decode cL_law 591 = .ok (.iconst 1, 1) := by decide +kernel
theorem dL_law_592 : decode cL_law 592 = .ok (.iadd, 1) := by decide +kernel
theorem dL_law_593 : decode cL_law 593 = .ok (.iaload, 1) := by decide +kernel
theorem dL_law_594 : decode cL_law 594 = .ok (.invokevirtual 78, 3) := by decide +kernel
theorem dL_law_597 : decode cL_law 597 = .ok (.aload_n 2, 1) := by decide +kernel
theorem dL_law_598 : decode cL_law 598 = .ok (.aload_n 0, 1) := by decide +kernel
theorem dL_law_599 : decode cL_law 599 = .ok (.iload 4, 2) := by decide +kernel
theorem dL_law_601 : decode cL_law 601 = .ok (.iconst 1, 1) := by decide +kernel
theorem dL_law_602 : decode cL_law 602 = .ok (.iadd, 1) := by decide +kernel
theorem dL_law_603 : decode cL_law 603 = .ok (.iaload, 1) := by decide +kernel
theorem dL_law_604 : decode cL_law 604 = .ok (.invokevirtual 81, 3) := by decide +kernel
theorem dL_law_607 : decode cL_law 607 = .ok (.if_icmp .eq 252, 3) := by decide +kernel
theorem dL_law_610 : decode cL_law 610 = .ok (.iconst 0, 1) := by decide +kernel
theorem dL_law_611 : decode cL_law 611 = .ok (.ireturn, 1) := by decide +kernel
theorem dL_law_612 : decode cL_law 612 = .ok (.aload_n 1, 1) := by decide +kernel
theorem dL_law_613 : decode cL_law 613 = .ok (.aload_n 0, 1) := by decide +kernel
theorem dL_law_614 : decode cL_law 614 = .ok (.iload 4, 2) := by decide +kernel
theorem dL_law_616 : decode cL_law 616 = .ok (.iconst 1, 1) := by decide +kernel
theorem dL_law_617 : decode cL_law 617 = .ok (.iadd, 1) := by decide +kernel
theorem dL_law_618 : decode cL_law 618 = .ok (.iaload, 1) := by decide +kernel
theorem dL_law_619 : decode cL_law 619 = .ok (.aload_n 0, 1) := by decide +kernel
theorem dL_law_620 : decode cL_law 620 = .ok (.iload 4, 2) := by decide +kernel
theorem dL_law_622 : decode cL_law 622 = .ok (.iconst 2, 1) := by decide +kernel
theorem dL_law_623 : decode cL_law 623 = .ok (.iadd, 1) := by decide +kernel
theorem dL_law_624 : decode cL_law 624 = .ok (.iaload, 1) := by decide +kernel
theorem dL_law_625 : decode cL_law 625 = .ok (.aload_n 0, 1) := by decide +kernel
theorem dL_law_626 : decode cL_law 626 = .ok (.iload 4, 2) := by decide +kernel
theorem dL_law_628 : decode cL_law 628 = .ok (.iconst 3, 1) := by decide +kernel
theorem dL_law_629 : decode cL_law 629 = .ok (.iadd, 1) := by decide +kernel
theorem dL_law_630 : decode cL_law 630 = .ok (.iaload, 1) := by decide +kernel
theorem dL_law_631 : decode cL_law 631 = .ok (.invokevirtual 82, 3) := by decide +kernel
theorem dL_law_634 : decode cL_law 634 = .ok (.aload_n 2, 1) := by decide +kernel
theorem dL_law_635 : decode cL_law 635 = .ok (.aload_n 0, 1) := by decide +kernel
theorem dL_law_636 : decode cL_law 636 = .ok (.iload 4, 2) := by decide +kernel
theorem dL_law_638 : decode cL_law 638 = .ok (.iconst 1, 1) := by decide +kernel
theorem dL_law_639 : decode cL_law 639 = .ok (.iadd, 1) := by decide +kernel
theorem dL_law_640 : decode cL_law 640 = .ok (.iaload, 1) := by decide +kernel
theorem dL_law_641 : decode cL_law 641 = .ok (.aload_n 0, 1) := by decide +kernel
theorem dL_law_642 : decode cL_law 642 = .ok (.iload 4, 2) := by decide +kernel
theorem dL_law_644 : decode cL_law 644 = .ok (.iconst 2, 1) := by decide +kernel
theorem dL_law_645 : decode cL_law 645 = .ok (.iadd, 1) := by decide +kernel
theorem dL_law_646 : decode cL_law 646 = .ok (.iaload, 1) := by decide +kernel
theorem dL_law_647 : decode cL_law 647 = .ok (.aload_n 0, 1) := by decide +kernel
theorem dL_law_648 : decode cL_law 648 = .ok (.iload 4, 2) := by decide +kernel
theorem dL_law_650 : decode cL_law 650 = .ok (.iconst 3, 1) := by decide +kernel
theorem dL_law_651 : decode cL_law 651 = .ok (.iadd, 1) := by decide +kernel
theorem dL_law_652 : decode cL_law 652 = .ok (.iaload, 1) := by decide +kernel
theorem dL_law_653 : decode cL_law 653 = .ok (.invokevirtual 85, 3) := by decide +kernel
theorem dL_law_656 : decode cL_law 656 = .ok (.if_icmp .eq 203, 3) := by decide +kernel
theorem dL_law_659 : decode cL_law 659 = .ok (.iconst 0, 1) := by decide +kernel
theorem dL_law_660 : decode cL_law 660 = .ok (.ireturn, 1) := by decide +kernel
theorem dL_law_661 : decode cL_law 661 = .ok (.aload_n 1, 1) := by decide +kernel
theorem dL_law_662 : decode cL_law 662 = .ok (.aload_n 0, 1) := by decide +kernel
theorem dL_law_663 : decode cL_law 663 = .ok (.iload 4, 2) := by decide +kernel
theorem dL_law_665 : decode cL_law 665 = .ok (.iconst 1, 1) := by decide +kernel
theorem dL_law_666 : decode cL_law 666 = .ok (.iadd, 1) := by decide +kernel
theorem dL_law_667 : decode cL_law 667 = .ok (.iaload, 1) := by decide +kernel
theorem dL_law_668 : decode cL_law 668 = .ok (.aload_n 0, 1) := by decide +kernel
theorem dL_law_669 : decode cL_law 669 = .ok (.iload 4, 2) := by decide +kernel
theorem dL_law_671 : decode cL_law 671 = .ok (.iconst 2, 1) := by decide +kernel
theorem dL_law_672 : decode cL_law 672 = .ok (.iadd, 1) := by decide +kernel
theorem dL_law_673 : decode cL_law 673 = .ok (.iaload, 1) := by decide +kernel
theorem dL_law_674 : decode cL_law 674 = .ok (.invokevirtual 86, 3) := by decide +kernel
theorem dL_law_677 : decode cL_law 677 = .ok (.aload_n 2, 1) := by decide +kernel
theorem dL_law_678 : decode cL_law 678 = .ok (.aload_n 0, 1) := by decide +kernel
theorem dL_law_679 : decode cL_law 679 = .ok (.iload 4, 2) := by decide +kernel
theorem dL_law_681 : decode cL_law 681 = .ok (.iconst 1, 1) := by decide +kernel
theorem dL_law_682 : decode cL_law 682 = .ok (.iadd, 1) := by decide +kernel
theorem dL_law_683 : decode cL_law 683 = .ok (.iaload, 1) := by decide +kernel
theorem dL_law_684 : decode cL_law 684 = .ok (.aload_n 0, 1) := by decide +kernel
theorem dL_law_685 : decode cL_law 685 = .ok (.iload 4, 2) := by decide +kernel
theorem dL_law_687 : decode cL_law 687 = .ok (.iconst 2, 1) := by decide +kernel
theorem dL_law_688 : decode cL_law 688 = .ok (.iadd, 1) := by decide +kernel
theorem dL_law_689 : decode cL_law 689 = .ok (.iaload, 1) := by decide +kernel
theorem dL_law_690 : decode cL_law 690 = .ok (.invokevirtual 89, 3) := by decide +kernel
theorem dL_law_693 : decode cL_law 693 = .ok (.if_icmp .eq 166, 3) := by decide +kernel
theorem dL_law_696 : decode cL_law 696 = .ok (.iconst 0, 1) := by decide +kernel
theorem dL_law_697 : decode cL_law 697 = .ok (.ireturn, 1) := by decide +kernel
theorem dL_law_698 : decode cL_law 698 = .ok (.aload_n 1, 1) := by decide +kernel
theorem dL_law_699 : decode cL_law 699 = .ok (.aload_n 0, 1) := by decide +kernel
theorem dL_law_700 : decode cL_law 700 = .ok (.iload 4, 2) := by decide +kernel
theorem dL_law_702 : decode cL_law 702 = .ok (.iconst 1, 1) := by decide +kernel
theorem dL_law_703 : decode cL_law 703 = .ok (.iadd, 1) := by decide +kernel
theorem dL_law_704 : decode cL_law 704 = .ok (.iaload, 1) := by decide +kernel
theorem dL_law_705 : decode cL_law 705 = .ok (.aload_n 0, 1) := by decide +kernel
theorem dL_law_706 : decode cL_law 706 = .ok (.iload 4, 2) := by decide +kernel
theorem dL_law_708 : decode cL_law 708 = .ok (.iconst 2, 1) := by decide +kernel
theorem dL_law_709 : decode cL_law 709 = .ok (.iadd, 1) := by decide +kernel
theorem dL_law_710 : decode cL_law 710 = .ok (.iaload, 1) := by decide +kernel
theorem dL_law_711 : decode cL_law 711 = .ok (.invokevirtual 90, 3) := by decide +kernel
theorem dL_law_714 : decode cL_law 714 = .ok (.aload_n 2, 1) := by decide +kernel
theorem dL_law_715 : decode cL_law 715 = .ok (.aload_n 0, 1) := by decide +kernel
theorem dL_law_716 : decode cL_law 716 = .ok (.iload 4, 2) := by decide +kernel
theorem dL_law_718 : decode cL_law 718 = .ok (.iconst 1, 1) := by decide +kernel
theorem dL_law_719 : decode cL_law 719 = .ok (.iadd, 1) := by decide +kernel
theorem dL_law_720 : decode cL_law 720 = .ok (.iaload, 1) := by decide +kernel
theorem dL_law_721 : decode cL_law 721 = .ok (.aload_n 0, 1) := by decide +kernel
theorem dL_law_722 : decode cL_law 722 = .ok (.iload 4, 2) := by decide +kernel
theorem dL_law_724 : decode cL_law 724 = .ok (.iconst 2, 1) := by decide +kernel
theorem dL_law_725 : decode cL_law 725 = .ok (.iadd, 1) := by decide +kernel
theorem dL_law_726 : decode cL_law 726 = .ok (.iaload, 1) := by decide +kernel
theorem dL_law_727 : decode cL_law 727 = .ok (.invokevirtual 93, 3) := by decide +kernel
theorem dL_law_730 : decode cL_law 730 = .ok (.if_icmp .eq 129, 3) := by decide +kernel
theorem dL_law_733 : decode cL_law 733 = .ok (.iconst 0, 1) := by decide +kernel
theorem dL_law_734 : decode cL_law 734 = .ok (.ireturn, 1) := by decide +kernel
theorem dL_law_735 : decode cL_law 735 = .ok (.aload_n 1, 1) := by decide +kernel
theorem dL_law_736 : decode cL_law 736 = .ok (.aload_n 0, 1) := by decide +kernel
theorem dL_law_737 : decode cL_law 737 = .ok (.iload 4, 2) := by decide +kernel
theorem dL_law_739 : decode cL_law 739 = .ok (.iconst 1, 1) := by decide +kernel
theorem dL_law_740 : decode cL_law 740 = .ok (.iadd, 1) := by decide +kernel
theorem dL_law_741 : decode cL_law 741 = .ok (.iaload, 1) := by decide +kernel
theorem dL_law_742 : decode cL_law 742 = .ok (.aload_n 0, 1) := by decide +kernel
theorem dL_law_743 : decode cL_law 743 = .ok (.iload 4, 2) := by decide +kernel
theorem dL_law_745 : decode cL_law 745 = .ok (.iconst 2, 1) := by decide +kernel
theorem dL_law_746 : decode cL_law 746 = .ok (.iadd, 1) := by decide +kernel
theorem dL_law_747 : decode cL_law 747 = .ok (.iaload, 1) := by decide +kernel
theorem dL_law_748 : decode cL_law 748 = .ok (.invokevirtual 94, 3) := by decide +kernel
theorem dL_law_751 : decode cL_law 751 = .ok (.aload_n 2, 1) := by decide +kernel
theorem dL_law_752 : decode cL_law 752 = .ok (.aload_n 0, 1) := by decide +kernel
theorem dL_law_753 : decode cL_law 753 = .ok (.iload 4, 2) := by decide +kernel
theorem dL_law_755 : decode cL_law 755 = .ok (.iconst 1, 1) := by decide +kernel
theorem dL_law_756 : decode cL_law 756 = .ok (.iadd, 1) := by decide +kernel
theorem dL_law_757 : decode cL_law 757 = .ok (.iaload, 1) := by decide +kernel
theorem dL_law_758 : decode cL_law 758 = .ok (.aload_n 0, 1) := by decide +kernel
theorem dL_law_759 : decode cL_law 759 = .ok (.iload 4, 2) := by decide +kernel
theorem dL_law_761 : decode cL_law 761 = .ok (.iconst 2, 1) := by decide +kernel
theorem dL_law_762 : decode cL_law 762 = .ok (.iadd, 1) := by decide +kernel
theorem dL_law_763 : decode cL_law 763 = .ok (.iaload, 1) := by decide +kernel
theorem dL_law_764 : decode cL_law 764 = .ok (.invokevirtual 97, 3) := by decide +kernel
theorem dL_law_767 : decode cL_law 767 = .ok (.if_icmp .eq 92, 3) := by decide +kernel
theorem dL_law_770 : decode cL_law 770 = .ok (.iconst 0, 1) := by decide +kernel
theorem dL_law_771 : decode cL_law 771 = .ok (.ireturn, 1) := by decide +kernel
theorem dL_law_772 : decode cL_law 772 = .ok (.aload_n 1, 1) := by decide +kernel
theorem dL_law_773 : decode cL_law 773 = .ok (.aload_n 0, 1) := by decide +kernel
theorem dL_law_774 : decode cL_law 774 = .ok (.iload 4, 2) := by decide +kernel
theorem dL_law_776 : decode cL_law 776 = .ok (.iconst 1, 1) := by decide +kernel
theorem dL_law_777 : decode cL_law 777 = .ok (.iadd, 1) := by decide +kernel
theorem dL_law_778 : decode cL_law 778 = .ok (.iaload, 1) := by decide +kernel
theorem dL_law_779 : decode cL_law 779 = .ok (.aload_n 0, 1) := by decide +kernel
theorem dL_law_780 : decode cL_law 780 = .ok (.iload 4, 2) := by decide +kernel
theorem dL_law_782 : decode cL_law 782 = .ok (.iconst 2, 1) := by decide +kernel
theorem dL_law_783 : decode cL_law 783 = .ok (.iadd, 1) := by decide +kernel
theorem dL_law_784 : decode cL_law 784 = .ok (.iaload, 1) := by decide +kernel
theorem dL_law_785 : decode cL_law 785 = .ok (.aload_n 0, 1) := by decide +kernel
theorem dL_law_786 : decode cL_law 786 = .ok (.iload 4, 2) := by decide +kernel
theorem dL_law_788 : decode cL_law 788 = .ok (.iconst 3, 1) := by decide +kernel
theorem dL_law_789 : decode cL_law 789 = .ok (.iadd, 1) := by decide +kernel
theorem dL_law_790 : decode cL_law 790 = .ok (.iaload, 1) := by decide +kernel
theorem dL_law_791 : decode cL_law 791 = .ok (.aload_n 0, 1) := by decide +kernel
theorem dL_law_792 : decode cL_law 792 = .ok (.iload 4, 2) := by decide +kernel
theorem dL_law_794 : decode cL_law 794 = .ok (.iconst 4, 1) := by decide +kernel
theorem dL_law_795 : decode cL_law 795 = .ok (.iadd, 1) := by decide +kernel
theorem dL_law_796 : decode cL_law 796 = .ok (.iaload, 1) := by decide +kernel
theorem dL_law_797 : decode cL_law 797 = .ok (.invokevirtual 98, 3) := by decide +kernel
theorem dL_law_800 : decode cL_law 800 = .ok (.aload_n 2, 1) := by decide +kernel
theorem dL_law_801 : decode cL_law 801 = .ok (.aload_n 0, 1) := by decide +kernel
theorem dL_law_802 : decode cL_law 802 = .ok (.iload 4, 2) := by decide +kernel
theorem dL_law_804 : decode cL_law 804 = .ok (.iconst 1, 1) := by decide +kernel
theorem dL_law_805 : decode cL_law 805 = .ok (.iadd, 1) := by decide +kernel
theorem dL_law_806 : decode cL_law 806 = .ok (.iaload, 1) := by decide +kernel
theorem dL_law_807 : decode cL_law 807 = .ok (.aload_n 0, 1) := by decide +kernel
theorem dL_law_808 : decode cL_law 808 = .ok (.iload 4, 2) := by decide +kernel
theorem dL_law_810 : decode cL_law 810 = .ok (.iconst 2, 1) := by decide +kernel
theorem dL_law_811 : decode cL_law 811 = .ok (.iadd, 1) := by decide +kernel
theorem dL_law_812 : decode cL_law 812 = .ok (.iaload, 1) := by decide +kernel
theorem dL_law_813 : decode cL_law 813 = .ok (.aload_n 0, 1) := by decide +kernel
theorem dL_law_814 : decode cL_law 814 = .ok (.iload 4, 2) := by decide +kernel
theorem dL_law_816 : decode cL_law 816 = .ok (.iconst 3, 1) := by decide +kernel
theorem dL_law_817 : decode cL_law 817 = .ok (.iadd, 1) := by decide +kernel
theorem dL_law_818 : decode cL_law 818 = .ok (.iaload, 1) := by decide +kernel
theorem dL_law_819 : decode cL_law 819 = .ok (.aload_n 0, 1) := by decide +kernel
theorem dL_law_820 : decode cL_law 820 = .ok (.iload 4, 2) := by decide +kernel
theorem dL_law_822 : decode cL_law 822 = .ok (.iconst 4, 1) := by decide +kernel
theorem dL_law_823 : decode cL_law 823 = .ok (.iadd, 1) := by decide +kernel
theorem dL_law_824 : decode cL_law 824 = .ok (.iaload, 1) := by decide +kernel
theorem dL_law_825 : decode cL_law 825 = .ok (.invokevirtual 102, 3) := by decide +kernel
theorem dL_law_828 : decode cL_law 828 = .ok (.if_icmp .eq 31, 3) := by decide +kernel
theorem dL_law_831 : decode cL_law 831 = .ok (.iconst 0, 1) := by decide +kernel
theorem dL_law_832 : decode cL_law 832 = .ok (.ireturn, 1) := by decide +kernel
theorem dL_law_833 : decode cL_law 833 = .ok (.aload_n 1, 1) := by decide +kernel
theorem dL_law_834 : decode cL_law 834 = .ok (.invokevirtual 103, 3) := by decide +kernel
theorem dL_law_837 : decode cL_law 837 = .ok (.aload_n 2, 1) := by decide +kernel
theorem dL_law_838 : decode cL_law 838 = .ok (.invokevirtual 106, 3) := by decide +kernel
theorem dL_law_841 : decode cL_law 841 = .ok (.if_icmp .eq 18, 3) := by decide +kernel
theorem dL_law_844 : decode cL_law 844 = .ok (.iconst 0, 1) := by decide +kernel
theorem dL_law_845 : decode cL_law 845 = .ok (.ireturn, 1) := by decide +kernel
theorem dL_law_846 : decode cL_law 846 = .ok (.aload_n 1, 1) := by decide +kernel
theorem dL_law_847 : decode cL_law 847 = .ok (.invokevirtual 107, 3) := by decide +kernel
theorem dL_law_850 : decode cL_law 850 = .ok (.aload_n 2, 1) := by decide +kernel
theorem dL_law_851 : decode cL_law 851 = .ok (.invokevirtual 110, 3) := by decide +kernel
theorem dL_law_854 : decode cL_law 854 = .ok (.if_icmp .eq 5, 3) := by decide +kernel
theorem dL_law_857 : decode cL_law 857 = .ok (.iconst 0, 1) := by decide +kernel
theorem dL_law_858 : decode cL_law 858 = .ok (.ireturn, 1) := by decide +kernel
theorem dL_law_859 : decode cL_law 859 = .ok (.iinc 4 6, 3) := by decide +kernel
theorem dL_law_862 : decode cL_law 862 = .ok (.goto (-839), 3) := by decide +kernel
theorem dL_law_865 : decode cL_law 865 = .ok (.iconst 1, 1) := by decide +kernel
theorem dL_law_866 : decode cL_law 866 = .ok (.ireturn, 1) := by decide +kernel
end
section
/-- the tables' words that stay -/
def gT : List Cond := lw_tbl.filter goodWord
theorem gT_mem {w : Cond} (i : Nat) (h : lw_tbl[i]? = some w) (hg : goodWord w = true) : w ∈ gT := List.mem_filter.mpr ⟨List.mem_of_getElem? h, hg⟩
theorem gT_good {w : Cond} (h : w ∈ gT) : goodWord w = true := (List.mem_filter.mp h).2
theorem gT_tbl {w : Cond} (h : w ∈ gT) : w ∈ lw_tbl := (List.mem_filter.mp h).1
theorem tw_0 : (Jvm.Cond.selects "MovedLines" ({ cls := "MovedLines", name := "readTape", desc := "(Z)Z" } : Jvm.MethodName) ({ cls := "MovedLines", name := "readTape", desc := "(Z)Z" } : Jvm.MethodName)) ∈ gT := gT_mem 0 (by decide +kernel) rfl
theorem tw_1 : (Jvm.Cond.selects "MovedLines$Reader" ({ cls := "MovedLines$Reader", name := "readByte", desc := "(IZ)I" } : Jvm.MethodName) ({ cls := "MovedLines$Reader", name := "readByte", desc := "(IZ)I" } : Jvm.MethodName)) ∈ gT := gT_mem 1 (by decide +kernel) rfl
theorem tw_2 : (Jvm.Cond.selects "MovedLines$Reader" ({ cls := "MovedLines$Reader", name := "readLetter", desc := "(I)I" } : Jvm.MethodName) ({ cls := "MovedLines$Reader", name := "readLetter", desc := "(I)I" } : Jvm.MethodName)) ∈ gT := gT_mem 2 (by decide +kernel) rfl
theorem tw_3 : (Jvm.Cond.selects "MovedLines$Reader" ({ cls := "MovedLines$Reader", name := "closeLine", desc := "()I" } : Jvm.MethodName) ({ cls := "MovedLines$Reader", name := "closeLine", desc := "()I" } : Jvm.MethodName)) ∈ gT := gT_mem 3 (by decide +kernel) rfl
theorem tw_4 : (Jvm.Cond.selects "MovedLines$Reader" ({ cls := "MovedLines$Reader", name := "readEnd", desc := "(Z)I" } : Jvm.MethodName) ({ cls := "MovedLines$Reader", name := "readEnd", desc := "(Z)I" } : Jvm.MethodName)) ∈ gT := gT_mem 4 (by decide +kernel) rfl
theorem tw_5 : (Jvm.Cond.selects "MovedLines" ({ cls := "MovedLines", name := "editionOf", desc := "(I)LMovedLines$Edition;" } : Jvm.MethodName) ({ cls := "MovedLines", name := "editionOf", desc := "(I)LMovedLines$Edition;" } : Jvm.MethodName)) ∈ gT := gT_mem 5 (by decide +kernel) rfl
theorem tw_6 : (Jvm.Cond.selects "MovedLines" ({ cls := "MovedLines", name := "compared", desc := "()LMovedLines$Told;" } : Jvm.MethodName) ({ cls := "MovedLines", name := "compared", desc := "()LMovedLines$Told;" } : Jvm.MethodName)) ∈ gT := gT_mem 6 (by decide +kernel) rfl
theorem tw_7 : (Jvm.Cond.selects "MovedLines$Keeper" ({ cls := "MovedLines$Keeper", name := "addRange", desc := "(IIII)V" } : Jvm.MethodName) ({ cls := "MovedLines$Keeper", name := "addRange", desc := "(IIII)V" } : Jvm.MethodName)) ∈ gT := gT_mem 7 (by decide +kernel) rfl
theorem tw_8 : (Jvm.Cond.selects "MovedLines$Keeper" ({ cls := "MovedLines$Keeper", name := "keepEnds", desc := "(ILMovedLines$Kinds;LMovedLines$Told;)V" } : Jvm.MethodName) ({ cls := "MovedLines$Keeper", name := "keepEnds", desc := "(ILMovedLines$Kinds;LMovedLines$Told;)V" } : Jvm.MethodName)) ∈ gT := gT_mem 8 (by decide +kernel) rfl
theorem tw_9 : (Jvm.Cond.selects "MovedLines$Keeper" ({ cls := "MovedLines$Keeper", name := "findAnchors", desc := "(ILMovedLines$Kinds;)V" } : Jvm.MethodName) ({ cls := "MovedLines$Keeper", name := "findAnchors", desc := "(ILMovedLines$Kinds;)V" } : Jvm.MethodName)) ∈ gT := gT_mem 9 (by decide +kernel) rfl
theorem tw_10 : (Jvm.Cond.selects "MovedLines$Keeper" ({ cls := "MovedLines$Keeper", name := "measureRuns", desc := "()I" } : Jvm.MethodName) ({ cls := "MovedLines$Keeper", name := "measureRuns", desc := "()I" } : Jvm.MethodName)) ∈ gT := gT_mem 10 (by decide +kernel) rfl
theorem tw_11 : (Jvm.Cond.selects "MovedLines$Keeper" ({ cls := "MovedLines$Keeper", name := "keepRun", desc := "(IILMovedLines$Told;)V" } : Jvm.MethodName) ({ cls := "MovedLines$Keeper", name := "keepRun", desc := "(IILMovedLines$Told;)V" } : Jvm.MethodName)) ∈ gT := gT_mem 11 (by decide +kernel) rfl
theorem tw_12 : (Jvm.Cond.selects "MovedLines$Comparer" ({ cls := "MovedLines$Comparer", name := "moveLongest", desc := "(LMovedLines$Told;)Z" } : Jvm.MethodName) ({ cls := "MovedLines$Comparer", name := "moveLongest", desc := "(LMovedLines$Told;)Z" } : Jvm.MethodName)) ∈ gT := gT_mem 12 (by decide +kernel) rfl
theorem tw_13 : (Jvm.Cond.selects "MovedLines$Comparer" ({ cls := "MovedLines$Comparer", name := "looseRow", desc := "(IILMovedLines$Told;)I" } : Jvm.MethodName) ({ cls := "MovedLines$Comparer", name := "looseRow", desc := "(IILMovedLines$Told;)I" } : Jvm.MethodName)) ∈ gT := gT_mem 13 (by decide +kernel) rfl
theorem tw_14 : (Jvm.Cond.selects "MovedLines$Comparer" ({ cls := "MovedLines$Comparer", name := "measureLikeness", desc := "(LMovedLines$Edition;LMovedLines$Edition;LMovedLines$Told;)V" } : Jvm.MethodName) ({ cls := "MovedLines$Comparer", name := "measureLikeness", desc := "(LMovedLines$Edition;LMovedLines$Edition;LMovedLines$Told;)V" } : Jvm.MethodName)) ∈ gT := gT_mem 14 (by decide +kernel) rfl
theorem tw_15 : (Jvm.Cond.selects "MovedLines$Comparer" ({ cls := "MovedLines$Comparer", name := "likenessTo", desc := "(LMovedLines$Edition;II)I" } : Jvm.MethodName) ({ cls := "MovedLines$Comparer", name := "likenessTo", desc := "(LMovedLines$Edition;II)I" } : Jvm.MethodName)) ∈ gT := gT_mem 15 (by decide +kernel) rfl
theorem tw_16 : (Jvm.Cond.selects "MovedLines$Comparer" ({ cls := "MovedLines$Comparer", name := "editLikest", desc := "(LMovedLines$Edition;LMovedLines$Edition;LMovedLines$Told;)Z" } : Jvm.MethodName) ({ cls := "MovedLines$Comparer", name := "editLikest", desc := "(LMovedLines$Edition;LMovedLines$Edition;LMovedLines$Told;)Z" } : Jvm.MethodName)) ∈ gT := gT_mem 16 (by decide +kernel) rfl
theorem tw_17 : (Jvm.Cond.selects "MovedLines" ({ cls := "MovedLines", name := "hasLine", desc := "(II)Z" } : Jvm.MethodName) ({ cls := "MovedLines", name := "hasLine", desc := "(II)Z" } : Jvm.MethodName)) ∈ gT := gT_mem 17 (by decide +kernel) rfl
theorem tw_18 : (Jvm.Cond.selects "MovedLines" ({ cls := "MovedLines", name := "measureWords", desc := "(II)I" } : Jvm.MethodName) ({ cls := "MovedLines", name := "measureWords", desc := "(II)I" } : Jvm.MethodName)) ∈ gT := gT_mem 18 (by decide +kernel) rfl
theorem tw_19 : (Jvm.Cond.selects "MovedLines$CommonRow" ({ cls := "MovedLines$CommonRow", name := "nextLike", desc := "(II)I" } : Jvm.MethodName) ({ cls := "MovedLines$CommonRow", name := "nextLike", desc := "(II)I" } : Jvm.MethodName)) ∈ gT := gT_mem 19 (by decide +kernel) rfl
theorem tw_20 : (Jvm.Cond.selects "MovedLines" ({ cls := "MovedLines", name := "startStep", desc := "(I)LMovedLines$Edition;" } : Jvm.MethodName) ({ cls := "MovedLines", name := "startStep", desc := "(I)LMovedLines$Edition;" } : Jvm.MethodName)) ∈ gT := gT_mem 20 (by decide +kernel) rfl
theorem tw_21 : (Jvm.Cond.selects "java/lang/Throwable" ({ cls := "java/lang/Throwable", name := "fillInStackTrace", desc := "(I)Ljava/lang/Throwable;" } : Jvm.MethodName) ({ cls := "java/lang/Throwable", name := "fillInStackTrace", desc := "(I)Ljava/lang/Throwable;" } : Jvm.MethodName)) ∈ gT := gT_mem 21 (by decide +kernel) rfl
theorem tw_22 : (Jvm.Cond.selects "MovedLinesModel" ({ cls := "MovedLinesModel", name := "lays", desc := "(I)V" } : Jvm.MethodName) ({ cls := "MovedLinesModel", name := "lays", desc := "(I)V" } : Jvm.MethodName)) ∈ gT := gT_mem 22 (by decide +kernel) rfl
theorem tw_23 : (Jvm.Cond.selects "MovedLinesModel" ({ cls := "MovedLinesModel", name := "reads", desc := "(IZ)Z" } : Jvm.MethodName) ({ cls := "MovedLinesModel", name := "reads", desc := "(IZ)Z" } : Jvm.MethodName)) ∈ gT := gT_mem 23 (by decide +kernel) rfl
theorem tw_24 : (Jvm.Cond.selects "MovedLinesModel" ({ cls := "MovedLinesModel", name := "bad", desc := "(II)Z" } : Jvm.MethodName) ({ cls := "MovedLinesModel", name := "bad", desc := "(II)Z" } : Jvm.MethodName)) ∈ gT := gT_mem 24 (by decide +kernel) rfl
theorem tw_25 : (Jvm.Cond.selects "MovedLinesModel" ({ cls := "MovedLinesModel", name := "readLetter", desc := "(III)Z" } : Jvm.MethodName) ({ cls := "MovedLinesModel", name := "readLetter", desc := "(III)Z" } : Jvm.MethodName)) ∈ gT := gT_mem 25 (by decide +kernel) rfl
theorem tw_26 : (Jvm.Cond.selects "MovedLinesModel" ({ cls := "MovedLinesModel", name := "readEnd", desc := "(I)Z" } : Jvm.MethodName) ({ cls := "MovedLinesModel", name := "readEnd", desc := "(I)Z" } : Jvm.MethodName)) ∈ gT := gT_mem 26 (by decide +kernel) rfl
theorem tw_27 : (Jvm.Cond.selects "MovedLinesModel" ({ cls := "MovedLinesModel", name := "many", desc := "(I)I" } : Jvm.MethodName) ({ cls := "MovedLinesModel", name := "many", desc := "(I)I" } : Jvm.MethodName)) ∈ gT := gT_mem 27 (by decide +kernel) rfl
theorem tw_28 : (Jvm.Cond.selects "MovedLinesModel" ({ cls := "MovedLinesModel", name := "laysAll", desc := "()V" } : Jvm.MethodName) ({ cls := "MovedLinesModel", name := "laysAll", desc := "()V" } : Jvm.MethodName)) ∈ gT := gT_mem 28 (by decide +kernel) rfl
theorem tw_29 : (Jvm.Cond.selects "MovedLinesModel" ({ cls := "MovedLinesModel", name := "goesInto", desc := "(IIIIZ)V" } : Jvm.MethodName) ({ cls := "MovedLinesModel", name := "goesInto", desc := "(IIIIZ)V" } : Jvm.MethodName)) ∈ gT := gT_mem 29 (by decide +kernel) rfl
theorem tw_30 : (Jvm.Cond.selects "MovedLinesModel" ({ cls := "MovedLinesModel", name := "areAlike", desc := "(II)Z" } : Jvm.MethodName) ({ cls := "MovedLinesModel", name := "areAlike", desc := "(II)Z" } : Jvm.MethodName)) ∈ gT := gT_mem 30 (by decide +kernel) rfl
theorem tw_31 : (Jvm.Cond.selects "MovedLinesModel" ({ cls := "MovedLinesModel", name := "areAlike", desc := "(IIII)Z" } : Jvm.MethodName) ({ cls := "MovedLinesModel", name := "areAlike", desc := "(IIII)Z" } : Jvm.MethodName)) ∈ gT := gT_mem 31 (by decide +kernel) rfl
theorem tw_32 : (Jvm.Cond.selects "MovedLinesModel" ({ cls := "MovedLinesModel", name := "wordsOf", desc := "(II)I" } : Jvm.MethodName) ({ cls := "MovedLinesModel", name := "wordsOf", desc := "(II)I" } : Jvm.MethodName)) ∈ gT := gT_mem 32 (by decide +kernel) rfl
theorem tw_33 : (Jvm.Cond.selects "MovedLinesModel" ({ cls := "MovedLinesModel", name := "word", desc := "(III)I" } : Jvm.MethodName) ({ cls := "MovedLinesModel", name := "word", desc := "(III)I" } : Jvm.MethodName)) ∈ gT := gT_mem 33 (by decide +kernel) rfl
theorem tw_34 : (Jvm.Cond.selects "MovedLinesModel" ({ cls := "MovedLinesModel", name := "couples", desc := "(III)V" } : Jvm.MethodName) ({ cls := "MovedLinesModel", name := "couples", desc := "(III)V" } : Jvm.MethodName)) ∈ gT := gT_mem 34 (by decide +kernel) rfl
theorem tw_35 : (Jvm.Cond.selects "MovedLinesModel" ({ cls := "MovedLinesModel", name := "anchorOf", desc := "(IIIII)I" } : Jvm.MethodName) ({ cls := "MovedLinesModel", name := "anchorOf", desc := "(IIIII)I" } : Jvm.MethodName)) ∈ gT := gT_mem 35 (by decide +kernel) rfl
theorem tw_36 : (Jvm.Cond.selects "MovedLinesModel" ({ cls := "MovedLinesModel", name := "laysBlocks", desc := "()V" } : Jvm.MethodName) ({ cls := "MovedLinesModel", name := "laysBlocks", desc := "()V" } : Jvm.MethodName)) ∈ gT := gT_mem 36 (by decide +kernel) rfl
theorem tw_37 : (Jvm.Cond.selects "MovedLinesModel" ({ cls := "MovedLinesModel", name := "blockFrom", desc := "(II)I" } : Jvm.MethodName) ({ cls := "MovedLinesModel", name := "blockFrom", desc := "(II)I" } : Jvm.MethodName)) ∈ gT := gT_mem 37 (by decide +kernel) rfl
theorem tw_38 : (Jvm.Cond.selects "MovedLinesModel" ({ cls := "MovedLinesModel", name := "isLoose", desc := "(II)Z" } : Jvm.MethodName) ({ cls := "MovedLinesModel", name := "isLoose", desc := "(II)Z" } : Jvm.MethodName)) ∈ gT := gT_mem 38 (by decide +kernel) rfl
theorem tw_39 : (Jvm.Cond.selects "MovedLinesModel" ({ cls := "MovedLinesModel", name := "laysEdits", desc := "()V" } : Jvm.MethodName) ({ cls := "MovedLinesModel", name := "laysEdits", desc := "()V" } : Jvm.MethodName)) ∈ gT := gT_mem 39 (by decide +kernel) rfl
theorem tw_40 : (Jvm.Cond.selects "MovedLinesModel" ({ cls := "MovedLinesModel", name := "sharedOf", desc := "(II)I" } : Jvm.MethodName) ({ cls := "MovedLinesModel", name := "sharedOf", desc := "(II)I" } : Jvm.MethodName)) ∈ gT := gT_mem 40 (by decide +kernel) rfl
theorem tw_41 : (Jvm.Cond.selects "MovedLinesModel" ({ cls := "MovedLinesModel", name := "having", desc := "(II)I" } : Jvm.MethodName) ({ cls := "MovedLinesModel", name := "having", desc := "(II)I" } : Jvm.MethodName)) ∈ gT := gT_mem 41 (by decide +kernel) rfl
theorem tw_42 : (Jvm.Cond.selects "MovedLinesModel" ({ cls := "MovedLinesModel", name := "isLine", desc := "(II)Z" } : Jvm.MethodName) ({ cls := "MovedLinesModel", name := "isLine", desc := "(II)Z" } : Jvm.MethodName)) ∈ gT := gT_mem 42 (by decide +kernel) rfl
theorem tw_43 : (Jvm.Cond.selects "MovedLinesModel" ({ cls := "MovedLinesModel", name := "refuse", desc := "()I" } : Jvm.MethodName) ({ cls := "MovedLinesModel", name := "refuse", desc := "()I" } : Jvm.MethodName)) ∈ gT := gT_mem 43 (by decide +kernel) rfl
theorem tw_44 : (Jvm.Cond.selects "MovedLinesModel" ({ cls := "MovedLinesModel", name := "areLines", desc := "(II)Z" } : Jvm.MethodName) ({ cls := "MovedLinesModel", name := "areLines", desc := "(II)Z" } : Jvm.MethodName)) ∈ gT := gT_mem 44 (by decide +kernel) rfl
theorem tw_45 : (Jvm.Cond.selects "MovedLinesModel" ({ cls := "MovedLinesModel", name := "copiesLine", desc := "(II)V" } : Jvm.MethodName) ({ cls := "MovedLinesModel", name := "copiesLine", desc := "(II)V" } : Jvm.MethodName)) ∈ gT := gT_mem 45 (by decide +kernel) rfl
theorem tw_46 : (Jvm.Cond.selects "MovedLinesModel" ({ cls := "MovedLinesModel", name := "snap", desc := "()V" } : Jvm.MethodName) ({ cls := "MovedLinesModel", name := "snap", desc := "()V" } : Jvm.MethodName)) ∈ gT := gT_mem 46 (by decide +kernel) rfl
theorem tw_47 : (Jvm.Cond.selects "MovedLinesModel" ({ cls := "MovedLinesModel", name := "opens", desc := "(II)V" } : Jvm.MethodName) ({ cls := "MovedLinesModel", name := "opens", desc := "(II)V" } : Jvm.MethodName)) ∈ gT := gT_mem 47 (by decide +kernel) rfl
theorem tw_48 : (Jvm.Cond.selects "MovedLinesModel" ({ cls := "MovedLinesModel", name := "laysRead", desc := "(II)V" } : Jvm.MethodName) ({ cls := "MovedLinesModel", name := "laysRead", desc := "(II)V" } : Jvm.MethodName)) ∈ gT := gT_mem 48 (by decide +kernel) rfl
theorem tw_49 : (Jvm.Cond.selects "MovedLinesModel" ({ cls := "MovedLinesModel", name := "closes", desc := "(II)V" } : Jvm.MethodName) ({ cls := "MovedLinesModel", name := "closes", desc := "(II)V" } : Jvm.MethodName)) ∈ gT := gT_mem 49 (by decide +kernel) rfl
theorem tw_50 : (Jvm.Cond.initialized "MovedLinesLaw") ∈ gT := gT_mem 50 (by decide +kernel) rfl
theorem tw_51 : (Jvm.Cond.initialized "MovedLines") ∈ gT := gT_mem 51 (by decide +kernel) rfl
theorem tw_52 : (Jvm.Cond.initialized "MovedLines$Tape") ∈ gT := gT_mem 52 (by decide +kernel) rfl
theorem tw_53 : (Jvm.Cond.initialized "MovedLines$Reader") ∈ gT := gT_mem 53 (by decide +kernel) rfl
theorem tw_54 : (Jvm.Cond.initialized "MovedLines$Edition") ∈ gT := gT_mem 54 (by decide +kernel) rfl
theorem tw_55 : (Jvm.Cond.initialized "MovedLines$Past") ∈ gT := gT_mem 55 (by decide +kernel) rfl
theorem tw_56 : (Jvm.Cond.initialized "MovedLines$Comparer") ∈ gT := gT_mem 56 (by decide +kernel) rfl
theorem tw_57 : (Jvm.Cond.initialized "MovedLines$Kinds") ∈ gT := gT_mem 57 (by decide +kernel) rfl
theorem tw_58 : (Jvm.Cond.initialized "MovedLines$Keeper") ∈ gT := gT_mem 58 (by decide +kernel) rfl
theorem tw_59 : (Jvm.Cond.initialized "MovedLines$CommonRow") ∈ gT := gT_mem 59 (by decide +kernel) rfl
theorem tw_60 : (Jvm.Cond.initialized "MovedLines$Told") ∈ gT := gT_mem 60 (by decide +kernel) rfl
theorem tw_61 : (Jvm.Cond.initialized "MovedLinesModel") ∈ gT := gT_mem 61 (by decide +kernel) rfl
theorem tw_62 : (Jvm.Cond.initialized "java/lang/System") ∈ gT := gT_mem 62 (by decide +kernel) rfl
theorem tw_63 : (Jvm.Cond.initialized "java/lang/Math") ∈ gT := gT_mem 63 (by decide +kernel) rfl
theorem tw_64 : (Jvm.Cond.initialized "java/lang/Throwable") ∈ gT := gT_mem 64 (by decide +kernel) rfl
theorem tw_65 : (Jvm.Cond.initialized "java/lang/Exception") ∈ gT := gT_mem 65 (by decide +kernel) rfl
theorem tw_66 : (Jvm.Cond.initialized "java/lang/RuntimeException") ∈ gT := gT_mem 66 (by decide +kernel) rfl
theorem tw_67 : (Jvm.Cond.initialized "java/util/NoSuchElementException") ∈ gT := gT_mem 67 (by decide +kernel) rfl
theorem tw_68 : (Jvm.Cond.classLink "MovedLinesLaw" (8 : Nat) "MovedLines") ∈ gT := gT_mem 68 (by decide +kernel) rfl
theorem tw_69 : (Jvm.Cond.instantiable "MovedLines" (11 : Nat)) ∈ gT := gT_mem 69 (by decide +kernel) rfl
theorem tw_70 : (Jvm.Cond.methodLink "MovedLinesLaw" (15 : Nat) ({ cls := "MovedLines", name := "<init>", desc := "()V" } : Jvm.MethodName)) ∈ gT := gT_mem 70 (by decide +kernel) rfl
theorem tw_71 : (Jvm.Cond.instanceMethod ({ cls := "MovedLines", name := "<init>", desc := "()V" } : Jvm.MethodName)) ∈ gT := gT_mem 71 (by decide +kernel) rfl
theorem tw_72 : (Jvm.Cond.code ({ cls := "MovedLines", name := "<init>", desc := "()V" } : Jvm.MethodName) prog_1_method_1_code (1 : Nat) (Option.none : Option Jvm.ClassFile.FieldType)) ∈ gT := gT_mem 72 (by decide +kernel) rfl
theorem tw_73 : (Jvm.Cond.methodLink "MovedLines" (1 : Nat) ({ cls := "java/lang/Object", name := "<init>", desc := "()V" } : Jvm.MethodName)) ∈ gT := gT_mem 73 (by decide +kernel) rfl
theorem tw_74 : (Jvm.Cond.instanceMethod ({ cls := "java/lang/Object", name := "<init>", desc := "()V" } : Jvm.MethodName)) ∈ gT := gT_mem 74 (by decide +kernel) rfl
theorem tw_75 : (Jvm.Cond.code ({ cls := "java/lang/Object", name := "<init>", desc := "()V" } : Jvm.MethodName) object_method_1_code (1 : Nat) (Option.none : Option Jvm.ClassFile.FieldType)) ∈ gT := gT_mem 75 (by decide +kernel) rfl
theorem tw_76 : (Jvm.Cond.classLink "MovedLines" (7 : Nat) "MovedLines$Tape") ∈ gT := gT_mem 76 (by decide +kernel) rfl
theorem tw_77 : (Jvm.Cond.instantiable "MovedLines$Tape" (2 : Nat)) ∈ gT := gT_mem 77 (by decide +kernel) rfl
theorem tw_79 : (Jvm.Cond.instanceMethod ({ cls := "MovedLines$Tape", name := "<init>", desc := "()V" } : Jvm.MethodName)) ∈ gT := gT_mem 79 (by decide +kernel) rfl
theorem tw_80 : (Jvm.Cond.code ({ cls := "MovedLines$Tape", name := "<init>", desc := "()V" } : Jvm.MethodName) prog_9_method_1_code (1 : Nat) (Option.none : Option Jvm.ClassFile.FieldType)) ∈ gT := gT_mem 80 (by decide +kernel) rfl
theorem tw_81 : (Jvm.Cond.methodLink "MovedLines$Tape" (3 : Nat) ({ cls := "java/lang/Object", name := "<init>", desc := "()V" } : Jvm.MethodName)) ∈ gT := gT_mem 81 (by decide +kernel) rfl
theorem tw_82 : (Jvm.Cond.fieldLink "MovedLines$Tape" (9 : Nat) "MovedLines$Tape" "bytes" "[B") ∈ gT := gT_mem 82 (by decide +kernel) rfl
theorem tw_83 : (Jvm.Cond.fieldLink "MovedLines$Reader" (39 : Nat) "MovedLines$Tape" "bytes" "[B") ∈ gT := gT_mem 83 (by decide +kernel) rfl
theorem tw_84 : (Jvm.Cond.fieldLink "MovedLines$Tape" (15 : Nat) "MovedLines$Tape" "length" "I") ∈ gT := gT_mem 84 (by decide +kernel) rfl
theorem tw_85 : (Jvm.Cond.fieldLink "MovedLines" (71 : Nat) "MovedLines$Tape" "length" "I") ∈ gT := gT_mem 85 (by decide +kernel) rfl
theorem tw_86 : (Jvm.Cond.fieldLink "MovedLines$Reader" (34 : Nat) "MovedLines$Tape" "length" "I") ∈ gT := gT_mem 86 (by decide +kernel) rfl
theorem tw_87 : (Jvm.Cond.laysFinal "MovedLines$Tape" "MovedLines$Tape" "bytes" "[B") ∈ gT := gT_mem 87 (by decide +kernel) rfl
theorem tw_89 : (Jvm.Cond.lays "MovedLines$Tape" "MovedLines$Tape" "length" "I") ∈ gT := gT_mem 89 (by decide +kernel) rfl
theorem tw_92 : (Jvm.Cond.arrayClass Jvm.ClassFile.FieldType.byte) ∈ gT := gT_mem 92 (by decide +kernel) rfl
theorem tw_93 : (Jvm.Cond.classLink "MovedLines" (16 : Nat) "MovedLines$Reader") ∈ gT := gT_mem 93 (by decide +kernel) rfl
theorem tw_94 : (Jvm.Cond.instantiable "MovedLines$Reader" (5 : Nat)) ∈ gT := gT_mem 94 (by decide +kernel) rfl
theorem tw_96 : (Jvm.Cond.instanceMethod ({ cls := "MovedLines$Reader", name := "<init>", desc := "()V" } : Jvm.MethodName)) ∈ gT := gT_mem 96 (by decide +kernel) rfl
theorem tw_97 : (Jvm.Cond.code ({ cls := "MovedLines$Reader", name := "<init>", desc := "()V" } : Jvm.MethodName) prog_8_method_1_code (1 : Nat) (Option.none : Option Jvm.ClassFile.FieldType)) ∈ gT := gT_mem 97 (by decide +kernel) rfl
theorem tw_98 : (Jvm.Cond.methodLink "MovedLines$Reader" (3 : Nat) ({ cls := "java/lang/Object", name := "<init>", desc := "()V" } : Jvm.MethodName)) ∈ gT := gT_mem 98 (by decide +kernel) rfl
theorem tw_99 : (Jvm.Cond.classLink "MovedLines$Reader" (9 : Nat) "MovedLines$Edition") ∈ gT := gT_mem 99 (by decide +kernel) rfl
theorem tw_100 : (Jvm.Cond.instantiable "MovedLines$Edition" (3 : Nat)) ∈ gT := gT_mem 100 (by decide +kernel) rfl
theorem tw_102 : (Jvm.Cond.instanceMethod ({ cls := "MovedLines$Edition", name := "<init>", desc := "()V" } : Jvm.MethodName)) ∈ gT := gT_mem 102 (by decide +kernel) rfl
theorem tw_103 : (Jvm.Cond.code ({ cls := "MovedLines$Edition", name := "<init>", desc := "()V" } : Jvm.MethodName) prog_4_method_1_code (1 : Nat) (Option.none : Option Jvm.ClassFile.FieldType)) ∈ gT := gT_mem 103 (by decide +kernel) rfl
theorem tw_104 : (Jvm.Cond.methodLink "MovedLines$Edition" (3 : Nat) ({ cls := "java/lang/Object", name := "<init>", desc := "()V" } : Jvm.MethodName)) ∈ gT := gT_mem 104 (by decide +kernel) rfl
theorem tw_105 : (Jvm.Cond.fieldLink "MovedLines$Edition" (9 : Nat) "MovedLines$Edition" "sizes" "[I") ∈ gT := gT_mem 105 (by decide +kernel) rfl
theorem tw_106 : (Jvm.Cond.fieldLink "MovedLines$Reader" (62 : Nat) "MovedLines$Edition" "sizes" "[I") ∈ gT := gT_mem 106 (by decide +kernel) rfl
theorem tw_107 : (Jvm.Cond.fieldLink "MovedLines$Edition" (15 : Nat) "MovedLines$Edition" "words" "[I") ∈ gT := gT_mem 107 (by decide +kernel) rfl
theorem tw_108 : (Jvm.Cond.fieldLink "MovedLines$Reader" (59 : Nat) "MovedLines$Edition" "words" "[I") ∈ gT := gT_mem 108 (by decide +kernel) rfl
theorem tw_109 : (Jvm.Cond.fieldLink "MovedLines$Comparer" (114 : Nat) "MovedLines$Edition" "words" "[I") ∈ gT := gT_mem 109 (by decide +kernel) rfl
theorem tw_110 : (Jvm.Cond.fieldLink "MovedLines" (242 : Nat) "MovedLines$Edition" "words" "[I") ∈ gT := gT_mem 110 (by decide +kernel) rfl
theorem tw_111 : (Jvm.Cond.fieldLink "MovedLines$Edition" (18 : Nat) "MovedLines$Edition" "lines" "I") ∈ gT := gT_mem 111 (by decide +kernel) rfl
theorem tw_112 : (Jvm.Cond.fieldLink "MovedLines$Kinds" (25 : Nat) "MovedLines$Edition" "lines" "I") ∈ gT := gT_mem 112 (by decide +kernel) rfl
theorem tw_113 : (Jvm.Cond.fieldLink "MovedLines$Reader" (31 : Nat) "MovedLines$Edition" "lines" "I") ∈ gT := gT_mem 113 (by decide +kernel) rfl
theorem tw_114 : (Jvm.Cond.fieldLink "MovedLines" (104 : Nat) "MovedLines$Edition" "lines" "I") ∈ gT := gT_mem 114 (by decide +kernel) rfl
theorem tw_115 : (Jvm.Cond.fieldLink "MovedLines$Comparer" (109 : Nat) "MovedLines$Edition" "lines" "I") ∈ gT := gT_mem 115 (by decide +kernel) rfl
theorem tw_116 : (Jvm.Cond.laysFinal "MovedLines$Edition" "MovedLines$Edition" "sizes" "[I") ∈ gT := gT_mem 116 (by decide +kernel) rfl
theorem tw_118 : (Jvm.Cond.laysFinal "MovedLines$Edition" "MovedLines$Edition" "words" "[I") ∈ gT := gT_mem 118 (by decide +kernel) rfl
theorem tw_120 : (Jvm.Cond.lays "MovedLines$Edition" "MovedLines$Edition" "lines" "I") ∈ gT := gT_mem 120 (by decide +kernel) rfl
theorem tw_123 : (Jvm.Cond.arrayClass Jvm.ClassFile.FieldType.int) ∈ gT := gT_mem 123 (by decide +kernel) rfl
theorem tw_124 : (Jvm.Cond.fieldLink "MovedLines$Reader" (12 : Nat) "MovedLines$Reader" "draft" "LMovedLines$Edition;") ∈ gT := gT_mem 124 (by decide +kernel) rfl
theorem tw_125 : (Jvm.Cond.fieldLink "MovedLines" (94 : Nat) "MovedLines$Reader" "draft" "LMovedLines$Edition;") ∈ gT := gT_mem 125 (by decide +kernel) rfl
theorem tw_126 : (Jvm.Cond.fieldLink "MovedLines$Reader" (18 : Nat) "MovedLines$Reader" "fault" "I") ∈ gT := gT_mem 126 (by decide +kernel) rfl
theorem tw_127 : (Jvm.Cond.fieldLink "MovedLines" (107 : Nat) "MovedLines$Reader" "fault" "I") ∈ gT := gT_mem 127 (by decide +kernel) rfl
theorem tw_128 : (Jvm.Cond.fieldLink "MovedLines$Reader" (22 : Nat) "MovedLines$Reader" "place" "I") ∈ gT := gT_mem 128 (by decide +kernel) rfl
theorem tw_129 : (Jvm.Cond.fieldLink "MovedLines" (87 : Nat) "MovedLines$Reader" "place" "I") ∈ gT := gT_mem 129 (by decide +kernel) rfl
theorem tw_130 : (Jvm.Cond.fieldLink "MovedLines$Reader" (25 : Nat) "MovedLines$Reader" "words" "I") ∈ gT := gT_mem 130 (by decide +kernel) rfl
theorem tw_131 : (Jvm.Cond.fieldLink "MovedLines$Reader" (28 : Nat) "MovedLines$Reader" "letters" "I") ∈ gT := gT_mem 131 (by decide +kernel) rfl
theorem tw_132 : (Jvm.Cond.laysFinal "MovedLines$Reader" "MovedLines$Reader" "draft" "LMovedLines$Edition;") ∈ gT := gT_mem 132 (by decide +kernel) rfl
theorem tw_134 : (Jvm.Cond.lays "MovedLines$Reader" "MovedLines$Reader" "fault" "I") ∈ gT := gT_mem 134 (by decide +kernel) rfl
theorem tw_136 : (Jvm.Cond.lays "MovedLines$Reader" "MovedLines$Reader" "place" "I") ∈ gT := gT_mem 136 (by decide +kernel) rfl
theorem tw_138 : (Jvm.Cond.lays "MovedLines$Reader" "MovedLines$Reader" "words" "I") ∈ gT := gT_mem 138 (by decide +kernel) rfl
theorem tw_140 : (Jvm.Cond.lays "MovedLines$Reader" "MovedLines$Reader" "letters" "I") ∈ gT := gT_mem 140 (by decide +kernel) rfl
theorem tw_143 : (Jvm.Cond.classLink "MovedLines" (23 : Nat) "MovedLines$Edition") ∈ gT := gT_mem 143 (by decide +kernel) rfl
theorem tw_145 : (Jvm.Cond.classLink "MovedLines" (36 : Nat) "MovedLines$Past") ∈ gT := gT_mem 145 (by decide +kernel) rfl
theorem tw_146 : (Jvm.Cond.instantiable "MovedLines$Past" (4 : Nat)) ∈ gT := gT_mem 146 (by decide +kernel) rfl
theorem tw_147 : (Jvm.Cond.methodLink "MovedLines" (38 : Nat) ({ cls := "MovedLines$Past", name := "<init>", desc := "()V" } : Jvm.MethodName)) ∈ gT := gT_mem 147 (by decide +kernel) rfl
theorem tw_148 : (Jvm.Cond.instanceMethod ({ cls := "MovedLines$Past", name := "<init>", desc := "()V" } : Jvm.MethodName)) ∈ gT := gT_mem 148 (by decide +kernel) rfl
theorem tw_149 : (Jvm.Cond.code ({ cls := "MovedLines$Past", name := "<init>", desc := "()V" } : Jvm.MethodName) prog_7_method_1_code (2 : Nat) (Option.none : Option Jvm.ClassFile.FieldType)) ∈ gT := gT_mem 149 (by decide +kernel) rfl
theorem tw_150 : (Jvm.Cond.methodLink "MovedLines$Past" (3 : Nat) ({ cls := "java/lang/Object", name := "<init>", desc := "()V" } : Jvm.MethodName)) ∈ gT := gT_mem 150 (by decide +kernel) rfl
theorem tw_151 : (Jvm.Cond.classLink "MovedLines$Past" (9 : Nat) "MovedLines$Edition") ∈ gT := gT_mem 151 (by decide +kernel) rfl
theorem tw_154 : (Jvm.Cond.fieldLink "MovedLines$Past" (11 : Nat) "MovedLines$Past" "editions" "[LMovedLines$Edition;") ∈ gT := gT_mem 154 (by decide +kernel) rfl
theorem tw_155 : (Jvm.Cond.fieldLink "MovedLines" (227 : Nat) "MovedLines$Past" "editions" "[LMovedLines$Edition;") ∈ gT := gT_mem 155 (by decide +kernel) rfl
theorem tw_156 : (Jvm.Cond.fieldLink "MovedLines$Past" (17 : Nat) "MovedLines$Past" "which" "[I") ∈ gT := gT_mem 156 (by decide +kernel) rfl
theorem tw_157 : (Jvm.Cond.fieldLink "MovedLines" (224 : Nat) "MovedLines$Past" "which" "[I") ∈ gT := gT_mem 157 (by decide +kernel) rfl
theorem tw_158 : (Jvm.Cond.fieldLink "MovedLines$Past" (21 : Nat) "MovedLines$Past" "count" "I") ∈ gT := gT_mem 158 (by decide +kernel) rfl
theorem tw_159 : (Jvm.Cond.fieldLink "MovedLines" (125 : Nat) "MovedLines$Past" "count" "I") ∈ gT := gT_mem 159 (by decide +kernel) rfl
theorem tw_160 : (Jvm.Cond.fieldLink "MovedLines$Past" (25 : Nat) "MovedLines$Past" "next" "I") ∈ gT := gT_mem 160 (by decide +kernel) rfl
theorem tw_161 : (Jvm.Cond.laysFinal "MovedLines$Past" "MovedLines$Past" "editions" "[LMovedLines$Edition;") ∈ gT := gT_mem 161 (by decide +kernel) rfl
theorem tw_163 : (Jvm.Cond.laysFinal "MovedLines$Past" "MovedLines$Past" "which" "[I") ∈ gT := gT_mem 163 (by decide +kernel) rfl
theorem tw_165 : (Jvm.Cond.lays "MovedLines$Past" "MovedLines$Past" "count" "I") ∈ gT := gT_mem 165 (by decide +kernel) rfl
theorem tw_167 : (Jvm.Cond.lays "MovedLines$Past" "MovedLines$Past" "next" "I") ∈ gT := gT_mem 167 (by decide +kernel) rfl
theorem tw_170 : (Jvm.Cond.classLink "MovedLines" (43 : Nat) "MovedLines$Comparer") ∈ gT := gT_mem 170 (by decide +kernel) rfl
theorem tw_171 : (Jvm.Cond.instantiable "MovedLines$Comparer" (4 : Nat)) ∈ gT := gT_mem 171 (by decide +kernel) rfl
theorem tw_173 : (Jvm.Cond.instanceMethod ({ cls := "MovedLines$Comparer", name := "<init>", desc := "()V" } : Jvm.MethodName)) ∈ gT := gT_mem 173 (by decide +kernel) rfl
theorem tw_174 : (Jvm.Cond.code ({ cls := "MovedLines$Comparer", name := "<init>", desc := "()V" } : Jvm.MethodName) prog_3_method_1_code (1 : Nat) (Option.none : Option Jvm.ClassFile.FieldType)) ∈ gT := gT_mem 174 (by decide +kernel) rfl
theorem tw_175 : (Jvm.Cond.methodLink "MovedLines$Comparer" (3 : Nat) ({ cls := "java/lang/Object", name := "<init>", desc := "()V" } : Jvm.MethodName)) ∈ gT := gT_mem 175 (by decide +kernel) rfl
theorem tw_176 : (Jvm.Cond.classLink "MovedLines$Comparer" (9 : Nat) "MovedLines$Kinds") ∈ gT := gT_mem 176 (by decide +kernel) rfl
theorem tw_177 : (Jvm.Cond.instantiable "MovedLines$Kinds" (4 : Nat)) ∈ gT := gT_mem 177 (by decide +kernel) rfl
theorem tw_179 : (Jvm.Cond.instanceMethod ({ cls := "MovedLines$Kinds", name := "<init>", desc := "()V" } : Jvm.MethodName)) ∈ gT := gT_mem 179 (by decide +kernel) rfl
theorem tw_180 : (Jvm.Cond.code ({ cls := "MovedLines$Kinds", name := "<init>", desc := "()V" } : Jvm.MethodName) prog_6_method_1_code (1 : Nat) (Option.none : Option Jvm.ClassFile.FieldType)) ∈ gT := gT_mem 180 (by decide +kernel) rfl
theorem tw_181 : (Jvm.Cond.methodLink "MovedLines$Kinds" (3 : Nat) ({ cls := "java/lang/Object", name := "<init>", desc := "()V" } : Jvm.MethodName)) ∈ gT := gT_mem 181 (by decide +kernel) rfl
theorem tw_182 : (Jvm.Cond.fieldLink "MovedLines$Kinds" (9 : Nat) "MovedLines$Kinds" "olds" "[I") ∈ gT := gT_mem 182 (by decide +kernel) rfl
theorem tw_183 : (Jvm.Cond.fieldLink "MovedLines$Comparer" (70 : Nat) "MovedLines$Kinds" "olds" "[I") ∈ gT := gT_mem 183 (by decide +kernel) rfl
theorem tw_184 : (Jvm.Cond.fieldLink "MovedLines$Keeper" (83 : Nat) "MovedLines$Kinds" "olds" "[I") ∈ gT := gT_mem 184 (by decide +kernel) rfl
theorem tw_185 : (Jvm.Cond.fieldLink "MovedLines$Kinds" (15 : Nat) "MovedLines$Kinds" "news" "[I") ∈ gT := gT_mem 185 (by decide +kernel) rfl
theorem tw_186 : (Jvm.Cond.fieldLink "MovedLines$Comparer" (81 : Nat) "MovedLines$Kinds" "news" "[I") ∈ gT := gT_mem 186 (by decide +kernel) rfl
theorem tw_187 : (Jvm.Cond.fieldLink "MovedLines$Keeper" (86 : Nat) "MovedLines$Kinds" "news" "[I") ∈ gT := gT_mem 187 (by decide +kernel) rfl
theorem tw_188 : (Jvm.Cond.fieldLink "MovedLines$Kinds" (18 : Nat) "MovedLines$Kinds" "oldLines" "I") ∈ gT := gT_mem 188 (by decide +kernel) rfl
theorem tw_189 : (Jvm.Cond.fieldLink "MovedLines$Keeper" (40 : Nat) "MovedLines$Kinds" "oldLines" "I") ∈ gT := gT_mem 189 (by decide +kernel) rfl
theorem tw_190 : (Jvm.Cond.fieldLink "MovedLines$Comparer" (74 : Nat) "MovedLines$Kinds" "oldLines" "I") ∈ gT := gT_mem 190 (by decide +kernel) rfl
theorem tw_191 : (Jvm.Cond.fieldLink "MovedLines$Kinds" (22 : Nat) "MovedLines$Kinds" "newLines" "I") ∈ gT := gT_mem 191 (by decide +kernel) rfl
theorem tw_192 : (Jvm.Cond.fieldLink "MovedLines$Keeper" (45 : Nat) "MovedLines$Kinds" "newLines" "I") ∈ gT := gT_mem 192 (by decide +kernel) rfl
theorem tw_193 : (Jvm.Cond.fieldLink "MovedLines$Comparer" (84 : Nat) "MovedLines$Kinds" "newLines" "I") ∈ gT := gT_mem 193 (by decide +kernel) rfl
theorem tw_194 : (Jvm.Cond.laysFinal "MovedLines$Kinds" "MovedLines$Kinds" "olds" "[I") ∈ gT := gT_mem 194 (by decide +kernel) rfl
theorem tw_196 : (Jvm.Cond.laysFinal "MovedLines$Kinds" "MovedLines$Kinds" "news" "[I") ∈ gT := gT_mem 196 (by decide +kernel) rfl
theorem tw_198 : (Jvm.Cond.lays "MovedLines$Kinds" "MovedLines$Kinds" "oldLines" "I") ∈ gT := gT_mem 198 (by decide +kernel) rfl
theorem tw_200 : (Jvm.Cond.lays "MovedLines$Kinds" "MovedLines$Kinds" "newLines" "I") ∈ gT := gT_mem 200 (by decide +kernel) rfl
theorem tw_203 : (Jvm.Cond.classLink "MovedLines$Comparer" (18 : Nat) "MovedLines$Keeper") ∈ gT := gT_mem 203 (by decide +kernel) rfl
theorem tw_204 : (Jvm.Cond.instantiable "MovedLines$Keeper" (9 : Nat)) ∈ gT := gT_mem 204 (by decide +kernel) rfl
theorem tw_206 : (Jvm.Cond.instanceMethod ({ cls := "MovedLines$Keeper", name := "<init>", desc := "()V" } : Jvm.MethodName)) ∈ gT := gT_mem 206 (by decide +kernel) rfl
theorem tw_207 : (Jvm.Cond.code ({ cls := "MovedLines$Keeper", name := "<init>", desc := "()V" } : Jvm.MethodName) prog_5_method_1_code (1 : Nat) (Option.none : Option Jvm.ClassFile.FieldType)) ∈ gT := gT_mem 207 (by decide +kernel) rfl
theorem tw_208 : (Jvm.Cond.methodLink "MovedLines$Keeper" (3 : Nat) ({ cls := "java/lang/Object", name := "<init>", desc := "()V" } : Jvm.MethodName)) ∈ gT := gT_mem 208 (by decide +kernel) rfl
theorem tw_209 : (Jvm.Cond.fieldLink "MovedLines$Keeper" (9 : Nat) "MovedLines$Keeper" "oldFrom" "[I") ∈ gT := gT_mem 209 (by decide +kernel) rfl
theorem tw_210 : (Jvm.Cond.fieldLink "MovedLines$Keeper" (15 : Nat) "MovedLines$Keeper" "oldTo" "[I") ∈ gT := gT_mem 210 (by decide +kernel) rfl
theorem tw_211 : (Jvm.Cond.fieldLink "MovedLines$Keeper" (18 : Nat) "MovedLines$Keeper" "newFrom" "[I") ∈ gT := gT_mem 211 (by decide +kernel) rfl
theorem tw_212 : (Jvm.Cond.fieldLink "MovedLines$Keeper" (21 : Nat) "MovedLines$Keeper" "newTo" "[I") ∈ gT := gT_mem 212 (by decide +kernel) rfl
theorem tw_213 : (Jvm.Cond.fieldLink "MovedLines$Keeper" (24 : Nat) "MovedLines$Keeper" "ranges" "I") ∈ gT := gT_mem 213 (by decide +kernel) rfl
theorem tw_214 : (Jvm.Cond.fieldLink "MovedLines$Keeper" (28 : Nat) "MovedLines$Keeper" "anchorOld" "[I") ∈ gT := gT_mem 214 (by decide +kernel) rfl
theorem tw_215 : (Jvm.Cond.fieldLink "MovedLines$Keeper" (31 : Nat) "MovedLines$Keeper" "anchorNew" "[I") ∈ gT := gT_mem 215 (by decide +kernel) rfl
theorem tw_216 : (Jvm.Cond.fieldLink "MovedLines$Keeper" (34 : Nat) "MovedLines$Keeper" "rise" "[I") ∈ gT := gT_mem 216 (by decide +kernel) rfl
theorem tw_217 : (Jvm.Cond.fieldLink "MovedLines$Keeper" (37 : Nat) "MovedLines$Keeper" "found" "I") ∈ gT := gT_mem 217 (by decide +kernel) rfl
theorem tw_218 : (Jvm.Cond.laysFinal "MovedLines$Keeper" "MovedLines$Keeper" "oldFrom" "[I") ∈ gT := gT_mem 218 (by decide +kernel) rfl
theorem tw_220 : (Jvm.Cond.laysFinal "MovedLines$Keeper" "MovedLines$Keeper" "oldTo" "[I") ∈ gT := gT_mem 220 (by decide +kernel) rfl
theorem tw_222 : (Jvm.Cond.laysFinal "MovedLines$Keeper" "MovedLines$Keeper" "newFrom" "[I") ∈ gT := gT_mem 222 (by decide +kernel) rfl
theorem tw_224 : (Jvm.Cond.laysFinal "MovedLines$Keeper" "MovedLines$Keeper" "newTo" "[I") ∈ gT := gT_mem 224 (by decide +kernel) rfl
theorem tw_226 : (Jvm.Cond.lays "MovedLines$Keeper" "MovedLines$Keeper" "ranges" "I") ∈ gT := gT_mem 226 (by decide +kernel) rfl
theorem tw_228 : (Jvm.Cond.laysFinal "MovedLines$Keeper" "MovedLines$Keeper" "anchorOld" "[I") ∈ gT := gT_mem 228 (by decide +kernel) rfl
theorem tw_230 : (Jvm.Cond.laysFinal "MovedLines$Keeper" "MovedLines$Keeper" "anchorNew" "[I") ∈ gT := gT_mem 230 (by decide +kernel) rfl
theorem tw_232 : (Jvm.Cond.laysFinal "MovedLines$Keeper" "MovedLines$Keeper" "rise" "[I") ∈ gT := gT_mem 232 (by decide +kernel) rfl
theorem tw_234 : (Jvm.Cond.lays "MovedLines$Keeper" "MovedLines$Keeper" "found" "I") ∈ gT := gT_mem 234 (by decide +kernel) rfl
theorem tw_237 : (Jvm.Cond.classLink "MovedLines$Comparer" (25 : Nat) "MovedLines$CommonRow") ∈ gT := gT_mem 237 (by decide +kernel) rfl
theorem tw_238 : (Jvm.Cond.instantiable "MovedLines$CommonRow" (5 : Nat)) ∈ gT := gT_mem 238 (by decide +kernel) rfl
theorem tw_240 : (Jvm.Cond.instanceMethod ({ cls := "MovedLines$CommonRow", name := "<init>", desc := "()V" } : Jvm.MethodName)) ∈ gT := gT_mem 240 (by decide +kernel) rfl
theorem tw_241 : (Jvm.Cond.code ({ cls := "MovedLines$CommonRow", name := "<init>", desc := "()V" } : Jvm.MethodName) prog_2_method_1_code (1 : Nat) (Option.none : Option Jvm.ClassFile.FieldType)) ∈ gT := gT_mem 241 (by decide +kernel) rfl
theorem tw_242 : (Jvm.Cond.methodLink "MovedLines$CommonRow" (3 : Nat) ({ cls := "java/lang/Object", name := "<init>", desc := "()V" } : Jvm.MethodName)) ∈ gT := gT_mem 242 (by decide +kernel) rfl
theorem tw_243 : (Jvm.Cond.fieldLink "MovedLines$CommonRow" (9 : Nat) "MovedLines$CommonRow" "first" "[I") ∈ gT := gT_mem 243 (by decide +kernel) rfl
theorem tw_244 : (Jvm.Cond.fieldLink "MovedLines$CommonRow" (15 : Nat) "MovedLines$CommonRow" "second" "[I") ∈ gT := gT_mem 244 (by decide +kernel) rfl
theorem tw_245 : (Jvm.Cond.fieldLink "MovedLines$CommonRow" (18 : Nat) "MovedLines$CommonRow" "longest" "[I") ∈ gT := gT_mem 245 (by decide +kernel) rfl
theorem tw_246 : (Jvm.Cond.fieldLink "MovedLines$CommonRow" (21 : Nat) "MovedLines$CommonRow" "firsts" "I") ∈ gT := gT_mem 246 (by decide +kernel) rfl
theorem tw_247 : (Jvm.Cond.fieldLink "MovedLines$CommonRow" (25 : Nat) "MovedLines$CommonRow" "seconds" "I") ∈ gT := gT_mem 247 (by decide +kernel) rfl
theorem tw_248 : (Jvm.Cond.laysFinal "MovedLines$CommonRow" "MovedLines$CommonRow" "first" "[I") ∈ gT := gT_mem 248 (by decide +kernel) rfl
theorem tw_250 : (Jvm.Cond.laysFinal "MovedLines$CommonRow" "MovedLines$CommonRow" "second" "[I") ∈ gT := gT_mem 250 (by decide +kernel) rfl
theorem tw_252 : (Jvm.Cond.laysFinal "MovedLines$CommonRow" "MovedLines$CommonRow" "longest" "[I") ∈ gT := gT_mem 252 (by decide +kernel) rfl
theorem tw_254 : (Jvm.Cond.lays "MovedLines$CommonRow" "MovedLines$CommonRow" "firsts" "I") ∈ gT := gT_mem 254 (by decide +kernel) rfl
theorem tw_256 : (Jvm.Cond.lays "MovedLines$CommonRow" "MovedLines$CommonRow" "seconds" "I") ∈ gT := gT_mem 256 (by decide +kernel) rfl
theorem tw_259 : (Jvm.Cond.classLink "MovedLines$Comparer" (32 : Nat) "[[I") ∈ gT := gT_mem 259 (by decide +kernel) rfl
theorem tw_261 : (Jvm.Cond.fieldLink "MovedLines$Comparer" (12 : Nat) "MovedLines$Comparer" "kinds" "LMovedLines$Kinds;") ∈ gT := gT_mem 261 (by decide +kernel) rfl
theorem tw_262 : (Jvm.Cond.fieldLink "MovedLines$Comparer" (21 : Nat) "MovedLines$Comparer" "keeper" "LMovedLines$Keeper;") ∈ gT := gT_mem 262 (by decide +kernel) rfl
theorem tw_263 : (Jvm.Cond.fieldLink "MovedLines$Comparer" (28 : Nat) "MovedLines$Comparer" "common" "LMovedLines$CommonRow;") ∈ gT := gT_mem 263 (by decide +kernel) rfl
theorem tw_264 : (Jvm.Cond.fieldLink "MovedLines$Comparer" (34 : Nat) "MovedLines$Comparer" "likeness" "[[I") ∈ gT := gT_mem 264 (by decide +kernel) rfl
theorem tw_265 : (Jvm.Cond.laysFinal "MovedLines$Comparer" "MovedLines$Comparer" "kinds" "LMovedLines$Kinds;") ∈ gT := gT_mem 265 (by decide +kernel) rfl
theorem tw_267 : (Jvm.Cond.laysFinal "MovedLines$Comparer" "MovedLines$Comparer" "keeper" "LMovedLines$Keeper;") ∈ gT := gT_mem 267 (by decide +kernel) rfl
theorem tw_269 : (Jvm.Cond.laysFinal "MovedLines$Comparer" "MovedLines$Comparer" "common" "LMovedLines$CommonRow;") ∈ gT := gT_mem 269 (by decide +kernel) rfl
theorem tw_271 : (Jvm.Cond.laysFinal "MovedLines$Comparer" "MovedLines$Comparer" "likeness" "[[I") ∈ gT := gT_mem 271 (by decide +kernel) rfl
theorem tw_274 : (Jvm.Cond.classLink "MovedLines" (50 : Nat) "MovedLines$CommonRow") ∈ gT := gT_mem 274 (by decide +kernel) rfl
theorem tw_276 : (Jvm.Cond.classLink "MovedLines" (57 : Nat) "MovedLines$Told") ∈ gT := gT_mem 276 (by decide +kernel) rfl
theorem tw_277 : (Jvm.Cond.instantiable "MovedLines$Told" (11 : Nat)) ∈ gT := gT_mem 277 (by decide +kernel) rfl
theorem tw_279 : (Jvm.Cond.instanceMethod ({ cls := "MovedLines$Told", name := "<init>", desc := "()V" } : Jvm.MethodName)) ∈ gT := gT_mem 279 (by decide +kernel) rfl
theorem tw_280 : (Jvm.Cond.code ({ cls := "MovedLines$Told", name := "<init>", desc := "()V" } : Jvm.MethodName) prog_10_method_1_code (1 : Nat) (Option.none : Option Jvm.ClassFile.FieldType)) ∈ gT := gT_mem 280 (by decide +kernel) rfl
theorem tw_281 : (Jvm.Cond.methodLink "MovedLines$Told" (3 : Nat) ({ cls := "java/lang/Object", name := "<init>", desc := "()V" } : Jvm.MethodName)) ∈ gT := gT_mem 281 (by decide +kernel) rfl
theorem tw_282 : (Jvm.Cond.classLink "MovedLines$Told" (9 : Nat) "[[I") ∈ gT := gT_mem 282 (by decide +kernel) rfl
theorem tw_283 : (Jvm.Cond.fieldLink "MovedLines$Told" (11 : Nat) "MovedLines$Told" "how" "[[I") ∈ gT := gT_mem 283 (by decide +kernel) rfl
theorem tw_284 : (Jvm.Cond.fieldLink "MovedLines" (143 : Nat) "MovedLines$Told" "how" "[[I") ∈ gT := gT_mem 284 (by decide +kernel) rfl
theorem tw_285 : (Jvm.Cond.fieldLink "MovedLines$Told" (16 : Nat) "MovedLines$Told" "with" "[[I") ∈ gT := gT_mem 285 (by decide +kernel) rfl
theorem tw_286 : (Jvm.Cond.fieldLink "MovedLines" (147 : Nat) "MovedLines$Told" "with" "[[I") ∈ gT := gT_mem 286 (by decide +kernel) rfl
theorem tw_287 : (Jvm.Cond.fieldLink "MovedLines$Told" (19 : Nat) "MovedLines$Told" "blockOf" "[[I") ∈ gT := gT_mem 287 (by decide +kernel) rfl
theorem tw_288 : (Jvm.Cond.fieldLink "MovedLines" (150 : Nat) "MovedLines$Told" "blockOf" "[[I") ∈ gT := gT_mem 288 (by decide +kernel) rfl
theorem tw_289 : (Jvm.Cond.fieldLink "MovedLines$Told" (22 : Nat) "MovedLines$Told" "couples" "[I") ∈ gT := gT_mem 289 (by decide +kernel) rfl
theorem tw_290 : (Jvm.Cond.fieldLink "MovedLines" (114 : Nat) "MovedLines$Told" "couples" "[I") ∈ gT := gT_mem 290 (by decide +kernel) rfl
theorem tw_291 : (Jvm.Cond.fieldLink "MovedLines$Told" (26 : Nat) "MovedLines$Told" "blockOld" "[I") ∈ gT := gT_mem 291 (by decide +kernel) rfl
theorem tw_292 : (Jvm.Cond.fieldLink "MovedLines" (165 : Nat) "MovedLines$Told" "blockOld" "[I") ∈ gT := gT_mem 292 (by decide +kernel) rfl
theorem tw_293 : (Jvm.Cond.fieldLink "MovedLines$Told" (29 : Nat) "MovedLines$Told" "blockNew" "[I") ∈ gT := gT_mem 293 (by decide +kernel) rfl
theorem tw_294 : (Jvm.Cond.fieldLink "MovedLines" (168 : Nat) "MovedLines$Told" "blockNew" "[I") ∈ gT := gT_mem 294 (by decide +kernel) rfl
theorem tw_295 : (Jvm.Cond.fieldLink "MovedLines$Told" (32 : Nat) "MovedLines$Told" "blockLines" "[I") ∈ gT := gT_mem 295 (by decide +kernel) rfl
theorem tw_296 : (Jvm.Cond.fieldLink "MovedLines" (171 : Nat) "MovedLines$Told" "blockLines" "[I") ∈ gT := gT_mem 296 (by decide +kernel) rfl
theorem tw_297 : (Jvm.Cond.fieldLink "MovedLines$Told" (35 : Nat) "MovedLines$Told" "blocks" "I") ∈ gT := gT_mem 297 (by decide +kernel) rfl
theorem tw_298 : (Jvm.Cond.fieldLink "MovedLines" (118 : Nat) "MovedLines$Told" "blocks" "I") ∈ gT := gT_mem 298 (by decide +kernel) rfl
theorem tw_299 : (Jvm.Cond.fieldLink "MovedLines$Told" (39 : Nat) "MovedLines$Told" "firstAnchors" "I") ∈ gT := gT_mem 299 (by decide +kernel) rfl
theorem tw_300 : (Jvm.Cond.fieldLink "MovedLines$Keeper" (64 : Nat) "MovedLines$Told" "firstAnchors" "I") ∈ gT := gT_mem 300 (by decide +kernel) rfl
theorem tw_301 : (Jvm.Cond.fieldLink "MovedLines" (187 : Nat) "MovedLines$Told" "firstAnchors" "I") ∈ gT := gT_mem 301 (by decide +kernel) rfl
theorem tw_302 : (Jvm.Cond.fieldLink "MovedLines$Told" (42 : Nat) "MovedLines$Told" "firstRun" "I") ∈ gT := gT_mem 302 (by decide +kernel) rfl
theorem tw_303 : (Jvm.Cond.fieldLink "MovedLines$Keeper" (69 : Nat) "MovedLines$Told" "firstRun" "I") ∈ gT := gT_mem 303 (by decide +kernel) rfl
theorem tw_304 : (Jvm.Cond.fieldLink "MovedLines" (190 : Nat) "MovedLines$Told" "firstRun" "I") ∈ gT := gT_mem 304 (by decide +kernel) rfl
theorem tw_305 : (Jvm.Cond.fieldLink "MovedLines$Told" (45 : Nat) "MovedLines$Told" "changedWords" "I") ∈ gT := gT_mem 305 (by decide +kernel) rfl
theorem tw_306 : (Jvm.Cond.fieldLink "MovedLines$Comparer" (62 : Nat) "MovedLines$Told" "changedWords" "I") ∈ gT := gT_mem 306 (by decide +kernel) rfl
theorem tw_307 : (Jvm.Cond.fieldLink "MovedLines" (184 : Nat) "MovedLines$Told" "changedWords" "I") ∈ gT := gT_mem 307 (by decide +kernel) rfl
theorem tw_308 : (Jvm.Cond.laysFinal "MovedLines$Told" "MovedLines$Told" "how" "[[I") ∈ gT := gT_mem 308 (by decide +kernel) rfl
theorem tw_310 : (Jvm.Cond.laysFinal "MovedLines$Told" "MovedLines$Told" "with" "[[I") ∈ gT := gT_mem 310 (by decide +kernel) rfl
theorem tw_312 : (Jvm.Cond.laysFinal "MovedLines$Told" "MovedLines$Told" "blockOf" "[[I") ∈ gT := gT_mem 312 (by decide +kernel) rfl
theorem tw_314 : (Jvm.Cond.laysFinal "MovedLines$Told" "MovedLines$Told" "couples" "[I") ∈ gT := gT_mem 314 (by decide +kernel) rfl
theorem tw_316 : (Jvm.Cond.laysFinal "MovedLines$Told" "MovedLines$Told" "blockOld" "[I") ∈ gT := gT_mem 316 (by decide +kernel) rfl
theorem tw_318 : (Jvm.Cond.laysFinal "MovedLines$Told" "MovedLines$Told" "blockNew" "[I") ∈ gT := gT_mem 318 (by decide +kernel) rfl
theorem tw_320 : (Jvm.Cond.laysFinal "MovedLines$Told" "MovedLines$Told" "blockLines" "[I") ∈ gT := gT_mem 320 (by decide +kernel) rfl
theorem tw_322 : (Jvm.Cond.lays "MovedLines$Told" "MovedLines$Told" "blocks" "I") ∈ gT := gT_mem 322 (by decide +kernel) rfl
theorem tw_324 : (Jvm.Cond.lays "MovedLines$Told" "MovedLines$Told" "firstAnchors" "I") ∈ gT := gT_mem 324 (by decide +kernel) rfl
end
section
theorem tw_326 : (Jvm.Cond.lays "MovedLines$Told" "MovedLines$Told" "firstRun" "I") ∈ gT := gT_mem 326 (by decide +kernel) rfl
theorem tw_328 : (Jvm.Cond.lays "MovedLines$Told" "MovedLines$Told" "changedWords" "I") ∈ gT := gT_mem 328 (by decide +kernel) rfl
theorem tw_331 : (Jvm.Cond.fieldLink "MovedLines" (10 : Nat) "MovedLines" "tape" "LMovedLines$Tape;") ∈ gT := gT_mem 331 (by decide +kernel) rfl
theorem tw_332 : (Jvm.Cond.fieldLink "MovedLines" (19 : Nat) "MovedLines" "reader" "LMovedLines$Reader;") ∈ gT := gT_mem 332 (by decide +kernel) rfl
theorem tw_333 : (Jvm.Cond.fieldLink "MovedLines" (26 : Nat) "MovedLines" "old" "LMovedLines$Edition;") ∈ gT := gT_mem 333 (by decide +kernel) rfl
theorem tw_334 : (Jvm.Cond.fieldLink "MovedLines" (30 : Nat) "MovedLines" "fresh" "LMovedLines$Edition;") ∈ gT := gT_mem 334 (by decide +kernel) rfl
theorem tw_335 : (Jvm.Cond.fieldLink "MovedLines" (33 : Nat) "MovedLines" "spare" "LMovedLines$Edition;") ∈ gT := gT_mem 335 (by decide +kernel) rfl
theorem tw_336 : (Jvm.Cond.fieldLink "MovedLines" (39 : Nat) "MovedLines" "past" "LMovedLines$Past;") ∈ gT := gT_mem 336 (by decide +kernel) rfl
theorem tw_337 : (Jvm.Cond.fieldLink "MovedLines" (46 : Nat) "MovedLines" "comparer" "LMovedLines$Comparer;") ∈ gT := gT_mem 337 (by decide +kernel) rfl
theorem tw_338 : (Jvm.Cond.fieldLink "MovedLines" (53 : Nat) "MovedLines" "common" "LMovedLines$CommonRow;") ∈ gT := gT_mem 338 (by decide +kernel) rfl
theorem tw_339 : (Jvm.Cond.fieldLink "MovedLines" (60 : Nat) "MovedLines" "told" "LMovedLines$Told;") ∈ gT := gT_mem 339 (by decide +kernel) rfl
theorem tw_340 : (Jvm.Cond.fieldLink "MovedLines" (64 : Nat) "MovedLines" "supposed" "LMovedLines$Told;") ∈ gT := gT_mem 340 (by decide +kernel) rfl
theorem tw_341 : (Jvm.Cond.fieldLink "MovedLines" (67 : Nat) "MovedLines" "stale" "Z") ∈ gT := gT_mem 341 (by decide +kernel) rfl
theorem tw_342 : (Jvm.Cond.laysFinal "MovedLines" "MovedLines" "tape" "LMovedLines$Tape;") ∈ gT := gT_mem 342 (by decide +kernel) rfl
theorem tw_344 : (Jvm.Cond.laysFinal "MovedLines" "MovedLines" "reader" "LMovedLines$Reader;") ∈ gT := gT_mem 344 (by decide +kernel) rfl
theorem tw_346 : (Jvm.Cond.laysFinal "MovedLines" "MovedLines" "old" "LMovedLines$Edition;") ∈ gT := gT_mem 346 (by decide +kernel) rfl
theorem tw_348 : (Jvm.Cond.laysFinal "MovedLines" "MovedLines" "fresh" "LMovedLines$Edition;") ∈ gT := gT_mem 348 (by decide +kernel) rfl
theorem tw_350 : (Jvm.Cond.laysFinal "MovedLines" "MovedLines" "spare" "LMovedLines$Edition;") ∈ gT := gT_mem 350 (by decide +kernel) rfl
theorem tw_352 : (Jvm.Cond.laysFinal "MovedLines" "MovedLines" "past" "LMovedLines$Past;") ∈ gT := gT_mem 352 (by decide +kernel) rfl
theorem tw_354 : (Jvm.Cond.laysFinal "MovedLines" "MovedLines" "comparer" "LMovedLines$Comparer;") ∈ gT := gT_mem 354 (by decide +kernel) rfl
theorem tw_356 : (Jvm.Cond.laysFinal "MovedLines" "MovedLines" "common" "LMovedLines$CommonRow;") ∈ gT := gT_mem 356 (by decide +kernel) rfl
theorem tw_358 : (Jvm.Cond.laysFinal "MovedLines" "MovedLines" "told" "LMovedLines$Told;") ∈ gT := gT_mem 358 (by decide +kernel) rfl
theorem tw_360 : (Jvm.Cond.laysFinal "MovedLines" "MovedLines" "supposed" "LMovedLines$Told;") ∈ gT := gT_mem 360 (by decide +kernel) rfl
theorem tw_362 : (Jvm.Cond.lays "MovedLines" "MovedLines" "stale" "Z") ∈ gT := gT_mem 362 (by decide +kernel) rfl
theorem tw_365 : (Jvm.Cond.methodLink "MovedLinesLaw" (19 : Nat) ({ cls := "MovedLines", name := "feed", desc := "(IIIII)I" } : Jvm.MethodName)) ∈ gT := gT_mem 365 (by decide +kernel) rfl
theorem tw_366 : (Jvm.Cond.instanceMethod ({ cls := "MovedLines", name := "feed", desc := "(IIIII)I" } : Jvm.MethodName)) ∈ gT := gT_mem 366 (by decide +kernel) rfl
theorem tw_367 : (Jvm.Cond.selects "MovedLines" ({ cls := "MovedLines", name := "feed", desc := "(IIIII)I" } : Jvm.MethodName) ({ cls := "MovedLines", name := "feed", desc := "(IIIII)I" } : Jvm.MethodName)) ∈ gT := gT_mem 367 (by decide +kernel) rfl
theorem tw_368 : (Jvm.Cond.code ({ cls := "MovedLines", name := "feed", desc := "(IIIII)I" } : Jvm.MethodName) prog_1_method_2_code (6 : Nat) (Option.some Jvm.ClassFile.FieldType.int)) ∈ gT := gT_mem 368 (by decide +kernel) rfl
theorem tw_369 : (Jvm.Cond.methodLink "MovedLines" (75 : Nat) ({ cls := "MovedLines$Tape", name := "append", desc := "(I)V" } : Jvm.MethodName)) ∈ gT := gT_mem 369 (by decide +kernel) rfl
theorem tw_370 : (Jvm.Cond.instanceMethod ({ cls := "MovedLines$Tape", name := "append", desc := "(I)V" } : Jvm.MethodName)) ∈ gT := gT_mem 370 (by decide +kernel) rfl
theorem tw_371 : (Jvm.Cond.selects "MovedLines$Tape" ({ cls := "MovedLines$Tape", name := "append", desc := "(I)V" } : Jvm.MethodName) ({ cls := "MovedLines$Tape", name := "append", desc := "(I)V" } : Jvm.MethodName)) ∈ gT := gT_mem 371 (by decide +kernel) rfl
theorem tw_372 : (Jvm.Cond.code ({ cls := "MovedLines$Tape", name := "append", desc := "(I)V" } : Jvm.MethodName) prog_9_method_2_code (2 : Nat) (Option.none : Option Jvm.ClassFile.FieldType)) ∈ gT := gT_mem 372 (by decide +kernel) rfl
theorem tw_373 : (Jvm.Cond.methodLink "MovedLinesLaw" (24 : Nat) ({ cls := "MovedLines", name := "end", desc := "(I)Z" } : Jvm.MethodName)) ∈ gT := gT_mem 373 (by decide +kernel) rfl
theorem tw_374 : (Jvm.Cond.instanceMethod ({ cls := "MovedLines", name := "end", desc := "(I)Z" } : Jvm.MethodName)) ∈ gT := gT_mem 374 (by decide +kernel) rfl
theorem tw_375 : (Jvm.Cond.selects "MovedLines" ({ cls := "MovedLines", name := "end", desc := "(I)Z" } : Jvm.MethodName) ({ cls := "MovedLines", name := "end", desc := "(I)Z" } : Jvm.MethodName)) ∈ gT := gT_mem 375 (by decide +kernel) rfl
theorem tw_376 : (Jvm.Cond.code ({ cls := "MovedLines", name := "end", desc := "(I)Z" } : Jvm.MethodName) prog_1_method_3_code (2 : Nat) (Option.some Jvm.ClassFile.FieldType.boolean)) ∈ gT := gT_mem 376 (by decide +kernel) rfl
theorem tw_377 : (Jvm.Cond.methodLink "MovedLinesLaw" (29 : Nat) ({ cls := "MovedLines", name := "edition", desc := "(I)I" } : Jvm.MethodName)) ∈ gT := gT_mem 377 (by decide +kernel) rfl
theorem tw_378 : (Jvm.Cond.instanceMethod ({ cls := "MovedLines", name := "edition", desc := "(I)I" } : Jvm.MethodName)) ∈ gT := gT_mem 378 (by decide +kernel) rfl
theorem tw_379 : (Jvm.Cond.selects "MovedLines" ({ cls := "MovedLines", name := "edition", desc := "(I)I" } : Jvm.MethodName) ({ cls := "MovedLines", name := "edition", desc := "(I)I" } : Jvm.MethodName)) ∈ gT := gT_mem 379 (by decide +kernel) rfl
theorem tw_380 : (Jvm.Cond.code ({ cls := "MovedLines", name := "edition", desc := "(I)I" } : Jvm.MethodName) prog_1_method_4_code (2 : Nat) (Option.some Jvm.ClassFile.FieldType.int)) ∈ gT := gT_mem 380 (by decide +kernel) rfl
theorem tw_381 : (Jvm.Cond.methodLink "MovedLines" (79 : Nat) ({ cls := "MovedLines", name := "isEdition", desc := "(I)Z" } : Jvm.MethodName)) ∈ gT := gT_mem 381 (by decide +kernel) rfl
theorem tw_382 : (Jvm.Cond.static ({ cls := "MovedLines", name := "isEdition", desc := "(I)Z" } : Jvm.MethodName)) ∈ gT := gT_mem 382 (by decide +kernel) rfl
theorem tw_383 : (Jvm.Cond.code ({ cls := "MovedLines", name := "isEdition", desc := "(I)Z" } : Jvm.MethodName) prog_1_method_22_code (1 : Nat) (Option.some Jvm.ClassFile.FieldType.boolean)) ∈ gT := gT_mem 383 (by decide +kernel) rfl
theorem tw_384 : (Jvm.Cond.methodLink "MovedLines" (83 : Nat) ({ cls := "MovedLines", name := "readTape", desc := "(Z)Z" } : Jvm.MethodName)) ∈ gT := gT_mem 384 (by decide +kernel) rfl
theorem tw_386 : (Jvm.Cond.instanceMethod ({ cls := "MovedLines", name := "readTape", desc := "(Z)Z" } : Jvm.MethodName)) ∈ gT := gT_mem 386 (by decide +kernel) rfl
theorem tw_387 : (Jvm.Cond.code ({ cls := "MovedLines", name := "readTape", desc := "(Z)Z" } : Jvm.MethodName) prog_1_method_26_code (3 : Nat) (Option.some Jvm.ClassFile.FieldType.boolean)) ∈ gT := gT_mem 387 (by decide +kernel) rfl
theorem tw_388 : (Jvm.Cond.methodLink "MovedLines" (234 : Nat) ({ cls := "MovedLines$Reader", name := "read", desc := "(LMovedLines$Tape;Z)Z" } : Jvm.MethodName)) ∈ gT := gT_mem 388 (by decide +kernel) rfl
theorem tw_389 : (Jvm.Cond.instanceMethod ({ cls := "MovedLines$Reader", name := "read", desc := "(LMovedLines$Tape;Z)Z" } : Jvm.MethodName)) ∈ gT := gT_mem 389 (by decide +kernel) rfl
theorem tw_390 : (Jvm.Cond.selects "MovedLines$Reader" ({ cls := "MovedLines$Reader", name := "read", desc := "(LMovedLines$Tape;Z)Z" } : Jvm.MethodName) ({ cls := "MovedLines$Reader", name := "read", desc := "(LMovedLines$Tape;Z)Z" } : Jvm.MethodName)) ∈ gT := gT_mem 390 (by decide +kernel) rfl
theorem tw_391 : (Jvm.Cond.code ({ cls := "MovedLines$Reader", name := "read", desc := "(LMovedLines$Tape;Z)Z" } : Jvm.MethodName) prog_8_method_2_code (5 : Nat) (Option.some Jvm.ClassFile.FieldType.boolean)) ∈ gT := gT_mem 391 (by decide +kernel) rfl
theorem tw_392 : (Jvm.Cond.methodLink "MovedLines$Reader" (43 : Nat) ({ cls := "MovedLines$Reader", name := "readByte", desc := "(IZ)I" } : Jvm.MethodName)) ∈ gT := gT_mem 392 (by decide +kernel) rfl
theorem tw_394 : (Jvm.Cond.instanceMethod ({ cls := "MovedLines$Reader", name := "readByte", desc := "(IZ)I" } : Jvm.MethodName)) ∈ gT := gT_mem 394 (by decide +kernel) rfl
theorem tw_395 : (Jvm.Cond.code ({ cls := "MovedLines$Reader", name := "readByte", desc := "(IZ)I" } : Jvm.MethodName) prog_8_method_3_code (3 : Nat) (Option.some Jvm.ClassFile.FieldType.int)) ∈ gT := gT_mem 395 (by decide +kernel) rfl
theorem tw_396 : (Jvm.Cond.methodLink "MovedLines$Reader" (51 : Nat) ({ cls := "MovedLines$Reader", name := "readLetter", desc := "(I)I" } : Jvm.MethodName)) ∈ gT := gT_mem 396 (by decide +kernel) rfl
theorem tw_398 : (Jvm.Cond.instanceMethod ({ cls := "MovedLines$Reader", name := "readLetter", desc := "(I)I" } : Jvm.MethodName)) ∈ gT := gT_mem 398 (by decide +kernel) rfl
theorem tw_399 : (Jvm.Cond.code ({ cls := "MovedLines$Reader", name := "readLetter", desc := "(I)I" } : Jvm.MethodName) prog_8_method_4_code (2 : Nat) (Option.some Jvm.ClassFile.FieldType.int)) ∈ gT := gT_mem 399 (by decide +kernel) rfl
theorem tw_400 : (Jvm.Cond.methodLink "MovedLines$Reader" (55 : Nat) ({ cls := "MovedLines$Reader", name := "closeLine", desc := "()I" } : Jvm.MethodName)) ∈ gT := gT_mem 400 (by decide +kernel) rfl
theorem tw_402 : (Jvm.Cond.instanceMethod ({ cls := "MovedLines$Reader", name := "closeLine", desc := "()I" } : Jvm.MethodName)) ∈ gT := gT_mem 402 (by decide +kernel) rfl
theorem tw_403 : (Jvm.Cond.code ({ cls := "MovedLines$Reader", name := "closeLine", desc := "()I" } : Jvm.MethodName) prog_8_method_5_code (1 : Nat) (Option.some Jvm.ClassFile.FieldType.int)) ∈ gT := gT_mem 403 (by decide +kernel) rfl
theorem tw_404 : (Jvm.Cond.methodLink "MovedLines$Reader" (47 : Nat) ({ cls := "MovedLines$Reader", name := "readEnd", desc := "(Z)I" } : Jvm.MethodName)) ∈ gT := gT_mem 404 (by decide +kernel) rfl
theorem tw_406 : (Jvm.Cond.instanceMethod ({ cls := "MovedLines$Reader", name := "readEnd", desc := "(Z)I" } : Jvm.MethodName)) ∈ gT := gT_mem 406 (by decide +kernel) rfl
theorem tw_407 : (Jvm.Cond.code ({ cls := "MovedLines$Reader", name := "readEnd", desc := "(Z)I" } : Jvm.MethodName) prog_8_method_6_code (2 : Nat) (Option.some Jvm.ClassFile.FieldType.int)) ∈ gT := gT_mem 407 (by decide +kernel) rfl
theorem tw_408 : (Jvm.Cond.methodLink "MovedLines" (90 : Nat) ({ cls := "MovedLines", name := "editionOf", desc := "(I)LMovedLines$Edition;" } : Jvm.MethodName)) ∈ gT := gT_mem 408 (by decide +kernel) rfl
theorem tw_410 : (Jvm.Cond.instanceMethod ({ cls := "MovedLines", name := "editionOf", desc := "(I)LMovedLines$Edition;" } : Jvm.MethodName)) ∈ gT := gT_mem 410 (by decide +kernel) rfl
theorem tw_411 : (Jvm.Cond.code ({ cls := "MovedLines", name := "editionOf", desc := "(I)LMovedLines$Edition;" } : Jvm.MethodName) prog_1_method_24_code (2 : Nat) (Option.some (Jvm.ClassFile.FieldType.object "MovedLines$Edition"))) ∈ gT := gT_mem 411 (by decide +kernel) rfl
theorem tw_412 : (Jvm.Cond.methodLink "MovedLines" (97 : Nat) ({ cls := "MovedLines$Edition", name := "copyAll", desc := "(LMovedLines$Edition;)V" } : Jvm.MethodName)) ∈ gT := gT_mem 412 (by decide +kernel) rfl
theorem tw_413 : (Jvm.Cond.instanceMethod ({ cls := "MovedLines$Edition", name := "copyAll", desc := "(LMovedLines$Edition;)V" } : Jvm.MethodName)) ∈ gT := gT_mem 413 (by decide +kernel) rfl
theorem tw_414 : (Jvm.Cond.selects "MovedLines$Edition" ({ cls := "MovedLines$Edition", name := "copyAll", desc := "(LMovedLines$Edition;)V" } : Jvm.MethodName) ({ cls := "MovedLines$Edition", name := "copyAll", desc := "(LMovedLines$Edition;)V" } : Jvm.MethodName)) ∈ gT := gT_mem 414 (by decide +kernel) rfl
theorem tw_415 : (Jvm.Cond.code ({ cls := "MovedLines$Edition", name := "copyAll", desc := "(LMovedLines$Edition;)V" } : Jvm.MethodName) prog_4_method_7_code (3 : Nat) (Option.none : Option Jvm.ClassFile.FieldType)) ∈ gT := gT_mem 415 (by decide +kernel) rfl
theorem tw_416 : (Jvm.Cond.methodLink "MovedLines$Edition" (37 : Nat) ({ cls := "MovedLines$Edition", name := "setLine", desc := "(ILMovedLines$Edition;I)V" } : Jvm.MethodName)) ∈ gT := gT_mem 416 (by decide +kernel) rfl
theorem tw_417 : (Jvm.Cond.instanceMethod ({ cls := "MovedLines$Edition", name := "setLine", desc := "(ILMovedLines$Edition;I)V" } : Jvm.MethodName)) ∈ gT := gT_mem 417 (by decide +kernel) rfl
theorem tw_418 : (Jvm.Cond.selects "MovedLines$Edition" ({ cls := "MovedLines$Edition", name := "setLine", desc := "(ILMovedLines$Edition;I)V" } : Jvm.MethodName) ({ cls := "MovedLines$Edition", name := "setLine", desc := "(ILMovedLines$Edition;I)V" } : Jvm.MethodName)) ∈ gT := gT_mem 418 (by decide +kernel) rfl
theorem tw_419 : (Jvm.Cond.code ({ cls := "MovedLines$Edition", name := "setLine", desc := "(ILMovedLines$Edition;I)V" } : Jvm.MethodName) prog_4_method_8_code (4 : Nat) (Option.none : Option Jvm.ClassFile.FieldType)) ∈ gT := gT_mem 419 (by decide +kernel) rfl
theorem tw_420 : (Jvm.Cond.methodLink "MovedLines$Edition" (22 : Nat) ({ cls := "MovedLines$Edition", name := "has", desc := "(I)Z" } : Jvm.MethodName)) ∈ gT := gT_mem 420 (by decide +kernel) rfl
theorem tw_421 : (Jvm.Cond.instanceMethod ({ cls := "MovedLines$Edition", name := "has", desc := "(I)Z" } : Jvm.MethodName)) ∈ gT := gT_mem 421 (by decide +kernel) rfl
theorem tw_422 : (Jvm.Cond.selects "MovedLines$Edition" ({ cls := "MovedLines$Edition", name := "has", desc := "(I)Z" } : Jvm.MethodName) ({ cls := "MovedLines$Edition", name := "has", desc := "(I)Z" } : Jvm.MethodName)) ∈ gT := gT_mem 422 (by decide +kernel) rfl
theorem tw_423 : (Jvm.Cond.code ({ cls := "MovedLines$Edition", name := "has", desc := "(I)Z" } : Jvm.MethodName) prog_4_method_2_code (2 : Nat) (Option.some Jvm.ClassFile.FieldType.boolean)) ∈ gT := gT_mem 423 (by decide +kernel) rfl
theorem tw_424 : (Jvm.Cond.methodLink "MovedLines$Edition" (41 : Nat) ({ cls := "java/lang/System", name := "arraycopy", desc := "(Ljava/lang/Object;ILjava/lang/Object;II)V" } : Jvm.MethodName)) ∈ gT := gT_mem 424 (by decide +kernel) rfl
theorem tw_425 : (Jvm.Cond.static ({ cls := "java/lang/System", name := "arraycopy", desc := "(Ljava/lang/Object;ILjava/lang/Object;II)V" } : Jvm.MethodName)) ∈ gT := gT_mem 425 (by decide +kernel) rfl
theorem tw_426 : (Jvm.Cond.native ({ cls := "java/lang/System", name := "arraycopy", desc := "(Ljava/lang/Object;ILjava/lang/Object;II)V" } : Jvm.MethodName)) ∈ gT := gT_mem 426 (by decide +kernel) rfl
theorem tw_427 : (Jvm.Cond.methodLink "MovedLines" (101 : Nat) ({ cls := "MovedLines$Past", name := "forget", desc := "()V" } : Jvm.MethodName)) ∈ gT := gT_mem 427 (by decide +kernel) rfl
theorem tw_428 : (Jvm.Cond.instanceMethod ({ cls := "MovedLines$Past", name := "forget", desc := "()V" } : Jvm.MethodName)) ∈ gT := gT_mem 428 (by decide +kernel) rfl
theorem tw_429 : (Jvm.Cond.selects "MovedLines$Past" ({ cls := "MovedLines$Past", name := "forget", desc := "()V" } : Jvm.MethodName) ({ cls := "MovedLines$Past", name := "forget", desc := "()V" } : Jvm.MethodName)) ∈ gT := gT_mem 429 (by decide +kernel) rfl
theorem tw_430 : (Jvm.Cond.code ({ cls := "MovedLines$Past", name := "forget", desc := "()V" } : Jvm.MethodName) prog_7_method_4_code (1 : Nat) (Option.none : Option Jvm.ClassFile.FieldType)) ∈ gT := gT_mem 430 (by decide +kernel) rfl
theorem tw_431 : (Jvm.Cond.methodLink "MovedLinesLaw" (34 : Nat) ({ cls := "MovedLines", name := "fault", desc := "()I" } : Jvm.MethodName)) ∈ gT := gT_mem 431 (by decide +kernel) rfl
theorem tw_432 : (Jvm.Cond.instanceMethod ({ cls := "MovedLines", name := "fault", desc := "()I" } : Jvm.MethodName)) ∈ gT := gT_mem 432 (by decide +kernel) rfl
theorem tw_433 : (Jvm.Cond.selects "MovedLines" ({ cls := "MovedLines", name := "fault", desc := "()I" } : Jvm.MethodName) ({ cls := "MovedLines", name := "fault", desc := "()I" } : Jvm.MethodName)) ∈ gT := gT_mem 433 (by decide +kernel) rfl
theorem tw_434 : (Jvm.Cond.code ({ cls := "MovedLines", name := "fault", desc := "()I" } : Jvm.MethodName) prog_1_method_5_code (1 : Nat) (Option.some Jvm.ClassFile.FieldType.int)) ∈ gT := gT_mem 434 (by decide +kernel) rfl
theorem tw_435 : (Jvm.Cond.methodLink "MovedLinesLaw" (39 : Nat) ({ cls := "MovedLines", name := "now", desc := "(I)I" } : Jvm.MethodName)) ∈ gT := gT_mem 435 (by decide +kernel) rfl
theorem tw_436 : (Jvm.Cond.instanceMethod ({ cls := "MovedLines", name := "now", desc := "(I)I" } : Jvm.MethodName)) ∈ gT := gT_mem 436 (by decide +kernel) rfl
theorem tw_437 : (Jvm.Cond.selects "MovedLines" ({ cls := "MovedLines", name := "now", desc := "(I)I" } : Jvm.MethodName) ({ cls := "MovedLines", name := "now", desc := "(I)I" } : Jvm.MethodName)) ∈ gT := gT_mem 437 (by decide +kernel) rfl
theorem tw_438 : (Jvm.Cond.code ({ cls := "MovedLines", name := "now", desc := "(I)I" } : Jvm.MethodName) prog_1_method_6_code (2 : Nat) (Option.some Jvm.ClassFile.FieldType.int)) ∈ gT := gT_mem 438 (by decide +kernel) rfl
theorem tw_439 : (Jvm.Cond.methodLink "MovedLines" (110 : Nat) ({ cls := "MovedLines", name := "compared", desc := "()LMovedLines$Told;" } : Jvm.MethodName)) ∈ gT := gT_mem 439 (by decide +kernel) rfl
theorem tw_441 : (Jvm.Cond.instanceMethod ({ cls := "MovedLines", name := "compared", desc := "()LMovedLines$Told;" } : Jvm.MethodName)) ∈ gT := gT_mem 441 (by decide +kernel) rfl
theorem tw_442 : (Jvm.Cond.code ({ cls := "MovedLines", name := "compared", desc := "()LMovedLines$Told;" } : Jvm.MethodName) prog_1_method_28_code (1 : Nat) (Option.some (Jvm.ClassFile.FieldType.object "MovedLines$Told"))) ∈ gT := gT_mem 442 (by decide +kernel) rfl
theorem tw_443 : (Jvm.Cond.methodLink "MovedLines" (200 : Nat) ({ cls := "MovedLines$Comparer", name := "compare", desc := "(LMovedLines$Edition;LMovedLines$Edition;LMovedLines$Told;)V" } : Jvm.MethodName)) ∈ gT := gT_mem 443 (by decide +kernel) rfl
theorem tw_444 : (Jvm.Cond.instanceMethod ({ cls := "MovedLines$Comparer", name := "compare", desc := "(LMovedLines$Edition;LMovedLines$Edition;LMovedLines$Told;)V" } : Jvm.MethodName)) ∈ gT := gT_mem 444 (by decide +kernel) rfl
theorem tw_445 : (Jvm.Cond.selects "MovedLines$Comparer" ({ cls := "MovedLines$Comparer", name := "compare", desc := "(LMovedLines$Edition;LMovedLines$Edition;LMovedLines$Told;)V" } : Jvm.MethodName) ({ cls := "MovedLines$Comparer", name := "compare", desc := "(LMovedLines$Edition;LMovedLines$Edition;LMovedLines$Told;)V" } : Jvm.MethodName)) ∈ gT := gT_mem 445 (by decide +kernel) rfl
theorem tw_446 : (Jvm.Cond.code ({ cls := "MovedLines$Comparer", name := "compare", desc := "(LMovedLines$Edition;LMovedLines$Edition;LMovedLines$Told;)V" } : Jvm.MethodName) prog_3_method_2_code (6 : Nat) (Option.none : Option Jvm.ClassFile.FieldType)) ∈ gT := gT_mem 446 (by decide +kernel) rfl
theorem tw_447 : (Jvm.Cond.methodLink "MovedLines$Comparer" (37 : Nat) ({ cls := "MovedLines$Kinds", name := "number", desc := "(LMovedLines$Edition;LMovedLines$Edition;)V" } : Jvm.MethodName)) ∈ gT := gT_mem 447 (by decide +kernel) rfl
theorem tw_448 : (Jvm.Cond.instanceMethod ({ cls := "MovedLines$Kinds", name := "number", desc := "(LMovedLines$Edition;LMovedLines$Edition;)V" } : Jvm.MethodName)) ∈ gT := gT_mem 448 (by decide +kernel) rfl
theorem tw_449 : (Jvm.Cond.selects "MovedLines$Kinds" ({ cls := "MovedLines$Kinds", name := "number", desc := "(LMovedLines$Edition;LMovedLines$Edition;)V" } : Jvm.MethodName) ({ cls := "MovedLines$Kinds", name := "number", desc := "(LMovedLines$Edition;LMovedLines$Edition;)V" } : Jvm.MethodName)) ∈ gT := gT_mem 449 (by decide +kernel) rfl
theorem tw_450 : (Jvm.Cond.code ({ cls := "MovedLines$Kinds", name := "number", desc := "(LMovedLines$Edition;LMovedLines$Edition;)V" } : Jvm.MethodName) prog_6_method_2_code (4 : Nat) (Option.none : Option Jvm.ClassFile.FieldType)) ∈ gT := gT_mem 450 (by decide +kernel) rfl
theorem tw_451 : (Jvm.Cond.methodLink "MovedLines$Kinds" (30 : Nat) ({ cls := "MovedLines$Kinds", name := "firstLike", desc := "(LMovedLines$Edition;ILMovedLines$Edition;I)I" } : Jvm.MethodName)) ∈ gT := gT_mem 451 (by decide +kernel) rfl
theorem tw_452 : (Jvm.Cond.static ({ cls := "MovedLines$Kinds", name := "firstLike", desc := "(LMovedLines$Edition;ILMovedLines$Edition;I)I" } : Jvm.MethodName)) ∈ gT := gT_mem 452 (by decide +kernel) rfl
theorem tw_453 : (Jvm.Cond.code ({ cls := "MovedLines$Kinds", name := "firstLike", desc := "(LMovedLines$Edition;ILMovedLines$Edition;I)I" } : Jvm.MethodName) prog_6_method_3_code (5 : Nat) (Option.some Jvm.ClassFile.FieldType.int)) ∈ gT := gT_mem 453 (by decide +kernel) rfl
theorem tw_454 : (Jvm.Cond.methodLink "MovedLines$Kinds" (34 : Nat) ({ cls := "MovedLines$Edition", name := "isLike", desc := "(ILMovedLines$Edition;I)Z" } : Jvm.MethodName)) ∈ gT := gT_mem 454 (by decide +kernel) rfl
theorem tw_455 : (Jvm.Cond.instanceMethod ({ cls := "MovedLines$Edition", name := "isLike", desc := "(ILMovedLines$Edition;I)Z" } : Jvm.MethodName)) ∈ gT := gT_mem 455 (by decide +kernel) rfl
theorem tw_456 : (Jvm.Cond.selects "MovedLines$Edition" ({ cls := "MovedLines$Edition", name := "isLike", desc := "(ILMovedLines$Edition;I)Z" } : Jvm.MethodName) ({ cls := "MovedLines$Edition", name := "isLike", desc := "(ILMovedLines$Edition;I)Z" } : Jvm.MethodName)) ∈ gT := gT_mem 456 (by decide +kernel) rfl
theorem tw_457 : (Jvm.Cond.code ({ cls := "MovedLines$Edition", name := "isLike", desc := "(ILMovedLines$Edition;I)Z" } : Jvm.MethodName) prog_4_method_6_code (7 : Nat) (Option.some Jvm.ClassFile.FieldType.boolean)) ∈ gT := gT_mem 457 (by decide +kernel) rfl
theorem tw_458 : (Jvm.Cond.methodLink "MovedLines$Comparer" (41 : Nat) ({ cls := "MovedLines$Told", name := "clear", desc := "()V" } : Jvm.MethodName)) ∈ gT := gT_mem 458 (by decide +kernel) rfl
theorem tw_459 : (Jvm.Cond.instanceMethod ({ cls := "MovedLines$Told", name := "clear", desc := "()V" } : Jvm.MethodName)) ∈ gT := gT_mem 459 (by decide +kernel) rfl
theorem tw_460 : (Jvm.Cond.selects "MovedLines$Told" ({ cls := "MovedLines$Told", name := "clear", desc := "()V" } : Jvm.MethodName) ({ cls := "MovedLines$Told", name := "clear", desc := "()V" } : Jvm.MethodName)) ∈ gT := gT_mem 460 (by decide +kernel) rfl
theorem tw_461 : (Jvm.Cond.code ({ cls := "MovedLines$Told", name := "clear", desc := "()V" } : Jvm.MethodName) prog_10_method_2_code (3 : Nat) (Option.none : Option Jvm.ClassFile.FieldType)) ∈ gT := gT_mem 461 (by decide +kernel) rfl
theorem tw_462 : (Jvm.Cond.methodLink "MovedLines$Comparer" (46 : Nat) ({ cls := "MovedLines$Keeper", name := "keep", desc := "(LMovedLines$Kinds;LMovedLines$Told;)V" } : Jvm.MethodName)) ∈ gT := gT_mem 462 (by decide +kernel) rfl
theorem tw_463 : (Jvm.Cond.instanceMethod ({ cls := "MovedLines$Keeper", name := "keep", desc := "(LMovedLines$Kinds;LMovedLines$Told;)V" } : Jvm.MethodName)) ∈ gT := gT_mem 463 (by decide +kernel) rfl
theorem tw_464 : (Jvm.Cond.selects "MovedLines$Keeper" ({ cls := "MovedLines$Keeper", name := "keep", desc := "(LMovedLines$Kinds;LMovedLines$Told;)V" } : Jvm.MethodName) ({ cls := "MovedLines$Keeper", name := "keep", desc := "(LMovedLines$Kinds;LMovedLines$Told;)V" } : Jvm.MethodName)) ∈ gT := gT_mem 464 (by decide +kernel) rfl
theorem tw_465 : (Jvm.Cond.code ({ cls := "MovedLines$Keeper", name := "keep", desc := "(LMovedLines$Kinds;LMovedLines$Told;)V" } : Jvm.MethodName) prog_5_method_2_code (5 : Nat) (Option.none : Option Jvm.ClassFile.FieldType)) ∈ gT := gT_mem 465 (by decide +kernel) rfl
theorem tw_466 : (Jvm.Cond.methodLink "MovedLines$Keeper" (48 : Nat) ({ cls := "MovedLines$Keeper", name := "addRange", desc := "(IIII)V" } : Jvm.MethodName)) ∈ gT := gT_mem 466 (by decide +kernel) rfl
theorem tw_468 : (Jvm.Cond.instanceMethod ({ cls := "MovedLines$Keeper", name := "addRange", desc := "(IIII)V" } : Jvm.MethodName)) ∈ gT := gT_mem 468 (by decide +kernel) rfl
theorem tw_469 : (Jvm.Cond.code ({ cls := "MovedLines$Keeper", name := "addRange", desc := "(IIII)V" } : Jvm.MethodName) prog_5_method_3_code (5 : Nat) (Option.none : Option Jvm.ClassFile.FieldType)) ∈ gT := gT_mem 469 (by decide +kernel) rfl
theorem tw_470 : (Jvm.Cond.methodLink "MovedLines$Keeper" (52 : Nat) ({ cls := "MovedLines$Keeper", name := "keepEnds", desc := "(ILMovedLines$Kinds;LMovedLines$Told;)V" } : Jvm.MethodName)) ∈ gT := gT_mem 470 (by decide +kernel) rfl
theorem tw_472 : (Jvm.Cond.instanceMethod ({ cls := "MovedLines$Keeper", name := "keepEnds", desc := "(ILMovedLines$Kinds;LMovedLines$Told;)V" } : Jvm.MethodName)) ∈ gT := gT_mem 472 (by decide +kernel) rfl
theorem tw_473 : (Jvm.Cond.code ({ cls := "MovedLines$Keeper", name := "keepEnds", desc := "(ILMovedLines$Kinds;LMovedLines$Told;)V" } : Jvm.MethodName) prog_5_method_4_code (4 : Nat) (Option.none : Option Jvm.ClassFile.FieldType)) ∈ gT := gT_mem 473 (by decide +kernel) rfl
theorem tw_474 : (Jvm.Cond.methodLink "MovedLines$Keeper" (76 : Nat) ({ cls := "MovedLines$Kinds", name := "areAlike", desc := "(II)Z" } : Jvm.MethodName)) ∈ gT := gT_mem 474 (by decide +kernel) rfl
theorem tw_475 : (Jvm.Cond.instanceMethod ({ cls := "MovedLines$Kinds", name := "areAlike", desc := "(II)Z" } : Jvm.MethodName)) ∈ gT := gT_mem 475 (by decide +kernel) rfl
theorem tw_476 : (Jvm.Cond.selects "MovedLines$Kinds" ({ cls := "MovedLines$Kinds", name := "areAlike", desc := "(II)Z" } : Jvm.MethodName) ({ cls := "MovedLines$Kinds", name := "areAlike", desc := "(II)Z" } : Jvm.MethodName)) ∈ gT := gT_mem 476 (by decide +kernel) rfl
theorem tw_477 : (Jvm.Cond.code ({ cls := "MovedLines$Kinds", name := "areAlike", desc := "(II)Z" } : Jvm.MethodName) prog_6_method_4_code (3 : Nat) (Option.some Jvm.ClassFile.FieldType.boolean)) ∈ gT := gT_mem 477 (by decide +kernel) rfl
theorem tw_478 : (Jvm.Cond.methodLink "MovedLines$Keeper" (80 : Nat) ({ cls := "MovedLines$Told", name := "join", desc := "(IIII)V" } : Jvm.MethodName)) ∈ gT := gT_mem 478 (by decide +kernel) rfl
theorem tw_479 : (Jvm.Cond.instanceMethod ({ cls := "MovedLines$Told", name := "join", desc := "(IIII)V" } : Jvm.MethodName)) ∈ gT := gT_mem 479 (by decide +kernel) rfl
theorem tw_480 : (Jvm.Cond.selects "MovedLines$Told" ({ cls := "MovedLines$Told", name := "join", desc := "(IIII)V" } : Jvm.MethodName) ({ cls := "MovedLines$Told", name := "join", desc := "(IIII)V" } : Jvm.MethodName)) ∈ gT := gT_mem 480 (by decide +kernel) rfl
theorem tw_481 : (Jvm.Cond.code ({ cls := "MovedLines$Told", name := "join", desc := "(IIII)V" } : Jvm.MethodName) prog_10_method_4_code (5 : Nat) (Option.none : Option Jvm.ClassFile.FieldType)) ∈ gT := gT_mem 481 (by decide +kernel) rfl
theorem tw_482 : (Jvm.Cond.methodLink "MovedLines$Told" (48 : Nat) ({ cls := "MovedLines$Told", name := "isLoose", desc := "(II)Z" } : Jvm.MethodName)) ∈ gT := gT_mem 482 (by decide +kernel) rfl
theorem tw_483 : (Jvm.Cond.instanceMethod ({ cls := "MovedLines$Told", name := "isLoose", desc := "(II)Z" } : Jvm.MethodName)) ∈ gT := gT_mem 483 (by decide +kernel) rfl
theorem tw_484 : (Jvm.Cond.selects "MovedLines$Told" ({ cls := "MovedLines$Told", name := "isLoose", desc := "(II)Z" } : Jvm.MethodName) ({ cls := "MovedLines$Told", name := "isLoose", desc := "(II)Z" } : Jvm.MethodName)) ∈ gT := gT_mem 484 (by decide +kernel) rfl
theorem tw_485 : (Jvm.Cond.code ({ cls := "MovedLines$Told", name := "isLoose", desc := "(II)Z" } : Jvm.MethodName) prog_10_method_3_code (3 : Nat) (Option.some Jvm.ClassFile.FieldType.boolean)) ∈ gT := gT_mem 485 (by decide +kernel) rfl
theorem tw_486 : (Jvm.Cond.methodLink "MovedLines$Keeper" (56 : Nat) ({ cls := "MovedLines$Keeper", name := "findAnchors", desc := "(ILMovedLines$Kinds;)V" } : Jvm.MethodName)) ∈ gT := gT_mem 486 (by decide +kernel) rfl
theorem tw_488 : (Jvm.Cond.instanceMethod ({ cls := "MovedLines$Keeper", name := "findAnchors", desc := "(ILMovedLines$Kinds;)V" } : Jvm.MethodName)) ∈ gT := gT_mem 488 (by decide +kernel) rfl
theorem tw_489 : (Jvm.Cond.code ({ cls := "MovedLines$Keeper", name := "findAnchors", desc := "(ILMovedLines$Kinds;)V" } : Jvm.MethodName) prog_5_method_5_code (6 : Nat) (Option.none : Option Jvm.ClassFile.FieldType)) ∈ gT := gT_mem 489 (by decide +kernel) rfl
theorem tw_490 : (Jvm.Cond.methodLink "MovedLines$Keeper" (89 : Nat) ({ cls := "MovedLines$Keeper", name := "onlyPlace", desc := "(I[III)I" } : Jvm.MethodName)) ∈ gT := gT_mem 490 (by decide +kernel) rfl
theorem tw_491 : (Jvm.Cond.static ({ cls := "MovedLines$Keeper", name := "onlyPlace", desc := "(I[III)I" } : Jvm.MethodName)) ∈ gT := gT_mem 491 (by decide +kernel) rfl
theorem tw_492 : (Jvm.Cond.code ({ cls := "MovedLines$Keeper", name := "onlyPlace", desc := "(I[III)I" } : Jvm.MethodName) prog_5_method_6_code (6 : Nat) (Option.some Jvm.ClassFile.FieldType.int)) ∈ gT := gT_mem 492 (by decide +kernel) rfl
theorem tw_493 : (Jvm.Cond.methodLink "MovedLines$Keeper" (60 : Nat) ({ cls := "MovedLines$Keeper", name := "measureRuns", desc := "()I" } : Jvm.MethodName)) ∈ gT := gT_mem 493 (by decide +kernel) rfl
theorem tw_495 : (Jvm.Cond.instanceMethod ({ cls := "MovedLines$Keeper", name := "measureRuns", desc := "()I" } : Jvm.MethodName)) ∈ gT := gT_mem 495 (by decide +kernel) rfl
theorem tw_496 : (Jvm.Cond.code ({ cls := "MovedLines$Keeper", name := "measureRuns", desc := "()I" } : Jvm.MethodName) prog_5_method_7_code (4 : Nat) (Option.some Jvm.ClassFile.FieldType.int)) ∈ gT := gT_mem 496 (by decide +kernel) rfl
theorem tw_497 : (Jvm.Cond.methodLink "MovedLines$Keeper" (93 : Nat) ({ cls := "java/lang/Math", name := "max", desc := "(II)I" } : Jvm.MethodName)) ∈ gT := gT_mem 497 (by decide +kernel) rfl
theorem tw_498 : (Jvm.Cond.static ({ cls := "java/lang/Math", name := "max", desc := "(II)I" } : Jvm.MethodName)) ∈ gT := gT_mem 498 (by decide +kernel) rfl
theorem tw_499 : (Jvm.Cond.code ({ cls := "java/lang/Math", name := "max", desc := "(II)I" } : Jvm.MethodName) prog_15_method_65_code (2 : Nat) (Option.some Jvm.ClassFile.FieldType.int)) ∈ gT := gT_mem 499 (by decide +kernel) rfl
theorem tw_500 : (Jvm.Cond.methodLink "MovedLines$Keeper" (72 : Nat) ({ cls := "MovedLines$Keeper", name := "keepRun", desc := "(IILMovedLines$Told;)V" } : Jvm.MethodName)) ∈ gT := gT_mem 500 (by decide +kernel) rfl
theorem tw_502 : (Jvm.Cond.instanceMethod ({ cls := "MovedLines$Keeper", name := "keepRun", desc := "(IILMovedLines$Told;)V" } : Jvm.MethodName)) ∈ gT := gT_mem 502 (by decide +kernel) rfl
theorem tw_503 : (Jvm.Cond.code ({ cls := "MovedLines$Keeper", name := "keepRun", desc := "(IILMovedLines$Told;)V" } : Jvm.MethodName) prog_5_method_8_code (8 : Nat) (Option.none : Option Jvm.ClassFile.FieldType)) ∈ gT := gT_mem 503 (by decide +kernel) rfl
theorem tw_504 : (Jvm.Cond.methodLink "MovedLines$Comparer" (50 : Nat) ({ cls := "MovedLines$Comparer", name := "moveLongest", desc := "(LMovedLines$Told;)Z" } : Jvm.MethodName)) ∈ gT := gT_mem 504 (by decide +kernel) rfl
theorem tw_506 : (Jvm.Cond.instanceMethod ({ cls := "MovedLines$Comparer", name := "moveLongest", desc := "(LMovedLines$Told;)Z" } : Jvm.MethodName)) ∈ gT := gT_mem 506 (by decide +kernel) rfl
theorem tw_507 : (Jvm.Cond.code ({ cls := "MovedLines$Comparer", name := "moveLongest", desc := "(LMovedLines$Told;)Z" } : Jvm.MethodName) prog_3_method_4_code (8 : Nat) (Option.some Jvm.ClassFile.FieldType.boolean)) ∈ gT := gT_mem 507 (by decide +kernel) rfl
theorem tw_508 : (Jvm.Cond.methodLink "MovedLines$Comparer" (94 : Nat) ({ cls := "MovedLines$Comparer", name := "looseRow", desc := "(IILMovedLines$Told;)I" } : Jvm.MethodName)) ∈ gT := gT_mem 508 (by decide +kernel) rfl
theorem tw_510 : (Jvm.Cond.instanceMethod ({ cls := "MovedLines$Comparer", name := "looseRow", desc := "(IILMovedLines$Told;)I" } : Jvm.MethodName)) ∈ gT := gT_mem 510 (by decide +kernel) rfl
theorem tw_511 : (Jvm.Cond.code ({ cls := "MovedLines$Comparer", name := "looseRow", desc := "(IILMovedLines$Told;)I" } : Jvm.MethodName) prog_3_method_5_code (5 : Nat) (Option.some Jvm.ClassFile.FieldType.int)) ∈ gT := gT_mem 511 (by decide +kernel) rfl
theorem tw_512 : (Jvm.Cond.methodLink "MovedLines$Comparer" (102 : Nat) ({ cls := "MovedLines$Kinds", name := "areAlike", desc := "(II)Z" } : Jvm.MethodName)) ∈ gT := gT_mem 512 (by decide +kernel) rfl
theorem tw_513 : (Jvm.Cond.methodLink "MovedLines$Comparer" (106 : Nat) ({ cls := "MovedLines$Told", name := "isLoose", desc := "(II)Z" } : Jvm.MethodName)) ∈ gT := gT_mem 513 (by decide +kernel) rfl
theorem tw_514 : (Jvm.Cond.methodLink "MovedLines$Comparer" (98 : Nat) ({ cls := "MovedLines$Told", name := "moveBlock", desc := "(III)V" } : Jvm.MethodName)) ∈ gT := gT_mem 514 (by decide +kernel) rfl
theorem tw_515 : (Jvm.Cond.instanceMethod ({ cls := "MovedLines$Told", name := "moveBlock", desc := "(III)V" } : Jvm.MethodName)) ∈ gT := gT_mem 515 (by decide +kernel) rfl
theorem tw_516 : (Jvm.Cond.selects "MovedLines$Told" ({ cls := "MovedLines$Told", name := "moveBlock", desc := "(III)V" } : Jvm.MethodName) ({ cls := "MovedLines$Told", name := "moveBlock", desc := "(III)V" } : Jvm.MethodName)) ∈ gT := gT_mem 516 (by decide +kernel) rfl
theorem tw_517 : (Jvm.Cond.code ({ cls := "MovedLines$Told", name := "moveBlock", desc := "(III)V" } : Jvm.MethodName) prog_10_method_5_code (5 : Nat) (Option.none : Option Jvm.ClassFile.FieldType)) ∈ gT := gT_mem 517 (by decide +kernel) rfl
theorem tw_518 : (Jvm.Cond.methodLink "MovedLines$Told" (52 : Nat) ({ cls := "MovedLines$Told", name := "join", desc := "(IIII)V" } : Jvm.MethodName)) ∈ gT := gT_mem 518 (by decide +kernel) rfl
theorem tw_519 : (Jvm.Cond.methodLink "MovedLines$Comparer" (54 : Nat) ({ cls := "MovedLines$Comparer", name := "measureLikeness", desc := "(LMovedLines$Edition;LMovedLines$Edition;LMovedLines$Told;)V" } : Jvm.MethodName)) ∈ gT := gT_mem 519 (by decide +kernel) rfl
theorem tw_521 : (Jvm.Cond.instanceMethod ({ cls := "MovedLines$Comparer", name := "measureLikeness", desc := "(LMovedLines$Edition;LMovedLines$Edition;LMovedLines$Told;)V" } : Jvm.MethodName)) ∈ gT := gT_mem 521 (by decide +kernel) rfl
theorem tw_522 : (Jvm.Cond.code ({ cls := "MovedLines$Comparer", name := "measureLikeness", desc := "(LMovedLines$Edition;LMovedLines$Edition;LMovedLines$Told;)V" } : Jvm.MethodName) prog_3_method_6_code (6 : Nat) (Option.none : Option Jvm.ClassFile.FieldType)) ∈ gT := gT_mem 522 (by decide +kernel) rfl
theorem tw_523 : (Jvm.Cond.methodLink "MovedLines$Comparer" (117 : Nat) ({ cls := "MovedLines$Edition", name := "sizeOf", desc := "(I)I" } : Jvm.MethodName)) ∈ gT := gT_mem 523 (by decide +kernel) rfl
theorem tw_524 : (Jvm.Cond.instanceMethod ({ cls := "MovedLines$Edition", name := "sizeOf", desc := "(I)I" } : Jvm.MethodName)) ∈ gT := gT_mem 524 (by decide +kernel) rfl
theorem tw_525 : (Jvm.Cond.selects "MovedLines$Edition" ({ cls := "MovedLines$Edition", name := "sizeOf", desc := "(I)I" } : Jvm.MethodName) ({ cls := "MovedLines$Edition", name := "sizeOf", desc := "(I)I" } : Jvm.MethodName)) ∈ gT := gT_mem 525 (by decide +kernel) rfl
theorem tw_526 : (Jvm.Cond.code ({ cls := "MovedLines$Edition", name := "sizeOf", desc := "(I)I" } : Jvm.MethodName) prog_4_method_3_code (2 : Nat) (Option.some Jvm.ClassFile.FieldType.int)) ∈ gT := gT_mem 526 (by decide +kernel) rfl
theorem tw_527 : (Jvm.Cond.methodLink "MovedLines$Comparer" (77 : Nat) ({ cls := "MovedLines$CommonRow", name := "setFirst", desc := "([III)V" } : Jvm.MethodName)) ∈ gT := gT_mem 527 (by decide +kernel) rfl
theorem tw_528 : (Jvm.Cond.instanceMethod ({ cls := "MovedLines$CommonRow", name := "setFirst", desc := "([III)V" } : Jvm.MethodName)) ∈ gT := gT_mem 528 (by decide +kernel) rfl
theorem tw_529 : (Jvm.Cond.selects "MovedLines$CommonRow" ({ cls := "MovedLines$CommonRow", name := "setFirst", desc := "([III)V" } : Jvm.MethodName) ({ cls := "MovedLines$CommonRow", name := "setFirst", desc := "([III)V" } : Jvm.MethodName)) ∈ gT := gT_mem 529 (by decide +kernel) rfl
theorem tw_530 : (Jvm.Cond.code ({ cls := "MovedLines$CommonRow", name := "setFirst", desc := "([III)V" } : Jvm.MethodName) prog_2_method_2_code (4 : Nat) (Option.none : Option Jvm.ClassFile.FieldType)) ∈ gT := gT_mem 530 (by decide +kernel) rfl
theorem tw_531 : (Jvm.Cond.methodLink "MovedLines$CommonRow" (28 : Nat) ({ cls := "MovedLines$CommonRow", name := "copyRow", desc := "([III[I)I" } : Jvm.MethodName)) ∈ gT := gT_mem 531 (by decide +kernel) rfl
theorem tw_532 : (Jvm.Cond.static ({ cls := "MovedLines$CommonRow", name := "copyRow", desc := "([III[I)I" } : Jvm.MethodName)) ∈ gT := gT_mem 532 (by decide +kernel) rfl
theorem tw_533 : (Jvm.Cond.code ({ cls := "MovedLines$CommonRow", name := "copyRow", desc := "([III[I)I" } : Jvm.MethodName) prog_2_method_4_code (4 : Nat) (Option.some Jvm.ClassFile.FieldType.int)) ∈ gT := gT_mem 533 (by decide +kernel) rfl
theorem tw_534 : (Jvm.Cond.methodLink "MovedLines$CommonRow" (32 : Nat) ({ cls := "java/lang/System", name := "arraycopy", desc := "(Ljava/lang/Object;ILjava/lang/Object;II)V" } : Jvm.MethodName)) ∈ gT := gT_mem 534 (by decide +kernel) rfl
theorem tw_535 : (Jvm.Cond.methodLink "MovedLines$Comparer" (121 : Nat) ({ cls := "MovedLines$Comparer", name := "likenessTo", desc := "(LMovedLines$Edition;II)I" } : Jvm.MethodName)) ∈ gT := gT_mem 535 (by decide +kernel) rfl
theorem tw_537 : (Jvm.Cond.instanceMethod ({ cls := "MovedLines$Comparer", name := "likenessTo", desc := "(LMovedLines$Edition;II)I" } : Jvm.MethodName)) ∈ gT := gT_mem 537 (by decide +kernel) rfl
theorem tw_538 : (Jvm.Cond.code ({ cls := "MovedLines$Comparer", name := "likenessTo", desc := "(LMovedLines$Edition;II)I" } : Jvm.MethodName) prog_3_method_7_code (7 : Nat) (Option.some Jvm.ClassFile.FieldType.int)) ∈ gT := gT_mem 538 (by decide +kernel) rfl
theorem tw_539 : (Jvm.Cond.methodLink "MovedLines$Comparer" (125 : Nat) ({ cls := "java/lang/Math", name := "max", desc := "(II)I" } : Jvm.MethodName)) ∈ gT := gT_mem 539 (by decide +kernel) rfl
theorem tw_540 : (Jvm.Cond.methodLink "MovedLines$Comparer" (131 : Nat) ({ cls := "java/lang/Math", name := "min", desc := "(II)I" } : Jvm.MethodName)) ∈ gT := gT_mem 540 (by decide +kernel) rfl
theorem tw_541 : (Jvm.Cond.static ({ cls := "java/lang/Math", name := "min", desc := "(II)I" } : Jvm.MethodName)) ∈ gT := gT_mem 541 (by decide +kernel) rfl
theorem tw_542 : (Jvm.Cond.code ({ cls := "java/lang/Math", name := "min", desc := "(II)I" } : Jvm.MethodName) prog_15_method_69_code (2 : Nat) (Option.some Jvm.ClassFile.FieldType.int)) ∈ gT := gT_mem 542 (by decide +kernel) rfl
theorem tw_543 : (Jvm.Cond.methodLink "MovedLines$Comparer" (87 : Nat) ({ cls := "MovedLines$CommonRow", name := "setSecond", desc := "([III)V" } : Jvm.MethodName)) ∈ gT := gT_mem 543 (by decide +kernel) rfl
theorem tw_544 : (Jvm.Cond.instanceMethod ({ cls := "MovedLines$CommonRow", name := "setSecond", desc := "([III)V" } : Jvm.MethodName)) ∈ gT := gT_mem 544 (by decide +kernel) rfl
theorem tw_545 : (Jvm.Cond.selects "MovedLines$CommonRow" ({ cls := "MovedLines$CommonRow", name := "setSecond", desc := "([III)V" } : Jvm.MethodName) ({ cls := "MovedLines$CommonRow", name := "setSecond", desc := "([III)V" } : Jvm.MethodName)) ∈ gT := gT_mem 545 (by decide +kernel) rfl
theorem tw_546 : (Jvm.Cond.code ({ cls := "MovedLines$CommonRow", name := "setSecond", desc := "([III)V" } : Jvm.MethodName) prog_2_method_3_code (4 : Nat) (Option.none : Option Jvm.ClassFile.FieldType)) ∈ gT := gT_mem 546 (by decide +kernel) rfl
theorem tw_547 : (Jvm.Cond.methodLink "MovedLines$Comparer" (90 : Nat) ({ cls := "MovedLines$CommonRow", name := "measure", desc := "()I" } : Jvm.MethodName)) ∈ gT := gT_mem 547 (by decide +kernel) rfl
theorem tw_548 : (Jvm.Cond.instanceMethod ({ cls := "MovedLines$CommonRow", name := "measure", desc := "()I" } : Jvm.MethodName)) ∈ gT := gT_mem 548 (by decide +kernel) rfl
theorem tw_549 : (Jvm.Cond.selects "MovedLines$CommonRow" ({ cls := "MovedLines$CommonRow", name := "measure", desc := "()I" } : Jvm.MethodName) ({ cls := "MovedLines$CommonRow", name := "measure", desc := "()I" } : Jvm.MethodName)) ∈ gT := gT_mem 549 (by decide +kernel) rfl
theorem tw_550 : (Jvm.Cond.code ({ cls := "MovedLines$CommonRow", name := "measure", desc := "()I" } : Jvm.MethodName) prog_2_method_5_code (7 : Nat) (Option.some Jvm.ClassFile.FieldType.int)) ∈ gT := gT_mem 550 (by decide +kernel) rfl
theorem tw_551 : (Jvm.Cond.methodLink "MovedLines$Comparer" (58 : Nat) ({ cls := "MovedLines$Comparer", name := "editLikest", desc := "(LMovedLines$Edition;LMovedLines$Edition;LMovedLines$Told;)Z" } : Jvm.MethodName)) ∈ gT := gT_mem 551 (by decide +kernel) rfl
theorem tw_553 : (Jvm.Cond.instanceMethod ({ cls := "MovedLines$Comparer", name := "editLikest", desc := "(LMovedLines$Edition;LMovedLines$Edition;LMovedLines$Told;)Z" } : Jvm.MethodName)) ∈ gT := gT_mem 553 (by decide +kernel) rfl
theorem tw_554 : (Jvm.Cond.code ({ cls := "MovedLines$Comparer", name := "editLikest", desc := "(LMovedLines$Edition;LMovedLines$Edition;LMovedLines$Told;)Z" } : Jvm.MethodName) prog_3_method_8_code (9 : Nat) (Option.some Jvm.ClassFile.FieldType.boolean)) ∈ gT := gT_mem 554 (by decide +kernel) rfl
theorem tw_555 : (Jvm.Cond.methodLink "MovedLines$Comparer" (134 : Nat) ({ cls := "MovedLines$Told", name := "join", desc := "(IIII)V" } : Jvm.MethodName)) ∈ gT := gT_mem 555 (by decide +kernel) rfl
theorem tw_556 : (Jvm.Cond.methodLink "MovedLines$Comparer" (66 : Nat) ({ cls := "MovedLines$Comparer", name := "looseWords", desc := "(ILMovedLines$Edition;LMovedLines$Told;)I" } : Jvm.MethodName)) ∈ gT := gT_mem 556 (by decide +kernel) rfl
theorem tw_557 : (Jvm.Cond.static ({ cls := "MovedLines$Comparer", name := "looseWords", desc := "(ILMovedLines$Edition;LMovedLines$Told;)I" } : Jvm.MethodName)) ∈ gT := gT_mem 557 (by decide +kernel) rfl
theorem tw_558 : (Jvm.Cond.code ({ cls := "MovedLines$Comparer", name := "looseWords", desc := "(ILMovedLines$Edition;LMovedLines$Told;)I" } : Jvm.MethodName) prog_3_method_9_code (5 : Nat) (Option.some Jvm.ClassFile.FieldType.int)) ∈ gT := gT_mem 558 (by decide +kernel) rfl
theorem tw_559 : (Jvm.Cond.methodLink "MovedLines" (121 : Nat) ({ cls := "MovedLines$Told", name := "allCouples", desc := "()I" } : Jvm.MethodName)) ∈ gT := gT_mem 559 (by decide +kernel) rfl
theorem tw_560 : (Jvm.Cond.instanceMethod ({ cls := "MovedLines$Told", name := "allCouples", desc := "()I" } : Jvm.MethodName)) ∈ gT := gT_mem 560 (by decide +kernel) rfl
theorem tw_561 : (Jvm.Cond.selects "MovedLines$Told" ({ cls := "MovedLines$Told", name := "allCouples", desc := "()I" } : Jvm.MethodName) ({ cls := "MovedLines$Told", name := "allCouples", desc := "()I" } : Jvm.MethodName)) ∈ gT := gT_mem 561 (by decide +kernel) rfl
theorem tw_562 : (Jvm.Cond.code ({ cls := "MovedLines$Told", name := "allCouples", desc := "()I" } : Jvm.MethodName) prog_10_method_6_code (1 : Nat) (Option.some Jvm.ClassFile.FieldType.int)) ∈ gT := gT_mem 562 (by decide +kernel) rfl
theorem tw_563 : (Jvm.Cond.methodLink "MovedLinesLaw" (52 : Nat) ({ cls := "MovedLines", name := "letter", desc := "(IIII)I" } : Jvm.MethodName)) ∈ gT := gT_mem 563 (by decide +kernel) rfl
theorem tw_564 : (Jvm.Cond.instanceMethod ({ cls := "MovedLines", name := "letter", desc := "(IIII)I" } : Jvm.MethodName)) ∈ gT := gT_mem 564 (by decide +kernel) rfl
theorem tw_565 : (Jvm.Cond.selects "MovedLines" ({ cls := "MovedLines", name := "letter", desc := "(IIII)I" } : Jvm.MethodName) ({ cls := "MovedLines", name := "letter", desc := "(IIII)I" } : Jvm.MethodName)) ∈ gT := gT_mem 565 (by decide +kernel) rfl
theorem tw_566 : (Jvm.Cond.code ({ cls := "MovedLines", name := "letter", desc := "(IIII)I" } : Jvm.MethodName) prog_1_method_8_code (6 : Nat) (Option.some Jvm.ClassFile.FieldType.int)) ∈ gT := gT_mem 566 (by decide +kernel) rfl
theorem tw_567 : (Jvm.Cond.methodLink "MovedLines" (128 : Nat) ({ cls := "MovedLines", name := "hasLine", desc := "(II)Z" } : Jvm.MethodName)) ∈ gT := gT_mem 567 (by decide +kernel) rfl
theorem tw_569 : (Jvm.Cond.instanceMethod ({ cls := "MovedLines", name := "hasLine", desc := "(II)Z" } : Jvm.MethodName)) ∈ gT := gT_mem 569 (by decide +kernel) rfl
theorem tw_570 : (Jvm.Cond.code ({ cls := "MovedLines", name := "hasLine", desc := "(II)Z" } : Jvm.MethodName) prog_1_method_25_code (3 : Nat) (Option.some Jvm.ClassFile.FieldType.boolean)) ∈ gT := gT_mem 570 (by decide +kernel) rfl
theorem tw_571 : (Jvm.Cond.methodLink "MovedLines" (231 : Nat) ({ cls := "MovedLines$Edition", name := "has", desc := "(I)Z" } : Jvm.MethodName)) ∈ gT := gT_mem 571 (by decide +kernel) rfl
theorem tw_572 : (Jvm.Cond.methodLink "MovedLines" (155 : Nat) ({ cls := "MovedLines$Edition", name := "lettersOf", desc := "(II)I" } : Jvm.MethodName)) ∈ gT := gT_mem 572 (by decide +kernel) rfl
theorem tw_573 : (Jvm.Cond.instanceMethod ({ cls := "MovedLines$Edition", name := "lettersOf", desc := "(II)I" } : Jvm.MethodName)) ∈ gT := gT_mem 573 (by decide +kernel) rfl
theorem tw_574 : (Jvm.Cond.selects "MovedLines$Edition" ({ cls := "MovedLines$Edition", name := "lettersOf", desc := "(II)I" } : Jvm.MethodName) ({ cls := "MovedLines$Edition", name := "lettersOf", desc := "(II)I" } : Jvm.MethodName)) ∈ gT := gT_mem 574 (by decide +kernel) rfl
theorem tw_575 : (Jvm.Cond.code ({ cls := "MovedLines$Edition", name := "lettersOf", desc := "(II)I" } : Jvm.MethodName) prog_4_method_5_code (5 : Nat) (Option.some Jvm.ClassFile.FieldType.int)) ∈ gT := gT_mem 575 (by decide +kernel) rfl
theorem tw_576 : (Jvm.Cond.methodLink "MovedLines$Edition" (30 : Nat) ({ cls := "MovedLines$Edition", name := "wordAt", desc := "(II)I" } : Jvm.MethodName)) ∈ gT := gT_mem 576 (by decide +kernel) rfl
theorem tw_577 : (Jvm.Cond.instanceMethod ({ cls := "MovedLines$Edition", name := "wordAt", desc := "(II)I" } : Jvm.MethodName)) ∈ gT := gT_mem 577 (by decide +kernel) rfl
theorem tw_578 : (Jvm.Cond.selects "MovedLines$Edition" ({ cls := "MovedLines$Edition", name := "wordAt", desc := "(II)I" } : Jvm.MethodName) ({ cls := "MovedLines$Edition", name := "wordAt", desc := "(II)I" } : Jvm.MethodName)) ∈ gT := gT_mem 578 (by decide +kernel) rfl
theorem tw_579 : (Jvm.Cond.code ({ cls := "MovedLines$Edition", name := "wordAt", desc := "(II)I" } : Jvm.MethodName) prog_4_method_4_code (3 : Nat) (Option.some Jvm.ClassFile.FieldType.int)) ∈ gT := gT_mem 579 (by decide +kernel) rfl
theorem tw_580 : (Jvm.Cond.methodLink "MovedLines$Edition" (26 : Nat) ({ cls := "MovedLines$Edition", name := "sizeOf", desc := "(I)I" } : Jvm.MethodName)) ∈ gT := gT_mem 580 (by decide +kernel) rfl
theorem tw_582 : (Jvm.Cond.static ({ cls := "MovedLines", name := "letterIn", desc := "(II)I" } : Jvm.MethodName)) ∈ gT := gT_mem 582 (by decide +kernel) rfl
theorem tw_583 : (Jvm.Cond.code ({ cls := "MovedLines", name := "letterIn", desc := "(II)I" } : Jvm.MethodName) prog_1_method_30_code (2 : Nat) (Option.some Jvm.ClassFile.FieldType.int)) ∈ gT := gT_mem 583 (by decide +kernel) rfl
theorem tw_584 : (Jvm.Cond.methodLink "MovedLines" (159 : Nat) ({ cls := "MovedLines$Edition", name := "wordAt", desc := "(II)I" } : Jvm.MethodName)) ∈ gT := gT_mem 584 (by decide +kernel) rfl
theorem tw_585 : (Jvm.Cond.methodLink "MovedLines" (162 : Nat) ({ cls := "MovedLines", name := "letterIn", desc := "(II)I" } : Jvm.MethodName)) ∈ gT := gT_mem 585 (by decide +kernel) rfl
theorem tw_586 : (Jvm.Cond.methodLink "MovedLinesLaw" (57 : Nat) ({ cls := "MovedLines", name := "block", desc := "(II)I" } : Jvm.MethodName)) ∈ gT := gT_mem 586 (by decide +kernel) rfl
theorem tw_587 : (Jvm.Cond.instanceMethod ({ cls := "MovedLines", name := "block", desc := "(II)I" } : Jvm.MethodName)) ∈ gT := gT_mem 587 (by decide +kernel) rfl
theorem tw_588 : (Jvm.Cond.selects "MovedLines" ({ cls := "MovedLines", name := "block", desc := "(II)I" } : Jvm.MethodName) ({ cls := "MovedLines", name := "block", desc := "(II)I" } : Jvm.MethodName)) ∈ gT := gT_mem 588 (by decide +kernel) rfl
theorem tw_589 : (Jvm.Cond.code ({ cls := "MovedLines", name := "block", desc := "(II)I" } : Jvm.MethodName) prog_1_method_9_code (4 : Nat) (Option.some Jvm.ClassFile.FieldType.int)) ∈ gT := gT_mem 589 (by decide +kernel) rfl
theorem tw_590 : (Jvm.Cond.methodLink "MovedLinesLaw" (62 : Nat) ({ cls := "MovedLines", name := "shared", desc := "(II)I" } : Jvm.MethodName)) ∈ gT := gT_mem 590 (by decide +kernel) rfl
theorem tw_591 : (Jvm.Cond.instanceMethod ({ cls := "MovedLines", name := "shared", desc := "(II)I" } : Jvm.MethodName)) ∈ gT := gT_mem 591 (by decide +kernel) rfl
theorem tw_592 : (Jvm.Cond.selects "MovedLines" ({ cls := "MovedLines", name := "shared", desc := "(II)I" } : Jvm.MethodName) ({ cls := "MovedLines", name := "shared", desc := "(II)I" } : Jvm.MethodName)) ∈ gT := gT_mem 592 (by decide +kernel) rfl
theorem tw_593 : (Jvm.Cond.code ({ cls := "MovedLines", name := "shared", desc := "(II)I" } : Jvm.MethodName) prog_1_method_10_code (3 : Nat) (Option.some Jvm.ClassFile.FieldType.int)) ∈ gT := gT_mem 593 (by decide +kernel) rfl
theorem tw_594 : (Jvm.Cond.methodLink "MovedLines" (174 : Nat) ({ cls := "MovedLines", name := "measureWords", desc := "(II)I" } : Jvm.MethodName)) ∈ gT := gT_mem 594 (by decide +kernel) rfl
theorem tw_596 : (Jvm.Cond.instanceMethod ({ cls := "MovedLines", name := "measureWords", desc := "(II)I" } : Jvm.MethodName)) ∈ gT := gT_mem 596 (by decide +kernel) rfl
theorem tw_597 : (Jvm.Cond.code ({ cls := "MovedLines", name := "measureWords", desc := "(II)I" } : Jvm.MethodName) prog_1_method_29_code (3 : Nat) (Option.some Jvm.ClassFile.FieldType.int)) ∈ gT := gT_mem 597 (by decide +kernel) rfl
theorem tw_598 : (Jvm.Cond.methodLink "MovedLines" (139 : Nat) ({ cls := "MovedLines$Edition", name := "sizeOf", desc := "(I)I" } : Jvm.MethodName)) ∈ gT := gT_mem 598 (by decide +kernel) rfl
theorem tw_599 : (Jvm.Cond.methodLink "MovedLines" (245 : Nat) ({ cls := "MovedLines$CommonRow", name := "setFirst", desc := "([III)V" } : Jvm.MethodName)) ∈ gT := gT_mem 599 (by decide +kernel) rfl
theorem tw_600 : (Jvm.Cond.methodLink "MovedLines" (249 : Nat) ({ cls := "MovedLines$CommonRow", name := "setSecond", desc := "([III)V" } : Jvm.MethodName)) ∈ gT := gT_mem 600 (by decide +kernel) rfl
theorem tw_601 : (Jvm.Cond.methodLink "MovedLines" (252 : Nat) ({ cls := "MovedLines$CommonRow", name := "measure", desc := "()I" } : Jvm.MethodName)) ∈ gT := gT_mem 601 (by decide +kernel) rfl
theorem tw_602 : (Jvm.Cond.methodLink "MovedLinesLaw" (66 : Nat) ({ cls := "MovedLines", name := "stays", desc := "(III)I" } : Jvm.MethodName)) ∈ gT := gT_mem 602 (by decide +kernel) rfl
theorem tw_603 : (Jvm.Cond.instanceMethod ({ cls := "MovedLines", name := "stays", desc := "(III)I" } : Jvm.MethodName)) ∈ gT := gT_mem 603 (by decide +kernel) rfl
theorem tw_604 : (Jvm.Cond.selects "MovedLines" ({ cls := "MovedLines", name := "stays", desc := "(III)I" } : Jvm.MethodName) ({ cls := "MovedLines", name := "stays", desc := "(III)I" } : Jvm.MethodName)) ∈ gT := gT_mem 604 (by decide +kernel) rfl
theorem tw_605 : (Jvm.Cond.code ({ cls := "MovedLines", name := "stays", desc := "(III)I" } : Jvm.MethodName) prog_1_method_11_code (4 : Nat) (Option.some Jvm.ClassFile.FieldType.int)) ∈ gT := gT_mem 605 (by decide +kernel) rfl
theorem tw_606 : (Jvm.Cond.methodLink "MovedLines" (177 : Nat) ({ cls := "MovedLines$CommonRow", name := "partnerOf", desc := "(I)I" } : Jvm.MethodName)) ∈ gT := gT_mem 606 (by decide +kernel) rfl
theorem tw_607 : (Jvm.Cond.instanceMethod ({ cls := "MovedLines$CommonRow", name := "partnerOf", desc := "(I)I" } : Jvm.MethodName)) ∈ gT := gT_mem 607 (by decide +kernel) rfl
theorem tw_608 : (Jvm.Cond.selects "MovedLines$CommonRow" ({ cls := "MovedLines$CommonRow", name := "partnerOf", desc := "(I)I" } : Jvm.MethodName) ({ cls := "MovedLines$CommonRow", name := "partnerOf", desc := "(I)I" } : Jvm.MethodName)) ∈ gT := gT_mem 608 (by decide +kernel) rfl
theorem tw_609 : (Jvm.Cond.code ({ cls := "MovedLines$CommonRow", name := "partnerOf", desc := "(I)I" } : Jvm.MethodName) prog_2_method_6_code (6 : Nat) (Option.some Jvm.ClassFile.FieldType.int)) ∈ gT := gT_mem 609 (by decide +kernel) rfl
theorem tw_610 : (Jvm.Cond.methodLink "MovedLines$CommonRow" (38 : Nat) ({ cls := "MovedLines$CommonRow", name := "nextLike", desc := "(II)I" } : Jvm.MethodName)) ∈ gT := gT_mem 610 (by decide +kernel) rfl
theorem tw_612 : (Jvm.Cond.instanceMethod ({ cls := "MovedLines$CommonRow", name := "nextLike", desc := "(II)I" } : Jvm.MethodName)) ∈ gT := gT_mem 612 (by decide +kernel) rfl
theorem tw_613 : (Jvm.Cond.code ({ cls := "MovedLines$CommonRow", name := "nextLike", desc := "(II)I" } : Jvm.MethodName) prog_2_method_7_code (4 : Nat) (Option.some Jvm.ClassFile.FieldType.int)) ∈ gT := gT_mem 613 (by decide +kernel) rfl
theorem tw_614 : (Jvm.Cond.methodLink "MovedLinesLaw" (70 : Nat) ({ cls := "MovedLines", name := "most", desc := "()I" } : Jvm.MethodName)) ∈ gT := gT_mem 614 (by decide +kernel) rfl
theorem tw_615 : (Jvm.Cond.instanceMethod ({ cls := "MovedLines", name := "most", desc := "()I" } : Jvm.MethodName)) ∈ gT := gT_mem 615 (by decide +kernel) rfl
theorem tw_616 : (Jvm.Cond.selects "MovedLines" ({ cls := "MovedLines", name := "most", desc := "()I" } : Jvm.MethodName) ({ cls := "MovedLines", name := "most", desc := "()I" } : Jvm.MethodName)) ∈ gT := gT_mem 616 (by decide +kernel) rfl
theorem tw_617 : (Jvm.Cond.code ({ cls := "MovedLines", name := "most", desc := "()I" } : Jvm.MethodName) prog_1_method_12_code (1 : Nat) (Option.some Jvm.ClassFile.FieldType.int)) ∈ gT := gT_mem 617 (by decide +kernel) rfl
theorem tw_618 : (Jvm.Cond.methodLink "MovedLines" (180 : Nat) ({ cls := "MovedLines$Comparer", name := "mostLines", desc := "(LMovedLines$Edition;LMovedLines$Edition;)I" } : Jvm.MethodName)) ∈ gT := gT_mem 618 (by decide +kernel) rfl
theorem tw_619 : (Jvm.Cond.instanceMethod ({ cls := "MovedLines$Comparer", name := "mostLines", desc := "(LMovedLines$Edition;LMovedLines$Edition;)I" } : Jvm.MethodName)) ∈ gT := gT_mem 619 (by decide +kernel) rfl
theorem tw_620 : (Jvm.Cond.selects "MovedLines$Comparer" ({ cls := "MovedLines$Comparer", name := "mostLines", desc := "(LMovedLines$Edition;LMovedLines$Edition;)I" } : Jvm.MethodName) ({ cls := "MovedLines$Comparer", name := "mostLines", desc := "(LMovedLines$Edition;LMovedLines$Edition;)I" } : Jvm.MethodName)) ∈ gT := gT_mem 620 (by decide +kernel) rfl
theorem tw_621 : (Jvm.Cond.code ({ cls := "MovedLines$Comparer", name := "mostLines", desc := "(LMovedLines$Edition;LMovedLines$Edition;)I" } : Jvm.MethodName) prog_3_method_3_code (3 : Nat) (Option.some Jvm.ClassFile.FieldType.int)) ∈ gT := gT_mem 621 (by decide +kernel) rfl
end
section
theorem tw_622 : (Jvm.Cond.methodLink "MovedLinesLaw" (74 : Nat) ({ cls := "MovedLines", name := "changes", desc := "()I" } : Jvm.MethodName)) ∈ gT := gT_mem 622 (by decide +kernel) rfl
theorem tw_623 : (Jvm.Cond.instanceMethod ({ cls := "MovedLines", name := "changes", desc := "()I" } : Jvm.MethodName)) ∈ gT := gT_mem 623 (by decide +kernel) rfl
theorem tw_624 : (Jvm.Cond.selects "MovedLines" ({ cls := "MovedLines", name := "changes", desc := "()I" } : Jvm.MethodName) ({ cls := "MovedLines", name := "changes", desc := "()I" } : Jvm.MethodName)) ∈ gT := gT_mem 624 (by decide +kernel) rfl
theorem tw_625 : (Jvm.Cond.code ({ cls := "MovedLines", name := "changes", desc := "()I" } : Jvm.MethodName) prog_1_method_13_code (1 : Nat) (Option.some Jvm.ClassFile.FieldType.int)) ∈ gT := gT_mem 625 (by decide +kernel) rfl
theorem tw_626 : (Jvm.Cond.methodLink "MovedLinesLaw" (78 : Nat) ({ cls := "MovedLines", name := "anchors", desc := "(I)I" } : Jvm.MethodName)) ∈ gT := gT_mem 626 (by decide +kernel) rfl
theorem tw_627 : (Jvm.Cond.instanceMethod ({ cls := "MovedLines", name := "anchors", desc := "(I)I" } : Jvm.MethodName)) ∈ gT := gT_mem 627 (by decide +kernel) rfl
theorem tw_628 : (Jvm.Cond.selects "MovedLines" ({ cls := "MovedLines", name := "anchors", desc := "(I)I" } : Jvm.MethodName) ({ cls := "MovedLines", name := "anchors", desc := "(I)I" } : Jvm.MethodName)) ∈ gT := gT_mem 628 (by decide +kernel) rfl
theorem tw_629 : (Jvm.Cond.code ({ cls := "MovedLines", name := "anchors", desc := "(I)I" } : Jvm.MethodName) prog_1_method_14_code (2 : Nat) (Option.some Jvm.ClassFile.FieldType.int)) ∈ gT := gT_mem 629 (by decide +kernel) rfl
theorem tw_630 : (Jvm.Cond.methodLink "MovedLinesLaw" (82 : Nat) ({ cls := "MovedLines", name := "would", desc := "(III)I" } : Jvm.MethodName)) ∈ gT := gT_mem 630 (by decide +kernel) rfl
theorem tw_631 : (Jvm.Cond.instanceMethod ({ cls := "MovedLines", name := "would", desc := "(III)I" } : Jvm.MethodName)) ∈ gT := gT_mem 631 (by decide +kernel) rfl
theorem tw_632 : (Jvm.Cond.selects "MovedLines" ({ cls := "MovedLines", name := "would", desc := "(III)I" } : Jvm.MethodName) ({ cls := "MovedLines", name := "would", desc := "(III)I" } : Jvm.MethodName)) ∈ gT := gT_mem 632 (by decide +kernel) rfl
theorem tw_633 : (Jvm.Cond.code ({ cls := "MovedLines", name := "would", desc := "(III)I" } : Jvm.MethodName) prog_1_method_15_code (4 : Nat) (Option.some Jvm.ClassFile.FieldType.int)) ∈ gT := gT_mem 633 (by decide +kernel) rfl
theorem tw_634 : (Jvm.Cond.methodLink "MovedLines" (193 : Nat) ({ cls := "MovedLines", name := "otherThan", desc := "(I)I" } : Jvm.MethodName)) ∈ gT := gT_mem 634 (by decide +kernel) rfl
theorem tw_635 : (Jvm.Cond.static ({ cls := "MovedLines", name := "otherThan", desc := "(I)I" } : Jvm.MethodName)) ∈ gT := gT_mem 635 (by decide +kernel) rfl
theorem tw_636 : (Jvm.Cond.code ({ cls := "MovedLines", name := "otherThan", desc := "(I)I" } : Jvm.MethodName) prog_1_method_23_code (1 : Nat) (Option.some Jvm.ClassFile.FieldType.int)) ∈ gT := gT_mem 636 (by decide +kernel) rfl
theorem tw_637 : (Jvm.Cond.methodLink "MovedLines" (196 : Nat) ({ cls := "MovedLines$Edition", name := "setLine", desc := "(ILMovedLines$Edition;I)V" } : Jvm.MethodName)) ∈ gT := gT_mem 637 (by decide +kernel) rfl
theorem tw_638 : (Jvm.Cond.methodLink "MovedLines" (204 : Nat) ({ cls := "MovedLines$Told", name := "differencesFrom", desc := "(LMovedLines$Told;)I" } : Jvm.MethodName)) ∈ gT := gT_mem 638 (by decide +kernel) rfl
theorem tw_639 : (Jvm.Cond.instanceMethod ({ cls := "MovedLines$Told", name := "differencesFrom", desc := "(LMovedLines$Told;)I" } : Jvm.MethodName)) ∈ gT := gT_mem 639 (by decide +kernel) rfl
theorem tw_640 : (Jvm.Cond.selects "MovedLines$Told" ({ cls := "MovedLines$Told", name := "differencesFrom", desc := "(LMovedLines$Told;)I" } : Jvm.MethodName) ({ cls := "MovedLines$Told", name := "differencesFrom", desc := "(LMovedLines$Told;)I" } : Jvm.MethodName)) ∈ gT := gT_mem 640 (by decide +kernel) rfl
theorem tw_641 : (Jvm.Cond.code ({ cls := "MovedLines$Told", name := "differencesFrom", desc := "(LMovedLines$Told;)I" } : Jvm.MethodName) prog_10_method_7_code (5 : Nat) (Option.some Jvm.ClassFile.FieldType.int)) ∈ gT := gT_mem 641 (by decide +kernel) rfl
theorem tw_642 : (Jvm.Cond.methodLink "MovedLinesLaw" (86 : Nat) ({ cls := "MovedLines", name := "put", desc := "(II)I" } : Jvm.MethodName)) ∈ gT := gT_mem 642 (by decide +kernel) rfl
theorem tw_643 : (Jvm.Cond.instanceMethod ({ cls := "MovedLines", name := "put", desc := "(II)I" } : Jvm.MethodName)) ∈ gT := gT_mem 643 (by decide +kernel) rfl
theorem tw_644 : (Jvm.Cond.selects "MovedLines" ({ cls := "MovedLines", name := "put", desc := "(II)I" } : Jvm.MethodName) ({ cls := "MovedLines", name := "put", desc := "(II)I" } : Jvm.MethodName)) ∈ gT := gT_mem 644 (by decide +kernel) rfl
theorem tw_645 : (Jvm.Cond.code ({ cls := "MovedLines", name := "put", desc := "(II)I" } : Jvm.MethodName) prog_1_method_16_code (4 : Nat) (Option.some Jvm.ClassFile.FieldType.int)) ∈ gT := gT_mem 645 (by decide +kernel) rfl
theorem tw_646 : (Jvm.Cond.methodLink "MovedLines" (208 : Nat) ({ cls := "MovedLines", name := "startStep", desc := "(I)LMovedLines$Edition;" } : Jvm.MethodName)) ∈ gT := gT_mem 646 (by decide +kernel) rfl
theorem tw_648 : (Jvm.Cond.instanceMethod ({ cls := "MovedLines", name := "startStep", desc := "(I)LMovedLines$Edition;" } : Jvm.MethodName)) ∈ gT := gT_mem 648 (by decide +kernel) rfl
theorem tw_649 : (Jvm.Cond.code ({ cls := "MovedLines", name := "startStep", desc := "(I)LMovedLines$Edition;" } : Jvm.MethodName) prog_1_method_27_code (2 : Nat) (Option.some (Jvm.ClassFile.FieldType.object "MovedLines$Edition"))) ∈ gT := gT_mem 649 (by decide +kernel) rfl
theorem tw_650 : (Jvm.Cond.methodLink "MovedLines" (238 : Nat) ({ cls := "MovedLines$Past", name := "keep", desc := "(ILMovedLines$Edition;)V" } : Jvm.MethodName)) ∈ gT := gT_mem 650 (by decide +kernel) rfl
theorem tw_651 : (Jvm.Cond.instanceMethod ({ cls := "MovedLines$Past", name := "keep", desc := "(ILMovedLines$Edition;)V" } : Jvm.MethodName)) ∈ gT := gT_mem 651 (by decide +kernel) rfl
theorem tw_652 : (Jvm.Cond.selects "MovedLines$Past" ({ cls := "MovedLines$Past", name := "keep", desc := "(ILMovedLines$Edition;)V" } : Jvm.MethodName) ({ cls := "MovedLines$Past", name := "keep", desc := "(ILMovedLines$Edition;)V" } : Jvm.MethodName)) ∈ gT := gT_mem 652 (by decide +kernel) rfl
theorem tw_653 : (Jvm.Cond.code ({ cls := "MovedLines$Past", name := "keep", desc := "(ILMovedLines$Edition;)V" } : Jvm.MethodName) prog_7_method_2_code (3 : Nat) (Option.none : Option Jvm.ClassFile.FieldType)) ∈ gT := gT_mem 653 (by decide +kernel) rfl
theorem tw_654 : (Jvm.Cond.methodLink "MovedLines$Past" (29 : Nat) ({ cls := "MovedLines$Edition", name := "copyAll", desc := "(LMovedLines$Edition;)V" } : Jvm.MethodName)) ∈ gT := gT_mem 654 (by decide +kernel) rfl
theorem tw_655 : (Jvm.Cond.methodLink "MovedLines$Past" (33 : Nat) ({ cls := "java/lang/Math", name := "min", desc := "(II)I" } : Jvm.MethodName)) ∈ gT := gT_mem 655 (by decide +kernel) rfl
theorem tw_656 : (Jvm.Cond.methodLink "MovedLines" (211 : Nat) ({ cls := "MovedLines$Edition", name := "insertLine", desc := "(ILMovedLines$Edition;I)V" } : Jvm.MethodName)) ∈ gT := gT_mem 656 (by decide +kernel) rfl
theorem tw_657 : (Jvm.Cond.instanceMethod ({ cls := "MovedLines$Edition", name := "insertLine", desc := "(ILMovedLines$Edition;I)V" } : Jvm.MethodName)) ∈ gT := gT_mem 657 (by decide +kernel) rfl
theorem tw_658 : (Jvm.Cond.selects "MovedLines$Edition" ({ cls := "MovedLines$Edition", name := "insertLine", desc := "(ILMovedLines$Edition;I)V" } : Jvm.MethodName) ({ cls := "MovedLines$Edition", name := "insertLine", desc := "(ILMovedLines$Edition;I)V" } : Jvm.MethodName)) ∈ gT := gT_mem 658 (by decide +kernel) rfl
theorem tw_659 : (Jvm.Cond.code ({ cls := "MovedLines$Edition", name := "insertLine", desc := "(ILMovedLines$Edition;I)V" } : Jvm.MethodName) prog_4_method_9_code (5 : Nat) (Option.none : Option Jvm.ClassFile.FieldType)) ∈ gT := gT_mem 659 (by decide +kernel) rfl
theorem tw_660 : (Jvm.Cond.methodLink "MovedLinesLaw" (90 : Nat) ({ cls := "MovedLines", name := "change", desc := "(II)I" } : Jvm.MethodName)) ∈ gT := gT_mem 660 (by decide +kernel) rfl
theorem tw_661 : (Jvm.Cond.instanceMethod ({ cls := "MovedLines", name := "change", desc := "(II)I" } : Jvm.MethodName)) ∈ gT := gT_mem 661 (by decide +kernel) rfl
theorem tw_662 : (Jvm.Cond.selects "MovedLines" ({ cls := "MovedLines", name := "change", desc := "(II)I" } : Jvm.MethodName) ({ cls := "MovedLines", name := "change", desc := "(II)I" } : Jvm.MethodName)) ∈ gT := gT_mem 662 (by decide +kernel) rfl
theorem tw_663 : (Jvm.Cond.code ({ cls := "MovedLines", name := "change", desc := "(II)I" } : Jvm.MethodName) prog_1_method_17_code (4 : Nat) (Option.some Jvm.ClassFile.FieldType.int)) ∈ gT := gT_mem 663 (by decide +kernel) rfl
theorem tw_664 : (Jvm.Cond.methodLink "MovedLinesLaw" (94 : Nat) ({ cls := "MovedLines", name := "cut", desc := "(II)I" } : Jvm.MethodName)) ∈ gT := gT_mem 664 (by decide +kernel) rfl
theorem tw_665 : (Jvm.Cond.instanceMethod ({ cls := "MovedLines", name := "cut", desc := "(II)I" } : Jvm.MethodName)) ∈ gT := gT_mem 665 (by decide +kernel) rfl
theorem tw_666 : (Jvm.Cond.selects "MovedLines" ({ cls := "MovedLines", name := "cut", desc := "(II)I" } : Jvm.MethodName) ({ cls := "MovedLines", name := "cut", desc := "(II)I" } : Jvm.MethodName)) ∈ gT := gT_mem 666 (by decide +kernel) rfl
theorem tw_667 : (Jvm.Cond.code ({ cls := "MovedLines", name := "cut", desc := "(II)I" } : Jvm.MethodName) prog_1_method_18_code (4 : Nat) (Option.some Jvm.ClassFile.FieldType.int)) ∈ gT := gT_mem 667 (by decide +kernel) rfl
theorem tw_668 : (Jvm.Cond.methodLink "MovedLines" (214 : Nat) ({ cls := "MovedLines$Edition", name := "removeLine", desc := "(I)V" } : Jvm.MethodName)) ∈ gT := gT_mem 668 (by decide +kernel) rfl
theorem tw_669 : (Jvm.Cond.instanceMethod ({ cls := "MovedLines$Edition", name := "removeLine", desc := "(I)V" } : Jvm.MethodName)) ∈ gT := gT_mem 669 (by decide +kernel) rfl
theorem tw_670 : (Jvm.Cond.selects "MovedLines$Edition" ({ cls := "MovedLines$Edition", name := "removeLine", desc := "(I)V" } : Jvm.MethodName) ({ cls := "MovedLines$Edition", name := "removeLine", desc := "(I)V" } : Jvm.MethodName)) ∈ gT := gT_mem 670 (by decide +kernel) rfl
theorem tw_671 : (Jvm.Cond.code ({ cls := "MovedLines$Edition", name := "removeLine", desc := "(I)V" } : Jvm.MethodName) prog_4_method_10_code (3 : Nat) (Option.none : Option Jvm.ClassFile.FieldType)) ∈ gT := gT_mem 671 (by decide +kernel) rfl
theorem tw_672 : (Jvm.Cond.methodLink "MovedLinesLaw" (98 : Nat) ({ cls := "MovedLines", name := "move", desc := "(IIII)Z" } : Jvm.MethodName)) ∈ gT := gT_mem 672 (by decide +kernel) rfl
theorem tw_673 : (Jvm.Cond.instanceMethod ({ cls := "MovedLines", name := "move", desc := "(IIII)Z" } : Jvm.MethodName)) ∈ gT := gT_mem 673 (by decide +kernel) rfl
theorem tw_674 : (Jvm.Cond.selects "MovedLines" ({ cls := "MovedLines", name := "move", desc := "(IIII)Z" } : Jvm.MethodName) ({ cls := "MovedLines", name := "move", desc := "(IIII)Z" } : Jvm.MethodName)) ∈ gT := gT_mem 674 (by decide +kernel) rfl
theorem tw_675 : (Jvm.Cond.code ({ cls := "MovedLines", name := "move", desc := "(IIII)Z" } : Jvm.MethodName) prog_1_method_19_code (7 : Nat) (Option.some Jvm.ClassFile.FieldType.boolean)) ∈ gT := gT_mem 675 (by decide +kernel) rfl
theorem tw_676 : (Jvm.Cond.methodLink "MovedLines" (217 : Nat) ({ cls := "MovedLines$Edition", name := "arrangeFrom", desc := "(LMovedLines$Edition;III)V" } : Jvm.MethodName)) ∈ gT := gT_mem 676 (by decide +kernel) rfl
theorem tw_677 : (Jvm.Cond.instanceMethod ({ cls := "MovedLines$Edition", name := "arrangeFrom", desc := "(LMovedLines$Edition;III)V" } : Jvm.MethodName)) ∈ gT := gT_mem 677 (by decide +kernel) rfl
theorem tw_678 : (Jvm.Cond.selects "MovedLines$Edition" ({ cls := "MovedLines$Edition", name := "arrangeFrom", desc := "(LMovedLines$Edition;III)V" } : Jvm.MethodName) ({ cls := "MovedLines$Edition", name := "arrangeFrom", desc := "(LMovedLines$Edition;III)V" } : Jvm.MethodName)) ∈ gT := gT_mem 678 (by decide +kernel) rfl
theorem tw_679 : (Jvm.Cond.code ({ cls := "MovedLines$Edition", name := "arrangeFrom", desc := "(LMovedLines$Edition;III)V" } : Jvm.MethodName) prog_4_method_11_code (6 : Nat) (Option.none : Option Jvm.ClassFile.FieldType)) ∈ gT := gT_mem 679 (by decide +kernel) rfl
theorem tw_680 : (Jvm.Cond.methodLink "MovedLines$Edition" (47 : Nat) ({ cls := "MovedLines$Edition", name := "sourceOf", desc := "(IIII)I" } : Jvm.MethodName)) ∈ gT := gT_mem 680 (by decide +kernel) rfl
theorem tw_681 : (Jvm.Cond.static ({ cls := "MovedLines$Edition", name := "sourceOf", desc := "(IIII)I" } : Jvm.MethodName)) ∈ gT := gT_mem 681 (by decide +kernel) rfl
theorem tw_682 : (Jvm.Cond.code ({ cls := "MovedLines$Edition", name := "sourceOf", desc := "(IIII)I" } : Jvm.MethodName) prog_4_method_12_code (5 : Nat) (Option.some Jvm.ClassFile.FieldType.int)) ∈ gT := gT_mem 682 (by decide +kernel) rfl
theorem tw_683 : (Jvm.Cond.methodLink "MovedLinesLaw" (103 : Nat) ({ cls := "MovedLines", name := "take", desc := "()I" } : Jvm.MethodName)) ∈ gT := gT_mem 683 (by decide +kernel) rfl
theorem tw_684 : (Jvm.Cond.instanceMethod ({ cls := "MovedLines", name := "take", desc := "()I" } : Jvm.MethodName)) ∈ gT := gT_mem 684 (by decide +kernel) rfl
theorem tw_685 : (Jvm.Cond.selects "MovedLines" ({ cls := "MovedLines", name := "take", desc := "()I" } : Jvm.MethodName) ({ cls := "MovedLines", name := "take", desc := "()I" } : Jvm.MethodName)) ∈ gT := gT_mem 685 (by decide +kernel) rfl
theorem tw_686 : (Jvm.Cond.code ({ cls := "MovedLines", name := "take", desc := "()I" } : Jvm.MethodName) prog_1_method_20_code (1 : Nat) (Option.some Jvm.ClassFile.FieldType.int)) ∈ gT := gT_mem 686 (by decide +kernel) rfl
theorem tw_687 : (Jvm.Cond.methodLink "MovedLinesLaw" (107 : Nat) ({ cls := "MovedLines", name := "undo", desc := "()I" } : Jvm.MethodName)) ∈ gT := gT_mem 687 (by decide +kernel) rfl
theorem tw_688 : (Jvm.Cond.instanceMethod ({ cls := "MovedLines", name := "undo", desc := "()I" } : Jvm.MethodName)) ∈ gT := gT_mem 688 (by decide +kernel) rfl
theorem tw_689 : (Jvm.Cond.selects "MovedLines" ({ cls := "MovedLines", name := "undo", desc := "()I" } : Jvm.MethodName) ({ cls := "MovedLines", name := "undo", desc := "()I" } : Jvm.MethodName)) ∈ gT := gT_mem 689 (by decide +kernel) rfl
theorem tw_690 : (Jvm.Cond.code ({ cls := "MovedLines", name := "undo", desc := "()I" } : Jvm.MethodName) prog_1_method_21_code (2 : Nat) (Option.some Jvm.ClassFile.FieldType.int)) ∈ gT := gT_mem 690 (by decide +kernel) rfl
theorem tw_691 : (Jvm.Cond.methodLink "MovedLines" (221 : Nat) ({ cls := "MovedLines$Past", name := "stepBack", desc := "()I" } : Jvm.MethodName)) ∈ gT := gT_mem 691 (by decide +kernel) rfl
theorem tw_692 : (Jvm.Cond.instanceMethod ({ cls := "MovedLines$Past", name := "stepBack", desc := "()I" } : Jvm.MethodName)) ∈ gT := gT_mem 692 (by decide +kernel) rfl
theorem tw_693 : (Jvm.Cond.selects "MovedLines$Past" ({ cls := "MovedLines$Past", name := "stepBack", desc := "()I" } : Jvm.MethodName) ({ cls := "MovedLines$Past", name := "stepBack", desc := "()I" } : Jvm.MethodName)) ∈ gT := gT_mem 693 (by decide +kernel) rfl
theorem tw_694 : (Jvm.Cond.code ({ cls := "MovedLines$Past", name := "stepBack", desc := "()I" } : Jvm.MethodName) prog_7_method_3_code (1 : Nat) (Option.some Jvm.ClassFile.FieldType.int)) ∈ gT := gT_mem 694 (by decide +kernel) rfl
theorem tw_695 : (Jvm.Cond.methodLink "MovedLines$Past" (39 : Nat) ({ cls := "java/lang/Math", name := "max", desc := "(II)I" } : Jvm.MethodName)) ∈ gT := gT_mem 695 (by decide +kernel) rfl
theorem tw_696 : (Jvm.Cond.methodLink "MovedLinesLaw" (43 : Nat) ({ cls := "MovedLinesLaw", name := "line", desc := "(LMovedLines;III[J)I" } : Jvm.MethodName)) ∈ gT := gT_mem 696 (by decide +kernel) rfl
theorem tw_697 : (Jvm.Cond.static ({ cls := "MovedLinesLaw", name := "line", desc := "(LMovedLines;III[J)I" } : Jvm.MethodName)) ∈ gT := gT_mem 697 (by decide +kernel) rfl
theorem tw_699 : (Jvm.Cond.classLink "MovedLinesLaw" (13 : Nat) "java/util/NoSuchElementException") ∈ gT := gT_mem 699 (by decide +kernel) rfl
theorem tw_700 : (Jvm.Cond.methodLink "MovedLinesLaw" (7 : Nat) ({ cls := "MovedLines", name := "line", desc := "(III)I" } : Jvm.MethodName)) ∈ gT := gT_mem 700 (by decide +kernel) rfl
theorem tw_701 : (Jvm.Cond.instanceMethod ({ cls := "MovedLines", name := "line", desc := "(III)I" } : Jvm.MethodName)) ∈ gT := gT_mem 701 (by decide +kernel) rfl
theorem tw_702 : (Jvm.Cond.selects "MovedLines" ({ cls := "MovedLines", name := "line", desc := "(III)I" } : Jvm.MethodName) ({ cls := "MovedLines", name := "line", desc := "(III)I" } : Jvm.MethodName)) ∈ gT := gT_mem 702 (by decide +kernel) rfl
theorem tw_703 : (Jvm.Cond.code ({ cls := "MovedLines", name := "line", desc := "(III)I" } : Jvm.MethodName) prog_1_method_7_code (4 : Nat) (Option.some Jvm.ClassFile.FieldType.int)) ∈ gT := gT_mem 703 (by decide +kernel) rfl
theorem tw_704 : (Jvm.Cond.classLink "MovedLines" (132 : Nat) "java/util/NoSuchElementException") ∈ gT := gT_mem 704 (by decide +kernel) rfl
theorem tw_705 : (Jvm.Cond.instantiable "java/util/NoSuchElementException" (6 : Nat)) ∈ gT := gT_mem 705 (by decide +kernel) rfl
theorem tw_713 : (Jvm.Cond.selects "java/util/NoSuchElementException" ({ cls := "java/lang/Throwable", name := "fillInStackTrace", desc := "(I)Ljava/lang/Throwable;" } : Jvm.MethodName) ({ cls := "java/lang/Throwable", name := "fillInStackTrace", desc := "(I)Ljava/lang/Throwable;" } : Jvm.MethodName)) ∈ gT := gT_mem 713 (by decide +kernel) rfl
theorem tw_714 : (Jvm.Cond.selects "java/util/NoSuchElementException" ({ cls := "java/lang/Throwable", name := "fillInStackTrace", desc := "()Ljava/lang/Throwable;" } : Jvm.MethodName) ({ cls := "java/lang/Throwable", name := "fillInStackTrace", desc := "()Ljava/lang/Throwable;" } : Jvm.MethodName)) ∈ gT := gT_mem 714 (by decide +kernel) rfl
theorem tw_715 : (Jvm.Cond.lays "java/util/NoSuchElementException" "java/lang/Throwable" "cause" "Ljava/lang/Throwable;") ∈ gT := gT_mem 715 (by decide +kernel) rfl
theorem tw_716 : (Jvm.Cond.lays "java/lang/Throwable" "java/lang/Throwable" "cause" "Ljava/lang/Throwable;") ∈ gT := gT_mem 716 (by decide +kernel) rfl
theorem tw_717 : (Jvm.Cond.lays "java/util/NoSuchElementException" "java/lang/Throwable" "stackTrace" "[Ljava/lang/StackTraceElement;") ∈ gT := gT_mem 717 (by decide +kernel) rfl
theorem tw_718 : (Jvm.Cond.lays "java/lang/Throwable" "java/lang/Throwable" "stackTrace" "[Ljava/lang/StackTraceElement;") ∈ gT := gT_mem 718 (by decide +kernel) rfl
theorem tw_719 : (Jvm.Cond.lays "java/util/NoSuchElementException" "java/lang/Throwable" "suppressedExceptions" "Ljava/util/List;") ∈ gT := gT_mem 719 (by decide +kernel) rfl
theorem tw_720 : (Jvm.Cond.lays "java/lang/Throwable" "java/lang/Throwable" "suppressedExceptions" "Ljava/util/List;") ∈ gT := gT_mem 720 (by decide +kernel) rfl
theorem tw_721 : (Jvm.Cond.lays "java/util/NoSuchElementException" "java/lang/Throwable" "detailMessage" "Ljava/lang/String;") ∈ gT := gT_mem 721 (by decide +kernel) rfl
theorem tw_722 : (Jvm.Cond.lays "java/lang/Throwable" "java/lang/Throwable" "detailMessage" "Ljava/lang/String;") ∈ gT := gT_mem 722 (by decide +kernel) rfl
theorem tw_723 : (Jvm.Cond.lays "java/util/NoSuchElementException" "java/lang/Throwable" "backtrace" "Ljava/lang/Object;") ∈ gT := gT_mem 723 (by decide +kernel) rfl
theorem tw_724 : (Jvm.Cond.lays "java/lang/Throwable" "java/lang/Throwable" "backtrace" "Ljava/lang/Object;") ∈ gT := gT_mem 724 (by decide +kernel) rfl
theorem tw_725 : (Jvm.Cond.fieldLink "java/lang/Throwable" (198 : Nat) "java/lang/Throwable" "backtrace" "Ljava/lang/Object;") ∈ gT := gT_mem 725 (by decide +kernel) rfl
theorem tw_727 : (Jvm.Cond.instanceMethod ({ cls := "java/lang/Throwable", name := "<init>", desc := "()V" } : Jvm.MethodName)) ∈ gT := gT_mem 727 (by decide +kernel) rfl
theorem tw_728 : (Jvm.Cond.code ({ cls := "java/lang/Throwable", name := "<init>", desc := "()V" } : Jvm.MethodName) prog_19_method_1_code (1 : Nat) (Option.none : Option Jvm.ClassFile.FieldType)) ∈ gT := gT_mem 728 (by decide +kernel) rfl
theorem tw_729 : (Jvm.Cond.methodLink "java/lang/Throwable" (1 : Nat) ({ cls := "java/lang/Object", name := "<init>", desc := "()V" } : Jvm.MethodName)) ∈ gT := gT_mem 729 (by decide +kernel) rfl
theorem tw_730 : (Jvm.Cond.fieldLink "java/lang/Throwable" (13 : Nat) "java/lang/Throwable" "UNASSIGNED_STACK" "[Ljava/lang/StackTraceElement;") ∈ gT := gT_mem 730 (by decide +kernel) rfl
theorem tw_732 : (Jvm.Cond.fieldLink "java/lang/Throwable" (20 : Nat) "java/lang/Throwable" "SUPPRESSED_SENTINEL" "Ljava/util/List;") ∈ gT := gT_mem 732 (by decide +kernel) rfl
theorem tw_734 : (Jvm.Cond.methodLink "java/lang/Throwable" (27 : Nat) ({ cls := "java/lang/Throwable", name := "fillInStackTrace", desc := "()Ljava/lang/Throwable;" } : Jvm.MethodName)) ∈ gT := gT_mem 734 (by decide +kernel) rfl
theorem tw_735 : (Jvm.Cond.instanceMethod ({ cls := "java/lang/Throwable", name := "fillInStackTrace", desc := "()Ljava/lang/Throwable;" } : Jvm.MethodName)) ∈ gT := gT_mem 735 (by decide +kernel) rfl
theorem tw_738 : (Jvm.Cond.methodLink "java/lang/Throwable" (202 : Nat) ({ cls := "java/lang/Throwable", name := "fillInStackTrace", desc := "(I)Ljava/lang/Throwable;" } : Jvm.MethodName)) ∈ gT := gT_mem 738 (by decide +kernel) rfl
theorem tw_740 : (Jvm.Cond.instanceMethod ({ cls := "java/lang/Throwable", name := "fillInStackTrace", desc := "(I)Ljava/lang/Throwable;" } : Jvm.MethodName)) ∈ gT := gT_mem 740 (by decide +kernel) rfl
theorem tw_741 : (Jvm.Cond.instantiable "java/lang/Throwable" (6 : Nat)) ∈ gT := gT_mem 741 (by decide +kernel) rfl
theorem tw_742 : (Jvm.Cond.native ({ cls := "java/lang/Throwable", name := "fillInStackTrace", desc := "(I)Ljava/lang/Throwable;" } : Jvm.MethodName)) ∈ gT := gT_mem 742 (by decide +kernel) rfl
theorem tw_744 : (Jvm.Cond.methodLink "MovedLines" (136 : Nat) ({ cls := "java/util/NoSuchElementException", name := "<init>", desc := "(Ljava/lang/String;)V" } : Jvm.MethodName)) ∈ gT := gT_mem 744 (by decide +kernel) rfl
theorem tw_745 : (Jvm.Cond.instanceMethod ({ cls := "java/util/NoSuchElementException", name := "<init>", desc := "(Ljava/lang/String;)V" } : Jvm.MethodName)) ∈ gT := gT_mem 745 (by decide +kernel) rfl
theorem tw_746 : (Jvm.Cond.code ({ cls := "java/util/NoSuchElementException", name := "<init>", desc := "(Ljava/lang/String;)V" } : Jvm.MethodName) prog_20_method_4_code (2 : Nat) (Option.none : Option Jvm.ClassFile.FieldType)) ∈ gT := gT_mem 746 (by decide +kernel) rfl
theorem tw_747 : (Jvm.Cond.methodLink "java/util/NoSuchElementException" (13 : Nat) ({ cls := "java/lang/RuntimeException", name := "<init>", desc := "(Ljava/lang/String;)V" } : Jvm.MethodName)) ∈ gT := gT_mem 747 (by decide +kernel) rfl
theorem tw_748 : (Jvm.Cond.instanceMethod ({ cls := "java/lang/RuntimeException", name := "<init>", desc := "(Ljava/lang/String;)V" } : Jvm.MethodName)) ∈ gT := gT_mem 748 (by decide +kernel) rfl
theorem tw_749 : (Jvm.Cond.code ({ cls := "java/lang/RuntimeException", name := "<init>", desc := "(Ljava/lang/String;)V" } : Jvm.MethodName) prog_16_method_2_code (2 : Nat) (Option.none : Option Jvm.ClassFile.FieldType)) ∈ gT := gT_mem 749 (by decide +kernel) rfl
theorem tw_750 : (Jvm.Cond.methodLink "java/lang/RuntimeException" (7 : Nat) ({ cls := "java/lang/Exception", name := "<init>", desc := "(Ljava/lang/String;)V" } : Jvm.MethodName)) ∈ gT := gT_mem 750 (by decide +kernel) rfl
theorem tw_751 : (Jvm.Cond.instanceMethod ({ cls := "java/lang/Exception", name := "<init>", desc := "(Ljava/lang/String;)V" } : Jvm.MethodName)) ∈ gT := gT_mem 751 (by decide +kernel) rfl
theorem tw_752 : (Jvm.Cond.code ({ cls := "java/lang/Exception", name := "<init>", desc := "(Ljava/lang/String;)V" } : Jvm.MethodName) prog_14_method_2_code (2 : Nat) (Option.none : Option Jvm.ClassFile.FieldType)) ∈ gT := gT_mem 752 (by decide +kernel) rfl
theorem tw_753 : (Jvm.Cond.methodLink "java/lang/Exception" (7 : Nat) ({ cls := "java/lang/Throwable", name := "<init>", desc := "(Ljava/lang/String;)V" } : Jvm.MethodName)) ∈ gT := gT_mem 753 (by decide +kernel) rfl
theorem tw_754 : (Jvm.Cond.instanceMethod ({ cls := "java/lang/Throwable", name := "<init>", desc := "(Ljava/lang/String;)V" } : Jvm.MethodName)) ∈ gT := gT_mem 754 (by decide +kernel) rfl
theorem tw_755 : (Jvm.Cond.code ({ cls := "java/lang/Throwable", name := "<init>", desc := "(Ljava/lang/String;)V" } : Jvm.MethodName) prog_19_method_2_code (2 : Nat) (Option.none : Option Jvm.ClassFile.FieldType)) ∈ gT := gT_mem 755 (by decide +kernel) rfl
theorem tw_756 : (Jvm.Cond.fieldLink "java/lang/Throwable" (198 : Nat) "java/lang/Throwable" "backtrace" "Ljava/lang/Object;") ∈ gT := gT_mem 756 (by decide +kernel) rfl
theorem tw_757 : (Jvm.Cond.fieldLink "java/lang/Throwable" (31 : Nat) "java/lang/Throwable" "detailMessage" "Ljava/lang/String;") ∈ gT := gT_mem 757 (by decide +kernel) rfl
theorem tw_758 : (Jvm.Cond.fieldLink "java/lang/Throwable" (7 : Nat) "java/lang/Throwable" "cause" "Ljava/lang/Throwable;") ∈ gT := gT_mem 758 (by decide +kernel) rfl
theorem tw_759 : (Jvm.Cond.fieldLink "java/lang/Throwable" (17 : Nat) "java/lang/Throwable" "stackTrace" "[Ljava/lang/StackTraceElement;") ∈ gT := gT_mem 759 (by decide +kernel) rfl
theorem tw_760 : (Jvm.Cond.fieldLink "java/lang/Throwable" (24 : Nat) "java/lang/Throwable" "suppressedExceptions" "Ljava/util/List;") ∈ gT := gT_mem 760 (by decide +kernel) rfl
theorem tw_765 : (Jvm.Cond.lays "java/util/NoSuchElementException" "java/lang/Throwable" "depth" "I") ∈ gT := gT_mem 765 (by decide +kernel) rfl
theorem tw_770 : (Jvm.Cond.methodLink "MovedLinesLaw" (49 : Nat) ({ cls := "MovedLinesModel", name := "thrown", desc := "()I" } : Jvm.MethodName)) ∈ gT := gT_mem 770 (by decide +kernel) rfl
theorem tw_771 : (Jvm.Cond.instanceMethod ({ cls := "MovedLinesModel", name := "thrown", desc := "()I" } : Jvm.MethodName)) ∈ gT := gT_mem 771 (by decide +kernel) rfl
theorem tw_772 : (Jvm.Cond.selects "MovedLinesModel" ({ cls := "MovedLinesModel", name := "thrown", desc := "()I" } : Jvm.MethodName) ({ cls := "MovedLinesModel", name := "thrown", desc := "()I" } : Jvm.MethodName)) ∈ gT := gT_mem 772 (by decide +kernel) rfl
theorem tw_773 : (Jvm.Cond.code ({ cls := "MovedLinesModel", name := "thrown", desc := "()I" } : Jvm.MethodName) prog_12_method_1_code (1 : Nat) (Option.some Jvm.ClassFile.FieldType.int)) ∈ gT := gT_mem 773 (by decide +kernel) rfl
theorem tw_774 : (Jvm.Cond.methodLink "MovedLinesLaw" (23 : Nat) ({ cls := "MovedLinesModel", name := "feed", desc := "(IIIII)I" } : Jvm.MethodName)) ∈ gT := gT_mem 774 (by decide +kernel) rfl
theorem tw_775 : (Jvm.Cond.instanceMethod ({ cls := "MovedLinesModel", name := "feed", desc := "(IIIII)I" } : Jvm.MethodName)) ∈ gT := gT_mem 775 (by decide +kernel) rfl
theorem tw_776 : (Jvm.Cond.selects "MovedLinesModel" ({ cls := "MovedLinesModel", name := "feed", desc := "(IIIII)I" } : Jvm.MethodName) ({ cls := "MovedLinesModel", name := "feed", desc := "(IIIII)I" } : Jvm.MethodName)) ∈ gT := gT_mem 776 (by decide +kernel) rfl
theorem tw_777 : (Jvm.Cond.code ({ cls := "MovedLinesModel", name := "feed", desc := "(IIIII)I" } : Jvm.MethodName) prog_12_method_5_code (6 : Nat) (Option.some Jvm.ClassFile.FieldType.int)) ∈ gT := gT_mem 777 (by decide +kernel) rfl
theorem tw_778 : (Jvm.Cond.methodLink "MovedLinesModel" (14 : Nat) ({ cls := "MovedLinesModel", name := "lays", desc := "(I)V" } : Jvm.MethodName)) ∈ gT := gT_mem 778 (by decide +kernel) rfl
theorem tw_780 : (Jvm.Cond.instanceMethod ({ cls := "MovedLinesModel", name := "lays", desc := "(I)V" } : Jvm.MethodName)) ∈ gT := gT_mem 780 (by decide +kernel) rfl
theorem tw_781 : (Jvm.Cond.instantiable "MovedLinesModel" (20 : Nat)) ∈ gT := gT_mem 781 (by decide +kernel) rfl
theorem tw_782 : (Jvm.Cond.code ({ cls := "MovedLinesModel", name := "lays", desc := "(I)V" } : Jvm.MethodName) prog_12_method_4_code (3 : Nat) (Option.none : Option Jvm.ClassFile.FieldType)) ∈ gT := gT_mem 782 (by decide +kernel) rfl
theorem tw_783 : (Jvm.Cond.methodLink "MovedLinesLaw" (28 : Nat) ({ cls := "MovedLinesModel", name := "end", desc := "(I)Z" } : Jvm.MethodName)) ∈ gT := gT_mem 783 (by decide +kernel) rfl
theorem tw_784 : (Jvm.Cond.instanceMethod ({ cls := "MovedLinesModel", name := "end", desc := "(I)Z" } : Jvm.MethodName)) ∈ gT := gT_mem 784 (by decide +kernel) rfl
theorem tw_785 : (Jvm.Cond.selects "MovedLinesModel" ({ cls := "MovedLinesModel", name := "end", desc := "(I)Z" } : Jvm.MethodName) ({ cls := "MovedLinesModel", name := "end", desc := "(I)Z" } : Jvm.MethodName)) ∈ gT := gT_mem 785 (by decide +kernel) rfl
theorem tw_786 : (Jvm.Cond.code ({ cls := "MovedLinesModel", name := "end", desc := "(I)Z" } : Jvm.MethodName) prog_12_method_6_code (2 : Nat) (Option.some Jvm.ClassFile.FieldType.boolean)) ∈ gT := gT_mem 786 (by decide +kernel) rfl
theorem tw_787 : (Jvm.Cond.classLink "MovedLinesLaw" (16 : Nat) "MovedLinesModel") ∈ gT := gT_mem 787 (by decide +kernel) rfl
theorem tw_788 : (Jvm.Cond.methodLink "MovedLinesLaw" (18 : Nat) ({ cls := "MovedLinesModel", name := "<init>", desc := "()V" } : Jvm.MethodName)) ∈ gT := gT_mem 788 (by decide +kernel) rfl
theorem tw_789 : (Jvm.Cond.instanceMethod ({ cls := "MovedLinesModel", name := "<init>", desc := "()V" } : Jvm.MethodName)) ∈ gT := gT_mem 789 (by decide +kernel) rfl
theorem tw_790 : (Jvm.Cond.code ({ cls := "MovedLinesModel", name := "<init>", desc := "()V" } : Jvm.MethodName) prog_12_method_7_code (1 : Nat) (Option.none : Option Jvm.ClassFile.FieldType)) ∈ gT := gT_mem 790 (by decide +kernel) rfl
theorem tw_791 : (Jvm.Cond.methodLink "MovedLinesModel" (18 : Nat) ({ cls := "java/lang/Object", name := "<init>", desc := "()V" } : Jvm.MethodName)) ∈ gT := gT_mem 791 (by decide +kernel) rfl
theorem tw_792 : (Jvm.Cond.fieldLink "MovedLinesModel" (1 : Nat) "MovedLinesModel" "thrown" "I") ∈ gT := gT_mem 792 (by decide +kernel) rfl
theorem tw_793 : (Jvm.Cond.fieldLink "MovedLinesModel" (7 : Nat) "MovedLinesModel" "tape" "[I") ∈ gT := gT_mem 793 (by decide +kernel) rfl
theorem tw_794 : (Jvm.Cond.fieldLink "MovedLinesModel" (11 : Nat) "MovedLinesModel" "taped" "I") ∈ gT := gT_mem 794 (by decide +kernel) rfl
theorem tw_795 : (Jvm.Cond.fieldLink "MovedLinesModel" (24 : Nat) "MovedLinesModel" "now" "[I") ∈ gT := gT_mem 795 (by decide +kernel) rfl
theorem tw_796 : (Jvm.Cond.fieldLink "MovedLinesModel" (27 : Nat) "MovedLinesModel" "read" "[I") ∈ gT := gT_mem 796 (by decide +kernel) rfl
theorem tw_797 : (Jvm.Cond.fieldLink "MovedLinesModel" (30 : Nat) "MovedLinesModel" "snaps" "[I") ∈ gT := gT_mem 797 (by decide +kernel) rfl
theorem tw_798 : (Jvm.Cond.fieldLink "MovedLinesModel" (92 : Nat) "MovedLinesModel" "snapMany" "I") ∈ gT := gT_mem 798 (by decide +kernel) rfl
theorem tw_799 : (Jvm.Cond.fieldLink "MovedLinesModel" (66 : Nat) "MovedLinesModel" "fault" "I") ∈ gT := gT_mem 799 (by decide +kernel) rfl
theorem tw_800 : (Jvm.Cond.fieldLink "MovedLinesModel" (69 : Nat) "MovedLinesModel" "place" "I") ∈ gT := gT_mem 800 (by decide +kernel) rfl
theorem tw_801 : (Jvm.Cond.fieldLink "MovedLinesModel" (72 : Nat) "MovedLinesModel" "letters" "I") ∈ gT := gT_mem 801 (by decide +kernel) rfl
theorem tw_802 : (Jvm.Cond.fieldLink "MovedLinesModel" (33 : Nat) "MovedLinesModel" "how" "[I") ∈ gT := gT_mem 802 (by decide +kernel) rfl
theorem tw_803 : (Jvm.Cond.fieldLink "MovedLinesModel" (36 : Nat) "MovedLinesModel" "with" "[I") ∈ gT := gT_mem 803 (by decide +kernel) rfl
theorem tw_804 : (Jvm.Cond.fieldLink "MovedLinesModel" (39 : Nat) "MovedLinesModel" "inBlock" "[I") ∈ gT := gT_mem 804 (by decide +kernel) rfl
theorem tw_805 : (Jvm.Cond.fieldLink "MovedLinesModel" (42 : Nat) "MovedLinesModel" "wasHow" "[I") ∈ gT := gT_mem 805 (by decide +kernel) rfl
theorem tw_806 : (Jvm.Cond.fieldLink "MovedLinesModel" (45 : Nat) "MovedLinesModel" "wasWith" "[I") ∈ gT := gT_mem 806 (by decide +kernel) rfl
theorem tw_807 : (Jvm.Cond.fieldLink "MovedLinesModel" (48 : Nat) "MovedLinesModel" "blocks" "[I") ∈ gT := gT_mem 807 (by decide +kernel) rfl
theorem tw_808 : (Jvm.Cond.fieldLink "MovedLinesModel" (133 : Nat) "MovedLinesModel" "blockMany" "I") ∈ gT := gT_mem 808 (by decide +kernel) rfl
theorem tw_809 : (Jvm.Cond.fieldLink "MovedLinesModel" (120 : Nat) "MovedLinesModel" "anchorsThere" "I") ∈ gT := gT_mem 809 (by decide +kernel) rfl
theorem tw_810 : (Jvm.Cond.fieldLink "MovedLinesModel" (123 : Nat) "MovedLinesModel" "runThere" "I") ∈ gT := gT_mem 810 (by decide +kernel) rfl
theorem tw_811 : (Jvm.Cond.fieldLink "MovedLinesModel" (51 : Nat) "MovedLinesModel" "most" "[I") ∈ gT := gT_mem 811 (by decide +kernel) rfl
theorem tw_812 : (Jvm.Cond.lays "MovedLinesModel" "MovedLinesModel" "thrown" "I") ∈ gT := gT_mem 812 (by decide +kernel) rfl
theorem tw_814 : (Jvm.Cond.laysFinal "MovedLinesModel" "MovedLinesModel" "tape" "[I") ∈ gT := gT_mem 814 (by decide +kernel) rfl
theorem tw_816 : (Jvm.Cond.lays "MovedLinesModel" "MovedLinesModel" "taped" "I") ∈ gT := gT_mem 816 (by decide +kernel) rfl
theorem tw_818 : (Jvm.Cond.laysFinal "MovedLinesModel" "MovedLinesModel" "now" "[I") ∈ gT := gT_mem 818 (by decide +kernel) rfl
theorem tw_820 : (Jvm.Cond.laysFinal "MovedLinesModel" "MovedLinesModel" "read" "[I") ∈ gT := gT_mem 820 (by decide +kernel) rfl
theorem tw_822 : (Jvm.Cond.laysFinal "MovedLinesModel" "MovedLinesModel" "snaps" "[I") ∈ gT := gT_mem 822 (by decide +kernel) rfl
theorem tw_824 : (Jvm.Cond.lays "MovedLinesModel" "MovedLinesModel" "snapMany" "I") ∈ gT := gT_mem 824 (by decide +kernel) rfl
theorem tw_826 : (Jvm.Cond.lays "MovedLinesModel" "MovedLinesModel" "fault" "I") ∈ gT := gT_mem 826 (by decide +kernel) rfl
theorem tw_828 : (Jvm.Cond.lays "MovedLinesModel" "MovedLinesModel" "place" "I") ∈ gT := gT_mem 828 (by decide +kernel) rfl
theorem tw_830 : (Jvm.Cond.lays "MovedLinesModel" "MovedLinesModel" "letters" "I") ∈ gT := gT_mem 830 (by decide +kernel) rfl
theorem tw_832 : (Jvm.Cond.laysFinal "MovedLinesModel" "MovedLinesModel" "how" "[I") ∈ gT := gT_mem 832 (by decide +kernel) rfl
theorem tw_834 : (Jvm.Cond.laysFinal "MovedLinesModel" "MovedLinesModel" "with" "[I") ∈ gT := gT_mem 834 (by decide +kernel) rfl
theorem tw_836 : (Jvm.Cond.laysFinal "MovedLinesModel" "MovedLinesModel" "inBlock" "[I") ∈ gT := gT_mem 836 (by decide +kernel) rfl
theorem tw_838 : (Jvm.Cond.laysFinal "MovedLinesModel" "MovedLinesModel" "wasHow" "[I") ∈ gT := gT_mem 838 (by decide +kernel) rfl
theorem tw_840 : (Jvm.Cond.laysFinal "MovedLinesModel" "MovedLinesModel" "wasWith" "[I") ∈ gT := gT_mem 840 (by decide +kernel) rfl
theorem tw_842 : (Jvm.Cond.laysFinal "MovedLinesModel" "MovedLinesModel" "blocks" "[I") ∈ gT := gT_mem 842 (by decide +kernel) rfl
theorem tw_844 : (Jvm.Cond.lays "MovedLinesModel" "MovedLinesModel" "blockMany" "I") ∈ gT := gT_mem 844 (by decide +kernel) rfl
theorem tw_846 : (Jvm.Cond.lays "MovedLinesModel" "MovedLinesModel" "anchorsThere" "I") ∈ gT := gT_mem 846 (by decide +kernel) rfl
theorem tw_848 : (Jvm.Cond.lays "MovedLinesModel" "MovedLinesModel" "runThere" "I") ∈ gT := gT_mem 848 (by decide +kernel) rfl
theorem tw_850 : (Jvm.Cond.laysFinal "MovedLinesModel" "MovedLinesModel" "most" "[I") ∈ gT := gT_mem 850 (by decide +kernel) rfl
theorem tw_853 : (Jvm.Cond.methodLink "MovedLinesLaw" (33 : Nat) ({ cls := "MovedLinesModel", name := "edition", desc := "(I)I" } : Jvm.MethodName)) ∈ gT := gT_mem 853 (by decide +kernel) rfl
theorem tw_854 : (Jvm.Cond.instanceMethod ({ cls := "MovedLinesModel", name := "edition", desc := "(I)I" } : Jvm.MethodName)) ∈ gT := gT_mem 854 (by decide +kernel) rfl
theorem tw_855 : (Jvm.Cond.selects "MovedLinesModel" ({ cls := "MovedLinesModel", name := "edition", desc := "(I)I" } : Jvm.MethodName) ({ cls := "MovedLinesModel", name := "edition", desc := "(I)I" } : Jvm.MethodName)) ∈ gT := gT_mem 855 (by decide +kernel) rfl
theorem tw_856 : (Jvm.Cond.code ({ cls := "MovedLinesModel", name := "edition", desc := "(I)I" } : Jvm.MethodName) prog_12_method_17_code (3 : Nat) (Option.some Jvm.ClassFile.FieldType.int)) ∈ gT := gT_mem 856 (by decide +kernel) rfl
theorem tw_857 : (Jvm.Cond.methodLink "MovedLinesModel" (58 : Nat) ({ cls := "MovedLinesModel", name := "isEdition", desc := "(I)Z" } : Jvm.MethodName)) ∈ gT := gT_mem 857 (by decide +kernel) rfl
theorem tw_858 : (Jvm.Cond.static ({ cls := "MovedLinesModel", name := "isEdition", desc := "(I)Z" } : Jvm.MethodName)) ∈ gT := gT_mem 858 (by decide +kernel) rfl
theorem tw_859 : (Jvm.Cond.code ({ cls := "MovedLinesModel", name := "isEdition", desc := "(I)Z" } : Jvm.MethodName) prog_12_method_9_code (1 : Nat) (Option.some Jvm.ClassFile.FieldType.boolean)) ∈ gT := gT_mem 859 (by decide +kernel) rfl
theorem tw_860 : (Jvm.Cond.methodLink "MovedLinesModel" (54 : Nat) ({ cls := "MovedLinesModel", name := "isIn", desc := "(III)Z" } : Jvm.MethodName)) ∈ gT := gT_mem 860 (by decide +kernel) rfl
theorem tw_861 : (Jvm.Cond.static ({ cls := "MovedLinesModel", name := "isIn", desc := "(III)Z" } : Jvm.MethodName)) ∈ gT := gT_mem 861 (by decide +kernel) rfl
theorem tw_862 : (Jvm.Cond.code ({ cls := "MovedLinesModel", name := "isIn", desc := "(III)Z" } : Jvm.MethodName) prog_12_method_3_code (3 : Nat) (Option.some Jvm.ClassFile.FieldType.boolean)) ∈ gT := gT_mem 862 (by decide +kernel) rfl
theorem tw_863 : (Jvm.Cond.methodLink "MovedLinesModel" (88 : Nat) ({ cls := "MovedLinesModel", name := "reads", desc := "(IZ)Z" } : Jvm.MethodName)) ∈ gT := gT_mem 863 (by decide +kernel) rfl
theorem tw_865 : (Jvm.Cond.instanceMethod ({ cls := "MovedLinesModel", name := "reads", desc := "(IZ)Z" } : Jvm.MethodName)) ∈ gT := gT_mem 865 (by decide +kernel) rfl
theorem tw_866 : (Jvm.Cond.code ({ cls := "MovedLinesModel", name := "reads", desc := "(IZ)Z" } : Jvm.MethodName) prog_12_method_16_code (7 : Nat) (Option.some Jvm.ClassFile.FieldType.boolean)) ∈ gT := gT_mem 866 (by decide +kernel) rfl
theorem tw_867 : (Jvm.Cond.methodLink "MovedLinesModel" (75 : Nat) ({ cls := "MovedLinesModel", name := "bad", desc := "(II)Z" } : Jvm.MethodName)) ∈ gT := gT_mem 867 (by decide +kernel) rfl
theorem tw_869 : (Jvm.Cond.instanceMethod ({ cls := "MovedLinesModel", name := "bad", desc := "(II)Z" } : Jvm.MethodName)) ∈ gT := gT_mem 869 (by decide +kernel) rfl
theorem tw_870 : (Jvm.Cond.code ({ cls := "MovedLinesModel", name := "bad", desc := "(II)Z" } : Jvm.MethodName) prog_12_method_12_code (3 : Nat) (Option.some Jvm.ClassFile.FieldType.boolean)) ∈ gT := gT_mem 870 (by decide +kernel) rfl
theorem tw_871 : (Jvm.Cond.methodLink "MovedLinesModel" (79 : Nat) ({ cls := "MovedLinesModel", name := "isLetter", desc := "(I)Z" } : Jvm.MethodName)) ∈ gT := gT_mem 871 (by decide +kernel) rfl
theorem tw_872 : (Jvm.Cond.static ({ cls := "MovedLinesModel", name := "isLetter", desc := "(I)Z" } : Jvm.MethodName)) ∈ gT := gT_mem 872 (by decide +kernel) rfl
theorem tw_873 : (Jvm.Cond.code ({ cls := "MovedLinesModel", name := "isLetter", desc := "(I)Z" } : Jvm.MethodName) prog_12_method_13_code (1 : Nat) (Option.some Jvm.ClassFile.FieldType.boolean)) ∈ gT := gT_mem 873 (by decide +kernel) rfl
theorem tw_874 : (Jvm.Cond.methodLink "MovedLinesModel" (82 : Nat) ({ cls := "MovedLinesModel", name := "readLetter", desc := "(III)Z" } : Jvm.MethodName)) ∈ gT := gT_mem 874 (by decide +kernel) rfl
theorem tw_876 : (Jvm.Cond.instanceMethod ({ cls := "MovedLinesModel", name := "readLetter", desc := "(III)Z" } : Jvm.MethodName)) ∈ gT := gT_mem 876 (by decide +kernel) rfl
theorem tw_877 : (Jvm.Cond.code ({ cls := "MovedLinesModel", name := "readLetter", desc := "(III)Z" } : Jvm.MethodName) prog_12_method_14_code (5 : Nat) (Option.some Jvm.ClassFile.FieldType.boolean)) ∈ gT := gT_mem 877 (by decide +kernel) rfl
theorem tw_878 : (Jvm.Cond.methodLink "MovedLinesModel" (85 : Nat) ({ cls := "MovedLinesModel", name := "readEnd", desc := "(I)Z" } : Jvm.MethodName)) ∈ gT := gT_mem 878 (by decide +kernel) rfl
theorem tw_880 : (Jvm.Cond.instanceMethod ({ cls := "MovedLinesModel", name := "readEnd", desc := "(I)Z" } : Jvm.MethodName)) ∈ gT := gT_mem 880 (by decide +kernel) rfl
theorem tw_881 : (Jvm.Cond.code ({ cls := "MovedLinesModel", name := "readEnd", desc := "(I)Z" } : Jvm.MethodName) prog_12_method_15_code (2 : Nat) (Option.some Jvm.ClassFile.FieldType.boolean)) ∈ gT := gT_mem 881 (by decide +kernel) rfl
theorem tw_882 : (Jvm.Cond.methodLink "MovedLinesModel" (62 : Nat) ({ cls := "MovedLinesModel", name := "many", desc := "(I)I" } : Jvm.MethodName)) ∈ gT := gT_mem 882 (by decide +kernel) rfl
theorem tw_884 : (Jvm.Cond.instanceMethod ({ cls := "MovedLinesModel", name := "many", desc := "(I)I" } : Jvm.MethodName)) ∈ gT := gT_mem 884 (by decide +kernel) rfl
theorem tw_885 : (Jvm.Cond.code ({ cls := "MovedLinesModel", name := "many", desc := "(I)I" } : Jvm.MethodName) prog_12_method_10_code (2 : Nat) (Option.some Jvm.ClassFile.FieldType.int)) ∈ gT := gT_mem 885 (by decide +kernel) rfl
theorem tw_886 : (Jvm.Cond.methodLink "MovedLinesLaw" (38 : Nat) ({ cls := "MovedLinesModel", name := "fault", desc := "()I" } : Jvm.MethodName)) ∈ gT := gT_mem 886 (by decide +kernel) rfl
theorem tw_887 : (Jvm.Cond.instanceMethod ({ cls := "MovedLinesModel", name := "fault", desc := "()I" } : Jvm.MethodName)) ∈ gT := gT_mem 887 (by decide +kernel) rfl
theorem tw_888 : (Jvm.Cond.selects "MovedLinesModel" ({ cls := "MovedLinesModel", name := "fault", desc := "()I" } : Jvm.MethodName) ({ cls := "MovedLinesModel", name := "fault", desc := "()I" } : Jvm.MethodName)) ∈ gT := gT_mem 888 (by decide +kernel) rfl
theorem tw_889 : (Jvm.Cond.code ({ cls := "MovedLinesModel", name := "fault", desc := "()I" } : Jvm.MethodName) prog_12_method_18_code (1 : Nat) (Option.some Jvm.ClassFile.FieldType.int)) ∈ gT := gT_mem 889 (by decide +kernel) rfl
theorem tw_890 : (Jvm.Cond.methodLink "MovedLinesLaw" (42 : Nat) ({ cls := "MovedLinesModel", name := "now", desc := "(I)I" } : Jvm.MethodName)) ∈ gT := gT_mem 890 (by decide +kernel) rfl
theorem tw_891 : (Jvm.Cond.instanceMethod ({ cls := "MovedLinesModel", name := "now", desc := "(I)I" } : Jvm.MethodName)) ∈ gT := gT_mem 891 (by decide +kernel) rfl
theorem tw_892 : (Jvm.Cond.selects "MovedLinesModel" ({ cls := "MovedLinesModel", name := "now", desc := "(I)I" } : Jvm.MethodName) ({ cls := "MovedLinesModel", name := "now", desc := "(I)I" } : Jvm.MethodName)) ∈ gT := gT_mem 892 (by decide +kernel) rfl
theorem tw_893 : (Jvm.Cond.code ({ cls := "MovedLinesModel", name := "now", desc := "(I)I" } : Jvm.MethodName) prog_12_method_33_code (2 : Nat) (Option.some Jvm.ClassFile.FieldType.int)) ∈ gT := gT_mem 893 (by decide +kernel) rfl
theorem tw_894 : (Jvm.Cond.methodLink "MovedLinesModel" (148 : Nat) ({ cls := "MovedLinesModel", name := "laysAll", desc := "()V" } : Jvm.MethodName)) ∈ gT := gT_mem 894 (by decide +kernel) rfl
theorem tw_896 : (Jvm.Cond.instanceMethod ({ cls := "MovedLinesModel", name := "laysAll", desc := "()V" } : Jvm.MethodName)) ∈ gT := gT_mem 896 (by decide +kernel) rfl
theorem tw_897 : (Jvm.Cond.code ({ cls := "MovedLinesModel", name := "laysAll", desc := "()V" } : Jvm.MethodName) prog_12_method_31_code (2 : Nat) (Option.none : Option Jvm.ClassFile.FieldType)) ∈ gT := gT_mem 897 (by decide +kernel) rfl
theorem tw_898 : (Jvm.Cond.methodLink "MovedLinesModel" (126 : Nat) ({ cls := "MovedLinesModel", name := "goesInto", desc := "(IIIIZ)V" } : Jvm.MethodName)) ∈ gT := gT_mem 898 (by decide +kernel) rfl
theorem tw_900 : (Jvm.Cond.instanceMethod ({ cls := "MovedLinesModel", name := "goesInto", desc := "(IIIIZ)V" } : Jvm.MethodName)) ∈ gT := gT_mem 900 (by decide +kernel) rfl
theorem tw_901 : (Jvm.Cond.code ({ cls := "MovedLinesModel", name := "goesInto", desc := "(IIIIZ)V" } : Jvm.MethodName) prog_12_method_25_code (19 : Nat) (Option.none : Option Jvm.ClassFile.FieldType)) ∈ gT := gT_mem 901 (by decide +kernel) rfl
theorem tw_902 : (Jvm.Cond.methodLink "MovedLinesModel" (110 : Nat) ({ cls := "MovedLinesModel", name := "areAlike", desc := "(II)Z" } : Jvm.MethodName)) ∈ gT := gT_mem 902 (by decide +kernel) rfl
theorem tw_904 : (Jvm.Cond.instanceMethod ({ cls := "MovedLinesModel", name := "areAlike", desc := "(II)Z" } : Jvm.MethodName)) ∈ gT := gT_mem 904 (by decide +kernel) rfl
theorem tw_905 : (Jvm.Cond.code ({ cls := "MovedLinesModel", name := "areAlike", desc := "(II)Z" } : Jvm.MethodName) prog_12_method_22_code (3 : Nat) (Option.some Jvm.ClassFile.FieldType.boolean)) ∈ gT := gT_mem 905 (by decide +kernel) rfl
theorem tw_906 : (Jvm.Cond.methodLink "MovedLinesModel" (106 : Nat) ({ cls := "MovedLinesModel", name := "areAlike", desc := "(IIII)Z" } : Jvm.MethodName)) ∈ gT := gT_mem 906 (by decide +kernel) rfl
theorem tw_908 : (Jvm.Cond.instanceMethod ({ cls := "MovedLinesModel", name := "areAlike", desc := "(IIII)Z" } : Jvm.MethodName)) ∈ gT := gT_mem 908 (by decide +kernel) rfl
theorem tw_909 : (Jvm.Cond.code ({ cls := "MovedLinesModel", name := "areAlike", desc := "(IIII)Z" } : Jvm.MethodName) prog_12_method_21_code (7 : Nat) (Option.some Jvm.ClassFile.FieldType.boolean)) ∈ gT := gT_mem 909 (by decide +kernel) rfl
theorem tw_910 : (Jvm.Cond.methodLink "MovedLinesModel" (99 : Nat) ({ cls := "MovedLinesModel", name := "wordsOf", desc := "(II)I" } : Jvm.MethodName)) ∈ gT := gT_mem 910 (by decide +kernel) rfl
theorem tw_912 : (Jvm.Cond.instanceMethod ({ cls := "MovedLinesModel", name := "wordsOf", desc := "(II)I" } : Jvm.MethodName)) ∈ gT := gT_mem 912 (by decide +kernel) rfl
theorem tw_913 : (Jvm.Cond.code ({ cls := "MovedLinesModel", name := "wordsOf", desc := "(II)I" } : Jvm.MethodName) prog_12_method_19_code (3 : Nat) (Option.some Jvm.ClassFile.FieldType.int)) ∈ gT := gT_mem 913 (by decide +kernel) rfl
theorem tw_914 : (Jvm.Cond.methodLink "MovedLinesModel" (95 : Nat) ({ cls := "MovedLinesModel", name := "lineAt", desc := "(II)I" } : Jvm.MethodName)) ∈ gT := gT_mem 914 (by decide +kernel) rfl
theorem tw_915 : (Jvm.Cond.static ({ cls := "MovedLinesModel", name := "lineAt", desc := "(II)I" } : Jvm.MethodName)) ∈ gT := gT_mem 915 (by decide +kernel) rfl
theorem tw_916 : (Jvm.Cond.code ({ cls := "MovedLinesModel", name := "lineAt", desc := "(II)I" } : Jvm.MethodName) prog_12_method_8_code (2 : Nat) (Option.some Jvm.ClassFile.FieldType.int)) ∈ gT := gT_mem 916 (by decide +kernel) rfl
theorem tw_917 : (Jvm.Cond.methodLink "MovedLinesModel" (102 : Nat) ({ cls := "MovedLinesModel", name := "word", desc := "(III)I" } : Jvm.MethodName)) ∈ gT := gT_mem 917 (by decide +kernel) rfl
theorem tw_919 : (Jvm.Cond.instanceMethod ({ cls := "MovedLinesModel", name := "word", desc := "(III)I" } : Jvm.MethodName)) ∈ gT := gT_mem 919 (by decide +kernel) rfl
theorem tw_920 : (Jvm.Cond.code ({ cls := "MovedLinesModel", name := "word", desc := "(III)I" } : Jvm.MethodName) prog_12_method_20_code (4 : Nat) (Option.some Jvm.ClassFile.FieldType.int)) ∈ gT := gT_mem 920 (by decide +kernel) rfl
theorem tw_921 : (Jvm.Cond.methodLink "MovedLinesModel" (112 : Nat) ({ cls := "MovedLinesModel", name := "couples", desc := "(III)V" } : Jvm.MethodName)) ∈ gT := gT_mem 921 (by decide +kernel) rfl
theorem tw_923 : (Jvm.Cond.instanceMethod ({ cls := "MovedLinesModel", name := "couples", desc := "(III)V" } : Jvm.MethodName)) ∈ gT := gT_mem 923 (by decide +kernel) rfl
theorem tw_924 : (Jvm.Cond.code ({ cls := "MovedLinesModel", name := "couples", desc := "(III)V" } : Jvm.MethodName) prog_12_method_23_code (4 : Nat) (Option.none : Option Jvm.ClassFile.FieldType)) ∈ gT := gT_mem 924 (by decide +kernel) rfl
theorem tw_925 : (Jvm.Cond.methodLink "MovedLinesModel" (116 : Nat) ({ cls := "MovedLinesModel", name := "anchorOf", desc := "(IIIII)I" } : Jvm.MethodName)) ∈ gT := gT_mem 925 (by decide +kernel) rfl
theorem tw_927 : (Jvm.Cond.instanceMethod ({ cls := "MovedLinesModel", name := "anchorOf", desc := "(IIIII)I" } : Jvm.MethodName)) ∈ gT := gT_mem 927 (by decide +kernel) rfl
theorem tw_928 : (Jvm.Cond.code ({ cls := "MovedLinesModel", name := "anchorOf", desc := "(IIIII)I" } : Jvm.MethodName) prog_12_method_24_code (8 : Nat) (Option.some Jvm.ClassFile.FieldType.int)) ∈ gT := gT_mem 928 (by decide +kernel) rfl
theorem tw_929 : (Jvm.Cond.methodLink "MovedLinesModel" (142 : Nat) ({ cls := "MovedLinesModel", name := "laysBlocks", desc := "()V" } : Jvm.MethodName)) ∈ gT := gT_mem 929 (by decide +kernel) rfl
theorem tw_931 : (Jvm.Cond.instanceMethod ({ cls := "MovedLinesModel", name := "laysBlocks", desc := "()V" } : Jvm.MethodName)) ∈ gT := gT_mem 931 (by decide +kernel) rfl
theorem tw_932 : (Jvm.Cond.code ({ cls := "MovedLinesModel", name := "laysBlocks", desc := "()V" } : Jvm.MethodName) prog_12_method_28_code (5 : Nat) (Option.none : Option Jvm.ClassFile.FieldType)) ∈ gT := gT_mem 932 (by decide +kernel) rfl
theorem tw_933 : (Jvm.Cond.methodLink "MovedLinesModel" (136 : Nat) ({ cls := "MovedLinesModel", name := "blockFrom", desc := "(II)I" } : Jvm.MethodName)) ∈ gT := gT_mem 933 (by decide +kernel) rfl
theorem tw_935 : (Jvm.Cond.instanceMethod ({ cls := "MovedLinesModel", name := "blockFrom", desc := "(II)I" } : Jvm.MethodName)) ∈ gT := gT_mem 935 (by decide +kernel) rfl
theorem tw_936 : (Jvm.Cond.code ({ cls := "MovedLinesModel", name := "blockFrom", desc := "(II)I" } : Jvm.MethodName) prog_12_method_27_code (4 : Nat) (Option.some Jvm.ClassFile.FieldType.int)) ∈ gT := gT_mem 936 (by decide +kernel) rfl
theorem tw_937 : (Jvm.Cond.methodLink "MovedLinesModel" (130 : Nat) ({ cls := "MovedLinesModel", name := "isLoose", desc := "(II)Z" } : Jvm.MethodName)) ∈ gT := gT_mem 937 (by decide +kernel) rfl
theorem tw_939 : (Jvm.Cond.instanceMethod ({ cls := "MovedLinesModel", name := "isLoose", desc := "(II)Z" } : Jvm.MethodName)) ∈ gT := gT_mem 939 (by decide +kernel) rfl
theorem tw_940 : (Jvm.Cond.code ({ cls := "MovedLinesModel", name := "isLoose", desc := "(II)Z" } : Jvm.MethodName) prog_12_method_26_code (3 : Nat) (Option.some Jvm.ClassFile.FieldType.boolean)) ∈ gT := gT_mem 940 (by decide +kernel) rfl
theorem tw_941 : (Jvm.Cond.methodLink "MovedLinesModel" (145 : Nat) ({ cls := "MovedLinesModel", name := "laysEdits", desc := "()V" } : Jvm.MethodName)) ∈ gT := gT_mem 941 (by decide +kernel) rfl
theorem tw_943 : (Jvm.Cond.instanceMethod ({ cls := "MovedLinesModel", name := "laysEdits", desc := "()V" } : Jvm.MethodName)) ∈ gT := gT_mem 943 (by decide +kernel) rfl
theorem tw_944 : (Jvm.Cond.code ({ cls := "MovedLinesModel", name := "laysEdits", desc := "()V" } : Jvm.MethodName) prog_12_method_30_code (5 : Nat) (Option.none : Option Jvm.ClassFile.FieldType)) ∈ gT := gT_mem 944 (by decide +kernel) rfl
end
section
theorem tw_945 : (Jvm.Cond.methodLink "MovedLinesModel" (139 : Nat) ({ cls := "MovedLinesModel", name := "sharedOf", desc := "(II)I" } : Jvm.MethodName)) ∈ gT := gT_mem 945 (by decide +kernel) rfl
theorem tw_947 : (Jvm.Cond.instanceMethod ({ cls := "MovedLinesModel", name := "sharedOf", desc := "(II)I" } : Jvm.MethodName)) ∈ gT := gT_mem 947 (by decide +kernel) rfl
theorem tw_948 : (Jvm.Cond.code ({ cls := "MovedLinesModel", name := "sharedOf", desc := "(II)I" } : Jvm.MethodName) prog_12_method_29_code (8 : Nat) (Option.some Jvm.ClassFile.FieldType.int)) ∈ gT := gT_mem 948 (by decide +kernel) rfl
theorem tw_949 : (Jvm.Cond.methodLink "MovedLinesModel" (151 : Nat) ({ cls := "MovedLinesModel", name := "having", desc := "(II)I" } : Jvm.MethodName)) ∈ gT := gT_mem 949 (by decide +kernel) rfl
theorem tw_951 : (Jvm.Cond.instanceMethod ({ cls := "MovedLinesModel", name := "having", desc := "(II)I" } : Jvm.MethodName)) ∈ gT := gT_mem 951 (by decide +kernel) rfl
theorem tw_952 : (Jvm.Cond.code ({ cls := "MovedLinesModel", name := "having", desc := "(II)I" } : Jvm.MethodName) prog_12_method_32_code (5 : Nat) (Option.some Jvm.ClassFile.FieldType.int)) ∈ gT := gT_mem 952 (by decide +kernel) rfl
theorem tw_953 : (Jvm.Cond.methodLink "MovedLinesLaw" (48 : Nat) ({ cls := "MovedLinesModel", name := "line", desc := "(III)I" } : Jvm.MethodName)) ∈ gT := gT_mem 953 (by decide +kernel) rfl
theorem tw_954 : (Jvm.Cond.instanceMethod ({ cls := "MovedLinesModel", name := "line", desc := "(III)I" } : Jvm.MethodName)) ∈ gT := gT_mem 954 (by decide +kernel) rfl
theorem tw_955 : (Jvm.Cond.selects "MovedLinesModel" ({ cls := "MovedLinesModel", name := "line", desc := "(III)I" } : Jvm.MethodName) ({ cls := "MovedLinesModel", name := "line", desc := "(III)I" } : Jvm.MethodName)) ∈ gT := gT_mem 955 (by decide +kernel) rfl
theorem tw_956 : (Jvm.Cond.code ({ cls := "MovedLinesModel", name := "line", desc := "(III)I" } : Jvm.MethodName) prog_12_method_34_code (5 : Nat) (Option.some Jvm.ClassFile.FieldType.int)) ∈ gT := gT_mem 956 (by decide +kernel) rfl
theorem tw_957 : (Jvm.Cond.methodLink "MovedLinesModel" (154 : Nat) ({ cls := "MovedLinesModel", name := "isLine", desc := "(II)Z" } : Jvm.MethodName)) ∈ gT := gT_mem 957 (by decide +kernel) rfl
theorem tw_959 : (Jvm.Cond.instanceMethod ({ cls := "MovedLinesModel", name := "isLine", desc := "(II)Z" } : Jvm.MethodName)) ∈ gT := gT_mem 959 (by decide +kernel) rfl
theorem tw_960 : (Jvm.Cond.code ({ cls := "MovedLinesModel", name := "isLine", desc := "(II)Z" } : Jvm.MethodName) prog_12_method_11_code (3 : Nat) (Option.some Jvm.ClassFile.FieldType.boolean)) ∈ gT := gT_mem 960 (by decide +kernel) rfl
theorem tw_961 : (Jvm.Cond.methodLink "MovedLinesModel" (157 : Nat) ({ cls := "MovedLinesModel", name := "refuse", desc := "()I" } : Jvm.MethodName)) ∈ gT := gT_mem 961 (by decide +kernel) rfl
theorem tw_963 : (Jvm.Cond.instanceMethod ({ cls := "MovedLinesModel", name := "refuse", desc := "()I" } : Jvm.MethodName)) ∈ gT := gT_mem 963 (by decide +kernel) rfl
theorem tw_964 : (Jvm.Cond.code ({ cls := "MovedLinesModel", name := "refuse", desc := "()I" } : Jvm.MethodName) prog_12_method_2_code (1 : Nat) (Option.some Jvm.ClassFile.FieldType.int)) ∈ gT := gT_mem 964 (by decide +kernel) rfl
theorem tw_965 : (Jvm.Cond.methodLink "MovedLinesLaw" (56 : Nat) ({ cls := "MovedLinesModel", name := "letter", desc := "(IIII)I" } : Jvm.MethodName)) ∈ gT := gT_mem 965 (by decide +kernel) rfl
theorem tw_966 : (Jvm.Cond.instanceMethod ({ cls := "MovedLinesModel", name := "letter", desc := "(IIII)I" } : Jvm.MethodName)) ∈ gT := gT_mem 966 (by decide +kernel) rfl
theorem tw_967 : (Jvm.Cond.selects "MovedLinesModel" ({ cls := "MovedLinesModel", name := "letter", desc := "(IIII)I" } : Jvm.MethodName) ({ cls := "MovedLinesModel", name := "letter", desc := "(IIII)I" } : Jvm.MethodName)) ∈ gT := gT_mem 967 (by decide +kernel) rfl
theorem tw_968 : (Jvm.Cond.code ({ cls := "MovedLinesModel", name := "letter", desc := "(IIII)I" } : Jvm.MethodName) prog_12_method_36_code (8 : Nat) (Option.some Jvm.ClassFile.FieldType.int)) ∈ gT := gT_mem 968 (by decide +kernel) rfl
theorem tw_969 : (Jvm.Cond.methodLink "MovedLinesModel" (161 : Nat) ({ cls := "MovedLinesModel", name := "lettersOf", desc := "(I)I" } : Jvm.MethodName)) ∈ gT := gT_mem 969 (by decide +kernel) rfl
theorem tw_970 : (Jvm.Cond.static ({ cls := "MovedLinesModel", name := "lettersOf", desc := "(I)I" } : Jvm.MethodName)) ∈ gT := gT_mem 970 (by decide +kernel) rfl
theorem tw_971 : (Jvm.Cond.code ({ cls := "MovedLinesModel", name := "lettersOf", desc := "(I)I" } : Jvm.MethodName) prog_12_method_35_code (3 : Nat) (Option.some Jvm.ClassFile.FieldType.int)) ∈ gT := gT_mem 971 (by decide +kernel) rfl
theorem tw_972 : (Jvm.Cond.methodLink "MovedLinesLaw" (61 : Nat) ({ cls := "MovedLinesModel", name := "block", desc := "(II)I" } : Jvm.MethodName)) ∈ gT := gT_mem 972 (by decide +kernel) rfl
theorem tw_973 : (Jvm.Cond.instanceMethod ({ cls := "MovedLinesModel", name := "block", desc := "(II)I" } : Jvm.MethodName)) ∈ gT := gT_mem 973 (by decide +kernel) rfl
theorem tw_974 : (Jvm.Cond.selects "MovedLinesModel" ({ cls := "MovedLinesModel", name := "block", desc := "(II)I" } : Jvm.MethodName) ({ cls := "MovedLinesModel", name := "block", desc := "(II)I" } : Jvm.MethodName)) ∈ gT := gT_mem 974 (by decide +kernel) rfl
theorem tw_975 : (Jvm.Cond.code ({ cls := "MovedLinesModel", name := "block", desc := "(II)I" } : Jvm.MethodName) prog_12_method_37_code (3 : Nat) (Option.some Jvm.ClassFile.FieldType.int)) ∈ gT := gT_mem 975 (by decide +kernel) rfl
theorem tw_976 : (Jvm.Cond.methodLink "MovedLinesLaw" (65 : Nat) ({ cls := "MovedLinesModel", name := "shared", desc := "(II)I" } : Jvm.MethodName)) ∈ gT := gT_mem 976 (by decide +kernel) rfl
theorem tw_977 : (Jvm.Cond.instanceMethod ({ cls := "MovedLinesModel", name := "shared", desc := "(II)I" } : Jvm.MethodName)) ∈ gT := gT_mem 977 (by decide +kernel) rfl
theorem tw_978 : (Jvm.Cond.selects "MovedLinesModel" ({ cls := "MovedLinesModel", name := "shared", desc := "(II)I" } : Jvm.MethodName) ({ cls := "MovedLinesModel", name := "shared", desc := "(II)I" } : Jvm.MethodName)) ∈ gT := gT_mem 978 (by decide +kernel) rfl
theorem tw_979 : (Jvm.Cond.code ({ cls := "MovedLinesModel", name := "shared", desc := "(II)I" } : Jvm.MethodName) prog_12_method_39_code (3 : Nat) (Option.some Jvm.ClassFile.FieldType.int)) ∈ gT := gT_mem 979 (by decide +kernel) rfl
theorem tw_980 : (Jvm.Cond.methodLink "MovedLinesModel" (164 : Nat) ({ cls := "MovedLinesModel", name := "areLines", desc := "(II)Z" } : Jvm.MethodName)) ∈ gT := gT_mem 980 (by decide +kernel) rfl
theorem tw_982 : (Jvm.Cond.instanceMethod ({ cls := "MovedLinesModel", name := "areLines", desc := "(II)Z" } : Jvm.MethodName)) ∈ gT := gT_mem 982 (by decide +kernel) rfl
theorem tw_983 : (Jvm.Cond.code ({ cls := "MovedLinesModel", name := "areLines", desc := "(II)Z" } : Jvm.MethodName) prog_12_method_38_code (3 : Nat) (Option.some Jvm.ClassFile.FieldType.boolean)) ∈ gT := gT_mem 983 (by decide +kernel) rfl
theorem tw_984 : (Jvm.Cond.methodLink "MovedLinesLaw" (69 : Nat) ({ cls := "MovedLinesModel", name := "stays", desc := "(III)I" } : Jvm.MethodName)) ∈ gT := gT_mem 984 (by decide +kernel) rfl
theorem tw_985 : (Jvm.Cond.instanceMethod ({ cls := "MovedLinesModel", name := "stays", desc := "(III)I" } : Jvm.MethodName)) ∈ gT := gT_mem 985 (by decide +kernel) rfl
theorem tw_986 : (Jvm.Cond.selects "MovedLinesModel" ({ cls := "MovedLinesModel", name := "stays", desc := "(III)I" } : Jvm.MethodName) ({ cls := "MovedLinesModel", name := "stays", desc := "(III)I" } : Jvm.MethodName)) ∈ gT := gT_mem 986 (by decide +kernel) rfl
theorem tw_987 : (Jvm.Cond.code ({ cls := "MovedLinesModel", name := "stays", desc := "(III)I" } : Jvm.MethodName) prog_12_method_40_code (9 : Nat) (Option.some Jvm.ClassFile.FieldType.int)) ∈ gT := gT_mem 987 (by decide +kernel) rfl
theorem tw_988 : (Jvm.Cond.methodLink "MovedLinesLaw" (73 : Nat) ({ cls := "MovedLinesModel", name := "most", desc := "()I" } : Jvm.MethodName)) ∈ gT := gT_mem 988 (by decide +kernel) rfl
theorem tw_989 : (Jvm.Cond.instanceMethod ({ cls := "MovedLinesModel", name := "most", desc := "()I" } : Jvm.MethodName)) ∈ gT := gT_mem 989 (by decide +kernel) rfl
theorem tw_990 : (Jvm.Cond.selects "MovedLinesModel" ({ cls := "MovedLinesModel", name := "most", desc := "()I" } : Jvm.MethodName) ({ cls := "MovedLinesModel", name := "most", desc := "()I" } : Jvm.MethodName)) ∈ gT := gT_mem 990 (by decide +kernel) rfl
theorem tw_991 : (Jvm.Cond.code ({ cls := "MovedLinesModel", name := "most", desc := "()I" } : Jvm.MethodName) prog_12_method_41_code (5 : Nat) (Option.some Jvm.ClassFile.FieldType.int)) ∈ gT := gT_mem 991 (by decide +kernel) rfl
theorem tw_992 : (Jvm.Cond.methodLink "MovedLinesLaw" (77 : Nat) ({ cls := "MovedLinesModel", name := "changes", desc := "()I" } : Jvm.MethodName)) ∈ gT := gT_mem 992 (by decide +kernel) rfl
theorem tw_993 : (Jvm.Cond.instanceMethod ({ cls := "MovedLinesModel", name := "changes", desc := "()I" } : Jvm.MethodName)) ∈ gT := gT_mem 993 (by decide +kernel) rfl
theorem tw_994 : (Jvm.Cond.selects "MovedLinesModel" ({ cls := "MovedLinesModel", name := "changes", desc := "()I" } : Jvm.MethodName) ({ cls := "MovedLinesModel", name := "changes", desc := "()I" } : Jvm.MethodName)) ∈ gT := gT_mem 994 (by decide +kernel) rfl
theorem tw_995 : (Jvm.Cond.code ({ cls := "MovedLinesModel", name := "changes", desc := "()I" } : Jvm.MethodName) prog_12_method_42_code (5 : Nat) (Option.some Jvm.ClassFile.FieldType.int)) ∈ gT := gT_mem 995 (by decide +kernel) rfl
theorem tw_996 : (Jvm.Cond.methodLink "MovedLinesLaw" (81 : Nat) ({ cls := "MovedLinesModel", name := "anchors", desc := "(I)I" } : Jvm.MethodName)) ∈ gT := gT_mem 996 (by decide +kernel) rfl
theorem tw_997 : (Jvm.Cond.instanceMethod ({ cls := "MovedLinesModel", name := "anchors", desc := "(I)I" } : Jvm.MethodName)) ∈ gT := gT_mem 997 (by decide +kernel) rfl
theorem tw_998 : (Jvm.Cond.selects "MovedLinesModel" ({ cls := "MovedLinesModel", name := "anchors", desc := "(I)I" } : Jvm.MethodName) ({ cls := "MovedLinesModel", name := "anchors", desc := "(I)I" } : Jvm.MethodName)) ∈ gT := gT_mem 998 (by decide +kernel) rfl
theorem tw_999 : (Jvm.Cond.code ({ cls := "MovedLinesModel", name := "anchors", desc := "(I)I" } : Jvm.MethodName) prog_12_method_43_code (2 : Nat) (Option.some Jvm.ClassFile.FieldType.int)) ∈ gT := gT_mem 999 (by decide +kernel) rfl
theorem tw_1000 : (Jvm.Cond.methodLink "MovedLinesLaw" (85 : Nat) ({ cls := "MovedLinesModel", name := "would", desc := "(III)I" } : Jvm.MethodName)) ∈ gT := gT_mem 1000 (by decide +kernel) rfl
theorem tw_1001 : (Jvm.Cond.instanceMethod ({ cls := "MovedLinesModel", name := "would", desc := "(III)I" } : Jvm.MethodName)) ∈ gT := gT_mem 1001 (by decide +kernel) rfl
theorem tw_1002 : (Jvm.Cond.selects "MovedLinesModel" ({ cls := "MovedLinesModel", name := "would", desc := "(III)I" } : Jvm.MethodName) ({ cls := "MovedLinesModel", name := "would", desc := "(III)I" } : Jvm.MethodName)) ∈ gT := gT_mem 1002 (by decide +kernel) rfl
theorem tw_1003 : (Jvm.Cond.code ({ cls := "MovedLinesModel", name := "would", desc := "(III)I" } : Jvm.MethodName) prog_12_method_45_code (7 : Nat) (Option.some Jvm.ClassFile.FieldType.int)) ∈ gT := gT_mem 1003 (by decide +kernel) rfl
theorem tw_1004 : (Jvm.Cond.methodLink "MovedLinesModel" (167 : Nat) ({ cls := "MovedLinesModel", name := "copiesLine", desc := "(II)V" } : Jvm.MethodName)) ∈ gT := gT_mem 1004 (by decide +kernel) rfl
theorem tw_1006 : (Jvm.Cond.instanceMethod ({ cls := "MovedLinesModel", name := "copiesLine", desc := "(II)V" } : Jvm.MethodName)) ∈ gT := gT_mem 1006 (by decide +kernel) rfl
theorem tw_1007 : (Jvm.Cond.code ({ cls := "MovedLinesModel", name := "copiesLine", desc := "(II)V" } : Jvm.MethodName) prog_12_method_44_code (4 : Nat) (Option.none : Option Jvm.ClassFile.FieldType)) ∈ gT := gT_mem 1007 (by decide +kernel) rfl
theorem tw_1008 : (Jvm.Cond.methodLink "MovedLinesLaw" (89 : Nat) ({ cls := "MovedLinesModel", name := "put", desc := "(II)I" } : Jvm.MethodName)) ∈ gT := gT_mem 1008 (by decide +kernel) rfl
theorem tw_1009 : (Jvm.Cond.instanceMethod ({ cls := "MovedLinesModel", name := "put", desc := "(II)I" } : Jvm.MethodName)) ∈ gT := gT_mem 1009 (by decide +kernel) rfl
theorem tw_1010 : (Jvm.Cond.selects "MovedLinesModel" ({ cls := "MovedLinesModel", name := "put", desc := "(II)I" } : Jvm.MethodName) ({ cls := "MovedLinesModel", name := "put", desc := "(II)I" } : Jvm.MethodName)) ∈ gT := gT_mem 1010 (by decide +kernel) rfl
theorem tw_1011 : (Jvm.Cond.code ({ cls := "MovedLinesModel", name := "put", desc := "(II)I" } : Jvm.MethodName) prog_12_method_50_code (3 : Nat) (Option.some Jvm.ClassFile.FieldType.int)) ∈ gT := gT_mem 1011 (by decide +kernel) rfl
theorem tw_1012 : (Jvm.Cond.methodLink "MovedLinesModel" (171 : Nat) ({ cls := "MovedLinesModel", name := "snap", desc := "()V" } : Jvm.MethodName)) ∈ gT := gT_mem 1012 (by decide +kernel) rfl
theorem tw_1014 : (Jvm.Cond.instanceMethod ({ cls := "MovedLinesModel", name := "snap", desc := "()V" } : Jvm.MethodName)) ∈ gT := gT_mem 1014 (by decide +kernel) rfl
theorem tw_1015 : (Jvm.Cond.code ({ cls := "MovedLinesModel", name := "snap", desc := "()V" } : Jvm.MethodName) prog_12_method_46_code (2 : Nat) (Option.none : Option Jvm.ClassFile.FieldType)) ∈ gT := gT_mem 1015 (by decide +kernel) rfl
theorem tw_1016 : (Jvm.Cond.methodLink "MovedLinesModel" (174 : Nat) ({ cls := "MovedLinesModel", name := "opens", desc := "(II)V" } : Jvm.MethodName)) ∈ gT := gT_mem 1016 (by decide +kernel) rfl
theorem tw_1018 : (Jvm.Cond.instanceMethod ({ cls := "MovedLinesModel", name := "opens", desc := "(II)V" } : Jvm.MethodName)) ∈ gT := gT_mem 1018 (by decide +kernel) rfl
theorem tw_1019 : (Jvm.Cond.code ({ cls := "MovedLinesModel", name := "opens", desc := "(II)V" } : Jvm.MethodName) prog_12_method_47_code (4 : Nat) (Option.none : Option Jvm.ClassFile.FieldType)) ∈ gT := gT_mem 1019 (by decide +kernel) rfl
theorem tw_1020 : (Jvm.Cond.methodLink "MovedLinesModel" (177 : Nat) ({ cls := "MovedLinesModel", name := "laysRead", desc := "(II)V" } : Jvm.MethodName)) ∈ gT := gT_mem 1020 (by decide +kernel) rfl
theorem tw_1022 : (Jvm.Cond.instanceMethod ({ cls := "MovedLinesModel", name := "laysRead", desc := "(II)V" } : Jvm.MethodName)) ∈ gT := gT_mem 1022 (by decide +kernel) rfl
theorem tw_1023 : (Jvm.Cond.code ({ cls := "MovedLinesModel", name := "laysRead", desc := "(II)V" } : Jvm.MethodName) prog_12_method_49_code (4 : Nat) (Option.none : Option Jvm.ClassFile.FieldType)) ∈ gT := gT_mem 1023 (by decide +kernel) rfl
theorem tw_1024 : (Jvm.Cond.methodLink "MovedLinesLaw" (93 : Nat) ({ cls := "MovedLinesModel", name := "change", desc := "(II)I" } : Jvm.MethodName)) ∈ gT := gT_mem 1024 (by decide +kernel) rfl
theorem tw_1025 : (Jvm.Cond.instanceMethod ({ cls := "MovedLinesModel", name := "change", desc := "(II)I" } : Jvm.MethodName)) ∈ gT := gT_mem 1025 (by decide +kernel) rfl
theorem tw_1026 : (Jvm.Cond.selects "MovedLinesModel" ({ cls := "MovedLinesModel", name := "change", desc := "(II)I" } : Jvm.MethodName) ({ cls := "MovedLinesModel", name := "change", desc := "(II)I" } : Jvm.MethodName)) ∈ gT := gT_mem 1026 (by decide +kernel) rfl
theorem tw_1027 : (Jvm.Cond.code ({ cls := "MovedLinesModel", name := "change", desc := "(II)I" } : Jvm.MethodName) prog_12_method_51_code (3 : Nat) (Option.some Jvm.ClassFile.FieldType.int)) ∈ gT := gT_mem 1027 (by decide +kernel) rfl
theorem tw_1028 : (Jvm.Cond.methodLink "MovedLinesLaw" (97 : Nat) ({ cls := "MovedLinesModel", name := "cut", desc := "(II)I" } : Jvm.MethodName)) ∈ gT := gT_mem 1028 (by decide +kernel) rfl
theorem tw_1029 : (Jvm.Cond.instanceMethod ({ cls := "MovedLinesModel", name := "cut", desc := "(II)I" } : Jvm.MethodName)) ∈ gT := gT_mem 1029 (by decide +kernel) rfl
theorem tw_1030 : (Jvm.Cond.selects "MovedLinesModel" ({ cls := "MovedLinesModel", name := "cut", desc := "(II)I" } : Jvm.MethodName) ({ cls := "MovedLinesModel", name := "cut", desc := "(II)I" } : Jvm.MethodName)) ∈ gT := gT_mem 1030 (by decide +kernel) rfl
theorem tw_1031 : (Jvm.Cond.code ({ cls := "MovedLinesModel", name := "cut", desc := "(II)I" } : Jvm.MethodName) prog_12_method_52_code (3 : Nat) (Option.some Jvm.ClassFile.FieldType.int)) ∈ gT := gT_mem 1031 (by decide +kernel) rfl
theorem tw_1032 : (Jvm.Cond.methodLink "MovedLinesModel" (180 : Nat) ({ cls := "MovedLinesModel", name := "closes", desc := "(II)V" } : Jvm.MethodName)) ∈ gT := gT_mem 1032 (by decide +kernel) rfl
theorem tw_1034 : (Jvm.Cond.instanceMethod ({ cls := "MovedLinesModel", name := "closes", desc := "(II)V" } : Jvm.MethodName)) ∈ gT := gT_mem 1034 (by decide +kernel) rfl
theorem tw_1035 : (Jvm.Cond.code ({ cls := "MovedLinesModel", name := "closes", desc := "(II)V" } : Jvm.MethodName) prog_12_method_48_code (4 : Nat) (Option.none : Option Jvm.ClassFile.FieldType)) ∈ gT := gT_mem 1035 (by decide +kernel) rfl
theorem tw_1036 : (Jvm.Cond.methodLink "MovedLinesLaw" (102 : Nat) ({ cls := "MovedLinesModel", name := "move", desc := "(IIII)Z" } : Jvm.MethodName)) ∈ gT := gT_mem 1036 (by decide +kernel) rfl
theorem tw_1037 : (Jvm.Cond.instanceMethod ({ cls := "MovedLinesModel", name := "move", desc := "(IIII)Z" } : Jvm.MethodName)) ∈ gT := gT_mem 1037 (by decide +kernel) rfl
theorem tw_1038 : (Jvm.Cond.selects "MovedLinesModel" ({ cls := "MovedLinesModel", name := "move", desc := "(IIII)Z" } : Jvm.MethodName) ({ cls := "MovedLinesModel", name := "move", desc := "(IIII)Z" } : Jvm.MethodName)) ∈ gT := gT_mem 1038 (by decide +kernel) rfl
theorem tw_1039 : (Jvm.Cond.code ({ cls := "MovedLinesModel", name := "move", desc := "(IIII)Z" } : Jvm.MethodName) prog_12_method_53_code (8 : Nat) (Option.some Jvm.ClassFile.FieldType.boolean)) ∈ gT := gT_mem 1039 (by decide +kernel) rfl
theorem tw_1040 : (Jvm.Cond.methodLink "MovedLinesLaw" (106 : Nat) ({ cls := "MovedLinesModel", name := "take", desc := "()I" } : Jvm.MethodName)) ∈ gT := gT_mem 1040 (by decide +kernel) rfl
theorem tw_1041 : (Jvm.Cond.instanceMethod ({ cls := "MovedLinesModel", name := "take", desc := "()I" } : Jvm.MethodName)) ∈ gT := gT_mem 1041 (by decide +kernel) rfl
theorem tw_1042 : (Jvm.Cond.selects "MovedLinesModel" ({ cls := "MovedLinesModel", name := "take", desc := "()I" } : Jvm.MethodName) ({ cls := "MovedLinesModel", name := "take", desc := "()I" } : Jvm.MethodName)) ∈ gT := gT_mem 1042 (by decide +kernel) rfl
theorem tw_1043 : (Jvm.Cond.code ({ cls := "MovedLinesModel", name := "take", desc := "()I" } : Jvm.MethodName) prog_12_method_54_code (2 : Nat) (Option.some Jvm.ClassFile.FieldType.int)) ∈ gT := gT_mem 1043 (by decide +kernel) rfl
theorem tw_1044 : (Jvm.Cond.methodLink "MovedLinesLaw" (110 : Nat) ({ cls := "MovedLinesModel", name := "undo", desc := "()I" } : Jvm.MethodName)) ∈ gT := gT_mem 1044 (by decide +kernel) rfl
theorem tw_1045 : (Jvm.Cond.instanceMethod ({ cls := "MovedLinesModel", name := "undo", desc := "()I" } : Jvm.MethodName)) ∈ gT := gT_mem 1045 (by decide +kernel) rfl
theorem tw_1046 : (Jvm.Cond.selects "MovedLinesModel" ({ cls := "MovedLinesModel", name := "undo", desc := "()I" } : Jvm.MethodName) ({ cls := "MovedLinesModel", name := "undo", desc := "()I" } : Jvm.MethodName)) ∈ gT := gT_mem 1046 (by decide +kernel) rfl
theorem tw_1047 : (Jvm.Cond.code ({ cls := "MovedLinesModel", name := "undo", desc := "()I" } : Jvm.MethodName) prog_12_method_55_code (2 : Nat) (Option.some Jvm.ClassFile.FieldType.int)) ∈ gT := gT_mem 1047 (by decide +kernel) rfl
theorem tw_1048 : (Jvm.Cond.arrayClass Jvm.ClassFile.FieldType.long) ∈ gT := gT_mem 1048 (by decide +kernel) rfl
end
section
/-! PROGRAMS OVER A MEMORY: a memory gives each cell (by its number) a row of ints; a program is a partial function over memories. Every method of the class and of the reference is met by such a program (the parts behind this one); what the programs compute is then pure. -/
abbrev yy_T : Type := Nat → Nat → Int32
def yy_up (τ : yy_T) (a k : Nat) (v : Int32) : yy_T := fun j => if j = a then upd (τ a) k v else τ j
def yy_ro (τ : yy_T) (a : Nat) (f : Nat → Int32) : yy_T := fun j => if j = a then f else τ j
abbrev yy_M (α : Type) : Type := yy_T → Option (α × yy_T)
def yy_in (i : Int32) (n : Nat) : Bool := decide (¬ (i < 0 ∨ n ≤ i.toNatClampNeg))
theorem yy_in_vp {i : Int32} {n : Nat} (h : yy_in i n = true) : vp_in i n := of_decide_eq_true (p := ¬ (i < 0 ∨ n ≤ i.toNatClampNeg)) h
theorem yy_in_lt {i : Int32} {n : Nat} (h : yy_in i n = true) : i.toNatClampNeg < n := Nat.not_le.mp fun q => (yy_in_vp h) (Or.inr q)
def yy_rt {α : Type} (r : α) : yy_M α := fun τ => some (r, τ)
def yy_rF {α : Type} (a k : Nat) (K : Int32 → yy_M α) : yy_M α := fun τ => K (τ a k) τ
def yy_wF {α : Type} (a k : Nat) (v : Int32) (K : yy_M α) : yy_M α := fun τ => K (yy_up τ a k v)
def yy_rA {α : Type} (a n : Nat) (i : Int32) (K : Int32 → yy_M α) : yy_M α := fun τ => if yy_in i n = true then K (τ a i.toNatClampNeg) τ else none
def yy_wA {α : Type} (a n : Nat) (i v : Int32) (K : yy_M α) : yy_M α := fun τ => if yy_in i n = true then K (yy_up τ a i.toNatClampNeg v) else none
def yy_rL {α : Type} (f : Nat → Int32) (n : Nat) (i : Int32) (K : Int32 → yy_M α) : yy_M α := fun τ => if yy_in i n = true then K (f i.toNatClampNeg) τ else none
def yy_ck {α : Type} (c : Prop) [Decidable c] (K : yy_M α) : yy_M α := fun τ => if c then K τ else none
def yy_br {α : Type} (c : Prop) [Decidable c] (K1 K2 : yy_M α) : yy_M α := fun τ => if c then K1 τ else K2 τ
def yy_cl {α β : Type} (f : yy_M β) (K : β → yy_M α) : yy_M α := fun τ => match f τ with
  | none => none
  | some x => K x.1 x.2
def yy_cpok (sp dp n : Int32) (n0 n1 : Nat) : Bool := decide (¬ sp < 0) && decide (¬ dp < 0) && decide (¬ n < 0) && decide (sp.toNatClampNeg + n.toNatClampNeg ≤ n0) && decide (dp.toNatClampNeg + n.toNatClampNeg ≤ n1)
def yy_cp {α : Type} (a n0 : Nat) (sp : Int32) (b n1 : Nat) (dp n : Int32) (K : yy_M α) : yy_M α := fun τ => if yy_cpok sp dp n n0 n1 = true then K (yy_ro τ b (va_cpy (τ a) (τ b) sp.toNatClampNeg dp.toNatClampNeg n.toNatClampNeg)) else none
def yy_it {S R : Type} (b : S → yy_M (S ⊕ R)) : Nat → S → yy_T → Option (R × yy_T)
  | 0, _, _ => none
  | n + 1, s, τ => match b s τ with
    | none => none
    | some (.inl s', τ') => yy_it b n s' τ'
    | some (.inr r, τ') => some (r, τ')
noncomputable def yy_lp {S R : Type} (b : S → yy_M (S ⊕ R)) (s : S) : yy_M R := fun τ => @dite _ (∃ x, ∃ n, yy_it b n s τ = some x) (Classical.propDecidable _) (fun h => some (Classical.choose h)) (fun _ => none)
theorem yy_it_mono {S R : Type} {b : S → yy_M (S ⊕ R)} : ∀ (n : Nat) (s : S) (τ : yy_T) (x : R × yy_T), yy_it b n s τ = some x → ∀ k, yy_it b (n + k) s τ = some x
  | 0, s, τ, x, h, k => by cases h
  | n + 1, s, τ, x, h, k => by
    rw [show n + 1 + k = (n + k) + 1 by omega]
    rw [yy_it] at h ⊢
    cases hb : b s τ with
    | none => rw [hb] at h; cases h
    | some y =>
      rw [hb] at h
      obtain ⟨y1, τ'⟩ := y
      cases y1 with
      | inl s' => exact yy_it_mono n s' τ' x h k
      | inr r => exact h
theorem yy_lp_of {S R : Type} {b : S → yy_M (S ⊕ R)} {s : S} {τ : yy_T} {x : R × yy_T} {n : Nat} (h : yy_it b n s τ = some x) : yy_lp b s τ = some x := by
  have hx : ∃ x, ∃ n, yy_it b n s τ = some x := ⟨x, n, h⟩
  unfold yy_lp
  rw [dif_pos hx]
  obtain ⟨k, hk⟩ := Classical.choose_spec hx
  have h1 := yy_it_mono _ _ _ _ h k
  have h2 := yy_it_mono _ _ _ _ hk n
  rw [Nat.add_comm k n] at h2
  exact congrArg some (Option.some.inj (h2.symm.trans h1))
theorem yy_lp_to {S R : Type} {b : S → yy_M (S ⊕ R)} {s : S} {τ : yy_T} {x : R × yy_T} (h : yy_lp b s τ = some x) : ∃ n, yy_it b n s τ = some x := by
  unfold yy_lp at h
  by_cases hx : ∃ x, ∃ n, yy_it b n s τ = some x
  · rw [dif_pos hx] at h
    have h2 := Classical.choose_spec hx
    rw [Option.some.inj h] at h2
    exact h2
  · rw [dif_neg hx] at h
    cases h
theorem yy_lp_eq {S R : Type} (b : S → yy_M (S ⊕ R)) (s : S) (τ : yy_T) : yy_lp b s τ = match b s τ with
    | none => none
    | some (.inl s', τ') => yy_lp b s' τ'
    | some (.inr r, τ') => some (r, τ') := by
  cases hb : b s τ with
  | none =>
    cases hl : yy_lp b s τ with
    | none => rfl
    | some x =>
      obtain ⟨n, hn⟩ := yy_lp_to hl
      cases n with
      | zero => cases hn
      | succ n => rw [yy_it, hb] at hn; cases hn
  | some y =>
    obtain ⟨y1, τ'⟩ := y
    cases y1 with
    | inl s' =>
      show yy_lp b s τ = yy_lp b s' τ'
      cases hl : yy_lp b s' τ' with
      | none =>
        cases hl2 : yy_lp b s τ with
        | none => rfl
        | some x =>
          obtain ⟨n, hn⟩ := yy_lp_to hl2
          cases n with
          | zero => cases hn
          | succ n =>
            rw [yy_it, hb] at hn
            rw [yy_lp_of hn] at hl
            cases hl
      | some x =>
        obtain ⟨n, hn⟩ := yy_lp_to hl
        exact yy_lp_of (n := n + 1) (by rw [yy_it, hb]; exact hn)
    | inr r => exact yy_lp_of (n := 1) (by rw [yy_it, hb])
/-- a loop, by its rounds: what holds of a state where a round goes on, or ends and what follows goes on -/
theorem yy_loop {S R α : Type} {b : S → yy_M (S ⊕ R)} {K : R → yy_M α} {res : α × yy_T} {s0 : S} {τ0 : yy_T} (h : yy_cl (yy_lp b s0) K τ0 = some res) (P : S → yy_T → Prop)
    (step : ∀ (s : S) (τ : yy_T) (y : (S ⊕ R) × yy_T), b s τ = some y → (∀ s' τ', y = (.inl s', τ') → P s' τ') → (∀ r τ', y = (.inr r, τ') → K r τ' = some res) → P s τ) : P s0 τ0 := by
  have key : ∀ (n : Nat) (s : S) (τ : yy_T) (x : R × yy_T), yy_it b n s τ = some x → K x.1 x.2 = some res → P s τ := by
    intro n
    induction n with
    | zero => intro s τ x hx _; cases hx
    | succ n ih =>
      intro s τ x hx hK
      rw [yy_it] at hx
      cases hb : b s τ with
      | none => rw [hb] at hx; cases hx
      | some y =>
        rw [hb] at hx
        obtain ⟨y1, τ'⟩ := y
        refine step s τ (y1, τ') hb (fun s' τ2 he => ?_) (fun r τ2 he => ?_)
        · cases he
          exact ih s' τ' x hx hK
        · cases he
          cases hx
          exact hK
  unfold yy_cl at h
  cases hl : yy_lp b s0 τ0 with
  | none => rw [hl] at h; cases h
  | some x =>
    rw [hl] at h
    obtain ⟨n, hn⟩ := yy_lp_to hl
    exact key n s0 τ0 x hn h
theorem yy_cl_of {α β : Type} {f : yy_M β} {K : β → yy_M α} {τ : yy_T} {res : α × yy_T} (h : yy_cl f K τ = some res) : ∃ (r : β) (τ1 : yy_T), f τ = some (r, τ1) ∧ K r τ1 = some res := by
  unfold yy_cl at h
  cases hf : f τ with
  | none => rw [hf] at h; cases h
  | some x => rw [hf] at h; exact ⟨x.1, x.2, rfl, h⟩
theorem yy_up_at {τ : yy_T} {a k : Nat} {v : Int32} : yy_up τ a k v a = upd (τ a) k v := if_pos rfl
theorem yy_up_ne {τ : yy_T} {a k j : Nat} {v : Int32} (h : j ≠ a) : yy_up τ a k v j = τ j := if_neg h
theorem yy_ro_at {τ : yy_T} {a : Nat} {f : Nat → Int32} : yy_ro τ a f a = f := if_pos rfl
theorem yy_ro_ne {τ : yy_T} {a j : Nat} {f : Nat → Int32} (h : j ≠ a) : yy_ro τ a f j = τ j := if_neg h
theorem yy_up_ro {τ : yy_T} {a k : Nat} {v : Int32} : yy_up τ a k v = yy_ro τ a (upd (τ a) k v) := rfl
end
section
/-! THE LAYOUT: which cell holds what; the cells of the class at 0 .. 111, of the reference at 112 .. 123; cell k lies at the address κ 4 + k. κ 0 .. κ 3: the classes of int[], byte[], Edition[], int[][]. -/
def yy_Eds : List Nat := [4, 7, 10, 13, 19, 22, 25, 28, 31, 34, 37, 40, 43, 46]
def yy_Crs : List Nat := [61, 80]
def yy_Tds : List Nat := [84, 98]
def yy_Grs : List Nat := [85, 88, 91, 99, 102, 105]
def yy_Ints : List Nat := [5, 6, 8, 9, 11, 12, 14, 15, 18, 20, 21, 23, 24, 26, 27, 29, 30, 32, 33, 35, 36, 38, 39, 41, 42, 44, 45, 47, 48, 51, 52, 54, 55, 56, 57, 58, 59, 60, 62, 63, 64, 66, 67, 68, 69, 70, 71, 72, 73, 74, 75, 76, 77, 78, 79, 81, 82, 83, 86, 87, 89, 90, 92, 93, 94, 95, 96, 97, 100, 101, 103, 104, 106, 107, 108, 109, 110, 111, 113, 114, 115, 116, 117, 118, 119, 120, 121, 122, 123]
def yy_lens : List Nat := [0, 0, 0, 0, 0, 14, 112, 0, 14, 112, 0, 14, 112, 0, 14, 112, 0, 0, 10, 0, 14, 112, 0, 14, 112, 0, 14, 112, 0, 14, 112, 0, 14, 112, 0, 14, 112, 0, 14, 112, 0, 14, 112, 0, 14, 112, 0, 14, 112, 0, 0, 14, 14, 0, 14, 14, 14, 14, 14, 14, 14, 0, 14, 14, 225, 0, 14, 14, 14, 14, 14, 14, 14, 14, 14, 14, 14, 14, 14, 14, 0, 14, 14, 225, 0, 0, 14, 14, 0, 14, 14, 0, 14, 14, 3, 14, 14, 14, 0, 0, 14, 14, 0, 14, 14, 0, 14, 14, 3, 14, 14, 14, 0, 640, 254, 127, 2540, 28, 28, 28, 28, 28, 42, 81]
def yy_len (k : Nat) : Nat := yy_lens.getD k 0
def yy_ent (κ : Nat → Nat) (k : Nat) (f : Nat → Int32) : va_E :=
  if k ∈ yy_Eds then .inr (2, [.ref (κ 4 + (k + 1)), .ref (κ 4 + (k + 2)), .int (f 2)]) else
  if k ∈ yy_Crs then .inr (0, [.ref (κ 4 + (k + 1)), .ref (κ 4 + (k + 2)), .ref (κ 4 + (k + 3)), .int (f 3), .int (f 4)]) else
  if k ∈ yy_Tds then .inr (8, [.ref (κ 4 + (k + 1)), .ref (κ 4 + (k + 4)), .ref (κ 4 + (k + 7)), .ref (κ 4 + (k + 10)), .ref (κ 4 + (k + 11)), .ref (κ 4 + (k + 12)), .ref (κ 4 + (k + 13)), .int (f 7), .int (f 8), .int (f 9), .int (f 10)]) else
  if k = 0 then .inr (9, [.ref (κ 4 + 1), .ref (κ 4 + 3), .ref (κ 4 + 7), .ref (κ 4 + 10), .ref (κ 4 + 13), .ref (κ 4 + 16), .ref (κ 4 + 49), .ref (κ 4 + 80), .ref (κ 4 + 84), .ref (κ 4 + 98), .int (f 10)]) else
  if k = 1 then .inr (7, [.ref (κ 4 + 2), .int (f 1)]) else
  if k = 3 then .inr (6, [.ref (κ 4 + 4), .int (f 1), .int (f 2), .int (f 3), .int (f 4)]) else
  if k = 16 then .inr (5, [.ref (κ 4 + 17), .ref (κ 4 + 18), .int (f 2), .int (f 3)]) else
  if k = 49 then .inr (1, [.ref (κ 4 + 50), .ref (κ 4 + 53), .ref (κ 4 + 61), .ref (κ 4 + 65)]) else
  if k = 50 then .inr (4, [.ref (κ 4 + 51), .ref (κ 4 + 52), .int (f 2), .int (f 3)]) else
  if k = 53 then .inr (3, [.ref (κ 4 + 54), .ref (κ 4 + 55), .ref (κ 4 + 56), .ref (κ 4 + 57), .int (f 4), .ref (κ 4 + 58), .ref (κ 4 + 59), .ref (κ 4 + 60), .int (f 8)]) else
  if k = 112 then .inr (10, [.int (f 0), .ref (κ 4 + 113), .int (f 2), .ref (κ 4 + 114), .ref (κ 4 + 115), .ref (κ 4 + 116), .int (f 6), .int (f 7), .int (f 8), .int (f 9), .ref (κ 4 + 117), .ref (κ 4 + 118), .ref (κ 4 + 119), .ref (κ 4 + 120), .ref (κ 4 + 121), .ref (κ 4 + 122), .int (f 16), .int (f 17), .int (f 18), .ref (κ 4 + 123)]) else
  if k = 2 then .inl (κ 1, 640, .inl f) else
  if k = 17 then .inl (κ 2, 10, .inr (.inr (.inr (.inr (fun i => if i < 10 then some (κ 4 + (19 + 3 * i)) else none))))) else
  if k ∈ yy_Grs then .inl (κ 3, 2, .inr (.inr (.inr (.inr (fun i => if i < 2 then some (κ 4 + (k + 1 + i)) else none))))) else
  if k = 65 then .inl (κ 3, 14, .inr (.inr (.inr (.inr (fun i => if i < 14 then some (κ 4 + (66 + i)) else none))))) else
  .inl (κ 0, yy_len k, .inl f)
theorem yy_Eds_lt : ∀ k ∈ yy_Eds, k < 124 := by decide +kernel
theorem yy_Crs_lt : ∀ k ∈ yy_Crs, k < 124 := by decide +kernel
theorem yy_Tds_lt : ∀ k ∈ yy_Tds, k < 124 := by decide +kernel
theorem yy_Grs_lt : ∀ k ∈ yy_Grs, k < 124 := by decide +kernel
theorem yy_Ints_lt : ∀ k ∈ yy_Ints, k < 124 := by decide +kernel
theorem yy_ent_Eds {κ : Nat → Nat} {k : Nat} (h : k ∈ yy_Eds) (f : Nat → Int32) : yy_ent κ k f = .inr (2, [.ref (κ 4 + (k + 1)), .ref (κ 4 + (k + 2)), .int (f 2)]) := by
  unfold yy_ent
  rw [if_pos h]
theorem yy_ent_Crs {κ : Nat → Nat} {k : Nat} (h : k ∈ yy_Crs) (f : Nat → Int32) : yy_ent κ k f = .inr (0, [.ref (κ 4 + (k + 1)), .ref (κ 4 + (k + 2)), .ref (κ 4 + (k + 3)), .int (f 3), .int (f 4)]) := by
  have hx : ∀ k ∈ yy_Crs, k ∉ yy_Eds := by decide +kernel
  unfold yy_ent
  rw [if_neg (hx k h)]
  rw [if_pos h]
theorem yy_ent_Tds {κ : Nat → Nat} {k : Nat} (h : k ∈ yy_Tds) (f : Nat → Int32) : yy_ent κ k f = .inr (8, [.ref (κ 4 + (k + 1)), .ref (κ 4 + (k + 4)), .ref (κ 4 + (k + 7)), .ref (κ 4 + (k + 10)), .ref (κ 4 + (k + 11)), .ref (κ 4 + (k + 12)), .ref (κ 4 + (k + 13)), .int (f 7), .int (f 8), .int (f 9), .int (f 10)]) := by
  have hx : ∀ k ∈ yy_Tds, k ∉ yy_Eds ∧ k ∉ yy_Crs := by decide +kernel
  unfold yy_ent
  rw [if_neg (hx k h).1]
  rw [if_neg (hx k h).2]
  rw [if_pos h]
theorem yy_ent_0 {κ : Nat → Nat} (f : Nat → Int32) : yy_ent κ 0 f = .inr (9, [.ref (κ 4 + 1), .ref (κ 4 + 3), .ref (κ 4 + 7), .ref (κ 4 + 10), .ref (κ 4 + 13), .ref (κ 4 + 16), .ref (κ 4 + 49), .ref (κ 4 + 80), .ref (κ 4 + 84), .ref (κ 4 + 98), .int (f 10)]) := by
  rfl
theorem yy_ent_1 {κ : Nat → Nat} (f : Nat → Int32) : yy_ent κ 1 f = .inr (7, [.ref (κ 4 + 2), .int (f 1)]) := by
  rfl
theorem yy_ent_3 {κ : Nat → Nat} (f : Nat → Int32) : yy_ent κ 3 f = .inr (6, [.ref (κ 4 + 4), .int (f 1), .int (f 2), .int (f 3), .int (f 4)]) := by
  rfl
theorem yy_ent_16 {κ : Nat → Nat} (f : Nat → Int32) : yy_ent κ 16 f = .inr (5, [.ref (κ 4 + 17), .ref (κ 4 + 18), .int (f 2), .int (f 3)]) := by
  rfl
theorem yy_ent_49 {κ : Nat → Nat} (f : Nat → Int32) : yy_ent κ 49 f = .inr (1, [.ref (κ 4 + 50), .ref (κ 4 + 53), .ref (κ 4 + 61), .ref (κ 4 + 65)]) := by
  rfl
theorem yy_ent_50 {κ : Nat → Nat} (f : Nat → Int32) : yy_ent κ 50 f = .inr (4, [.ref (κ 4 + 51), .ref (κ 4 + 52), .int (f 2), .int (f 3)]) := by
  rfl
theorem yy_ent_53 {κ : Nat → Nat} (f : Nat → Int32) : yy_ent κ 53 f = .inr (3, [.ref (κ 4 + 54), .ref (κ 4 + 55), .ref (κ 4 + 56), .ref (κ 4 + 57), .int (f 4), .ref (κ 4 + 58), .ref (κ 4 + 59), .ref (κ 4 + 60), .int (f 8)]) := by
  rfl
theorem yy_ent_112 {κ : Nat → Nat} (f : Nat → Int32) : yy_ent κ 112 f = .inr (10, [.int (f 0), .ref (κ 4 + 113), .int (f 2), .ref (κ 4 + 114), .ref (κ 4 + 115), .ref (κ 4 + 116), .int (f 6), .int (f 7), .int (f 8), .int (f 9), .ref (κ 4 + 117), .ref (κ 4 + 118), .ref (κ 4 + 119), .ref (κ 4 + 120), .ref (κ 4 + 121), .ref (κ 4 + 122), .int (f 16), .int (f 17), .int (f 18), .ref (κ 4 + 123)]) := by
  rfl
theorem yy_ent_2 {κ : Nat → Nat} (f : Nat → Int32) : yy_ent κ 2 f = .inl (κ 1, 640, .inl f) := by
  rfl
theorem yy_ent_17 {κ : Nat → Nat} (f : Nat → Int32) : yy_ent κ 17 f = .inl (κ 2, 10, .inr (.inr (.inr (.inr (fun i => if i < 10 then some (κ 4 + (19 + 3 * i)) else none))))) := by
  rfl
theorem yy_ent_65 {κ : Nat → Nat} (f : Nat → Int32) : yy_ent κ 65 f = .inl (κ 3, 14, .inr (.inr (.inr (.inr (fun i => if i < 14 then some (κ 4 + (66 + i)) else none))))) := by
  rfl
theorem yy_ent_Grs {κ : Nat → Nat} {k : Nat} (h : k ∈ yy_Grs) (f : Nat → Int32) : yy_ent κ k f = .inl (κ 3, 2, .inr (.inr (.inr (.inr (fun i => if i < 2 then some (κ 4 + (k + 1 + i)) else none))))) := by
  have hx : ∀ k ∈ yy_Grs, k ∉ yy_Eds ∧ k ∉ yy_Crs ∧ k ∉ yy_Tds ∧ k ≠ 0 ∧ k ≠ 1 ∧ k ≠ 3 ∧ k ≠ 16 ∧ k ≠ 49 ∧ k ≠ 50 ∧ k ≠ 53 ∧ k ≠ 112 ∧ k ≠ 2 ∧ k ≠ 17 := by decide +kernel
  obtain ⟨h0, h1, h2, h3, h4, h5, h6, h7, h8, h9, h10, h11, h12⟩ := hx k h
  unfold yy_ent
  rw [if_neg h0, if_neg h1, if_neg h2, if_neg h3, if_neg h4, if_neg h5, if_neg h6, if_neg h7, if_neg h8, if_neg h9, if_neg h10, if_neg h11, if_neg h12]
  rw [if_pos h]
theorem yy_ent_Ints {κ : Nat → Nat} {k : Nat} (h : k ∈ yy_Ints) (f : Nat → Int32) : yy_ent κ k f = .inl (κ 0, yy_len k, .inl f) := by
  have hx : ∀ k ∈ yy_Ints, k ∉ yy_Eds ∧ k ∉ yy_Crs ∧ k ∉ yy_Tds ∧ k ≠ 0 ∧ k ≠ 1 ∧ k ≠ 3 ∧ k ≠ 16 ∧ k ≠ 49 ∧ k ≠ 50 ∧ k ≠ 53 ∧ k ≠ 112 ∧ k ≠ 2 ∧ k ≠ 17 ∧ k ∉ yy_Grs ∧ k ≠ 65 := by decide +kernel
  obtain ⟨h0, h1, h2, h3, h4, h5, h6, h7, h8, h9, h10, h11, h12, h13, h14⟩ := hx k h
  unfold yy_ent
  rw [if_neg h0, if_neg h1, if_neg h2, if_neg h3, if_neg h4, if_neg h5, if_neg h6, if_neg h7, if_neg h8, if_neg h9, if_neg h10, if_neg h11, if_neg h12, if_neg h13, if_neg h14]
theorem yy_E1 : ∀ k ∈ yy_Eds, k + 1 ∈ yy_Ints := by decide +kernel
theorem yy_E2 : ∀ k ∈ yy_Eds, k + 2 ∈ yy_Ints := by decide +kernel
theorem yy_lenE1 : ∀ k ∈ yy_Eds, yy_len (k + 1) = 14 := by decide +kernel
theorem yy_lenE2 : ∀ k ∈ yy_Eds, yy_len (k + 2) = 112 := by decide +kernel
theorem yy_C1 : ∀ k ∈ yy_Crs, k + 1 ∈ yy_Ints := by decide +kernel
theorem yy_lenC1 : ∀ k ∈ yy_Crs, yy_len (k + 1) = 14 := by decide +kernel
theorem yy_C2 : ∀ k ∈ yy_Crs, k + 2 ∈ yy_Ints := by decide +kernel
theorem yy_lenC2 : ∀ k ∈ yy_Crs, yy_len (k + 2) = 14 := by decide +kernel
theorem yy_C3 : ∀ k ∈ yy_Crs, k + 3 ∈ yy_Ints := by decide +kernel
theorem yy_lenC3 : ∀ k ∈ yy_Crs, yy_len (k + 3) = 225 := by decide +kernel
theorem yy_D10 : ∀ k ∈ yy_Tds, k + 10 ∈ yy_Ints := by decide +kernel
theorem yy_lenD10 : ∀ k ∈ yy_Tds, yy_len (k + 10) = 3 := by decide +kernel
theorem yy_D11 : ∀ k ∈ yy_Tds, k + 11 ∈ yy_Ints := by decide +kernel
theorem yy_lenD11 : ∀ k ∈ yy_Tds, yy_len (k + 11) = 14 := by decide +kernel
theorem yy_D12 : ∀ k ∈ yy_Tds, k + 12 ∈ yy_Ints := by decide +kernel
theorem yy_lenD12 : ∀ k ∈ yy_Tds, yy_len (k + 12) = 14 := by decide +kernel
theorem yy_D13 : ∀ k ∈ yy_Tds, k + 13 ∈ yy_Ints := by decide +kernel
theorem yy_lenD13 : ∀ k ∈ yy_Tds, yy_len (k + 13) = 14 := by decide +kernel
theorem yy_D1 : ∀ k ∈ yy_Tds, k + 1 ∈ yy_Grs := by decide +kernel
theorem yy_D4 : ∀ k ∈ yy_Tds, k + 4 ∈ yy_Grs := by decide +kernel
theorem yy_D7 : ∀ k ∈ yy_Tds, k + 7 ∈ yy_Grs := by decide +kernel
theorem yy_G0 : ∀ k ∈ yy_Grs, ∀ n, n < 2 → k + 1 + n ∈ yy_Ints := by decide +kernel
theorem yy_lenG0 : ∀ k ∈ yy_Grs, ∀ n, n < 2 → yy_len (k + 1 + n) = 14 := by decide +kernel
theorem yy_L0 : ∀ n, n < 14 → 66 + n ∈ yy_Ints := by decide +kernel
theorem yy_lenL0 : ∀ n, n < 14 → yy_len (66 + n) = 14 := by decide +kernel
theorem yy_P0 : ∀ n, n < 10 → 19 + 3 * n ∈ yy_Eds := by decide +kernel
abbrev yy_cls : List vw_C := [(RX0, TX0, 5), (RX1, TX1, 4), (RX2, TX2, 3), (RX3, TX3, 9), (RX4, TX4, 4), (RX5, TX5, 4), (RX6, TX6, 5), (RX7, TX7, 2), (RX8, TX8, 11), (RX9, TX9, 11), (RX10, TX10, 20)]
def yy_tys (κ : Nat → Nat) : List (ClassId × FieldType) := [(κ 0, .int), (κ 1, .byte), (κ 2, .object "MovedLines$Edition"), (κ 3, .array .int)]
theorem inX0 : ∀ w ∈ wsX00, w ∈ gT := List.forall_mem_cons.mpr ⟨tw_248, List.forall_mem_cons.mpr ⟨tw_250, List.forall_mem_cons.mpr ⟨tw_252, List.forall_mem_cons.mpr ⟨tw_254, List.forall_mem_cons.mpr ⟨tw_256, fun _ h => absurd h List.not_mem_nil⟩⟩⟩⟩⟩
theorem inX1 : ∀ w ∈ wsX10, w ∈ gT := List.forall_mem_cons.mpr ⟨tw_265, List.forall_mem_cons.mpr ⟨tw_267, List.forall_mem_cons.mpr ⟨tw_269, List.forall_mem_cons.mpr ⟨tw_271, fun _ h => absurd h List.not_mem_nil⟩⟩⟩⟩
theorem inX2 : ∀ w ∈ wsX20, w ∈ gT := List.forall_mem_cons.mpr ⟨tw_116, List.forall_mem_cons.mpr ⟨tw_118, List.forall_mem_cons.mpr ⟨tw_120, fun _ h => absurd h List.not_mem_nil⟩⟩⟩
theorem inX3 : ∀ w ∈ wsX30, w ∈ gT := List.forall_mem_cons.mpr ⟨tw_218, List.forall_mem_cons.mpr ⟨tw_220, List.forall_mem_cons.mpr ⟨tw_222, List.forall_mem_cons.mpr ⟨tw_224, List.forall_mem_cons.mpr ⟨tw_226, List.forall_mem_cons.mpr ⟨tw_228, List.forall_mem_cons.mpr ⟨tw_230, List.forall_mem_cons.mpr ⟨tw_232, List.forall_mem_cons.mpr ⟨tw_234, fun _ h => absurd h List.not_mem_nil⟩⟩⟩⟩⟩⟩⟩⟩⟩
theorem inX4 : ∀ w ∈ wsX40, w ∈ gT := List.forall_mem_cons.mpr ⟨tw_194, List.forall_mem_cons.mpr ⟨tw_196, List.forall_mem_cons.mpr ⟨tw_198, List.forall_mem_cons.mpr ⟨tw_200, fun _ h => absurd h List.not_mem_nil⟩⟩⟩⟩
theorem inX5 : ∀ w ∈ wsX50, w ∈ gT := List.forall_mem_cons.mpr ⟨tw_161, List.forall_mem_cons.mpr ⟨tw_163, List.forall_mem_cons.mpr ⟨tw_165, List.forall_mem_cons.mpr ⟨tw_167, fun _ h => absurd h List.not_mem_nil⟩⟩⟩⟩
theorem inX6 : ∀ w ∈ wsX60, w ∈ gT := List.forall_mem_cons.mpr ⟨tw_132, List.forall_mem_cons.mpr ⟨tw_134, List.forall_mem_cons.mpr ⟨tw_136, List.forall_mem_cons.mpr ⟨tw_138, List.forall_mem_cons.mpr ⟨tw_140, fun _ h => absurd h List.not_mem_nil⟩⟩⟩⟩⟩
theorem inX7 : ∀ w ∈ wsX70, w ∈ gT := List.forall_mem_cons.mpr ⟨tw_87, List.forall_mem_cons.mpr ⟨tw_89, fun _ h => absurd h List.not_mem_nil⟩⟩
theorem inX8 : ∀ w ∈ wsX80, w ∈ gT := List.forall_mem_cons.mpr ⟨tw_308, List.forall_mem_cons.mpr ⟨tw_310, List.forall_mem_cons.mpr ⟨tw_312, List.forall_mem_cons.mpr ⟨tw_314, List.forall_mem_cons.mpr ⟨tw_316, List.forall_mem_cons.mpr ⟨tw_318, List.forall_mem_cons.mpr ⟨tw_320, List.forall_mem_cons.mpr ⟨tw_322, List.forall_mem_cons.mpr ⟨tw_324, List.forall_mem_cons.mpr ⟨tw_326, List.forall_mem_cons.mpr ⟨tw_328, fun _ h => absurd h List.not_mem_nil⟩⟩⟩⟩⟩⟩⟩⟩⟩⟩⟩
theorem inX9 : ∀ w ∈ wsX90, w ∈ gT := List.forall_mem_cons.mpr ⟨tw_342, List.forall_mem_cons.mpr ⟨tw_344, List.forall_mem_cons.mpr ⟨tw_346, List.forall_mem_cons.mpr ⟨tw_348, List.forall_mem_cons.mpr ⟨tw_350, List.forall_mem_cons.mpr ⟨tw_352, List.forall_mem_cons.mpr ⟨tw_354, List.forall_mem_cons.mpr ⟨tw_356, List.forall_mem_cons.mpr ⟨tw_358, List.forall_mem_cons.mpr ⟨tw_360, List.forall_mem_cons.mpr ⟨tw_362, fun _ h => absurd h List.not_mem_nil⟩⟩⟩⟩⟩⟩⟩⟩⟩⟩⟩
theorem inX10 : ∀ w ∈ wsX100, w ∈ gT := List.forall_mem_cons.mpr ⟨tw_812, List.forall_mem_cons.mpr ⟨tw_814, List.forall_mem_cons.mpr ⟨tw_816, List.forall_mem_cons.mpr ⟨tw_818, List.forall_mem_cons.mpr ⟨tw_820, List.forall_mem_cons.mpr ⟨tw_822, List.forall_mem_cons.mpr ⟨tw_824, List.forall_mem_cons.mpr ⟨tw_826, List.forall_mem_cons.mpr ⟨tw_828, List.forall_mem_cons.mpr ⟨tw_830, List.forall_mem_cons.mpr ⟨tw_832, List.forall_mem_cons.mpr ⟨tw_834, List.forall_mem_cons.mpr ⟨tw_836, List.forall_mem_cons.mpr ⟨tw_838, List.forall_mem_cons.mpr ⟨tw_840, List.forall_mem_cons.mpr ⟨tw_842, List.forall_mem_cons.mpr ⟨tw_844, List.forall_mem_cons.mpr ⟨tw_846, List.forall_mem_cons.mpr ⟨tw_848, List.forall_mem_cons.mpr ⟨tw_850, fun _ h => absurd h List.not_mem_nil⟩⟩⟩⟩⟩⟩⟩⟩⟩⟩⟩⟩⟩⟩⟩⟩⟩⟩⟩⟩
end
section
/-! THE WORLD OF A MEMORY, and the rows: an instruction, and what it asks of the program -/
def yy_lay (κ : Nat → Nat) (τ : yy_T) : va_W := (List.range 124).map (fun k => (κ 4 + k, yy_ent κ k (τ k)))
theorem yy_lay_len {κ : Nat → Nat} {τ : yy_T} : (yy_lay κ τ).length = 124 := by simp [yy_lay]
theorem yy_lay_at {κ : Nat → Nat} {τ : yy_T} {ext : va_W} {k : Nat} (h : k < 124) : (yy_lay κ τ ++ ext)[k]? = some (κ 4 + k, yy_ent κ k (τ k)) := by
  rw [List.getElem?_append_left (by rw [yy_lay_len]; exact h)]
  simp [yy_lay, h]
theorem yy_lay_set {κ : Nat → Nat} {τ : yy_T} {ext : va_W} {k : Nat} (h : k < 124) (f : Nat → Int32) : (yy_lay κ τ ++ ext).set k (κ 4 + k, yy_ent κ k f) = yy_lay κ (yy_ro τ k f) ++ ext := by
  rw [List.set_append_left _ _ (by rw [yy_lay_len]; exact h)]
  congr 1
  apply List.ext_getElem?
  intro i
  rw [List.getElem?_set]
  by_cases hi : k = i
  · subst hi
    rw [if_pos rfl, if_pos (by rw [yy_lay_len]; exact h)]
    simp [yy_lay, h, yy_ro]
  · rw [if_neg hi]
    by_cases hl : i < 124
    · have hi2 : ¬ i = k := fun q => hi q.symm
      simp [yy_lay, hl, yy_ro, hi2]
    · rw [List.getElem?_eq_none (by rw [yy_lay_len]; omega), List.getElem?_eq_none (by rw [yy_lay_len]; omega)]
def yy_nest : List (String × Nat × MethodName) := [("MovedLines", 9, ({ cls := "MovedLines$Tape", name := "<init>", desc := "()V" } : Jvm.MethodName)), ("MovedLines", 18, ({ cls := "MovedLines$Reader", name := "<init>", desc := "()V" } : Jvm.MethodName)), ("MovedLines$Reader", 11, ({ cls := "MovedLines$Edition", name := "<init>", desc := "()V" } : Jvm.MethodName)), ("MovedLines", 25, ({ cls := "MovedLines$Edition", name := "<init>", desc := "()V" } : Jvm.MethodName)), ("MovedLines$Past", 28, ({ cls := "MovedLines$Edition", name := "<init>", desc := "()V" } : Jvm.MethodName)), ("MovedLines", 45, ({ cls := "MovedLines$Comparer", name := "<init>", desc := "()V" } : Jvm.MethodName)), ("MovedLines$Comparer", 11, ({ cls := "MovedLines$Kinds", name := "<init>", desc := "()V" } : Jvm.MethodName)), ("MovedLines$Comparer", 20, ({ cls := "MovedLines$Keeper", name := "<init>", desc := "()V" } : Jvm.MethodName)), ("MovedLines$Comparer", 27, ({ cls := "MovedLines$CommonRow", name := "<init>", desc := "()V" } : Jvm.MethodName)), ("MovedLines", 52, ({ cls := "MovedLines$CommonRow", name := "<init>", desc := "()V" } : Jvm.MethodName)), ("MovedLines", 59, ({ cls := "MovedLines$Told", name := "<init>", desc := "()V" } : Jvm.MethodName)), ("MovedLines$Edition", 34, ({ cls := "MovedLines", name := "letterIn", desc := "(II)I" } : Jvm.MethodName))]
/-- what the worlds' tables are, and the links between nest mates -/
def yy_K (D : va_G) (κ : Nat → Nat) (U : State) : Prop := va_K D yy_cls (yy_tys κ) U ∧ ∀ q ∈ yy_nest, va_Nw (.methodLinkNest q.1 q.2.1 q.2.2 "MovedLines") U
theorem yy_K.warm {D : va_G} {κ : Nat → Nat} {s U : State} (hW : s.WarmedH U.vm) (h : yy_K D κ s) : yy_K D κ U := ⟨va_K.moved hW.alike h.1, fun q hq => va_Nw.warmM hW (h.2 q hq)⟩
theorem yy_K.same {D : va_G} {κ : Nat → Nat} {s U : State} (hv : s.vm = U.vm) (h : yy_K D κ s) : yy_K D κ U := ⟨va_K.moved (by rw [hv]; exact Vm.Alike.refl U.vm) h.1, fun q hq => va_Nw.same rfl hv (h.2 q hq)⟩
def yy_C (D : va_G) (κ : Nat → Nat) (p : Program) (m : MethodId) (c : Code) (cc : ByteArray) (nL : Nat) (s : State) (args : Array Value) (own : String) : Prop := CallFix p m c cc nL s args gT own ∧ yy_K D κ s
def yy_Z (D : va_G) (κ : Nat → Nat) (ext : va_W) (A : Nat → Prop) (H0 : Heap) (τ : yy_T) (H : Heap) (locs : List Loc) : Prop := va_P D yy_cls (yy_lay κ τ ++ ext) H ∧ va_D A (yy_lay κ τ ++ ext) ∧ va_S A H0 H locs ∧ ∀ q : Nat, H0.size ≤ q → A q
section YR
variable {p : Program} {l : Launch} {e : Env} {R : Room} {s : State} {m : MethodId} {args : Array Value} {below : List Frame} {meth : Method} {c : Code} {H : Heap} {locs : List Loc} {cells slots : Nat} {Q : State → Prop}
variable {cc : ByteArray} {nL pc : Nat} {own : String} {ls : Array Slot} {rest : List Value} {D : va_G} {κ : Nat → Nat} {ext : va_W} {A : Nat → Prop} {H0 : Heap} {τ : yy_T} {α : Type} {res : α × yy_T}
theorem yy_get (C : yy_C D κ p m c cc nL s args own) (Z : yy_Z D κ ext A H0 τ H locs) {id ci k N index : Nat} {Cn : String} {T : u_T} {fs : List Value} {v : Value} (hid : id < 124) (he : yy_ent κ id (τ id) = .inr (ci, fs)) (hc : yy_cls[ci]? = some (Cn, T, N)) (hin : ∀ w ∈ u_ws Cn T N, w ∈ gT) (hk : k < N) (hT : (T k).1 = Cn) (hlink : Cond.fieldLink own index Cn (T k).2.1 (T k).2.2.1 ∈ gT) (hv : fs[k]? = some v) (hdg : decode cc pc = .ok (.getfield index, 3))
    (kk : W p l e R s m args below meth c H locs cells slots Q (F0 m (pc + 3) ls (v :: rest))) : W p l e R s m args below meth c H locs cells slots Q (F0 m pc ls (.ref (κ 4 + id) :: rest)) := by
  obtain ⟨⟨hx, hb, hml, hown, hts⟩, hK, hN⟩ := C
  obtain ⟨hP, hD, hS, hA⟩ := Z
  exact va_get (D := D) hx hb hts hin hown hK hP id (by rw [yy_lay_at hid, he]) hc k hk (hts _ hlink) (fun _ h => by rw [hT] at h; exact h) hv hdg kk
theorem yy_put (C : yy_C D κ p m c cc nL s args own) (Z : yy_Z D κ ext A H0 τ H locs) {id ci k N index : Nat} {Cn : String} {T : u_T} {fs : List Value} {ty0 : Nat → FieldType} {ty : FieldType} {v : Int32} (hid : id < 124) (he : yy_ent κ id (τ id) = .inr (ci, fs)) (he2 : yy_ent κ id (upd (τ id) k v) = .inr (ci, fs.set k (.int v))) (hc : yy_cls[ci]? = some (Cn, T, N)) (hin : ∀ w ∈ u_ws Cn T N, w ∈ gT) (hty : ∀ k, k < N → parseFieldDescriptor (T k).2.2.1 = some (ty0 k)) (hnm : ∀ a, a < N → ∀ b, b < N → a ≠ b → (T a).2.1 ≠ (T b).2.1) (hk : k < N) (hT : (T k).1 = Cn) (hfin : (T k).2.2.2 = false) (hd : parseFieldDescriptor (T k).2.2.1 = some ty) (hn : narrow ty (.int v) = .int v) (hfit : fits ty (.int v) = true) (hl : k < fs.length) (hlink : Cond.fieldLink own index Cn (T k).2.1 (T k).2.2.1 ∈ gT) (hdg : decode cc pc = .ok (.putfield index, 3)) {K : yy_M α} (h : yy_wF id k v K τ = some res)
    (kk : ∀ (H1 : Heap) (locs1 : List Loc) (τ1 : yy_T), yy_Z D κ ext A H0 τ1 H1 locs1 → K τ1 = some res → W p l e R s m args below meth c H1 locs1 cells slots Q (F0 m (pc + 3) ls rest)) : W p l e R s m args below meth c H locs cells slots Q (F0 m pc ls (.int v :: .ref (κ 4 + id) :: rest)) := by
  obtain ⟨⟨hx, hb, hml, hown, hts⟩, hK, hN⟩ := C
  obtain ⟨hP, hD, hS, hA⟩ := Z
  refine va_put (D := D) (v := .int v) hx hb hts hin ty0 hty hnm hown hK hP hD hS id (by rw [yy_lay_at hid, he]) hc k hk (hts _ hlink) (fun _ h => by rw [hT] at h; exact h) hfin hd hn hfit hl hdg (fun H1 locs1 hP1 hD1 hS1 => ?_)
  rw [← he2, yy_lay_set hid] at hP1 hD1
  exact kk H1 locs1 _ ⟨hP1, hD1, hS1, hA⟩ h
theorem yy_iald (C : yy_C D κ p m c cc nL s args own) (Z : yy_Z D κ ext A H0 τ H locs) {a n : Nat} (ha : a ∈ yy_Ints) (hn : yy_len a = n) {i : Int32} (hdg : decode cc pc = .ok (.iaload, 1)) {K : Int32 → yy_M α} (h : yy_rA a n i K τ = some res)
    (kk : ∀ v : Int32, K v τ = some res → W p l e R s m args below meth c H locs cells slots Q (F0 m (pc + 1) ls (.int v :: rest))) : W p l e R s m args below meth c H locs cells slots Q (F0 m pc ls (.int i :: .ref (κ 4 + a) :: rest)) := by
  obtain ⟨⟨hx, hb, hml, hown, hts⟩, hK, hN⟩ := C
  obtain ⟨hP, hD, hS, hA⟩ := Z
  subst hn
  unfold yy_rA at h
  by_cases hi : yy_in i (yy_len a) = true
  · rw [if_pos hi] at h
    exact va_iald hx hb hK hP a 0 (by rw [yy_lay_at (yy_Ints_lt a ha), yy_ent_Ints ha]) rfl (yy_in_vp hi) hdg (kk _ h)
  · rw [if_neg hi] at h
    cases h
theorem yy_iast (C : yy_C D κ p m c cc nL s args own) (Z : yy_Z D κ ext A H0 τ H locs) {a n : Nat} (ha : a ∈ yy_Ints) (hn : yy_len a = n) {i x : Int32} (hdg : decode cc pc = .ok (.iastore, 1)) {K : yy_M α} (h : yy_wA a n i x K τ = some res)
    (kk : ∀ (H1 : Heap) (locs1 : List Loc) (τ1 : yy_T), yy_Z D κ ext A H0 τ1 H1 locs1 → K τ1 = some res → W p l e R s m args below meth c H1 locs1 cells slots Q (F0 m (pc + 1) ls rest)) : W p l e R s m args below meth c H locs cells slots Q (F0 m pc ls (.int x :: .int i :: .ref (κ 4 + a) :: rest)) := by
  obtain ⟨⟨hx, hb, hml, hown, hts⟩, hK, hN⟩ := C
  obtain ⟨hP, hD, hS, hA⟩ := Z
  subst hn
  unfold yy_wA at h
  by_cases hi : yy_in i (yy_len a) = true
  · rw [if_pos hi] at h
    refine va_iast hx hb hK hP hD hS a 0 (by rw [yy_lay_at (yy_Ints_lt a ha), yy_ent_Ints ha]) rfl (yy_in_vp hi) hdg (fun H1 locs1 hP1 hD1 hS1 => ?_)
    rw [← yy_ent_Ints ha, yy_lay_set (yy_Ints_lt a ha)] at hP1 hD1
    exact kk H1 locs1 _ ⟨hP1, hD1, hS1, hA⟩ h
  · rw [if_neg hi] at h
    cases h
theorem yy_bald (C : yy_C D κ p m c cc nL s args own) (Z : yy_Z D κ ext A H0 τ H locs) {i : Int32} (hdg : decode cc pc = .ok (.baload, 1)) {K : Int32 → yy_M α} (h : yy_rA 2 640 i K τ = some res)
    (kk : ∀ v : Int32, K v τ = some res → W p l e R s m args below meth c H locs cells slots Q (F0 m (pc + 1) ls (.int v :: rest))) : W p l e R s m args below meth c H locs cells slots Q (F0 m pc ls (.int i :: .ref (κ 4 + 2) :: rest)) := by
  obtain ⟨⟨hx, hb, hml, hown, hts⟩, hK, hN⟩ := C
  obtain ⟨hP, hD, hS, hA⟩ := Z
  unfold yy_rA at h
  by_cases hi : yy_in i 640 = true
  · rw [if_pos hi] at h
    exact va_bald hx hb hK hP 2 1 (by rw [yy_lay_at (by decide), yy_ent_2]) rfl (yy_in_vp hi) hdg (kk _ h)
  · rw [if_neg hi] at h
    cases h
theorem yy_bast (C : yy_C D κ p m c cc nL s args own) (Z : yy_Z D κ ext A H0 τ H locs) {i x : Int32} (hdg : decode cc pc = .ok (.bastore, 1)) {K : yy_M α} (h : yy_wA 2 640 i (vp_nar .byte x) K τ = some res)
    (kk : ∀ (H1 : Heap) (locs1 : List Loc) (τ1 : yy_T), yy_Z D κ ext A H0 τ1 H1 locs1 → K τ1 = some res → W p l e R s m args below meth c H1 locs1 cells slots Q (F0 m (pc + 1) ls rest)) : W p l e R s m args below meth c H locs cells slots Q (F0 m pc ls (.int x :: .int i :: .ref (κ 4 + 2) :: rest)) := by
  obtain ⟨⟨hx, hb, hml, hown, hts⟩, hK, hN⟩ := C
  obtain ⟨hP, hD, hS, hA⟩ := Z
  unfold yy_wA at h
  by_cases hi : yy_in i 640 = true
  · rw [if_pos hi] at h
    refine va_bast hx hb hK hP hD hS 2 1 (by rw [yy_lay_at (by decide), yy_ent_2]) rfl (yy_in_vp hi) hdg (fun H1 locs1 hP1 hD1 hS1 => ?_)
    rw [← yy_ent_2 (κ := κ), yy_lay_set (by decide)] at hP1 hD1
    exact kk H1 locs1 _ ⟨hP1, hD1, hS1, hA⟩ h
  · rw [if_neg hi] at h
    cases h
theorem yy_alen (C : yy_C D κ p m c cc nL s args own) (Z : yy_Z D κ ext A H0 τ H locs) {a n : Nat} (ha : a ∈ yy_Ints) (hn : yy_len a = n) (hdg : decode cc pc = .ok (.arraylength, 1))
    (kk : W p l e R s m args below meth c H locs cells slots Q (F0 m (pc + 1) ls (.int (Int32.ofNat n) :: rest))) : W p l e R s m args below meth c H locs cells slots Q (F0 m pc ls (.ref (κ 4 + a) :: rest)) := by
  obtain ⟨⟨hx, hb, hml, hown, hts⟩, hK, hN⟩ := C
  obtain ⟨hP, hD, hS, hA⟩ := Z
  exact va_alen hx hb hK hP a 0 (by rw [yy_lay_at (yy_Ints_lt a ha), yy_ent_Ints ha]) rfl (by rw [← hn]) hdg kk
/-- a row of an array of rows -/
theorem yy_aaldA (hexec : p.tables.exec = Jvm.exec) (hb : c.code = cc) (hK : va_K D yy_cls (yy_tys κ) s) {ws : va_W} {a : Nat} (hP : va_P D yy_cls ws H) (q0 : Nat) {n : Nat} {f : Nat → Option Nat} (ha : ws[q0]? = some (a, .inl (κ 3, n, .inr (.inr (.inr (.inr f)))))) {i : Int32} (hin : vp_in i n) (hdg : decode cc pc = .ok (.aaload, 1))
    (kk : W p l e R s m args below meth c H locs cells slots Q (F0 m (pc + 1) ls (va_rf (f i.toNatClampNeg) :: rest))) : W p l e R s m args below meth c H locs cells slots Q (F0 m pc ls (.int i :: .ref a :: rest)) := by
  have hlt : i.toNatClampNeg < n := Nat.not_le.mp fun q => hin (Or.inr q)
  exact W.aald (v := va_rf (f i.toNatClampNeg)) (ty := .array .int) hexec hb (hP q0 _ ha) ((hK.2 3 _ rfl).1 n (fun j => va_rf (f j))) rfl (fun q => by cases q) (by show ¬ (i < 0 ∨ (arrV _ _ _).slots.size ≤ _); rw [arrV_size]; exact hin) (by show (arrV _ _ _).slots[_]? = _; rw [arrV_read _ _ hlt]) rfl rfl hdg kk
theorem yy_aald2 (C : yy_C D κ p m c cc nL s args own) (Z : yy_Z D κ ext A H0 τ H locs) {g : Nat} (hg : g ∈ yy_Grs) {i : Int32} (hdg : decode cc pc = .ok (.aaload, 1)) {K : yy_M α} (h : yy_ck (yy_in i 2 = true) K τ = some res)
    (kk : i.toNatClampNeg < 2 → K τ = some res → W p l e R s m args below meth c H locs cells slots Q (F0 m (pc + 1) ls (.ref (κ 4 + (g + 1 + i.toNatClampNeg)) :: rest))) : W p l e R s m args below meth c H locs cells slots Q (F0 m pc ls (.int i :: .ref (κ 4 + g) :: rest)) := by
  obtain ⟨⟨hx, hb, hml, hown, hts⟩, hK, hN⟩ := C
  obtain ⟨hP, hD, hS, hA⟩ := Z
  unfold yy_ck at h
  by_cases hi : yy_in i 2 = true
  · rw [if_pos hi] at h
    refine yy_aaldA hx hb hK hP g (by rw [yy_lay_at (yy_Grs_lt g hg), yy_ent_Grs hg]) (yy_in_vp hi) hdg ?_
    rw [if_pos (yy_in_lt hi)]
    exact kk (yy_in_lt hi) h
  · rw [if_neg hi] at h
    cases h
theorem yy_aaldL (C : yy_C D κ p m c cc nL s args own) (Z : yy_Z D κ ext A H0 τ H locs) {i : Int32} (hdg : decode cc pc = .ok (.aaload, 1)) {K : yy_M α} (h : yy_ck (yy_in i 14 = true) K τ = some res)
    (kk : i.toNatClampNeg < 14 → K τ = some res → W p l e R s m args below meth c H locs cells slots Q (F0 m (pc + 1) ls (.ref (κ 4 + (66 + i.toNatClampNeg)) :: rest))) : W p l e R s m args below meth c H locs cells slots Q (F0 m pc ls (.int i :: .ref (κ 4 + 65) :: rest)) := by
  obtain ⟨⟨hx, hb, hml, hown, hts⟩, hK, hN⟩ := C
  obtain ⟨hP, hD, hS, hA⟩ := Z
  unfold yy_ck at h
  by_cases hi : yy_in i 14 = true
  · rw [if_pos hi] at h
    refine yy_aaldA hx hb hK hP 65 (by rw [yy_lay_at (by decide), yy_ent_65]) (yy_in_vp hi) hdg ?_
    rw [if_pos (yy_in_lt hi)]
    exact kk (yy_in_lt hi) h
  · rw [if_neg hi] at h
    cases h
theorem yy_aaldE (C : yy_C D κ p m c cc nL s args own) (Z : yy_Z D κ ext A H0 τ H locs) {i : Int32} (hdg : decode cc pc = .ok (.aaload, 1)) {K : yy_M α} (h : yy_ck (yy_in i 10 = true) K τ = some res)
    (kk : i.toNatClampNeg < 10 → K τ = some res → W p l e R s m args below meth c H locs cells slots Q (F0 m (pc + 1) ls (.ref (κ 4 + (19 + 3 * i.toNatClampNeg)) :: rest))) : W p l e R s m args below meth c H locs cells slots Q (F0 m pc ls (.int i :: .ref (κ 4 + 17) :: rest)) := by
  obtain ⟨⟨hx, hb, hml, hown, hts⟩, hK, hN⟩ := C
  obtain ⟨hP, hD, hS, hA⟩ := Z
  unfold yy_ck at h
  by_cases hi : yy_in i 10 = true
  · rw [if_pos hi] at h
    refine va_aldq hx hb hK hP 17 2 (by rw [yy_lay_at (by decide), yy_ent_17]) rfl (yy_in_vp hi) hdg ?_
    rw [if_pos (yy_in_lt hi)]
    exact kk (yy_in_lt hi) h
  · rw [if_neg hi] at h
    cases h
theorem yy_copy (C : yy_C D κ p m c cc nL s args own) (Z : yy_Z D κ ext A H0 τ H locs) (hls : ls.size = nL) {a b n0 n1 index : Nat} (ha : a ∈ yy_Ints) (hn0 : yy_len a = n0) (hb' : b ∈ yy_Ints) (hn1 : yy_len b = n1) {sp dp n : Int32} (hlink : Cond.methodLink own index arraycopyName ∈ gT) (hnat : Cond.native arraycopyName ∈ gT) (hstat : Cond.static arraycopyName ∈ gT) (hini : Cond.initialized "java/lang/System" ∈ gT) (hframes : 1 ≤ R.frames) (hlocals : (rest.map fun v => v.category).sum + (nativeFrameWords "java/lang/System" "arraycopy" 5 + 11) ≤ R.locals) (hdg : decode cc pc = .ok (.invokestatic index, 3)) {K : yy_M α} (h : yy_cp a n0 sp b n1 dp n K τ = some res)
    (kk : ∀ (H1 : Heap) (locs1 : List Loc) (τ1 : yy_T), yy_Z D κ ext A H0 τ1 H1 locs1 → K τ1 = some res → W p l e R s m args below meth c H1 locs1 cells slots Q (F0 m (pc + 3) ls rest)) : W p l e R s m args below meth c H locs cells slots Q (F0 m pc ls (.int n :: .int dp :: .ref (κ 4 + b) :: .int sp :: .ref (κ 4 + a) :: rest)) := by
  obtain ⟨⟨hx, hb, hml, hown, hts⟩, hK, hN⟩ := C
  obtain ⟨hP, hD, hS, hA⟩ := Z
  subst hn0
  subst hn1
  unfold yy_cp at h
  by_cases hi : yy_cpok sp dp n (yy_len a) (yy_len b) = true
  · rw [if_pos hi] at h
    unfold yy_cpok at hi
    simp only [Bool.and_eq_true, decide_eq_true_eq] at hi
    obtain ⟨⟨⟨⟨h1, h2⟩, h3⟩, h4⟩, h5⟩ := hi
    refine va_copyi hx hb (by rw [hml, hls]) hown (hts _ hlink) (hts _ hnat) (hts _ hstat) (hts _ hini) hK hP hD hS a b 0 0 (by rw [yy_lay_at (yy_Ints_lt a ha), yy_ent_Ints ha]) (by rw [yy_lay_at (yy_Ints_lt b hb'), yy_ent_Ints hb']) rfl rfl rfl h1 h2 h3 h4 h5 (fun i _ => rfl) hframes hlocals hdg (fun H1 locs1 hP1 hD1 hS1 => ?_)
    rw [← yy_ent_Ints hb', yy_lay_set (yy_Ints_lt b hb')] at hP1 hD1
    exact kk H1 locs1 _ ⟨hP1, hD1, hS1, hA⟩ h
  · rw [if_neg hi] at h
    cases h
end YR
end
section
/-! CONTRACTS: a method is met by a program -/
def yy_Pre (D : va_G) (κ : Nat → Nat) (ext : va_W) (av : List Value) (sz : Nat) (τ : yy_T) : Array Value → State → Prop := va_Pc av (fun U => U.heap.size = sz ∧ va_P D yy_cls (yy_lay κ τ ++ ext) U.heap ∧ yy_K D κ U ∧ va_D (fun _ => True) (yy_lay κ τ ++ ext))
theorem yy_Pre.blind {D : va_G} {κ : Nat → Nat} {ext : va_W} {av : List Value} {sz : Nat} {τ : yy_T} : FrameBlind (yy_Pre D κ ext av sz τ) := fun a U g mk q => by
  obtain ⟨q0, q1, qP, qK, qD⟩ := q
  exact ⟨q0, q1, qP, yy_K.same (s := U) (U := U.calling g mk a) rfl qK, qD⟩
def yy_A (κ : Nat → Nat) (ext : va_W) (sz : Nat) : Nat → Prop := fun q => (κ 4 ≤ q ∧ q < κ 4 + 124) ∨ (∃ (k : Nat) (e : va_E), ext[k]? = some (q, e)) ∨ sz ≤ q
theorem yy_A_D {κ : Nat → Nat} {ext : va_W} {sz : Nat} {τ : yy_T} {A : Nat → Prop} (h : va_D A (yy_lay κ τ ++ ext)) : va_D (yy_A κ ext sz) (yy_lay κ τ ++ ext) := by
  refine ⟨h.1, fun k q hq => ?_⟩
  by_cases hk : k < 124
  · rw [yy_lay_at hk] at hq
    cases hq
    exact Or.inl ⟨Nat.le_add_right _ _, Nat.add_lt_add_left hk _⟩
  · rw [List.getElem?_append_right (by rw [yy_lay_len]; omega)] at hq
    exact Or.inr (Or.inl ⟨_, q.2, hq⟩)
theorem yy_A_in {κ : Nat → Nat} {ext : va_W} {sz : Nat} {τ : yy_T} {A : Nat → Prop} (h : va_D A (yy_lay κ τ ++ ext)) (hA : ∀ q : Nat, sz ≤ q → A q) : ∀ q, yy_A κ ext sz q → A q := by
  intro q hq
  rcases hq with ⟨h1, h2⟩ | ⟨k, e, h1⟩ | h1
  · have := h.2 (q - κ 4) _ (yy_lay_at (κ := κ) (τ := τ) (ext := ext) (k := q - κ 4) (by omega))
    rw [show κ 4 + (q - κ 4) = q by omega] at this
    exact this
  · exact h.2 (124 + k) (q, e) (by rw [List.getElem?_append_right (by rw [yy_lay_len]; omega), yy_lay_len, Nat.add_sub_cancel_left]; exact h1)
  · exact hA q h1
def yy_B (D : va_G) (κ : Nat → Nat) (ext : va_W) (A : Nat → Prop) (τ : yy_T) (t : State) : Prop := va_P D yy_cls (yy_lay κ τ ++ ext) t.heap ∧ va_D A (yy_lay κ τ ++ ext)
abbrev yy_Qi (D : va_G) (κ : Nat → Nat) (ext : va_W) (A : Nat → Prop) (res : Int32 × yy_T) := va_Qi (fun (r : Int32) (_ : Unit) => r = res.1) (fun _ t => yy_B D κ ext A res.2 t) A
abbrev yy_Qv (D : va_G) (κ : Nat → Nat) (ext : va_W) (A : Nat → Prop) (res : Unit × yy_T) := va_Qv (fun (_ : Unit) => True) (fun _ t => yy_B D κ ext A res.2 t) A
abbrev yy_Qr (P : Nat → Prop) (D : va_G) (κ : Nat → Nat) (ext : va_W) (A : Nat → Prop) (res : Nat × yy_T) := va_Qr (fun (_ : Unit) => P res.1) (fun _ a t => a = κ 4 + res.1 ∧ yy_B D κ ext A res.2 t) A
def yy_Mi (l : Launch) (D : va_G) (κ : Nat → Nat) (ext : va_W) (y : MethodName) (bytes : ByteArray) (maxL : Nat) (ret : Option FieldType) (rm : Room) (mc ms : Nat) (av : List Value) (prog : yy_M Int32) : Prop := ∀ (sz : Nat) (τ : yy_T) (res : Int32 × yy_T), prog τ = some res → Met l y (Cond.code y bytes maxL ret :: gT) rm (yy_Pre D κ ext av sz τ) (yy_Qi D κ ext (yy_A κ ext sz) res) mc ms (yy_A κ ext sz)
def yy_Mv (l : Launch) (D : va_G) (κ : Nat → Nat) (ext : va_W) (y : MethodName) (bytes : ByteArray) (maxL : Nat) (ret : Option FieldType) (rm : Room) (mc ms : Nat) (av : List Value) (prog : yy_M Unit) : Prop := ∀ (sz : Nat) (τ : yy_T) (res : Unit × yy_T), prog τ = some res → Met l y (Cond.code y bytes maxL ret :: gT) rm (yy_Pre D κ ext av sz τ) (yy_Qv D κ ext (yy_A κ ext sz) res) mc ms (yy_A κ ext sz)
def yy_Mr (P : Nat → Prop) (l : Launch) (D : va_G) (κ : Nat → Nat) (ext : va_W) (y : MethodName) (bytes : ByteArray) (maxL : Nat) (ret : Option FieldType) (rm : Room) (mc ms : Nat) (av : List Value) (prog : yy_M Nat) : Prop := ∀ (sz : Nat) (τ : yy_T) (res : Nat × yy_T), prog τ = some res → Met l y (Cond.code y bytes maxL ret :: gT) rm (yy_Pre D κ ext av sz τ) (yy_Qr P D κ ext (yy_A κ ext sz) res) mc ms (yy_A κ ext sz)
/-- what a method's body begins with -/
def yy_E (l : Launch) (D : va_G) (κ : Nat → Nat) (ext : va_W) (y : MethodName) (bytes : ByteArray) (maxL : Nat) (ret : Option FieldType) (av : List Value) (τ : yy_T) (p : Program) (e : Env) (s : State) (m : MethodId) (args : Array Value) (meth : Method) (c : Code) (ls : Array Slot) : Prop :=
  yy_C D κ p m c bytes maxL s args y.cls ∧ meth.sig.returnType = ret ∧ meth.locks = false ∧ yy_Z D κ ext (yy_A κ ext s.heap.size) s.heap τ s.heap [] ∧ lv_has ls maxL (lv_args 0 av)
theorem yy_ofW {l : Launch} {D : va_G} {κ : Nat → Nat} {ext : va_W} {y : MethodName} {bytes : ByteArray} {maxL : Nat} {ret : Option FieldType} {rm : Room} {mc ms : Nat} {av : List Value} {τ : yy_T} {sz : Nat} {Qc : Array Value → State → Outcome → State → Prop} (hy : plainName y.cls = true) (hav : (lg_sl av).length ≤ maxL)
    (body : ∀ (p : Program) (e : Env) (s : State) (m : MethodId) (args : Array Value) (below : List Frame) (meth : Method) (c : Code) (ls : Array Slot), s.heap.size = sz → yy_E l D κ ext y bytes maxL ret av τ p e s m args meth c ls → W p l e rm s m args below meth c s.heap [] 0 0 (MQ below Qc args s mc ms (yy_A κ ext sz)) (F0 m 0 ls [])) : Met l y (Cond.code y bytes maxL ret :: gT) rm (yy_Pre D κ ext av sz τ) Qc mc ms (yy_A κ ext sz) := by
  refine Met.ofW (cc := bytes) (maxL := maxL) (ret := ret) hy rfl ?_
  intro p e s m args below meth c s₁ B hml hv
  obtain ⟨rfl, hsz, hP, hK, hD0⟩ := hv
  have hts := atoms_spec (ws := Cond.code y bytes maxL ret :: gT) B.pre
  have hl := lv_entry av (n := maxL) hav
  rw [lg_entry_eq]
  refine body p e s m _ below meth c _ hsz ⟨⟨⟨B.exec, B.bytes, hml, findClass_of_methodNamed B.named, fun w hw => hts w (List.mem_cons_of_mem _ hw)⟩, hK⟩, B.returns, B.notSynchronized, ⟨hP, yy_A_D hD0, va_S.rf, fun q hq => Or.inr (Or.inr hq)⟩, hl⟩
theorem yy_good {w0 : Cond} {ws : List Cond} (h : ∀ w ∈ ws, w ∈ gT) : GoodIn (w0 :: gT) ws := fun w hw => ⟨List.mem_cons_of_mem _ (h w hw), good_of_word (gT_good (h w hw))⟩
theorem yy_goodT {ws : List Cond} (h : ∀ w ∈ ws, w ∈ gT) : GoodIn gT ws := fun w hw => ⟨h w hw, good_of_word (gT_good (h w hw))⟩
section YC
variable {p : Program} {l : Launch} {e : Env} {R : Room} {s : State} {m : MethodId} {args : Array Value} {below : List Frame} {meth : Method} {c : Code} {H : Heap} {locs : List Loc} {cells slots : Nat} {Q : State → Prop}
variable {cc : ByteArray} {nL pc : Nat} {own : String} {ls : Array Slot} {rest st0 : List Value} {D : va_G} {κ : Nat → Nat} {ext : va_W} {A : Nat → Prop} {H0 : Heap} {τ : yy_T} {α β : Type} {res : α × yy_T}
variable {y : MethodName} {bytes : ByteArray} {maxL mc ms index id ci : Nat} {ret : Option FieldType} {rm : Room} {As : List Value} {q : vw_C} {fs : List Value}
/-- the words of a method, and its room at a caller -/
def yy_wV (Cn : String) (y : MethodName) (bytes : ByteArray) (maxL : Nat) (ret : Option FieldType) (n : Nat) : Prop := (Cond.instanceMethod y ∈ gT ∧ Cond.selects Cn y y ∈ gT ∧ Cond.initialized Cn ∈ gT ∧ Cond.code y bytes maxL ret ∈ gT) ∧ y.cls = Cn ∧ y.cls ≠ "java/lang/invoke/MethodHandle" ∧ y.cls ≠ "java/lang/invoke/VarHandle" ∧ (parseMethodDescriptor y.desc).map (fun d => d.parameters.length) = some n
def yy_wS (Cn : String) (y : MethodName) (bytes : ByteArray) (maxL : Nat) (ret : Option FieldType) (n : Nat) : Prop := (Cond.static y ∈ gT ∧ Cond.initialized Cn ∈ gT ∧ Cond.code y bytes maxL ret ∈ gT) ∧ y.cls = Cn ∧ y.cls ≠ "java/lang/invoke/MethodHandle" ∧ y.cls ≠ "java/lang/invoke/VarHandle" ∧ (parseMethodDescriptor y.desc).map (fun d => d.parameters.length) = some n
abbrev yy_rm (R rm : Room) (maxL mc ms cells slots : Nat) : Prop := (rm.cells = mc ∧ rm.slots = ms) ∧ (rm.frames + 1 ≤ R.frames ∧ 8 + (maxL + 11) + rm.locals ≤ R.locals) ∧ cells + mc ≤ R.cells ∧ slots + ms ≤ R.slots
theorem yy_runV {Qc : Array Value → State → Outcome → State → Prop} (C : yy_C D κ p m c cc nL s args own) (Z : yy_Z D κ ext A H0 τ H locs) (hM : Met l y (Cond.code y bytes maxL ret :: gT) rm (yy_Pre D κ ext (.ref (κ 4 + id) :: As) H.size τ) Qc mc ms (yy_A κ ext H.size)) (hid : id < 124) (he : yy_ent κ id (τ id) = .inr (ci, fs)) (hc : yy_cls[ci]? = some q) (hlink : Cond.methodLink own index y ∈ gT) (hw : yy_wV q.1 y bytes maxL ret As.length) (hrm : yy_rm R rm maxL mc ms cells slots) (hls : ls.size = nL) (hst : st0 = As.reverse ++ .ref (κ 4 + id) :: rest) (hW : (rest.map fun v => v.category).sum ≤ 8) (hdg : decode cc pc = .ok (.invokevirtual index, 3)) :
    va_Run p l e R s m args below meth c H locs cells slots mc ms (F0 m pc ls st0) rest (Qc (Value.ref (κ 4 + id) :: As).toArray) (yy_A κ ext H.size) := by
  obtain ⟨hC, hK⟩ := C
  obtain ⟨hP, hD, hS, hA⟩ := Z
  obtain ⟨⟨w1, w2, w3, w4⟩, hd⟩ := hw
  have hG : GoodIn gT (wsV own index q.1 y (Cond.code y bytes maxL ret :: gT)) := yy_goodT (by
    intro w hw
    unfold wsV at hw
    simp only [List.cons_append, List.nil_append, List.mem_cons] at hw
    rcases hw with rfl | rfl | rfl | rfl | rfl | hw
    · exact hlink
    · exact w1
    · exact w2
    · exact w3
    · exact w4
    · exact hw)
  exact va_runV (As := As) (rest := rest) hC hM (cwV As.length hC.2.2.2.2 hG rfl hrm.1.1 hrm.1.2 hd hrm.2.1) ⟨yy_Pre.blind, va_recv hK.1 hP hc (by rw [yy_lay_at hid, he]), fun U hU hW => ⟨rfl, by rw [hU], by rw [hU]; exact hP, hK.warm hW, hD.weaken (fun _ _ _ _ => trivial)⟩⟩ rfl rfl hls hst (lv_room hW) hdg hrm.2.2
theorem yy_runS {Qc : Array Value → State → Outcome → State → Prop} (C : yy_C D κ p m c cc nL s args own) (Z : yy_Z D κ ext A H0 τ H locs) (hM : Met l y (Cond.code y bytes maxL ret :: gT) rm (yy_Pre D κ ext As H.size τ) Qc mc ms (yy_A κ ext H.size)) (hlink : Cond.methodLink own index y ∈ gT) (hw : yy_wS own y bytes maxL ret As.length) (hrm : yy_rm R rm maxL mc ms cells slots) (hls : ls.size = nL) (hst : st0 = As.reverse ++ rest) (hW : (rest.map fun v => v.category).sum ≤ 8) (hdg : decode cc pc = .ok (.invokestatic index, 3)) :
    va_Run p l e R s m args below meth c H locs cells slots mc ms (F0 m pc ls st0) rest (Qc As.toArray) (yy_A κ ext H.size) := by
  obtain ⟨hC, hK⟩ := C
  obtain ⟨hP, hD, hS, hA⟩ := Z
  obtain ⟨⟨w1, w2, w3⟩, hd⟩ := hw
  have hG : GoodIn gT (wsS own index y (Cond.code y bytes maxL ret :: gT)) := yy_goodT (by
    intro w hw
    unfold wsS at hw
    simp only [List.cons_append, List.nil_append, List.mem_cons] at hw
    rcases hw with rfl | rfl | rfl | rfl | hw
    · exact hlink
    · exact w1
    · exact w2
    · exact w3
    · exact hw)
  exact va_runS (As := As) (rest := rest) hC hM (cwS As.length hC.2.2.2.2 hG rfl hrm.1.1 hrm.1.2 hd hrm.2.1) ⟨yy_Pre.blind, fun U hU hW => ⟨rfl, by rw [hU], by rw [hU]; exact hP, hK.warm hW, hD.weaken (fun _ _ _ _ => trivial)⟩⟩ rfl rfl hls hst (lv_room hW) hdg hrm.2.2
/-- a static method of a nest mate -/
theorem yy_runN {Cn : String} {Qc : Array Value → State → Outcome → State → Prop} (C : yy_C D κ p m c cc nL s args own) (Z : yy_Z D κ ext A H0 τ H locs) (hM : Met l y (Cond.code y bytes maxL ret :: gT) rm (yy_Pre D κ ext As H.size τ) Qc mc ms (yy_A κ ext H.size)) (hlink : (own, index, y) ∈ yy_nest) (hw : yy_wS Cn y bytes maxL ret As.length) (hrm : yy_rm R rm maxL mc ms cells slots) (hls : ls.size = nL) (hst : st0 = As.reverse ++ rest) (hW : (rest.map fun v => v.category).sum ≤ 8) (hdg : decode cc pc = .ok (.invokestatic index, 3)) :
    va_Run p l e R s m args below meth c H locs cells slots mc ms (F0 m pc ls st0) rest (Qc As.toArray) (yy_A κ ext H.size) := by
  obtain ⟨hC, hK⟩ := C
  obtain ⟨hP, hD, hS, hA⟩ := Z
  obtain ⟨⟨w1, w2, w3⟩, hd⟩ := hw
  have hG : GoodIn gT (Cond.code y bytes maxL ret :: gT) := yy_goodT (by
    intro w hw
    rcases List.mem_cons.mp hw with rfl | hw
    · exact w3
    · exact hw)
  exact va_runSN (As := As) (rest := rest) (host := "MovedLines") hC hM ⟨va_cnB As.length hC.2.2.2.2 hG rfl hrm.1.1 hrm.1.2 (hK.2 _ hlink) (by rw [hd.1]; exact hC.2.2.2.2 _ w2) hd.2 hrm.2.1, hC.2.2.2.2 _ w1, trivial⟩ ⟨yy_Pre.blind, fun U hU hW => ⟨rfl, by rw [hU], by rw [hU]; exact hP, hK.warm hW, hD.weaken (fun _ _ _ _ => trivial)⟩⟩ rfl rfl hls hst (lv_room hW) hdg hrm.2.2
theorem yy_goi {av : Array Value} {prog : yy_M Int32} {K : Int32 → yy_M α} {rs : Int32 × yy_T} (Z : yy_Z D κ ext A H0 τ H locs) (hr : va_Run p l e R s m args below meth c H locs cells slots mc ms (F0 m pc ls st0) rest (yy_Qi D κ ext (yy_A κ ext H.size) rs av) (yy_A κ ext H.size)) (hK : K rs.1 rs.2 = some res)
    (kk : ∀ (r : Int32) (τ1 : yy_T) (H1 : Heap) (locs1 : List Loc), yy_Z D κ ext A H0 τ1 H1 locs1 → K r τ1 = some res → W p l e R s m args below meth c H1 locs1 (cells + mc) (slots + ms) Q (F0 m (pc + 3) ls (.int r :: rest))) : W p l e R s m args below meth c H locs cells slots Q (F0 m pc ls st0) := by
  obtain ⟨hP, hD, hS, hA⟩ := Z
  have hF := yy_A_in (sz := H.size) hD (fun q h => hA q (Nat.le_trans hS.1 h))
  refine va_calli hr hS (fun q _ h => hF q h) hF (fun r u t H1 locs1 ht hvm hw hB hz1 hk1 hS1 => ?_)
  obtain ⟨hP1, hD1⟩ := hB
  rw [ht] at hP1
  rw [hw]
  exact kk rs.1 rs.2 H1 locs1 ⟨hP1, hD1.weaken (fun _ q _ h => hF q.1 h), hS1, hA⟩ hK
theorem yy_gov {av : Array Value} {K : Unit → yy_M α} {rs : Unit × yy_T} (Z : yy_Z D κ ext A H0 τ H locs) (hr : va_Run p l e R s m args below meth c H locs cells slots mc ms (F0 m pc ls st0) rest (yy_Qv D κ ext (yy_A κ ext H.size) rs av) (yy_A κ ext H.size)) (hK : K rs.1 rs.2 = some res)
    (kk : ∀ (τ1 : yy_T) (H1 : Heap) (locs1 : List Loc), yy_Z D κ ext A H0 τ1 H1 locs1 → K () τ1 = some res → W p l e R s m args below meth c H1 locs1 (cells + mc) (slots + ms) Q (F0 m (pc + 3) ls rest)) : W p l e R s m args below meth c H locs cells slots Q (F0 m pc ls st0) := by
  obtain ⟨hP, hD, hS, hA⟩ := Z
  have hF := yy_A_in (sz := H.size) hD (fun q h => hA q (Nat.le_trans hS.1 h))
  refine va_callv hr hS (fun q _ h => hF q h) hF (fun u t H1 locs1 ht hvm hw hB hz1 hk1 hS1 => ?_)
  obtain ⟨hP1, hD1⟩ := hB
  rw [ht] at hP1
  exact kk rs.2 H1 locs1 ⟨hP1, hD1.weaken (fun _ q _ h => hF q.1 h), hS1, hA⟩ hK
theorem yy_gor {P : Nat → Prop} {av : Array Value} {K : Nat → yy_M α} {rs : Nat × yy_T} (Z : yy_Z D κ ext A H0 τ H locs) (hr : va_Run p l e R s m args below meth c H locs cells slots mc ms (F0 m pc ls st0) rest (yy_Qr P D κ ext (yy_A κ ext H.size) rs av) (yy_A κ ext H.size)) (hK : K rs.1 rs.2 = some res)
    (kk : ∀ (r : Nat) (τ1 : yy_T) (H1 : Heap) (locs1 : List Loc), P r → yy_Z D κ ext A H0 τ1 H1 locs1 → K r τ1 = some res → W p l e R s m args below meth c H1 locs1 (cells + mc) (slots + ms) Q (F0 m (pc + 3) ls (.ref (κ 4 + r) :: rest))) : W p l e R s m args below meth c H locs cells slots Q (F0 m pc ls st0) := by
  obtain ⟨hP, hD, hS, hA⟩ := Z
  have hF := yy_A_in (sz := H.size) hD (fun q h => hA q (Nat.le_trans hS.1 h))
  refine va_callr hr hS (fun q _ h => hF q h) hF (fun u ra t H1 locs1 ht hvm hw hB hz1 hk1 hS1 => ?_)
  obtain ⟨rfl, hP1, hD1⟩ := hB
  rw [ht] at hP1
  exact kk rs.1 rs.2 H1 locs1 hw ⟨hP1, hD1.weaken (fun _ q _ h => hF q.1 h), hS1, hA⟩ hK
--CALLS--
theorem yy_cVi0 {prog : yy_M Int32} {K : Int32 → yy_M α} (C : yy_C D κ p m c cc nL s args own) (Z : yy_Z D κ ext A H0 τ H locs) (hM : yy_Mi l D κ ext y bytes maxL ret rm 0 0 (.ref (κ 4 + id) :: As) prog) (hid : id < 124) (he : yy_ent κ id (τ id) = .inr (ci, fs)) (hc : yy_cls[ci]? = some q) (hlink : Cond.methodLink own index y ∈ gT) (hw : yy_wV q.1 y bytes maxL ret As.length) (hrm : yy_rm R rm maxL 0 0 cells slots) (hls : ls.size = nL) (hst : st0 = As.reverse ++ .ref (κ 4 + id) :: rest) (hW : (rest.map fun v => v.category).sum ≤ 8) (hdg : decode cc pc = .ok (.invokevirtual index, 3)) (h : yy_cl prog K τ = some res)
    (kk : ∀ (r : Int32) (τ1 : yy_T) (H1 : Heap) (locs1 : List Loc), yy_Z D κ ext A H0 τ1 H1 locs1 → K r τ1 = some res → W p l e R s m args below meth c H1 locs1 cells slots Q (F0 m (pc + 3) ls (.int r :: rest))) : W p l e R s m args below meth c H locs cells slots Q (F0 m pc ls st0) := by
  obtain ⟨r, τ1, hp, hK⟩ := yy_cl_of h
  exact yy_goi (prog := prog) (rs := (r, τ1)) Z (yy_runV C Z (hM H.size τ (r, τ1) hp) hid he hc hlink hw hrm hls hst hW hdg) hK kk
theorem yy_cVi {prog : yy_M Int32} {K : Int32 → yy_M α} (C : yy_C D κ p m c cc nL s args own) (Z : yy_Z D κ ext A H0 τ H locs) (hM : yy_Mi l D κ ext y bytes maxL ret rm mc ms (.ref (κ 4 + id) :: As) prog) (hid : id < 124) (he : yy_ent κ id (τ id) = .inr (ci, fs)) (hc : yy_cls[ci]? = some q) (hlink : Cond.methodLink own index y ∈ gT) (hw : yy_wV q.1 y bytes maxL ret As.length) (hrm : yy_rm R rm maxL mc ms cells slots) (hls : ls.size = nL) (hst : st0 = As.reverse ++ .ref (κ 4 + id) :: rest) (hW : (rest.map fun v => v.category).sum ≤ 8) (hdg : decode cc pc = .ok (.invokevirtual index, 3)) (h : yy_cl prog K τ = some res)
    (kk : ∀ (r : Int32) (τ1 : yy_T) (H1 : Heap) (locs1 : List Loc), yy_Z D κ ext A H0 τ1 H1 locs1 → K r τ1 = some res → W p l e R s m args below meth c H1 locs1 (cells + mc) (slots + ms) Q (F0 m (pc + 3) ls (.int r :: rest))) : W p l e R s m args below meth c H locs cells slots Q (F0 m pc ls st0) := by
  obtain ⟨r, τ1, hp, hK⟩ := yy_cl_of h
  exact yy_goi (prog := prog) (rs := (r, τ1)) Z (yy_runV C Z (hM H.size τ (r, τ1) hp) hid he hc hlink hw hrm hls hst hW hdg) hK kk
theorem yy_cVv0 {prog : yy_M Unit} {K : Unit → yy_M α} (C : yy_C D κ p m c cc nL s args own) (Z : yy_Z D κ ext A H0 τ H locs) (hM : yy_Mv l D κ ext y bytes maxL ret rm 0 0 (.ref (κ 4 + id) :: As) prog) (hid : id < 124) (he : yy_ent κ id (τ id) = .inr (ci, fs)) (hc : yy_cls[ci]? = some q) (hlink : Cond.methodLink own index y ∈ gT) (hw : yy_wV q.1 y bytes maxL ret As.length) (hrm : yy_rm R rm maxL 0 0 cells slots) (hls : ls.size = nL) (hst : st0 = As.reverse ++ .ref (κ 4 + id) :: rest) (hW : (rest.map fun v => v.category).sum ≤ 8) (hdg : decode cc pc = .ok (.invokevirtual index, 3)) (h : yy_cl prog K τ = some res)
    (kk : ∀ (τ1 : yy_T) (H1 : Heap) (locs1 : List Loc), yy_Z D κ ext A H0 τ1 H1 locs1 → K () τ1 = some res → W p l e R s m args below meth c H1 locs1 cells slots Q (F0 m (pc + 3) ls rest)) : W p l e R s m args below meth c H locs cells slots Q (F0 m pc ls st0) := by
  obtain ⟨r, τ1, hp, hK⟩ := yy_cl_of h
  exact yy_gov (rs := (r, τ1)) Z (yy_runV C Z (hM H.size τ (r, τ1) hp) hid he hc hlink hw hrm hls hst hW hdg) hK kk
theorem yy_cVv {prog : yy_M Unit} {K : Unit → yy_M α} (C : yy_C D κ p m c cc nL s args own) (Z : yy_Z D κ ext A H0 τ H locs) (hM : yy_Mv l D κ ext y bytes maxL ret rm mc ms (.ref (κ 4 + id) :: As) prog) (hid : id < 124) (he : yy_ent κ id (τ id) = .inr (ci, fs)) (hc : yy_cls[ci]? = some q) (hlink : Cond.methodLink own index y ∈ gT) (hw : yy_wV q.1 y bytes maxL ret As.length) (hrm : yy_rm R rm maxL mc ms cells slots) (hls : ls.size = nL) (hst : st0 = As.reverse ++ .ref (κ 4 + id) :: rest) (hW : (rest.map fun v => v.category).sum ≤ 8) (hdg : decode cc pc = .ok (.invokevirtual index, 3)) (h : yy_cl prog K τ = some res)
    (kk : ∀ (τ1 : yy_T) (H1 : Heap) (locs1 : List Loc), yy_Z D κ ext A H0 τ1 H1 locs1 → K () τ1 = some res → W p l e R s m args below meth c H1 locs1 (cells + mc) (slots + ms) Q (F0 m (pc + 3) ls rest)) : W p l e R s m args below meth c H locs cells slots Q (F0 m pc ls st0) := by
  obtain ⟨r, τ1, hp, hK⟩ := yy_cl_of h
  exact yy_gov (rs := (r, τ1)) Z (yy_runV C Z (hM H.size τ (r, τ1) hp) hid he hc hlink hw hrm hls hst hW hdg) hK kk
theorem yy_cVr0 {P : Nat → Prop} {prog : yy_M Nat} {K : Nat → yy_M α} (C : yy_C D κ p m c cc nL s args own) (Z : yy_Z D κ ext A H0 τ H locs) (hM : yy_Mr P l D κ ext y bytes maxL ret rm 0 0 (.ref (κ 4 + id) :: As) prog) (hid : id < 124) (he : yy_ent κ id (τ id) = .inr (ci, fs)) (hc : yy_cls[ci]? = some q) (hlink : Cond.methodLink own index y ∈ gT) (hw : yy_wV q.1 y bytes maxL ret As.length) (hrm : yy_rm R rm maxL 0 0 cells slots) (hls : ls.size = nL) (hst : st0 = As.reverse ++ .ref (κ 4 + id) :: rest) (hW : (rest.map fun v => v.category).sum ≤ 8) (hdg : decode cc pc = .ok (.invokevirtual index, 3)) (h : yy_cl prog K τ = some res)
    (kk : ∀ (r : Nat) (τ1 : yy_T) (H1 : Heap) (locs1 : List Loc), P r → yy_Z D κ ext A H0 τ1 H1 locs1 → K r τ1 = some res → W p l e R s m args below meth c H1 locs1 cells slots Q (F0 m (pc + 3) ls (.ref (κ 4 + r) :: rest))) : W p l e R s m args below meth c H locs cells slots Q (F0 m pc ls st0) := by
  obtain ⟨r, τ1, hp, hK⟩ := yy_cl_of h
  exact yy_gor (rs := (r, τ1)) Z (yy_runV C Z (hM H.size τ (r, τ1) hp) hid he hc hlink hw hrm hls hst hW hdg) hK kk
theorem yy_cVr {P : Nat → Prop} {prog : yy_M Nat} {K : Nat → yy_M α} (C : yy_C D κ p m c cc nL s args own) (Z : yy_Z D κ ext A H0 τ H locs) (hM : yy_Mr P l D κ ext y bytes maxL ret rm mc ms (.ref (κ 4 + id) :: As) prog) (hid : id < 124) (he : yy_ent κ id (τ id) = .inr (ci, fs)) (hc : yy_cls[ci]? = some q) (hlink : Cond.methodLink own index y ∈ gT) (hw : yy_wV q.1 y bytes maxL ret As.length) (hrm : yy_rm R rm maxL mc ms cells slots) (hls : ls.size = nL) (hst : st0 = As.reverse ++ .ref (κ 4 + id) :: rest) (hW : (rest.map fun v => v.category).sum ≤ 8) (hdg : decode cc pc = .ok (.invokevirtual index, 3)) (h : yy_cl prog K τ = some res)
    (kk : ∀ (r : Nat) (τ1 : yy_T) (H1 : Heap) (locs1 : List Loc), P r → yy_Z D κ ext A H0 τ1 H1 locs1 → K r τ1 = some res → W p l e R s m args below meth c H1 locs1 (cells + mc) (slots + ms) Q (F0 m (pc + 3) ls (.ref (κ 4 + r) :: rest))) : W p l e R s m args below meth c H locs cells slots Q (F0 m pc ls st0) := by
  obtain ⟨r, τ1, hp, hK⟩ := yy_cl_of h
  exact yy_gor (rs := (r, τ1)) Z (yy_runV C Z (hM H.size τ (r, τ1) hp) hid he hc hlink hw hrm hls hst hW hdg) hK kk
theorem yy_cSi0 {prog : yy_M Int32} {K : Int32 → yy_M α} (C : yy_C D κ p m c cc nL s args own) (Z : yy_Z D κ ext A H0 τ H locs) (hM : yy_Mi l D κ ext y bytes maxL ret rm 0 0 As prog) (hlink : Cond.methodLink own index y ∈ gT) (hw : yy_wS own y bytes maxL ret As.length) (hrm : yy_rm R rm maxL 0 0 cells slots) (hls : ls.size = nL) (hst : st0 = As.reverse ++ rest) (hW : (rest.map fun v => v.category).sum ≤ 8) (hdg : decode cc pc = .ok (.invokestatic index, 3)) (h : yy_cl prog K τ = some res)
    (kk : ∀ (r : Int32) (τ1 : yy_T) (H1 : Heap) (locs1 : List Loc), yy_Z D κ ext A H0 τ1 H1 locs1 → K r τ1 = some res → W p l e R s m args below meth c H1 locs1 cells slots Q (F0 m (pc + 3) ls (.int r :: rest))) : W p l e R s m args below meth c H locs cells slots Q (F0 m pc ls st0) := by
  obtain ⟨r, τ1, hp, hK⟩ := yy_cl_of h
  exact yy_goi (prog := prog) (rs := (r, τ1)) Z (yy_runS C Z (hM H.size τ (r, τ1) hp) hlink hw hrm hls hst hW hdg) hK kk
theorem yy_cSi {prog : yy_M Int32} {K : Int32 → yy_M α} (C : yy_C D κ p m c cc nL s args own) (Z : yy_Z D κ ext A H0 τ H locs) (hM : yy_Mi l D κ ext y bytes maxL ret rm mc ms As prog) (hlink : Cond.methodLink own index y ∈ gT) (hw : yy_wS own y bytes maxL ret As.length) (hrm : yy_rm R rm maxL mc ms cells slots) (hls : ls.size = nL) (hst : st0 = As.reverse ++ rest) (hW : (rest.map fun v => v.category).sum ≤ 8) (hdg : decode cc pc = .ok (.invokestatic index, 3)) (h : yy_cl prog K τ = some res)
    (kk : ∀ (r : Int32) (τ1 : yy_T) (H1 : Heap) (locs1 : List Loc), yy_Z D κ ext A H0 τ1 H1 locs1 → K r τ1 = some res → W p l e R s m args below meth c H1 locs1 (cells + mc) (slots + ms) Q (F0 m (pc + 3) ls (.int r :: rest))) : W p l e R s m args below meth c H locs cells slots Q (F0 m pc ls st0) := by
  obtain ⟨r, τ1, hp, hK⟩ := yy_cl_of h
  exact yy_goi (prog := prog) (rs := (r, τ1)) Z (yy_runS C Z (hM H.size τ (r, τ1) hp) hlink hw hrm hls hst hW hdg) hK kk
theorem yy_cSv0 {prog : yy_M Unit} {K : Unit → yy_M α} (C : yy_C D κ p m c cc nL s args own) (Z : yy_Z D κ ext A H0 τ H locs) (hM : yy_Mv l D κ ext y bytes maxL ret rm 0 0 As prog) (hlink : Cond.methodLink own index y ∈ gT) (hw : yy_wS own y bytes maxL ret As.length) (hrm : yy_rm R rm maxL 0 0 cells slots) (hls : ls.size = nL) (hst : st0 = As.reverse ++ rest) (hW : (rest.map fun v => v.category).sum ≤ 8) (hdg : decode cc pc = .ok (.invokestatic index, 3)) (h : yy_cl prog K τ = some res)
    (kk : ∀ (τ1 : yy_T) (H1 : Heap) (locs1 : List Loc), yy_Z D κ ext A H0 τ1 H1 locs1 → K () τ1 = some res → W p l e R s m args below meth c H1 locs1 cells slots Q (F0 m (pc + 3) ls rest)) : W p l e R s m args below meth c H locs cells slots Q (F0 m pc ls st0) := by
  obtain ⟨r, τ1, hp, hK⟩ := yy_cl_of h
  exact yy_gov (rs := (r, τ1)) Z (yy_runS C Z (hM H.size τ (r, τ1) hp) hlink hw hrm hls hst hW hdg) hK kk
theorem yy_cSv {prog : yy_M Unit} {K : Unit → yy_M α} (C : yy_C D κ p m c cc nL s args own) (Z : yy_Z D κ ext A H0 τ H locs) (hM : yy_Mv l D κ ext y bytes maxL ret rm mc ms As prog) (hlink : Cond.methodLink own index y ∈ gT) (hw : yy_wS own y bytes maxL ret As.length) (hrm : yy_rm R rm maxL mc ms cells slots) (hls : ls.size = nL) (hst : st0 = As.reverse ++ rest) (hW : (rest.map fun v => v.category).sum ≤ 8) (hdg : decode cc pc = .ok (.invokestatic index, 3)) (h : yy_cl prog K τ = some res)
    (kk : ∀ (τ1 : yy_T) (H1 : Heap) (locs1 : List Loc), yy_Z D κ ext A H0 τ1 H1 locs1 → K () τ1 = some res → W p l e R s m args below meth c H1 locs1 (cells + mc) (slots + ms) Q (F0 m (pc + 3) ls rest)) : W p l e R s m args below meth c H locs cells slots Q (F0 m pc ls st0) := by
  obtain ⟨r, τ1, hp, hK⟩ := yy_cl_of h
  exact yy_gov (rs := (r, τ1)) Z (yy_runS C Z (hM H.size τ (r, τ1) hp) hlink hw hrm hls hst hW hdg) hK kk
theorem yy_cNi0 {Cn : String} {prog : yy_M Int32} {K : Int32 → yy_M α} (C : yy_C D κ p m c cc nL s args own) (Z : yy_Z D κ ext A H0 τ H locs) (hM : yy_Mi l D κ ext y bytes maxL ret rm 0 0 As prog) (hlink : (own, index, y) ∈ yy_nest) (hw : yy_wS Cn y bytes maxL ret As.length) (hrm : yy_rm R rm maxL 0 0 cells slots) (hls : ls.size = nL) (hst : st0 = As.reverse ++ rest) (hW : (rest.map fun v => v.category).sum ≤ 8) (hdg : decode cc pc = .ok (.invokestatic index, 3)) (h : yy_cl prog K τ = some res)
    (kk : ∀ (r : Int32) (τ1 : yy_T) (H1 : Heap) (locs1 : List Loc), yy_Z D κ ext A H0 τ1 H1 locs1 → K r τ1 = some res → W p l e R s m args below meth c H1 locs1 cells slots Q (F0 m (pc + 3) ls (.int r :: rest))) : W p l e R s m args below meth c H locs cells slots Q (F0 m pc ls st0) := by
  obtain ⟨r, τ1, hp, hK⟩ := yy_cl_of h
  exact yy_goi (prog := prog) (rs := (r, τ1)) Z (yy_runN C Z (hM H.size τ (r, τ1) hp) hlink hw hrm hls hst hW hdg) hK kk
theorem yy_cNi {Cn : String} {prog : yy_M Int32} {K : Int32 → yy_M α} (C : yy_C D κ p m c cc nL s args own) (Z : yy_Z D κ ext A H0 τ H locs) (hM : yy_Mi l D κ ext y bytes maxL ret rm mc ms As prog) (hlink : (own, index, y) ∈ yy_nest) (hw : yy_wS Cn y bytes maxL ret As.length) (hrm : yy_rm R rm maxL mc ms cells slots) (hls : ls.size = nL) (hst : st0 = As.reverse ++ rest) (hW : (rest.map fun v => v.category).sum ≤ 8) (hdg : decode cc pc = .ok (.invokestatic index, 3)) (h : yy_cl prog K τ = some res)
    (kk : ∀ (r : Int32) (τ1 : yy_T) (H1 : Heap) (locs1 : List Loc), yy_Z D κ ext A H0 τ1 H1 locs1 → K r τ1 = some res → W p l e R s m args below meth c H1 locs1 (cells + mc) (slots + ms) Q (F0 m (pc + 3) ls (.int r :: rest))) : W p l e R s m args below meth c H locs cells slots Q (F0 m pc ls st0) := by
  obtain ⟨r, τ1, hp, hK⟩ := yy_cl_of h
  exact yy_goi (prog := prog) (rs := (r, τ1)) Z (yy_runN C Z (hM H.size τ (r, τ1) hp) hlink hw hrm hls hst hW hdg) hK kk
theorem yy_rt_of {α : Type} {v : α} {τ : yy_T} {res : α × yy_T} (h : yy_rt v τ = some res) : res = (v, τ) := (Option.some.inj h).symm
theorem yy_nar_z {v : Int32} (h : v = 0 ∨ v = 1) : narrow .boolean (.int v) = .int v := by
  rcases h with rfl | rfl <;> rfl
theorem yy_ck_of {α : Type} {c : Prop} [Decidable c] {K : yy_M α} {τ : yy_T} {res : α × yy_T} (h : yy_ck c K τ = some res) : c ∧ K τ = some res := by
  unfold yy_ck at h
  by_cases hc : c
  · rw [if_pos hc] at h; exact ⟨hc, h⟩
  · rw [if_neg hc] at h; cases h
theorem yy_iret {v : Int32} {ty : FieldType} {res : Int32 × yy_T} (C : yy_C D κ p m c cc nL s args own) (Z : yy_Z D κ ext A s.heap τ H locs) (hr : meth.sig.returnType = some ty) (hlocks : meth.locks = false) (hn : narrow ty (.int v) = .int v) (hdg : decode cc pc = .ok (.ireturn, 1)) (h : yy_rt v τ = some res) : W p l e R s m args below meth c H locs cells slots (MQ below (yy_Qi D κ ext A res) args s cells slots A) (F0 m pc ls [.int v]) := by
  obtain ⟨⟨hx, hb, hml, hown, hts⟩, hK⟩ := C
  obtain ⟨hP, hD, hS, hA⟩ := Z
  rw [yy_rt_of h]
  exact W.zret hx hb hr hn (fun t ht hW => ⟨⟨v, (), rfl, rfl, by rw [ht]; exact hP, hD⟩, hS.F ht⟩) hS.2.2 hdg
theorem yy_zret {v : Int32} {res : Int32 × yy_T} (C : yy_C D κ p m c cc nL s args own) (Z : yy_Z D κ ext A s.heap τ H locs) (hr : meth.sig.returnType = some .boolean) (hlocks : meth.locks = false) (hdg : decode cc pc = .ok (.ireturn, 1)) (h : yy_ck (v = 0 ∨ v = 1) (yy_rt v) τ = some res) : W p l e R s m args below meth c H locs cells slots (MQ below (yy_Qi D κ ext A res) args s cells slots A) (F0 m pc ls [.int v]) :=
  yy_iret C Z hr hlocks (yy_nar_z (yy_ck_of h).1) hdg (yy_ck_of h).2
theorem yy_vret {res : Unit × yy_T} (C : yy_C D κ p m c cc nL s args own) (Z : yy_Z D κ ext A s.heap τ H locs) (hr : meth.sig.returnType = none) (hlocks : meth.locks = false) (hdg : decode cc pc = .ok (.return_, 1)) (h : yy_rt () τ = some res) : W p l e R s m args below meth c H locs cells slots (MQ below (yy_Qv D κ ext A res) args s cells slots A) (F0 m pc ls []) := by
  obtain ⟨⟨hx, hb, hml, hown, hts⟩, hK⟩ := C
  obtain ⟨hP, hD, hS, hA⟩ := Z
  rw [yy_rt_of h]
  exact W.vret hx hb hr (fun t ht hW => ⟨⟨(), rfl, trivial, by rw [ht]; exact hP, hD⟩, hS.F ht⟩) hS.2.2 hdg
theorem yy_aret {P : Nat → Prop} {r : Nat} {cn : String} {res : Nat × yy_T} (C : yy_C D κ p m c cc nL s args own) (Z : yy_Z D κ ext A s.heap τ H locs) (hr : meth.sig.returnType = some (.object cn)) (hlocks : meth.locks = false) (hp : P r) (hdg : decode cc pc = .ok (.areturn, 1)) (h : yy_rt r τ = some res) : W p l e R s m args below meth c H locs cells slots (MQ below (yy_Qr P D κ ext A res) args s cells slots A) (F0 m pc ls [.ref (κ 4 + r)]) := by
  obtain ⟨⟨hx, hb, hml, hown, hts⟩, hK⟩ := C
  obtain ⟨hP, hD, hS, hA⟩ := Z
  rw [yy_rt_of h]
  exact W.aret hx hb hr (Or.inl ⟨_, rfl⟩) (Or.inr ⟨_, rfl⟩) (fun t ht hW => ⟨⟨(), κ 4 + r, rfl, hp, rfl, by rw [ht]; exact hP, hD⟩, hS.F ht⟩) hS.2.2 hdg
theorem yy_if_eq {x : Int32} {off : Int} {tgt : Nat} {K1 K2 : yy_M α} (C : yy_C D κ p m c cc nL s args own) (hdg : decode cc pc = .ok (.ifCond .eq off, 3)) (ht : (pc : Int) + off = (tgt : Int)) (h : yy_br (x = 0) K1 K2 τ = some res) (kt : K1 τ = some res → W p l e R s m args below meth c H locs cells slots Q (F0 m tgt ls rest)) (kf : K2 τ = some res → W p l e R s m args below meth c H locs cells slots Q (F0 m (pc + 3) ls rest)) : W p l e R s m args below meth c H locs cells slots Q (F0 m pc ls (.int x :: rest)) :=
  lv_if_eq C.1.1 C.1.2.1 hdg ht (fun hc => kt (by unfold yy_br at h; rw [if_pos hc] at h; exact h)) (fun hc => kf (by unfold yy_br at h; rw [if_neg hc] at h; exact h))
theorem yy_if_ne {x : Int32} {off : Int} {tgt : Nat} {K1 K2 : yy_M α} (C : yy_C D κ p m c cc nL s args own) (hdg : decode cc pc = .ok (.ifCond .ne off, 3)) (ht : (pc : Int) + off = (tgt : Int)) (h : yy_br (x = 0) K2 K1 τ = some res) (kt : K1 τ = some res → W p l e R s m args below meth c H locs cells slots Q (F0 m tgt ls rest)) (kf : K2 τ = some res → W p l e R s m args below meth c H locs cells slots Q (F0 m (pc + 3) ls rest)) : W p l e R s m args below meth c H locs cells slots Q (F0 m pc ls (.int x :: rest)) :=
  lv_if_ne C.1.1 C.1.2.1 hdg ht (fun hc => kt (by unfold yy_br at h; rw [if_neg hc] at h; exact h)) (fun hc => kf (by unfold yy_br at h; rw [if_pos hc] at h; exact h))
theorem yy_if_lt {x : Int32} {off : Int} {tgt : Nat} {K1 K2 : yy_M α} (C : yy_C D κ p m c cc nL s args own) (hdg : decode cc pc = .ok (.ifCond .lt off, 3)) (ht : (pc : Int) + off = (tgt : Int)) (h : yy_br (x < 0) K1 K2 τ = some res) (kt : K1 τ = some res → W p l e R s m args below meth c H locs cells slots Q (F0 m tgt ls rest)) (kf : K2 τ = some res → W p l e R s m args below meth c H locs cells slots Q (F0 m (pc + 3) ls rest)) : W p l e R s m args below meth c H locs cells slots Q (F0 m pc ls (.int x :: rest)) :=
  lv_if_lt C.1.1 C.1.2.1 hdg ht (fun hc => kt (by unfold yy_br at h; rw [if_pos hc] at h; exact h)) (fun hc => kf (by unfold yy_br at h; rw [if_neg hc] at h; exact h))
theorem yy_if_ge {x : Int32} {off : Int} {tgt : Nat} {K1 K2 : yy_M α} (C : yy_C D κ p m c cc nL s args own) (hdg : decode cc pc = .ok (.ifCond .ge off, 3)) (ht : (pc : Int) + off = (tgt : Int)) (h : yy_br (0 ≤ x) K1 K2 τ = some res) (kt : K1 τ = some res → W p l e R s m args below meth c H locs cells slots Q (F0 m tgt ls rest)) (kf : K2 τ = some res → W p l e R s m args below meth c H locs cells slots Q (F0 m (pc + 3) ls rest)) : W p l e R s m args below meth c H locs cells slots Q (F0 m pc ls (.int x :: rest)) :=
  lv_if_ge C.1.1 C.1.2.1 hdg ht (fun hc => kt (by unfold yy_br at h; rw [if_pos hc] at h; exact h)) (fun hc => kf (by unfold yy_br at h; rw [if_neg hc] at h; exact h))
theorem yy_if_gt {x : Int32} {off : Int} {tgt : Nat} {K1 K2 : yy_M α} (C : yy_C D κ p m c cc nL s args own) (hdg : decode cc pc = .ok (.ifCond .gt off, 3)) (ht : (pc : Int) + off = (tgt : Int)) (h : yy_br (0 < x) K1 K2 τ = some res) (kt : K1 τ = some res → W p l e R s m args below meth c H locs cells slots Q (F0 m tgt ls rest)) (kf : K2 τ = some res → W p l e R s m args below meth c H locs cells slots Q (F0 m (pc + 3) ls rest)) : W p l e R s m args below meth c H locs cells slots Q (F0 m pc ls (.int x :: rest)) :=
  lv_if_gt C.1.1 C.1.2.1 hdg ht (fun hc => kt (by unfold yy_br at h; rw [if_pos hc] at h; exact h)) (fun hc => kf (by unfold yy_br at h; rw [if_neg hc] at h; exact h))
theorem yy_if_le {x : Int32} {off : Int} {tgt : Nat} {K1 K2 : yy_M α} (C : yy_C D κ p m c cc nL s args own) (hdg : decode cc pc = .ok (.ifCond .le off, 3)) (ht : (pc : Int) + off = (tgt : Int)) (h : yy_br (x ≤ 0) K1 K2 τ = some res) (kt : K1 τ = some res → W p l e R s m args below meth c H locs cells slots Q (F0 m tgt ls rest)) (kf : K2 τ = some res → W p l e R s m args below meth c H locs cells slots Q (F0 m (pc + 3) ls rest)) : W p l e R s m args below meth c H locs cells slots Q (F0 m pc ls (.int x :: rest)) :=
  lv_if_le C.1.1 C.1.2.1 hdg ht (fun hc => kt (by unfold yy_br at h; rw [if_pos hc] at h; exact h)) (fun hc => kf (by unfold yy_br at h; rw [if_neg hc] at h; exact h))
theorem yy_icmp_eq {x y : Int32} {off : Int} {tgt : Nat} {K1 K2 : yy_M α} (C : yy_C D κ p m c cc nL s args own) (hdg : decode cc pc = .ok (.if_icmp .eq off, 3)) (ht : (pc : Int) + off = (tgt : Int)) (h : yy_br (x = y) K1 K2 τ = some res) (kt : K1 τ = some res → W p l e R s m args below meth c H locs cells slots Q (F0 m tgt ls rest)) (kf : K2 τ = some res → W p l e R s m args below meth c H locs cells slots Q (F0 m (pc + 3) ls rest)) : W p l e R s m args below meth c H locs cells slots Q (F0 m pc ls (.int y :: .int x :: rest)) :=
  lv_icmp_eq C.1.1 C.1.2.1 hdg ht (fun hc => kt (by unfold yy_br at h; rw [if_pos hc] at h; exact h)) (fun hc => kf (by unfold yy_br at h; rw [if_neg hc] at h; exact h))
theorem yy_icmp_ne {x y : Int32} {off : Int} {tgt : Nat} {K1 K2 : yy_M α} (C : yy_C D κ p m c cc nL s args own) (hdg : decode cc pc = .ok (.if_icmp .ne off, 3)) (ht : (pc : Int) + off = (tgt : Int)) (h : yy_br (x = y) K2 K1 τ = some res) (kt : K1 τ = some res → W p l e R s m args below meth c H locs cells slots Q (F0 m tgt ls rest)) (kf : K2 τ = some res → W p l e R s m args below meth c H locs cells slots Q (F0 m (pc + 3) ls rest)) : W p l e R s m args below meth c H locs cells slots Q (F0 m pc ls (.int y :: .int x :: rest)) :=
  lv_icmp_ne C.1.1 C.1.2.1 hdg ht (fun hc => kt (by unfold yy_br at h; rw [if_neg hc] at h; exact h)) (fun hc => kf (by unfold yy_br at h; rw [if_pos hc] at h; exact h))
theorem yy_icmp_lt {x y : Int32} {off : Int} {tgt : Nat} {K1 K2 : yy_M α} (C : yy_C D κ p m c cc nL s args own) (hdg : decode cc pc = .ok (.if_icmp .lt off, 3)) (ht : (pc : Int) + off = (tgt : Int)) (h : yy_br (x < y) K1 K2 τ = some res) (kt : K1 τ = some res → W p l e R s m args below meth c H locs cells slots Q (F0 m tgt ls rest)) (kf : K2 τ = some res → W p l e R s m args below meth c H locs cells slots Q (F0 m (pc + 3) ls rest)) : W p l e R s m args below meth c H locs cells slots Q (F0 m pc ls (.int y :: .int x :: rest)) :=
  lv_icmp_lt C.1.1 C.1.2.1 hdg ht (fun hc => kt (by unfold yy_br at h; rw [if_pos hc] at h; exact h)) (fun hc => kf (by unfold yy_br at h; rw [if_neg hc] at h; exact h))
theorem yy_icmp_ge {x y : Int32} {off : Int} {tgt : Nat} {K1 K2 : yy_M α} (C : yy_C D κ p m c cc nL s args own) (hdg : decode cc pc = .ok (.if_icmp .ge off, 3)) (ht : (pc : Int) + off = (tgt : Int)) (h : yy_br (y ≤ x) K1 K2 τ = some res) (kt : K1 τ = some res → W p l e R s m args below meth c H locs cells slots Q (F0 m tgt ls rest)) (kf : K2 τ = some res → W p l e R s m args below meth c H locs cells slots Q (F0 m (pc + 3) ls rest)) : W p l e R s m args below meth c H locs cells slots Q (F0 m pc ls (.int y :: .int x :: rest)) :=
  lv_icmp_ge C.1.1 C.1.2.1 hdg ht (fun hc => kt (by unfold yy_br at h; rw [if_pos hc] at h; exact h)) (fun hc => kf (by unfold yy_br at h; rw [if_neg hc] at h; exact h))
theorem yy_icmp_gt {x y : Int32} {off : Int} {tgt : Nat} {K1 K2 : yy_M α} (C : yy_C D κ p m c cc nL s args own) (hdg : decode cc pc = .ok (.if_icmp .gt off, 3)) (ht : (pc : Int) + off = (tgt : Int)) (h : yy_br (y < x) K1 K2 τ = some res) (kt : K1 τ = some res → W p l e R s m args below meth c H locs cells slots Q (F0 m tgt ls rest)) (kf : K2 τ = some res → W p l e R s m args below meth c H locs cells slots Q (F0 m (pc + 3) ls rest)) : W p l e R s m args below meth c H locs cells slots Q (F0 m pc ls (.int y :: .int x :: rest)) :=
  lv_icmp_gt C.1.1 C.1.2.1 hdg ht (fun hc => kt (by unfold yy_br at h; rw [if_pos hc] at h; exact h)) (fun hc => kf (by unfold yy_br at h; rw [if_neg hc] at h; exact h))
theorem yy_icmp_le {x y : Int32} {off : Int} {tgt : Nat} {K1 K2 : yy_M α} (C : yy_C D κ p m c cc nL s args own) (hdg : decode cc pc = .ok (.if_icmp .le off, 3)) (ht : (pc : Int) + off = (tgt : Int)) (h : yy_br (x ≤ y) K1 K2 τ = some res) (kt : K1 τ = some res → W p l e R s m args below meth c H locs cells slots Q (F0 m tgt ls rest)) (kf : K2 τ = some res → W p l e R s m args below meth c H locs cells slots Q (F0 m (pc + 3) ls rest)) : W p l e R s m args below meth c H locs cells slots Q (F0 m pc ls (.int y :: .int x :: rest)) :=
  lv_icmp_le C.1.1 C.1.2.1 hdg ht (fun hc => kt (by unfold yy_br at h; rw [if_pos hc] at h; exact h)) (fun hc => kf (by unfold yy_br at h; rw [if_neg hc] at h; exact h))
end YC
end
section
section YF
variable {p : Program} {l : Launch} {e : Env} {R : Room} {s : State} {m : MethodId} {args : Array Value} {below : List Frame} {meth : Method} {c : Code} {H : Heap} {locs : List Loc} {cells slots : Nat} {Q : State → Prop}
variable {cc : ByteArray} {nL pc index : Nat} {own : String} {ls : Array Slot} {rest : List Value} {D : va_G} {κ : Nat → Nat} {ext : va_W} {A : Nat → Prop} {H0 : Heap} {τ : yy_T} {α : Type} {res : α × yy_T}
theorem yg_X0_0 (C : yy_C D κ p m c cc nL s args own) (Z : yy_Z D κ ext A H0 τ H locs) {k : Nat} (hk : k ∈ yy_Crs) (hlink : Cond.fieldLink own index RX0 "first" "[I" ∈ gT) (hdg : decode cc pc = .ok (.getfield index, 3)) (kk : W p l e R s m args below meth c H locs cells slots Q (F0 m (pc + 3) ls (.ref (κ 4 + (k + 1)) :: rest))) : W p l e R s m args below meth c H locs cells slots Q (F0 m pc ls (.ref (κ 4 + k) :: rest)) :=
  yy_get C Z (k := 0) (yy_Crs_lt k hk) (yy_ent_Crs hk _) rfl inX0 (by decide) rfl hlink rfl hdg kk
theorem yg_X0_1 (C : yy_C D κ p m c cc nL s args own) (Z : yy_Z D κ ext A H0 τ H locs) {k : Nat} (hk : k ∈ yy_Crs) (hlink : Cond.fieldLink own index RX0 "second" "[I" ∈ gT) (hdg : decode cc pc = .ok (.getfield index, 3)) (kk : W p l e R s m args below meth c H locs cells slots Q (F0 m (pc + 3) ls (.ref (κ 4 + (k + 2)) :: rest))) : W p l e R s m args below meth c H locs cells slots Q (F0 m pc ls (.ref (κ 4 + k) :: rest)) :=
  yy_get C Z (k := 1) (yy_Crs_lt k hk) (yy_ent_Crs hk _) rfl inX0 (by decide) rfl hlink rfl hdg kk
theorem yg_X0_2 (C : yy_C D κ p m c cc nL s args own) (Z : yy_Z D κ ext A H0 τ H locs) {k : Nat} (hk : k ∈ yy_Crs) (hlink : Cond.fieldLink own index RX0 "longest" "[I" ∈ gT) (hdg : decode cc pc = .ok (.getfield index, 3)) (kk : W p l e R s m args below meth c H locs cells slots Q (F0 m (pc + 3) ls (.ref (κ 4 + (k + 3)) :: rest))) : W p l e R s m args below meth c H locs cells slots Q (F0 m pc ls (.ref (κ 4 + k) :: rest)) :=
  yy_get C Z (k := 2) (yy_Crs_lt k hk) (yy_ent_Crs hk _) rfl inX0 (by decide) rfl hlink rfl hdg kk
theorem yg_X0_3 (C : yy_C D κ p m c cc nL s args own) (Z : yy_Z D κ ext A H0 τ H locs) {k : Nat} (hk : k ∈ yy_Crs) (hlink : Cond.fieldLink own index RX0 "firsts" "I" ∈ gT) (hdg : decode cc pc = .ok (.getfield index, 3)) {K : Int32 → yy_M α} (h : yy_rF k 3 K τ = some res) (kk : ∀ v : Int32, K v τ = some res → W p l e R s m args below meth c H locs cells slots Q (F0 m (pc + 3) ls (.int v :: rest))) : W p l e R s m args below meth c H locs cells slots Q (F0 m pc ls (.ref (κ 4 + k) :: rest)) :=
  yy_get C Z (k := 3) (yy_Crs_lt k hk) (yy_ent_Crs hk _) rfl inX0 (by decide) rfl hlink rfl hdg (kk _ h)
theorem yp_X0_3 (C : yy_C D κ p m c cc nL s args own) (Z : yy_Z D κ ext A H0 τ H locs) {k : Nat} (hk : k ∈ yy_Crs) {v : Int32} (hlink : Cond.fieldLink own index RX0 "firsts" "I" ∈ gT) (hdg : decode cc pc = .ok (.putfield index, 3)) {K : yy_M α} (h : yy_wF k 3 v K τ = some res) (kk : ∀ (H1 : Heap) (locs1 : List Loc) (τ1 : yy_T), yy_Z D κ ext A H0 τ1 H1 locs1 → K τ1 = some res → W p l e R s m args below meth c H1 locs1 cells slots Q (F0 m (pc + 3) ls rest)) : W p l e R s m args below meth c H locs cells slots Q (F0 m pc ls (.int v :: .ref (κ 4 + k) :: rest)) :=
  yy_put C Z (k := 3) (yy_Crs_lt k hk) (yy_ent_Crs hk _) (by rw [yy_ent_Crs hk]; rfl) rfl inX0 tyX0_ok nmX0 (by decide) rfl rfl rfl rfl rfl (Nat.le_of_ble_eq_true rfl) hlink hdg h kk
theorem yg_X0_4 (C : yy_C D κ p m c cc nL s args own) (Z : yy_Z D κ ext A H0 τ H locs) {k : Nat} (hk : k ∈ yy_Crs) (hlink : Cond.fieldLink own index RX0 "seconds" "I" ∈ gT) (hdg : decode cc pc = .ok (.getfield index, 3)) {K : Int32 → yy_M α} (h : yy_rF k 4 K τ = some res) (kk : ∀ v : Int32, K v τ = some res → W p l e R s m args below meth c H locs cells slots Q (F0 m (pc + 3) ls (.int v :: rest))) : W p l e R s m args below meth c H locs cells slots Q (F0 m pc ls (.ref (κ 4 + k) :: rest)) :=
  yy_get C Z (k := 4) (yy_Crs_lt k hk) (yy_ent_Crs hk _) rfl inX0 (by decide) rfl hlink rfl hdg (kk _ h)
theorem yp_X0_4 (C : yy_C D κ p m c cc nL s args own) (Z : yy_Z D κ ext A H0 τ H locs) {k : Nat} (hk : k ∈ yy_Crs) {v : Int32} (hlink : Cond.fieldLink own index RX0 "seconds" "I" ∈ gT) (hdg : decode cc pc = .ok (.putfield index, 3)) {K : yy_M α} (h : yy_wF k 4 v K τ = some res) (kk : ∀ (H1 : Heap) (locs1 : List Loc) (τ1 : yy_T), yy_Z D κ ext A H0 τ1 H1 locs1 → K τ1 = some res → W p l e R s m args below meth c H1 locs1 cells slots Q (F0 m (pc + 3) ls rest)) : W p l e R s m args below meth c H locs cells slots Q (F0 m pc ls (.int v :: .ref (κ 4 + k) :: rest)) :=
  yy_put C Z (k := 4) (yy_Crs_lt k hk) (yy_ent_Crs hk _) (by rw [yy_ent_Crs hk]; rfl) rfl inX0 tyX0_ok nmX0 (by decide) rfl rfl rfl rfl rfl (Nat.le_of_ble_eq_true rfl) hlink hdg h kk
theorem yg_X1_0 (C : yy_C D κ p m c cc nL s args own) (Z : yy_Z D κ ext A H0 τ H locs) (hlink : Cond.fieldLink own index RX1 "kinds" "LMovedLines$Kinds;" ∈ gT) (hdg : decode cc pc = .ok (.getfield index, 3)) (kk : W p l e R s m args below meth c H locs cells slots Q (F0 m (pc + 3) ls (.ref (κ 4 + 50) :: rest))) : W p l e R s m args below meth c H locs cells slots Q (F0 m pc ls (.ref (κ 4 + 49) :: rest)) :=
  yy_get C Z (k := 0) (by decide) (yy_ent_49 _) rfl inX1 (by decide) rfl hlink rfl hdg kk
theorem yg_X1_1 (C : yy_C D κ p m c cc nL s args own) (Z : yy_Z D κ ext A H0 τ H locs) (hlink : Cond.fieldLink own index RX1 "keeper" "LMovedLines$Keeper;" ∈ gT) (hdg : decode cc pc = .ok (.getfield index, 3)) (kk : W p l e R s m args below meth c H locs cells slots Q (F0 m (pc + 3) ls (.ref (κ 4 + 53) :: rest))) : W p l e R s m args below meth c H locs cells slots Q (F0 m pc ls (.ref (κ 4 + 49) :: rest)) :=
  yy_get C Z (k := 1) (by decide) (yy_ent_49 _) rfl inX1 (by decide) rfl hlink rfl hdg kk
theorem yg_X1_2 (C : yy_C D κ p m c cc nL s args own) (Z : yy_Z D κ ext A H0 τ H locs) (hlink : Cond.fieldLink own index RX1 "common" "LMovedLines$CommonRow;" ∈ gT) (hdg : decode cc pc = .ok (.getfield index, 3)) (kk : W p l e R s m args below meth c H locs cells slots Q (F0 m (pc + 3) ls (.ref (κ 4 + 61) :: rest))) : W p l e R s m args below meth c H locs cells slots Q (F0 m pc ls (.ref (κ 4 + 49) :: rest)) :=
  yy_get C Z (k := 2) (by decide) (yy_ent_49 _) rfl inX1 (by decide) rfl hlink rfl hdg kk
theorem yg_X1_3 (C : yy_C D κ p m c cc nL s args own) (Z : yy_Z D κ ext A H0 τ H locs) (hlink : Cond.fieldLink own index RX1 "likeness" "[[I" ∈ gT) (hdg : decode cc pc = .ok (.getfield index, 3)) (kk : W p l e R s m args below meth c H locs cells slots Q (F0 m (pc + 3) ls (.ref (κ 4 + 65) :: rest))) : W p l e R s m args below meth c H locs cells slots Q (F0 m pc ls (.ref (κ 4 + 49) :: rest)) :=
  yy_get C Z (k := 3) (by decide) (yy_ent_49 _) rfl inX1 (by decide) rfl hlink rfl hdg kk
theorem yg_X2_0 (C : yy_C D κ p m c cc nL s args own) (Z : yy_Z D κ ext A H0 τ H locs) {k : Nat} (hk : k ∈ yy_Eds) (hlink : Cond.fieldLink own index RX2 "sizes" "[I" ∈ gT) (hdg : decode cc pc = .ok (.getfield index, 3)) (kk : W p l e R s m args below meth c H locs cells slots Q (F0 m (pc + 3) ls (.ref (κ 4 + (k + 1)) :: rest))) : W p l e R s m args below meth c H locs cells slots Q (F0 m pc ls (.ref (κ 4 + k) :: rest)) :=
  yy_get C Z (k := 0) (yy_Eds_lt k hk) (yy_ent_Eds hk _) rfl inX2 (by decide) rfl hlink rfl hdg kk
theorem yg_X2_1 (C : yy_C D κ p m c cc nL s args own) (Z : yy_Z D κ ext A H0 τ H locs) {k : Nat} (hk : k ∈ yy_Eds) (hlink : Cond.fieldLink own index RX2 "words" "[I" ∈ gT) (hdg : decode cc pc = .ok (.getfield index, 3)) (kk : W p l e R s m args below meth c H locs cells slots Q (F0 m (pc + 3) ls (.ref (κ 4 + (k + 2)) :: rest))) : W p l e R s m args below meth c H locs cells slots Q (F0 m pc ls (.ref (κ 4 + k) :: rest)) :=
  yy_get C Z (k := 1) (yy_Eds_lt k hk) (yy_ent_Eds hk _) rfl inX2 (by decide) rfl hlink rfl hdg kk
theorem yg_X2_2 (C : yy_C D κ p m c cc nL s args own) (Z : yy_Z D κ ext A H0 τ H locs) {k : Nat} (hk : k ∈ yy_Eds) (hlink : Cond.fieldLink own index RX2 "lines" "I" ∈ gT) (hdg : decode cc pc = .ok (.getfield index, 3)) {K : Int32 → yy_M α} (h : yy_rF k 2 K τ = some res) (kk : ∀ v : Int32, K v τ = some res → W p l e R s m args below meth c H locs cells slots Q (F0 m (pc + 3) ls (.int v :: rest))) : W p l e R s m args below meth c H locs cells slots Q (F0 m pc ls (.ref (κ 4 + k) :: rest)) :=
  yy_get C Z (k := 2) (yy_Eds_lt k hk) (yy_ent_Eds hk _) rfl inX2 (by decide) rfl hlink rfl hdg (kk _ h)
theorem yp_X2_2 (C : yy_C D κ p m c cc nL s args own) (Z : yy_Z D κ ext A H0 τ H locs) {k : Nat} (hk : k ∈ yy_Eds) {v : Int32} (hlink : Cond.fieldLink own index RX2 "lines" "I" ∈ gT) (hdg : decode cc pc = .ok (.putfield index, 3)) {K : yy_M α} (h : yy_wF k 2 v K τ = some res) (kk : ∀ (H1 : Heap) (locs1 : List Loc) (τ1 : yy_T), yy_Z D κ ext A H0 τ1 H1 locs1 → K τ1 = some res → W p l e R s m args below meth c H1 locs1 cells slots Q (F0 m (pc + 3) ls rest)) : W p l e R s m args below meth c H locs cells slots Q (F0 m pc ls (.int v :: .ref (κ 4 + k) :: rest)) :=
  yy_put C Z (k := 2) (yy_Eds_lt k hk) (yy_ent_Eds hk _) (by rw [yy_ent_Eds hk]; rfl) rfl inX2 tyX2_ok nmX2 (by decide) rfl rfl rfl rfl rfl (Nat.le_of_ble_eq_true rfl) hlink hdg h kk
theorem yg_X3_0 (C : yy_C D κ p m c cc nL s args own) (Z : yy_Z D κ ext A H0 τ H locs) (hlink : Cond.fieldLink own index RX3 "oldFrom" "[I" ∈ gT) (hdg : decode cc pc = .ok (.getfield index, 3)) (kk : W p l e R s m args below meth c H locs cells slots Q (F0 m (pc + 3) ls (.ref (κ 4 + 54) :: rest))) : W p l e R s m args below meth c H locs cells slots Q (F0 m pc ls (.ref (κ 4 + 53) :: rest)) :=
  yy_get C Z (k := 0) (by decide) (yy_ent_53 _) rfl inX3 (by decide) rfl hlink rfl hdg kk
theorem yg_X3_1 (C : yy_C D κ p m c cc nL s args own) (Z : yy_Z D κ ext A H0 τ H locs) (hlink : Cond.fieldLink own index RX3 "oldTo" "[I" ∈ gT) (hdg : decode cc pc = .ok (.getfield index, 3)) (kk : W p l e R s m args below meth c H locs cells slots Q (F0 m (pc + 3) ls (.ref (κ 4 + 55) :: rest))) : W p l e R s m args below meth c H locs cells slots Q (F0 m pc ls (.ref (κ 4 + 53) :: rest)) :=
  yy_get C Z (k := 1) (by decide) (yy_ent_53 _) rfl inX3 (by decide) rfl hlink rfl hdg kk
theorem yg_X3_2 (C : yy_C D κ p m c cc nL s args own) (Z : yy_Z D κ ext A H0 τ H locs) (hlink : Cond.fieldLink own index RX3 "newFrom" "[I" ∈ gT) (hdg : decode cc pc = .ok (.getfield index, 3)) (kk : W p l e R s m args below meth c H locs cells slots Q (F0 m (pc + 3) ls (.ref (κ 4 + 56) :: rest))) : W p l e R s m args below meth c H locs cells slots Q (F0 m pc ls (.ref (κ 4 + 53) :: rest)) :=
  yy_get C Z (k := 2) (by decide) (yy_ent_53 _) rfl inX3 (by decide) rfl hlink rfl hdg kk
theorem yg_X3_3 (C : yy_C D κ p m c cc nL s args own) (Z : yy_Z D κ ext A H0 τ H locs) (hlink : Cond.fieldLink own index RX3 "newTo" "[I" ∈ gT) (hdg : decode cc pc = .ok (.getfield index, 3)) (kk : W p l e R s m args below meth c H locs cells slots Q (F0 m (pc + 3) ls (.ref (κ 4 + 57) :: rest))) : W p l e R s m args below meth c H locs cells slots Q (F0 m pc ls (.ref (κ 4 + 53) :: rest)) :=
  yy_get C Z (k := 3) (by decide) (yy_ent_53 _) rfl inX3 (by decide) rfl hlink rfl hdg kk
theorem yg_X3_4 (C : yy_C D κ p m c cc nL s args own) (Z : yy_Z D κ ext A H0 τ H locs) (hlink : Cond.fieldLink own index RX3 "ranges" "I" ∈ gT) (hdg : decode cc pc = .ok (.getfield index, 3)) {K : Int32 → yy_M α} (h : yy_rF 53 4 K τ = some res) (kk : ∀ v : Int32, K v τ = some res → W p l e R s m args below meth c H locs cells slots Q (F0 m (pc + 3) ls (.int v :: rest))) : W p l e R s m args below meth c H locs cells slots Q (F0 m pc ls (.ref (κ 4 + 53) :: rest)) :=
  yy_get C Z (k := 4) (by decide) (yy_ent_53 _) rfl inX3 (by decide) rfl hlink rfl hdg (kk _ h)
theorem yp_X3_4 (C : yy_C D κ p m c cc nL s args own) (Z : yy_Z D κ ext A H0 τ H locs) {v : Int32} (hlink : Cond.fieldLink own index RX3 "ranges" "I" ∈ gT) (hdg : decode cc pc = .ok (.putfield index, 3)) {K : yy_M α} (h : yy_wF 53 4 v K τ = some res) (kk : ∀ (H1 : Heap) (locs1 : List Loc) (τ1 : yy_T), yy_Z D κ ext A H0 τ1 H1 locs1 → K τ1 = some res → W p l e R s m args below meth c H1 locs1 cells slots Q (F0 m (pc + 3) ls rest)) : W p l e R s m args below meth c H locs cells slots Q (F0 m pc ls (.int v :: .ref (κ 4 + 53) :: rest)) :=
  yy_put C Z (k := 4) (by decide) (yy_ent_53 _) (by rw [yy_ent_53]; rfl) rfl inX3 tyX3_ok nmX3 (by decide) rfl rfl rfl rfl rfl (Nat.le_of_ble_eq_true rfl) hlink hdg h kk
theorem yg_X3_5 (C : yy_C D κ p m c cc nL s args own) (Z : yy_Z D κ ext A H0 τ H locs) (hlink : Cond.fieldLink own index RX3 "anchorOld" "[I" ∈ gT) (hdg : decode cc pc = .ok (.getfield index, 3)) (kk : W p l e R s m args below meth c H locs cells slots Q (F0 m (pc + 3) ls (.ref (κ 4 + 58) :: rest))) : W p l e R s m args below meth c H locs cells slots Q (F0 m pc ls (.ref (κ 4 + 53) :: rest)) :=
  yy_get C Z (k := 5) (by decide) (yy_ent_53 _) rfl inX3 (by decide) rfl hlink rfl hdg kk
theorem yg_X3_6 (C : yy_C D κ p m c cc nL s args own) (Z : yy_Z D κ ext A H0 τ H locs) (hlink : Cond.fieldLink own index RX3 "anchorNew" "[I" ∈ gT) (hdg : decode cc pc = .ok (.getfield index, 3)) (kk : W p l e R s m args below meth c H locs cells slots Q (F0 m (pc + 3) ls (.ref (κ 4 + 59) :: rest))) : W p l e R s m args below meth c H locs cells slots Q (F0 m pc ls (.ref (κ 4 + 53) :: rest)) :=
  yy_get C Z (k := 6) (by decide) (yy_ent_53 _) rfl inX3 (by decide) rfl hlink rfl hdg kk
theorem yg_X3_7 (C : yy_C D κ p m c cc nL s args own) (Z : yy_Z D κ ext A H0 τ H locs) (hlink : Cond.fieldLink own index RX3 "rise" "[I" ∈ gT) (hdg : decode cc pc = .ok (.getfield index, 3)) (kk : W p l e R s m args below meth c H locs cells slots Q (F0 m (pc + 3) ls (.ref (κ 4 + 60) :: rest))) : W p l e R s m args below meth c H locs cells slots Q (F0 m pc ls (.ref (κ 4 + 53) :: rest)) :=
  yy_get C Z (k := 7) (by decide) (yy_ent_53 _) rfl inX3 (by decide) rfl hlink rfl hdg kk
theorem yg_X3_8 (C : yy_C D κ p m c cc nL s args own) (Z : yy_Z D κ ext A H0 τ H locs) (hlink : Cond.fieldLink own index RX3 "found" "I" ∈ gT) (hdg : decode cc pc = .ok (.getfield index, 3)) {K : Int32 → yy_M α} (h : yy_rF 53 8 K τ = some res) (kk : ∀ v : Int32, K v τ = some res → W p l e R s m args below meth c H locs cells slots Q (F0 m (pc + 3) ls (.int v :: rest))) : W p l e R s m args below meth c H locs cells slots Q (F0 m pc ls (.ref (κ 4 + 53) :: rest)) :=
  yy_get C Z (k := 8) (by decide) (yy_ent_53 _) rfl inX3 (by decide) rfl hlink rfl hdg (kk _ h)
theorem yp_X3_8 (C : yy_C D κ p m c cc nL s args own) (Z : yy_Z D κ ext A H0 τ H locs) {v : Int32} (hlink : Cond.fieldLink own index RX3 "found" "I" ∈ gT) (hdg : decode cc pc = .ok (.putfield index, 3)) {K : yy_M α} (h : yy_wF 53 8 v K τ = some res) (kk : ∀ (H1 : Heap) (locs1 : List Loc) (τ1 : yy_T), yy_Z D κ ext A H0 τ1 H1 locs1 → K τ1 = some res → W p l e R s m args below meth c H1 locs1 cells slots Q (F0 m (pc + 3) ls rest)) : W p l e R s m args below meth c H locs cells slots Q (F0 m pc ls (.int v :: .ref (κ 4 + 53) :: rest)) :=
  yy_put C Z (k := 8) (by decide) (yy_ent_53 _) (by rw [yy_ent_53]; rfl) rfl inX3 tyX3_ok nmX3 (by decide) rfl rfl rfl rfl rfl (Nat.le_of_ble_eq_true rfl) hlink hdg h kk
theorem yg_X4_0 (C : yy_C D κ p m c cc nL s args own) (Z : yy_Z D κ ext A H0 τ H locs) (hlink : Cond.fieldLink own index RX4 "olds" "[I" ∈ gT) (hdg : decode cc pc = .ok (.getfield index, 3)) (kk : W p l e R s m args below meth c H locs cells slots Q (F0 m (pc + 3) ls (.ref (κ 4 + 51) :: rest))) : W p l e R s m args below meth c H locs cells slots Q (F0 m pc ls (.ref (κ 4 + 50) :: rest)) :=
  yy_get C Z (k := 0) (by decide) (yy_ent_50 _) rfl inX4 (by decide) rfl hlink rfl hdg kk
theorem yg_X4_1 (C : yy_C D κ p m c cc nL s args own) (Z : yy_Z D κ ext A H0 τ H locs) (hlink : Cond.fieldLink own index RX4 "news" "[I" ∈ gT) (hdg : decode cc pc = .ok (.getfield index, 3)) (kk : W p l e R s m args below meth c H locs cells slots Q (F0 m (pc + 3) ls (.ref (κ 4 + 52) :: rest))) : W p l e R s m args below meth c H locs cells slots Q (F0 m pc ls (.ref (κ 4 + 50) :: rest)) :=
  yy_get C Z (k := 1) (by decide) (yy_ent_50 _) rfl inX4 (by decide) rfl hlink rfl hdg kk
theorem yg_X4_2 (C : yy_C D κ p m c cc nL s args own) (Z : yy_Z D κ ext A H0 τ H locs) (hlink : Cond.fieldLink own index RX4 "oldLines" "I" ∈ gT) (hdg : decode cc pc = .ok (.getfield index, 3)) {K : Int32 → yy_M α} (h : yy_rF 50 2 K τ = some res) (kk : ∀ v : Int32, K v τ = some res → W p l e R s m args below meth c H locs cells slots Q (F0 m (pc + 3) ls (.int v :: rest))) : W p l e R s m args below meth c H locs cells slots Q (F0 m pc ls (.ref (κ 4 + 50) :: rest)) :=
  yy_get C Z (k := 2) (by decide) (yy_ent_50 _) rfl inX4 (by decide) rfl hlink rfl hdg (kk _ h)
theorem yp_X4_2 (C : yy_C D κ p m c cc nL s args own) (Z : yy_Z D κ ext A H0 τ H locs) {v : Int32} (hlink : Cond.fieldLink own index RX4 "oldLines" "I" ∈ gT) (hdg : decode cc pc = .ok (.putfield index, 3)) {K : yy_M α} (h : yy_wF 50 2 v K τ = some res) (kk : ∀ (H1 : Heap) (locs1 : List Loc) (τ1 : yy_T), yy_Z D κ ext A H0 τ1 H1 locs1 → K τ1 = some res → W p l e R s m args below meth c H1 locs1 cells slots Q (F0 m (pc + 3) ls rest)) : W p l e R s m args below meth c H locs cells slots Q (F0 m pc ls (.int v :: .ref (κ 4 + 50) :: rest)) :=
  yy_put C Z (k := 2) (by decide) (yy_ent_50 _) (by rw [yy_ent_50]; rfl) rfl inX4 tyX4_ok nmX4 (by decide) rfl rfl rfl rfl rfl (Nat.le_of_ble_eq_true rfl) hlink hdg h kk
theorem yg_X4_3 (C : yy_C D κ p m c cc nL s args own) (Z : yy_Z D κ ext A H0 τ H locs) (hlink : Cond.fieldLink own index RX4 "newLines" "I" ∈ gT) (hdg : decode cc pc = .ok (.getfield index, 3)) {K : Int32 → yy_M α} (h : yy_rF 50 3 K τ = some res) (kk : ∀ v : Int32, K v τ = some res → W p l e R s m args below meth c H locs cells slots Q (F0 m (pc + 3) ls (.int v :: rest))) : W p l e R s m args below meth c H locs cells slots Q (F0 m pc ls (.ref (κ 4 + 50) :: rest)) :=
  yy_get C Z (k := 3) (by decide) (yy_ent_50 _) rfl inX4 (by decide) rfl hlink rfl hdg (kk _ h)
theorem yp_X4_3 (C : yy_C D κ p m c cc nL s args own) (Z : yy_Z D κ ext A H0 τ H locs) {v : Int32} (hlink : Cond.fieldLink own index RX4 "newLines" "I" ∈ gT) (hdg : decode cc pc = .ok (.putfield index, 3)) {K : yy_M α} (h : yy_wF 50 3 v K τ = some res) (kk : ∀ (H1 : Heap) (locs1 : List Loc) (τ1 : yy_T), yy_Z D κ ext A H0 τ1 H1 locs1 → K τ1 = some res → W p l e R s m args below meth c H1 locs1 cells slots Q (F0 m (pc + 3) ls rest)) : W p l e R s m args below meth c H locs cells slots Q (F0 m pc ls (.int v :: .ref (κ 4 + 50) :: rest)) :=
  yy_put C Z (k := 3) (by decide) (yy_ent_50 _) (by rw [yy_ent_50]; rfl) rfl inX4 tyX4_ok nmX4 (by decide) rfl rfl rfl rfl rfl (Nat.le_of_ble_eq_true rfl) hlink hdg h kk
theorem yg_X5_0 (C : yy_C D κ p m c cc nL s args own) (Z : yy_Z D κ ext A H0 τ H locs) (hlink : Cond.fieldLink own index RX5 "editions" "[LMovedLines$Edition;" ∈ gT) (hdg : decode cc pc = .ok (.getfield index, 3)) (kk : W p l e R s m args below meth c H locs cells slots Q (F0 m (pc + 3) ls (.ref (κ 4 + 17) :: rest))) : W p l e R s m args below meth c H locs cells slots Q (F0 m pc ls (.ref (κ 4 + 16) :: rest)) :=
  yy_get C Z (k := 0) (by decide) (yy_ent_16 _) rfl inX5 (by decide) rfl hlink rfl hdg kk
theorem yg_X5_1 (C : yy_C D κ p m c cc nL s args own) (Z : yy_Z D κ ext A H0 τ H locs) (hlink : Cond.fieldLink own index RX5 "which" "[I" ∈ gT) (hdg : decode cc pc = .ok (.getfield index, 3)) (kk : W p l e R s m args below meth c H locs cells slots Q (F0 m (pc + 3) ls (.ref (κ 4 + 18) :: rest))) : W p l e R s m args below meth c H locs cells slots Q (F0 m pc ls (.ref (κ 4 + 16) :: rest)) :=
  yy_get C Z (k := 1) (by decide) (yy_ent_16 _) rfl inX5 (by decide) rfl hlink rfl hdg kk
theorem yg_X5_2 (C : yy_C D κ p m c cc nL s args own) (Z : yy_Z D κ ext A H0 τ H locs) (hlink : Cond.fieldLink own index RX5 "count" "I" ∈ gT) (hdg : decode cc pc = .ok (.getfield index, 3)) {K : Int32 → yy_M α} (h : yy_rF 16 2 K τ = some res) (kk : ∀ v : Int32, K v τ = some res → W p l e R s m args below meth c H locs cells slots Q (F0 m (pc + 3) ls (.int v :: rest))) : W p l e R s m args below meth c H locs cells slots Q (F0 m pc ls (.ref (κ 4 + 16) :: rest)) :=
  yy_get C Z (k := 2) (by decide) (yy_ent_16 _) rfl inX5 (by decide) rfl hlink rfl hdg (kk _ h)
theorem yp_X5_2 (C : yy_C D κ p m c cc nL s args own) (Z : yy_Z D κ ext A H0 τ H locs) {v : Int32} (hlink : Cond.fieldLink own index RX5 "count" "I" ∈ gT) (hdg : decode cc pc = .ok (.putfield index, 3)) {K : yy_M α} (h : yy_wF 16 2 v K τ = some res) (kk : ∀ (H1 : Heap) (locs1 : List Loc) (τ1 : yy_T), yy_Z D κ ext A H0 τ1 H1 locs1 → K τ1 = some res → W p l e R s m args below meth c H1 locs1 cells slots Q (F0 m (pc + 3) ls rest)) : W p l e R s m args below meth c H locs cells slots Q (F0 m pc ls (.int v :: .ref (κ 4 + 16) :: rest)) :=
  yy_put C Z (k := 2) (by decide) (yy_ent_16 _) (by rw [yy_ent_16]; rfl) rfl inX5 tyX5_ok nmX5 (by decide) rfl rfl rfl rfl rfl (Nat.le_of_ble_eq_true rfl) hlink hdg h kk
theorem yg_X5_3 (C : yy_C D κ p m c cc nL s args own) (Z : yy_Z D κ ext A H0 τ H locs) (hlink : Cond.fieldLink own index RX5 "next" "I" ∈ gT) (hdg : decode cc pc = .ok (.getfield index, 3)) {K : Int32 → yy_M α} (h : yy_rF 16 3 K τ = some res) (kk : ∀ v : Int32, K v τ = some res → W p l e R s m args below meth c H locs cells slots Q (F0 m (pc + 3) ls (.int v :: rest))) : W p l e R s m args below meth c H locs cells slots Q (F0 m pc ls (.ref (κ 4 + 16) :: rest)) :=
  yy_get C Z (k := 3) (by decide) (yy_ent_16 _) rfl inX5 (by decide) rfl hlink rfl hdg (kk _ h)
theorem yp_X5_3 (C : yy_C D κ p m c cc nL s args own) (Z : yy_Z D κ ext A H0 τ H locs) {v : Int32} (hlink : Cond.fieldLink own index RX5 "next" "I" ∈ gT) (hdg : decode cc pc = .ok (.putfield index, 3)) {K : yy_M α} (h : yy_wF 16 3 v K τ = some res) (kk : ∀ (H1 : Heap) (locs1 : List Loc) (τ1 : yy_T), yy_Z D κ ext A H0 τ1 H1 locs1 → K τ1 = some res → W p l e R s m args below meth c H1 locs1 cells slots Q (F0 m (pc + 3) ls rest)) : W p l e R s m args below meth c H locs cells slots Q (F0 m pc ls (.int v :: .ref (κ 4 + 16) :: rest)) :=
  yy_put C Z (k := 3) (by decide) (yy_ent_16 _) (by rw [yy_ent_16]; rfl) rfl inX5 tyX5_ok nmX5 (by decide) rfl rfl rfl rfl rfl (Nat.le_of_ble_eq_true rfl) hlink hdg h kk
theorem yg_X6_0 (C : yy_C D κ p m c cc nL s args own) (Z : yy_Z D κ ext A H0 τ H locs) (hlink : Cond.fieldLink own index RX6 "draft" "LMovedLines$Edition;" ∈ gT) (hdg : decode cc pc = .ok (.getfield index, 3)) (kk : W p l e R s m args below meth c H locs cells slots Q (F0 m (pc + 3) ls (.ref (κ 4 + 4) :: rest))) : W p l e R s m args below meth c H locs cells slots Q (F0 m pc ls (.ref (κ 4 + 3) :: rest)) :=
  yy_get C Z (k := 0) (by decide) (yy_ent_3 _) rfl inX6 (by decide) rfl hlink rfl hdg kk
theorem yg_X6_1 (C : yy_C D κ p m c cc nL s args own) (Z : yy_Z D κ ext A H0 τ H locs) (hlink : Cond.fieldLink own index RX6 "fault" "I" ∈ gT) (hdg : decode cc pc = .ok (.getfield index, 3)) {K : Int32 → yy_M α} (h : yy_rF 3 1 K τ = some res) (kk : ∀ v : Int32, K v τ = some res → W p l e R s m args below meth c H locs cells slots Q (F0 m (pc + 3) ls (.int v :: rest))) : W p l e R s m args below meth c H locs cells slots Q (F0 m pc ls (.ref (κ 4 + 3) :: rest)) :=
  yy_get C Z (k := 1) (by decide) (yy_ent_3 _) rfl inX6 (by decide) rfl hlink rfl hdg (kk _ h)
theorem yp_X6_1 (C : yy_C D κ p m c cc nL s args own) (Z : yy_Z D κ ext A H0 τ H locs) {v : Int32} (hlink : Cond.fieldLink own index RX6 "fault" "I" ∈ gT) (hdg : decode cc pc = .ok (.putfield index, 3)) {K : yy_M α} (h : yy_wF 3 1 v K τ = some res) (kk : ∀ (H1 : Heap) (locs1 : List Loc) (τ1 : yy_T), yy_Z D κ ext A H0 τ1 H1 locs1 → K τ1 = some res → W p l e R s m args below meth c H1 locs1 cells slots Q (F0 m (pc + 3) ls rest)) : W p l e R s m args below meth c H locs cells slots Q (F0 m pc ls (.int v :: .ref (κ 4 + 3) :: rest)) :=
  yy_put C Z (k := 1) (by decide) (yy_ent_3 _) (by rw [yy_ent_3]; rfl) rfl inX6 tyX6_ok nmX6 (by decide) rfl rfl rfl rfl rfl (Nat.le_of_ble_eq_true rfl) hlink hdg h kk
theorem yg_X6_2 (C : yy_C D κ p m c cc nL s args own) (Z : yy_Z D κ ext A H0 τ H locs) (hlink : Cond.fieldLink own index RX6 "place" "I" ∈ gT) (hdg : decode cc pc = .ok (.getfield index, 3)) {K : Int32 → yy_M α} (h : yy_rF 3 2 K τ = some res) (kk : ∀ v : Int32, K v τ = some res → W p l e R s m args below meth c H locs cells slots Q (F0 m (pc + 3) ls (.int v :: rest))) : W p l e R s m args below meth c H locs cells slots Q (F0 m pc ls (.ref (κ 4 + 3) :: rest)) :=
  yy_get C Z (k := 2) (by decide) (yy_ent_3 _) rfl inX6 (by decide) rfl hlink rfl hdg (kk _ h)
theorem yp_X6_2 (C : yy_C D κ p m c cc nL s args own) (Z : yy_Z D κ ext A H0 τ H locs) {v : Int32} (hlink : Cond.fieldLink own index RX6 "place" "I" ∈ gT) (hdg : decode cc pc = .ok (.putfield index, 3)) {K : yy_M α} (h : yy_wF 3 2 v K τ = some res) (kk : ∀ (H1 : Heap) (locs1 : List Loc) (τ1 : yy_T), yy_Z D κ ext A H0 τ1 H1 locs1 → K τ1 = some res → W p l e R s m args below meth c H1 locs1 cells slots Q (F0 m (pc + 3) ls rest)) : W p l e R s m args below meth c H locs cells slots Q (F0 m pc ls (.int v :: .ref (κ 4 + 3) :: rest)) :=
  yy_put C Z (k := 2) (by decide) (yy_ent_3 _) (by rw [yy_ent_3]; rfl) rfl inX6 tyX6_ok nmX6 (by decide) rfl rfl rfl rfl rfl (Nat.le_of_ble_eq_true rfl) hlink hdg h kk
theorem yg_X6_3 (C : yy_C D κ p m c cc nL s args own) (Z : yy_Z D κ ext A H0 τ H locs) (hlink : Cond.fieldLink own index RX6 "words" "I" ∈ gT) (hdg : decode cc pc = .ok (.getfield index, 3)) {K : Int32 → yy_M α} (h : yy_rF 3 3 K τ = some res) (kk : ∀ v : Int32, K v τ = some res → W p l e R s m args below meth c H locs cells slots Q (F0 m (pc + 3) ls (.int v :: rest))) : W p l e R s m args below meth c H locs cells slots Q (F0 m pc ls (.ref (κ 4 + 3) :: rest)) :=
  yy_get C Z (k := 3) (by decide) (yy_ent_3 _) rfl inX6 (by decide) rfl hlink rfl hdg (kk _ h)
theorem yp_X6_3 (C : yy_C D κ p m c cc nL s args own) (Z : yy_Z D κ ext A H0 τ H locs) {v : Int32} (hlink : Cond.fieldLink own index RX6 "words" "I" ∈ gT) (hdg : decode cc pc = .ok (.putfield index, 3)) {K : yy_M α} (h : yy_wF 3 3 v K τ = some res) (kk : ∀ (H1 : Heap) (locs1 : List Loc) (τ1 : yy_T), yy_Z D κ ext A H0 τ1 H1 locs1 → K τ1 = some res → W p l e R s m args below meth c H1 locs1 cells slots Q (F0 m (pc + 3) ls rest)) : W p l e R s m args below meth c H locs cells slots Q (F0 m pc ls (.int v :: .ref (κ 4 + 3) :: rest)) :=
  yy_put C Z (k := 3) (by decide) (yy_ent_3 _) (by rw [yy_ent_3]; rfl) rfl inX6 tyX6_ok nmX6 (by decide) rfl rfl rfl rfl rfl (Nat.le_of_ble_eq_true rfl) hlink hdg h kk
theorem yg_X6_4 (C : yy_C D κ p m c cc nL s args own) (Z : yy_Z D κ ext A H0 τ H locs) (hlink : Cond.fieldLink own index RX6 "letters" "I" ∈ gT) (hdg : decode cc pc = .ok (.getfield index, 3)) {K : Int32 → yy_M α} (h : yy_rF 3 4 K τ = some res) (kk : ∀ v : Int32, K v τ = some res → W p l e R s m args below meth c H locs cells slots Q (F0 m (pc + 3) ls (.int v :: rest))) : W p l e R s m args below meth c H locs cells slots Q (F0 m pc ls (.ref (κ 4 + 3) :: rest)) :=
  yy_get C Z (k := 4) (by decide) (yy_ent_3 _) rfl inX6 (by decide) rfl hlink rfl hdg (kk _ h)
theorem yp_X6_4 (C : yy_C D κ p m c cc nL s args own) (Z : yy_Z D κ ext A H0 τ H locs) {v : Int32} (hlink : Cond.fieldLink own index RX6 "letters" "I" ∈ gT) (hdg : decode cc pc = .ok (.putfield index, 3)) {K : yy_M α} (h : yy_wF 3 4 v K τ = some res) (kk : ∀ (H1 : Heap) (locs1 : List Loc) (τ1 : yy_T), yy_Z D κ ext A H0 τ1 H1 locs1 → K τ1 = some res → W p l e R s m args below meth c H1 locs1 cells slots Q (F0 m (pc + 3) ls rest)) : W p l e R s m args below meth c H locs cells slots Q (F0 m pc ls (.int v :: .ref (κ 4 + 3) :: rest)) :=
  yy_put C Z (k := 4) (by decide) (yy_ent_3 _) (by rw [yy_ent_3]; rfl) rfl inX6 tyX6_ok nmX6 (by decide) rfl rfl rfl rfl rfl (Nat.le_of_ble_eq_true rfl) hlink hdg h kk
theorem yg_X7_0 (C : yy_C D κ p m c cc nL s args own) (Z : yy_Z D κ ext A H0 τ H locs) (hlink : Cond.fieldLink own index RX7 "bytes" "[B" ∈ gT) (hdg : decode cc pc = .ok (.getfield index, 3)) (kk : W p l e R s m args below meth c H locs cells slots Q (F0 m (pc + 3) ls (.ref (κ 4 + 2) :: rest))) : W p l e R s m args below meth c H locs cells slots Q (F0 m pc ls (.ref (κ 4 + 1) :: rest)) :=
  yy_get C Z (k := 0) (by decide) (yy_ent_1 _) rfl inX7 (by decide) rfl hlink rfl hdg kk
theorem yg_X7_1 (C : yy_C D κ p m c cc nL s args own) (Z : yy_Z D κ ext A H0 τ H locs) (hlink : Cond.fieldLink own index RX7 "length" "I" ∈ gT) (hdg : decode cc pc = .ok (.getfield index, 3)) {K : Int32 → yy_M α} (h : yy_rF 1 1 K τ = some res) (kk : ∀ v : Int32, K v τ = some res → W p l e R s m args below meth c H locs cells slots Q (F0 m (pc + 3) ls (.int v :: rest))) : W p l e R s m args below meth c H locs cells slots Q (F0 m pc ls (.ref (κ 4 + 1) :: rest)) :=
  yy_get C Z (k := 1) (by decide) (yy_ent_1 _) rfl inX7 (by decide) rfl hlink rfl hdg (kk _ h)
theorem yp_X7_1 (C : yy_C D κ p m c cc nL s args own) (Z : yy_Z D κ ext A H0 τ H locs) {v : Int32} (hlink : Cond.fieldLink own index RX7 "length" "I" ∈ gT) (hdg : decode cc pc = .ok (.putfield index, 3)) {K : yy_M α} (h : yy_wF 1 1 v K τ = some res) (kk : ∀ (H1 : Heap) (locs1 : List Loc) (τ1 : yy_T), yy_Z D κ ext A H0 τ1 H1 locs1 → K τ1 = some res → W p l e R s m args below meth c H1 locs1 cells slots Q (F0 m (pc + 3) ls rest)) : W p l e R s m args below meth c H locs cells slots Q (F0 m pc ls (.int v :: .ref (κ 4 + 1) :: rest)) :=
  yy_put C Z (k := 1) (by decide) (yy_ent_1 _) (by rw [yy_ent_1]; rfl) rfl inX7 tyX7_ok nmX7 (by decide) rfl rfl rfl rfl rfl (Nat.le_of_ble_eq_true rfl) hlink hdg h kk
theorem yg_X8_0 (C : yy_C D κ p m c cc nL s args own) (Z : yy_Z D κ ext A H0 τ H locs) {k : Nat} (hk : k ∈ yy_Tds) (hlink : Cond.fieldLink own index RX8 "how" "[[I" ∈ gT) (hdg : decode cc pc = .ok (.getfield index, 3)) (kk : W p l e R s m args below meth c H locs cells slots Q (F0 m (pc + 3) ls (.ref (κ 4 + (k + 1)) :: rest))) : W p l e R s m args below meth c H locs cells slots Q (F0 m pc ls (.ref (κ 4 + k) :: rest)) :=
  yy_get C Z (k := 0) (yy_Tds_lt k hk) (yy_ent_Tds hk _) rfl inX8 (by decide) rfl hlink rfl hdg kk
theorem yg_X8_1 (C : yy_C D κ p m c cc nL s args own) (Z : yy_Z D κ ext A H0 τ H locs) {k : Nat} (hk : k ∈ yy_Tds) (hlink : Cond.fieldLink own index RX8 "with" "[[I" ∈ gT) (hdg : decode cc pc = .ok (.getfield index, 3)) (kk : W p l e R s m args below meth c H locs cells slots Q (F0 m (pc + 3) ls (.ref (κ 4 + (k + 4)) :: rest))) : W p l e R s m args below meth c H locs cells slots Q (F0 m pc ls (.ref (κ 4 + k) :: rest)) :=
  yy_get C Z (k := 1) (yy_Tds_lt k hk) (yy_ent_Tds hk _) rfl inX8 (by decide) rfl hlink rfl hdg kk
theorem yg_X8_2 (C : yy_C D κ p m c cc nL s args own) (Z : yy_Z D κ ext A H0 τ H locs) {k : Nat} (hk : k ∈ yy_Tds) (hlink : Cond.fieldLink own index RX8 "blockOf" "[[I" ∈ gT) (hdg : decode cc pc = .ok (.getfield index, 3)) (kk : W p l e R s m args below meth c H locs cells slots Q (F0 m (pc + 3) ls (.ref (κ 4 + (k + 7)) :: rest))) : W p l e R s m args below meth c H locs cells slots Q (F0 m pc ls (.ref (κ 4 + k) :: rest)) :=
  yy_get C Z (k := 2) (yy_Tds_lt k hk) (yy_ent_Tds hk _) rfl inX8 (by decide) rfl hlink rfl hdg kk
theorem yg_X8_3 (C : yy_C D κ p m c cc nL s args own) (Z : yy_Z D κ ext A H0 τ H locs) {k : Nat} (hk : k ∈ yy_Tds) (hlink : Cond.fieldLink own index RX8 "couples" "[I" ∈ gT) (hdg : decode cc pc = .ok (.getfield index, 3)) (kk : W p l e R s m args below meth c H locs cells slots Q (F0 m (pc + 3) ls (.ref (κ 4 + (k + 10)) :: rest))) : W p l e R s m args below meth c H locs cells slots Q (F0 m pc ls (.ref (κ 4 + k) :: rest)) :=
  yy_get C Z (k := 3) (yy_Tds_lt k hk) (yy_ent_Tds hk _) rfl inX8 (by decide) rfl hlink rfl hdg kk
theorem yg_X8_4 (C : yy_C D κ p m c cc nL s args own) (Z : yy_Z D κ ext A H0 τ H locs) {k : Nat} (hk : k ∈ yy_Tds) (hlink : Cond.fieldLink own index RX8 "blockOld" "[I" ∈ gT) (hdg : decode cc pc = .ok (.getfield index, 3)) (kk : W p l e R s m args below meth c H locs cells slots Q (F0 m (pc + 3) ls (.ref (κ 4 + (k + 11)) :: rest))) : W p l e R s m args below meth c H locs cells slots Q (F0 m pc ls (.ref (κ 4 + k) :: rest)) :=
  yy_get C Z (k := 4) (yy_Tds_lt k hk) (yy_ent_Tds hk _) rfl inX8 (by decide) rfl hlink rfl hdg kk
theorem yg_X8_5 (C : yy_C D κ p m c cc nL s args own) (Z : yy_Z D κ ext A H0 τ H locs) {k : Nat} (hk : k ∈ yy_Tds) (hlink : Cond.fieldLink own index RX8 "blockNew" "[I" ∈ gT) (hdg : decode cc pc = .ok (.getfield index, 3)) (kk : W p l e R s m args below meth c H locs cells slots Q (F0 m (pc + 3) ls (.ref (κ 4 + (k + 12)) :: rest))) : W p l e R s m args below meth c H locs cells slots Q (F0 m pc ls (.ref (κ 4 + k) :: rest)) :=
  yy_get C Z (k := 5) (yy_Tds_lt k hk) (yy_ent_Tds hk _) rfl inX8 (by decide) rfl hlink rfl hdg kk
theorem yg_X8_6 (C : yy_C D κ p m c cc nL s args own) (Z : yy_Z D κ ext A H0 τ H locs) {k : Nat} (hk : k ∈ yy_Tds) (hlink : Cond.fieldLink own index RX8 "blockLines" "[I" ∈ gT) (hdg : decode cc pc = .ok (.getfield index, 3)) (kk : W p l e R s m args below meth c H locs cells slots Q (F0 m (pc + 3) ls (.ref (κ 4 + (k + 13)) :: rest))) : W p l e R s m args below meth c H locs cells slots Q (F0 m pc ls (.ref (κ 4 + k) :: rest)) :=
  yy_get C Z (k := 6) (yy_Tds_lt k hk) (yy_ent_Tds hk _) rfl inX8 (by decide) rfl hlink rfl hdg kk
theorem yg_X8_7 (C : yy_C D κ p m c cc nL s args own) (Z : yy_Z D κ ext A H0 τ H locs) {k : Nat} (hk : k ∈ yy_Tds) (hlink : Cond.fieldLink own index RX8 "blocks" "I" ∈ gT) (hdg : decode cc pc = .ok (.getfield index, 3)) {K : Int32 → yy_M α} (h : yy_rF k 7 K τ = some res) (kk : ∀ v : Int32, K v τ = some res → W p l e R s m args below meth c H locs cells slots Q (F0 m (pc + 3) ls (.int v :: rest))) : W p l e R s m args below meth c H locs cells slots Q (F0 m pc ls (.ref (κ 4 + k) :: rest)) :=
  yy_get C Z (k := 7) (yy_Tds_lt k hk) (yy_ent_Tds hk _) rfl inX8 (by decide) rfl hlink rfl hdg (kk _ h)
theorem yp_X8_7 (C : yy_C D κ p m c cc nL s args own) (Z : yy_Z D κ ext A H0 τ H locs) {k : Nat} (hk : k ∈ yy_Tds) {v : Int32} (hlink : Cond.fieldLink own index RX8 "blocks" "I" ∈ gT) (hdg : decode cc pc = .ok (.putfield index, 3)) {K : yy_M α} (h : yy_wF k 7 v K τ = some res) (kk : ∀ (H1 : Heap) (locs1 : List Loc) (τ1 : yy_T), yy_Z D κ ext A H0 τ1 H1 locs1 → K τ1 = some res → W p l e R s m args below meth c H1 locs1 cells slots Q (F0 m (pc + 3) ls rest)) : W p l e R s m args below meth c H locs cells slots Q (F0 m pc ls (.int v :: .ref (κ 4 + k) :: rest)) :=
  yy_put C Z (k := 7) (yy_Tds_lt k hk) (yy_ent_Tds hk _) (by rw [yy_ent_Tds hk]; rfl) rfl inX8 tyX8_ok nmX8 (by decide) rfl rfl rfl rfl rfl (Nat.le_of_ble_eq_true rfl) hlink hdg h kk
theorem yg_X8_8 (C : yy_C D κ p m c cc nL s args own) (Z : yy_Z D κ ext A H0 τ H locs) {k : Nat} (hk : k ∈ yy_Tds) (hlink : Cond.fieldLink own index RX8 "firstAnchors" "I" ∈ gT) (hdg : decode cc pc = .ok (.getfield index, 3)) {K : Int32 → yy_M α} (h : yy_rF k 8 K τ = some res) (kk : ∀ v : Int32, K v τ = some res → W p l e R s m args below meth c H locs cells slots Q (F0 m (pc + 3) ls (.int v :: rest))) : W p l e R s m args below meth c H locs cells slots Q (F0 m pc ls (.ref (κ 4 + k) :: rest)) :=
  yy_get C Z (k := 8) (yy_Tds_lt k hk) (yy_ent_Tds hk _) rfl inX8 (by decide) rfl hlink rfl hdg (kk _ h)
theorem yp_X8_8 (C : yy_C D κ p m c cc nL s args own) (Z : yy_Z D κ ext A H0 τ H locs) {k : Nat} (hk : k ∈ yy_Tds) {v : Int32} (hlink : Cond.fieldLink own index RX8 "firstAnchors" "I" ∈ gT) (hdg : decode cc pc = .ok (.putfield index, 3)) {K : yy_M α} (h : yy_wF k 8 v K τ = some res) (kk : ∀ (H1 : Heap) (locs1 : List Loc) (τ1 : yy_T), yy_Z D κ ext A H0 τ1 H1 locs1 → K τ1 = some res → W p l e R s m args below meth c H1 locs1 cells slots Q (F0 m (pc + 3) ls rest)) : W p l e R s m args below meth c H locs cells slots Q (F0 m pc ls (.int v :: .ref (κ 4 + k) :: rest)) :=
  yy_put C Z (k := 8) (yy_Tds_lt k hk) (yy_ent_Tds hk _) (by rw [yy_ent_Tds hk]; rfl) rfl inX8 tyX8_ok nmX8 (by decide) rfl rfl rfl rfl rfl (Nat.le_of_ble_eq_true rfl) hlink hdg h kk
theorem yg_X8_9 (C : yy_C D κ p m c cc nL s args own) (Z : yy_Z D κ ext A H0 τ H locs) {k : Nat} (hk : k ∈ yy_Tds) (hlink : Cond.fieldLink own index RX8 "firstRun" "I" ∈ gT) (hdg : decode cc pc = .ok (.getfield index, 3)) {K : Int32 → yy_M α} (h : yy_rF k 9 K τ = some res) (kk : ∀ v : Int32, K v τ = some res → W p l e R s m args below meth c H locs cells slots Q (F0 m (pc + 3) ls (.int v :: rest))) : W p l e R s m args below meth c H locs cells slots Q (F0 m pc ls (.ref (κ 4 + k) :: rest)) :=
  yy_get C Z (k := 9) (yy_Tds_lt k hk) (yy_ent_Tds hk _) rfl inX8 (by decide) rfl hlink rfl hdg (kk _ h)
theorem yp_X8_9 (C : yy_C D κ p m c cc nL s args own) (Z : yy_Z D κ ext A H0 τ H locs) {k : Nat} (hk : k ∈ yy_Tds) {v : Int32} (hlink : Cond.fieldLink own index RX8 "firstRun" "I" ∈ gT) (hdg : decode cc pc = .ok (.putfield index, 3)) {K : yy_M α} (h : yy_wF k 9 v K τ = some res) (kk : ∀ (H1 : Heap) (locs1 : List Loc) (τ1 : yy_T), yy_Z D κ ext A H0 τ1 H1 locs1 → K τ1 = some res → W p l e R s m args below meth c H1 locs1 cells slots Q (F0 m (pc + 3) ls rest)) : W p l e R s m args below meth c H locs cells slots Q (F0 m pc ls (.int v :: .ref (κ 4 + k) :: rest)) :=
  yy_put C Z (k := 9) (yy_Tds_lt k hk) (yy_ent_Tds hk _) (by rw [yy_ent_Tds hk]; rfl) rfl inX8 tyX8_ok nmX8 (by decide) rfl rfl rfl rfl rfl (Nat.le_of_ble_eq_true rfl) hlink hdg h kk
theorem yg_X8_10 (C : yy_C D κ p m c cc nL s args own) (Z : yy_Z D κ ext A H0 τ H locs) {k : Nat} (hk : k ∈ yy_Tds) (hlink : Cond.fieldLink own index RX8 "changedWords" "I" ∈ gT) (hdg : decode cc pc = .ok (.getfield index, 3)) {K : Int32 → yy_M α} (h : yy_rF k 10 K τ = some res) (kk : ∀ v : Int32, K v τ = some res → W p l e R s m args below meth c H locs cells slots Q (F0 m (pc + 3) ls (.int v :: rest))) : W p l e R s m args below meth c H locs cells slots Q (F0 m pc ls (.ref (κ 4 + k) :: rest)) :=
  yy_get C Z (k := 10) (yy_Tds_lt k hk) (yy_ent_Tds hk _) rfl inX8 (by decide) rfl hlink rfl hdg (kk _ h)
theorem yp_X8_10 (C : yy_C D κ p m c cc nL s args own) (Z : yy_Z D κ ext A H0 τ H locs) {k : Nat} (hk : k ∈ yy_Tds) {v : Int32} (hlink : Cond.fieldLink own index RX8 "changedWords" "I" ∈ gT) (hdg : decode cc pc = .ok (.putfield index, 3)) {K : yy_M α} (h : yy_wF k 10 v K τ = some res) (kk : ∀ (H1 : Heap) (locs1 : List Loc) (τ1 : yy_T), yy_Z D κ ext A H0 τ1 H1 locs1 → K τ1 = some res → W p l e R s m args below meth c H1 locs1 cells slots Q (F0 m (pc + 3) ls rest)) : W p l e R s m args below meth c H locs cells slots Q (F0 m pc ls (.int v :: .ref (κ 4 + k) :: rest)) :=
  yy_put C Z (k := 10) (yy_Tds_lt k hk) (yy_ent_Tds hk _) (by rw [yy_ent_Tds hk]; rfl) rfl inX8 tyX8_ok nmX8 (by decide) rfl rfl rfl rfl rfl (Nat.le_of_ble_eq_true rfl) hlink hdg h kk
theorem yg_X9_0 (C : yy_C D κ p m c cc nL s args own) (Z : yy_Z D κ ext A H0 τ H locs) (hlink : Cond.fieldLink own index RX9 "tape" "LMovedLines$Tape;" ∈ gT) (hdg : decode cc pc = .ok (.getfield index, 3)) (kk : W p l e R s m args below meth c H locs cells slots Q (F0 m (pc + 3) ls (.ref (κ 4 + 1) :: rest))) : W p l e R s m args below meth c H locs cells slots Q (F0 m pc ls (.ref (κ 4 + 0) :: rest)) :=
  yy_get C Z (k := 0) (by decide) (yy_ent_0 _) rfl inX9 (by decide) rfl hlink rfl hdg kk
theorem yg_X9_1 (C : yy_C D κ p m c cc nL s args own) (Z : yy_Z D κ ext A H0 τ H locs) (hlink : Cond.fieldLink own index RX9 "reader" "LMovedLines$Reader;" ∈ gT) (hdg : decode cc pc = .ok (.getfield index, 3)) (kk : W p l e R s m args below meth c H locs cells slots Q (F0 m (pc + 3) ls (.ref (κ 4 + 3) :: rest))) : W p l e R s m args below meth c H locs cells slots Q (F0 m pc ls (.ref (κ 4 + 0) :: rest)) :=
  yy_get C Z (k := 1) (by decide) (yy_ent_0 _) rfl inX9 (by decide) rfl hlink rfl hdg kk
theorem yg_X9_2 (C : yy_C D κ p m c cc nL s args own) (Z : yy_Z D κ ext A H0 τ H locs) (hlink : Cond.fieldLink own index RX9 "old" "LMovedLines$Edition;" ∈ gT) (hdg : decode cc pc = .ok (.getfield index, 3)) (kk : W p l e R s m args below meth c H locs cells slots Q (F0 m (pc + 3) ls (.ref (κ 4 + 7) :: rest))) : W p l e R s m args below meth c H locs cells slots Q (F0 m pc ls (.ref (κ 4 + 0) :: rest)) :=
  yy_get C Z (k := 2) (by decide) (yy_ent_0 _) rfl inX9 (by decide) rfl hlink rfl hdg kk
theorem yg_X9_3 (C : yy_C D κ p m c cc nL s args own) (Z : yy_Z D κ ext A H0 τ H locs) (hlink : Cond.fieldLink own index RX9 "fresh" "LMovedLines$Edition;" ∈ gT) (hdg : decode cc pc = .ok (.getfield index, 3)) (kk : W p l e R s m args below meth c H locs cells slots Q (F0 m (pc + 3) ls (.ref (κ 4 + 10) :: rest))) : W p l e R s m args below meth c H locs cells slots Q (F0 m pc ls (.ref (κ 4 + 0) :: rest)) :=
  yy_get C Z (k := 3) (by decide) (yy_ent_0 _) rfl inX9 (by decide) rfl hlink rfl hdg kk
theorem yg_X9_4 (C : yy_C D κ p m c cc nL s args own) (Z : yy_Z D κ ext A H0 τ H locs) (hlink : Cond.fieldLink own index RX9 "spare" "LMovedLines$Edition;" ∈ gT) (hdg : decode cc pc = .ok (.getfield index, 3)) (kk : W p l e R s m args below meth c H locs cells slots Q (F0 m (pc + 3) ls (.ref (κ 4 + 13) :: rest))) : W p l e R s m args below meth c H locs cells slots Q (F0 m pc ls (.ref (κ 4 + 0) :: rest)) :=
  yy_get C Z (k := 4) (by decide) (yy_ent_0 _) rfl inX9 (by decide) rfl hlink rfl hdg kk
theorem yg_X9_5 (C : yy_C D κ p m c cc nL s args own) (Z : yy_Z D κ ext A H0 τ H locs) (hlink : Cond.fieldLink own index RX9 "past" "LMovedLines$Past;" ∈ gT) (hdg : decode cc pc = .ok (.getfield index, 3)) (kk : W p l e R s m args below meth c H locs cells slots Q (F0 m (pc + 3) ls (.ref (κ 4 + 16) :: rest))) : W p l e R s m args below meth c H locs cells slots Q (F0 m pc ls (.ref (κ 4 + 0) :: rest)) :=
  yy_get C Z (k := 5) (by decide) (yy_ent_0 _) rfl inX9 (by decide) rfl hlink rfl hdg kk
theorem yg_X9_6 (C : yy_C D κ p m c cc nL s args own) (Z : yy_Z D κ ext A H0 τ H locs) (hlink : Cond.fieldLink own index RX9 "comparer" "LMovedLines$Comparer;" ∈ gT) (hdg : decode cc pc = .ok (.getfield index, 3)) (kk : W p l e R s m args below meth c H locs cells slots Q (F0 m (pc + 3) ls (.ref (κ 4 + 49) :: rest))) : W p l e R s m args below meth c H locs cells slots Q (F0 m pc ls (.ref (κ 4 + 0) :: rest)) :=
  yy_get C Z (k := 6) (by decide) (yy_ent_0 _) rfl inX9 (by decide) rfl hlink rfl hdg kk
theorem yg_X9_7 (C : yy_C D κ p m c cc nL s args own) (Z : yy_Z D κ ext A H0 τ H locs) (hlink : Cond.fieldLink own index RX9 "common" "LMovedLines$CommonRow;" ∈ gT) (hdg : decode cc pc = .ok (.getfield index, 3)) (kk : W p l e R s m args below meth c H locs cells slots Q (F0 m (pc + 3) ls (.ref (κ 4 + 80) :: rest))) : W p l e R s m args below meth c H locs cells slots Q (F0 m pc ls (.ref (κ 4 + 0) :: rest)) :=
  yy_get C Z (k := 7) (by decide) (yy_ent_0 _) rfl inX9 (by decide) rfl hlink rfl hdg kk
theorem yg_X9_8 (C : yy_C D κ p m c cc nL s args own) (Z : yy_Z D κ ext A H0 τ H locs) (hlink : Cond.fieldLink own index RX9 "told" "LMovedLines$Told;" ∈ gT) (hdg : decode cc pc = .ok (.getfield index, 3)) (kk : W p l e R s m args below meth c H locs cells slots Q (F0 m (pc + 3) ls (.ref (κ 4 + 84) :: rest))) : W p l e R s m args below meth c H locs cells slots Q (F0 m pc ls (.ref (κ 4 + 0) :: rest)) :=
  yy_get C Z (k := 8) (by decide) (yy_ent_0 _) rfl inX9 (by decide) rfl hlink rfl hdg kk
theorem yg_X9_9 (C : yy_C D κ p m c cc nL s args own) (Z : yy_Z D κ ext A H0 τ H locs) (hlink : Cond.fieldLink own index RX9 "supposed" "LMovedLines$Told;" ∈ gT) (hdg : decode cc pc = .ok (.getfield index, 3)) (kk : W p l e R s m args below meth c H locs cells slots Q (F0 m (pc + 3) ls (.ref (κ 4 + 98) :: rest))) : W p l e R s m args below meth c H locs cells slots Q (F0 m pc ls (.ref (κ 4 + 0) :: rest)) :=
  yy_get C Z (k := 9) (by decide) (yy_ent_0 _) rfl inX9 (by decide) rfl hlink rfl hdg kk
theorem yg_X9_10 (C : yy_C D κ p m c cc nL s args own) (Z : yy_Z D κ ext A H0 τ H locs) (hlink : Cond.fieldLink own index RX9 "stale" "Z" ∈ gT) (hdg : decode cc pc = .ok (.getfield index, 3)) {K : Int32 → yy_M α} (h : yy_rF 0 10 K τ = some res) (kk : ∀ v : Int32, K v τ = some res → W p l e R s m args below meth c H locs cells slots Q (F0 m (pc + 3) ls (.int v :: rest))) : W p l e R s m args below meth c H locs cells slots Q (F0 m pc ls (.ref (κ 4 + 0) :: rest)) :=
  yy_get C Z (k := 10) (by decide) (yy_ent_0 _) rfl inX9 (by decide) rfl hlink rfl hdg (kk _ h)
theorem yp_X9_10 (C : yy_C D κ p m c cc nL s args own) (Z : yy_Z D κ ext A H0 τ H locs) {v : Int32} (hz : v = 0 ∨ v = 1) (hlink : Cond.fieldLink own index RX9 "stale" "Z" ∈ gT) (hdg : decode cc pc = .ok (.putfield index, 3)) {K : yy_M α} (h : yy_wF 0 10 v K τ = some res) (kk : ∀ (H1 : Heap) (locs1 : List Loc) (τ1 : yy_T), yy_Z D κ ext A H0 τ1 H1 locs1 → K τ1 = some res → W p l e R s m args below meth c H1 locs1 cells slots Q (F0 m (pc + 3) ls rest)) : W p l e R s m args below meth c H locs cells slots Q (F0 m pc ls (.int v :: .ref (κ 4 + 0) :: rest)) :=
  yy_put C Z (k := 10) (by decide) (yy_ent_0 _) (by rw [yy_ent_0]; rfl) rfl inX9 tyX9_ok nmX9 (by decide) rfl rfl rfl (yy_nar_z hz) (by rcases hz with rfl | rfl <;> rfl) (Nat.le_of_ble_eq_true rfl) hlink hdg h kk
theorem yg_X10_0 (C : yy_C D κ p m c cc nL s args own) (Z : yy_Z D κ ext A H0 τ H locs) (hlink : Cond.fieldLink own index RX10 "thrown" "I" ∈ gT) (hdg : decode cc pc = .ok (.getfield index, 3)) {K : Int32 → yy_M α} (h : yy_rF 112 0 K τ = some res) (kk : ∀ v : Int32, K v τ = some res → W p l e R s m args below meth c H locs cells slots Q (F0 m (pc + 3) ls (.int v :: rest))) : W p l e R s m args below meth c H locs cells slots Q (F0 m pc ls (.ref (κ 4 + 112) :: rest)) :=
  yy_get C Z (k := 0) (by decide) (yy_ent_112 _) rfl inX10 (by decide) rfl hlink rfl hdg (kk _ h)
theorem yp_X10_0 (C : yy_C D κ p m c cc nL s args own) (Z : yy_Z D κ ext A H0 τ H locs) {v : Int32} (hlink : Cond.fieldLink own index RX10 "thrown" "I" ∈ gT) (hdg : decode cc pc = .ok (.putfield index, 3)) {K : yy_M α} (h : yy_wF 112 0 v K τ = some res) (kk : ∀ (H1 : Heap) (locs1 : List Loc) (τ1 : yy_T), yy_Z D κ ext A H0 τ1 H1 locs1 → K τ1 = some res → W p l e R s m args below meth c H1 locs1 cells slots Q (F0 m (pc + 3) ls rest)) : W p l e R s m args below meth c H locs cells slots Q (F0 m pc ls (.int v :: .ref (κ 4 + 112) :: rest)) :=
  yy_put C Z (k := 0) (by decide) (yy_ent_112 _) (by rw [yy_ent_112]; rfl) rfl inX10 tyX10_ok nmX10 (by decide) rfl rfl rfl rfl rfl (Nat.le_of_ble_eq_true rfl) hlink hdg h kk
theorem yg_X10_1 (C : yy_C D κ p m c cc nL s args own) (Z : yy_Z D κ ext A H0 τ H locs) (hlink : Cond.fieldLink own index RX10 "tape" "[I" ∈ gT) (hdg : decode cc pc = .ok (.getfield index, 3)) (kk : W p l e R s m args below meth c H locs cells slots Q (F0 m (pc + 3) ls (.ref (κ 4 + 113) :: rest))) : W p l e R s m args below meth c H locs cells slots Q (F0 m pc ls (.ref (κ 4 + 112) :: rest)) :=
  yy_get C Z (k := 1) (by decide) (yy_ent_112 _) rfl inX10 (by decide) rfl hlink rfl hdg kk
theorem yg_X10_2 (C : yy_C D κ p m c cc nL s args own) (Z : yy_Z D κ ext A H0 τ H locs) (hlink : Cond.fieldLink own index RX10 "taped" "I" ∈ gT) (hdg : decode cc pc = .ok (.getfield index, 3)) {K : Int32 → yy_M α} (h : yy_rF 112 2 K τ = some res) (kk : ∀ v : Int32, K v τ = some res → W p l e R s m args below meth c H locs cells slots Q (F0 m (pc + 3) ls (.int v :: rest))) : W p l e R s m args below meth c H locs cells slots Q (F0 m pc ls (.ref (κ 4 + 112) :: rest)) :=
  yy_get C Z (k := 2) (by decide) (yy_ent_112 _) rfl inX10 (by decide) rfl hlink rfl hdg (kk _ h)
theorem yp_X10_2 (C : yy_C D κ p m c cc nL s args own) (Z : yy_Z D κ ext A H0 τ H locs) {v : Int32} (hlink : Cond.fieldLink own index RX10 "taped" "I" ∈ gT) (hdg : decode cc pc = .ok (.putfield index, 3)) {K : yy_M α} (h : yy_wF 112 2 v K τ = some res) (kk : ∀ (H1 : Heap) (locs1 : List Loc) (τ1 : yy_T), yy_Z D κ ext A H0 τ1 H1 locs1 → K τ1 = some res → W p l e R s m args below meth c H1 locs1 cells slots Q (F0 m (pc + 3) ls rest)) : W p l e R s m args below meth c H locs cells slots Q (F0 m pc ls (.int v :: .ref (κ 4 + 112) :: rest)) :=
  yy_put C Z (k := 2) (by decide) (yy_ent_112 _) (by rw [yy_ent_112]; rfl) rfl inX10 tyX10_ok nmX10 (by decide) rfl rfl rfl rfl rfl (Nat.le_of_ble_eq_true rfl) hlink hdg h kk
theorem yg_X10_3 (C : yy_C D κ p m c cc nL s args own) (Z : yy_Z D κ ext A H0 τ H locs) (hlink : Cond.fieldLink own index RX10 "now" "[I" ∈ gT) (hdg : decode cc pc = .ok (.getfield index, 3)) (kk : W p l e R s m args below meth c H locs cells slots Q (F0 m (pc + 3) ls (.ref (κ 4 + 114) :: rest))) : W p l e R s m args below meth c H locs cells slots Q (F0 m pc ls (.ref (κ 4 + 112) :: rest)) :=
  yy_get C Z (k := 3) (by decide) (yy_ent_112 _) rfl inX10 (by decide) rfl hlink rfl hdg kk
theorem yg_X10_4 (C : yy_C D κ p m c cc nL s args own) (Z : yy_Z D κ ext A H0 τ H locs) (hlink : Cond.fieldLink own index RX10 "read" "[I" ∈ gT) (hdg : decode cc pc = .ok (.getfield index, 3)) (kk : W p l e R s m args below meth c H locs cells slots Q (F0 m (pc + 3) ls (.ref (κ 4 + 115) :: rest))) : W p l e R s m args below meth c H locs cells slots Q (F0 m pc ls (.ref (κ 4 + 112) :: rest)) :=
  yy_get C Z (k := 4) (by decide) (yy_ent_112 _) rfl inX10 (by decide) rfl hlink rfl hdg kk
theorem yg_X10_5 (C : yy_C D κ p m c cc nL s args own) (Z : yy_Z D κ ext A H0 τ H locs) (hlink : Cond.fieldLink own index RX10 "snaps" "[I" ∈ gT) (hdg : decode cc pc = .ok (.getfield index, 3)) (kk : W p l e R s m args below meth c H locs cells slots Q (F0 m (pc + 3) ls (.ref (κ 4 + 116) :: rest))) : W p l e R s m args below meth c H locs cells slots Q (F0 m pc ls (.ref (κ 4 + 112) :: rest)) :=
  yy_get C Z (k := 5) (by decide) (yy_ent_112 _) rfl inX10 (by decide) rfl hlink rfl hdg kk
theorem yg_X10_6 (C : yy_C D κ p m c cc nL s args own) (Z : yy_Z D κ ext A H0 τ H locs) (hlink : Cond.fieldLink own index RX10 "snapMany" "I" ∈ gT) (hdg : decode cc pc = .ok (.getfield index, 3)) {K : Int32 → yy_M α} (h : yy_rF 112 6 K τ = some res) (kk : ∀ v : Int32, K v τ = some res → W p l e R s m args below meth c H locs cells slots Q (F0 m (pc + 3) ls (.int v :: rest))) : W p l e R s m args below meth c H locs cells slots Q (F0 m pc ls (.ref (κ 4 + 112) :: rest)) :=
  yy_get C Z (k := 6) (by decide) (yy_ent_112 _) rfl inX10 (by decide) rfl hlink rfl hdg (kk _ h)
theorem yp_X10_6 (C : yy_C D κ p m c cc nL s args own) (Z : yy_Z D κ ext A H0 τ H locs) {v : Int32} (hlink : Cond.fieldLink own index RX10 "snapMany" "I" ∈ gT) (hdg : decode cc pc = .ok (.putfield index, 3)) {K : yy_M α} (h : yy_wF 112 6 v K τ = some res) (kk : ∀ (H1 : Heap) (locs1 : List Loc) (τ1 : yy_T), yy_Z D κ ext A H0 τ1 H1 locs1 → K τ1 = some res → W p l e R s m args below meth c H1 locs1 cells slots Q (F0 m (pc + 3) ls rest)) : W p l e R s m args below meth c H locs cells slots Q (F0 m pc ls (.int v :: .ref (κ 4 + 112) :: rest)) :=
  yy_put C Z (k := 6) (by decide) (yy_ent_112 _) (by rw [yy_ent_112]; rfl) rfl inX10 tyX10_ok nmX10 (by decide) rfl rfl rfl rfl rfl (Nat.le_of_ble_eq_true rfl) hlink hdg h kk
theorem yg_X10_7 (C : yy_C D κ p m c cc nL s args own) (Z : yy_Z D κ ext A H0 τ H locs) (hlink : Cond.fieldLink own index RX10 "fault" "I" ∈ gT) (hdg : decode cc pc = .ok (.getfield index, 3)) {K : Int32 → yy_M α} (h : yy_rF 112 7 K τ = some res) (kk : ∀ v : Int32, K v τ = some res → W p l e R s m args below meth c H locs cells slots Q (F0 m (pc + 3) ls (.int v :: rest))) : W p l e R s m args below meth c H locs cells slots Q (F0 m pc ls (.ref (κ 4 + 112) :: rest)) :=
  yy_get C Z (k := 7) (by decide) (yy_ent_112 _) rfl inX10 (by decide) rfl hlink rfl hdg (kk _ h)
theorem yp_X10_7 (C : yy_C D κ p m c cc nL s args own) (Z : yy_Z D κ ext A H0 τ H locs) {v : Int32} (hlink : Cond.fieldLink own index RX10 "fault" "I" ∈ gT) (hdg : decode cc pc = .ok (.putfield index, 3)) {K : yy_M α} (h : yy_wF 112 7 v K τ = some res) (kk : ∀ (H1 : Heap) (locs1 : List Loc) (τ1 : yy_T), yy_Z D κ ext A H0 τ1 H1 locs1 → K τ1 = some res → W p l e R s m args below meth c H1 locs1 cells slots Q (F0 m (pc + 3) ls rest)) : W p l e R s m args below meth c H locs cells slots Q (F0 m pc ls (.int v :: .ref (κ 4 + 112) :: rest)) :=
  yy_put C Z (k := 7) (by decide) (yy_ent_112 _) (by rw [yy_ent_112]; rfl) rfl inX10 tyX10_ok nmX10 (by decide) rfl rfl rfl rfl rfl (Nat.le_of_ble_eq_true rfl) hlink hdg h kk
theorem yg_X10_8 (C : yy_C D κ p m c cc nL s args own) (Z : yy_Z D κ ext A H0 τ H locs) (hlink : Cond.fieldLink own index RX10 "place" "I" ∈ gT) (hdg : decode cc pc = .ok (.getfield index, 3)) {K : Int32 → yy_M α} (h : yy_rF 112 8 K τ = some res) (kk : ∀ v : Int32, K v τ = some res → W p l e R s m args below meth c H locs cells slots Q (F0 m (pc + 3) ls (.int v :: rest))) : W p l e R s m args below meth c H locs cells slots Q (F0 m pc ls (.ref (κ 4 + 112) :: rest)) :=
  yy_get C Z (k := 8) (by decide) (yy_ent_112 _) rfl inX10 (by decide) rfl hlink rfl hdg (kk _ h)
theorem yp_X10_8 (C : yy_C D κ p m c cc nL s args own) (Z : yy_Z D κ ext A H0 τ H locs) {v : Int32} (hlink : Cond.fieldLink own index RX10 "place" "I" ∈ gT) (hdg : decode cc pc = .ok (.putfield index, 3)) {K : yy_M α} (h : yy_wF 112 8 v K τ = some res) (kk : ∀ (H1 : Heap) (locs1 : List Loc) (τ1 : yy_T), yy_Z D κ ext A H0 τ1 H1 locs1 → K τ1 = some res → W p l e R s m args below meth c H1 locs1 cells slots Q (F0 m (pc + 3) ls rest)) : W p l e R s m args below meth c H locs cells slots Q (F0 m pc ls (.int v :: .ref (κ 4 + 112) :: rest)) :=
  yy_put C Z (k := 8) (by decide) (yy_ent_112 _) (by rw [yy_ent_112]; rfl) rfl inX10 tyX10_ok nmX10 (by decide) rfl rfl rfl rfl rfl (Nat.le_of_ble_eq_true rfl) hlink hdg h kk
theorem yg_X10_9 (C : yy_C D κ p m c cc nL s args own) (Z : yy_Z D κ ext A H0 τ H locs) (hlink : Cond.fieldLink own index RX10 "letters" "I" ∈ gT) (hdg : decode cc pc = .ok (.getfield index, 3)) {K : Int32 → yy_M α} (h : yy_rF 112 9 K τ = some res) (kk : ∀ v : Int32, K v τ = some res → W p l e R s m args below meth c H locs cells slots Q (F0 m (pc + 3) ls (.int v :: rest))) : W p l e R s m args below meth c H locs cells slots Q (F0 m pc ls (.ref (κ 4 + 112) :: rest)) :=
  yy_get C Z (k := 9) (by decide) (yy_ent_112 _) rfl inX10 (by decide) rfl hlink rfl hdg (kk _ h)
theorem yp_X10_9 (C : yy_C D κ p m c cc nL s args own) (Z : yy_Z D κ ext A H0 τ H locs) {v : Int32} (hlink : Cond.fieldLink own index RX10 "letters" "I" ∈ gT) (hdg : decode cc pc = .ok (.putfield index, 3)) {K : yy_M α} (h : yy_wF 112 9 v K τ = some res) (kk : ∀ (H1 : Heap) (locs1 : List Loc) (τ1 : yy_T), yy_Z D κ ext A H0 τ1 H1 locs1 → K τ1 = some res → W p l e R s m args below meth c H1 locs1 cells slots Q (F0 m (pc + 3) ls rest)) : W p l e R s m args below meth c H locs cells slots Q (F0 m pc ls (.int v :: .ref (κ 4 + 112) :: rest)) :=
  yy_put C Z (k := 9) (by decide) (yy_ent_112 _) (by rw [yy_ent_112]; rfl) rfl inX10 tyX10_ok nmX10 (by decide) rfl rfl rfl rfl rfl (Nat.le_of_ble_eq_true rfl) hlink hdg h kk
theorem yg_X10_10 (C : yy_C D κ p m c cc nL s args own) (Z : yy_Z D κ ext A H0 τ H locs) (hlink : Cond.fieldLink own index RX10 "how" "[I" ∈ gT) (hdg : decode cc pc = .ok (.getfield index, 3)) (kk : W p l e R s m args below meth c H locs cells slots Q (F0 m (pc + 3) ls (.ref (κ 4 + 117) :: rest))) : W p l e R s m args below meth c H locs cells slots Q (F0 m pc ls (.ref (κ 4 + 112) :: rest)) :=
  yy_get C Z (k := 10) (by decide) (yy_ent_112 _) rfl inX10 (by decide) rfl hlink rfl hdg kk
theorem yg_X10_11 (C : yy_C D κ p m c cc nL s args own) (Z : yy_Z D κ ext A H0 τ H locs) (hlink : Cond.fieldLink own index RX10 "with" "[I" ∈ gT) (hdg : decode cc pc = .ok (.getfield index, 3)) (kk : W p l e R s m args below meth c H locs cells slots Q (F0 m (pc + 3) ls (.ref (κ 4 + 118) :: rest))) : W p l e R s m args below meth c H locs cells slots Q (F0 m pc ls (.ref (κ 4 + 112) :: rest)) :=
  yy_get C Z (k := 11) (by decide) (yy_ent_112 _) rfl inX10 (by decide) rfl hlink rfl hdg kk
theorem yg_X10_12 (C : yy_C D κ p m c cc nL s args own) (Z : yy_Z D κ ext A H0 τ H locs) (hlink : Cond.fieldLink own index RX10 "inBlock" "[I" ∈ gT) (hdg : decode cc pc = .ok (.getfield index, 3)) (kk : W p l e R s m args below meth c H locs cells slots Q (F0 m (pc + 3) ls (.ref (κ 4 + 119) :: rest))) : W p l e R s m args below meth c H locs cells slots Q (F0 m pc ls (.ref (κ 4 + 112) :: rest)) :=
  yy_get C Z (k := 12) (by decide) (yy_ent_112 _) rfl inX10 (by decide) rfl hlink rfl hdg kk
theorem yg_X10_13 (C : yy_C D κ p m c cc nL s args own) (Z : yy_Z D κ ext A H0 τ H locs) (hlink : Cond.fieldLink own index RX10 "wasHow" "[I" ∈ gT) (hdg : decode cc pc = .ok (.getfield index, 3)) (kk : W p l e R s m args below meth c H locs cells slots Q (F0 m (pc + 3) ls (.ref (κ 4 + 120) :: rest))) : W p l e R s m args below meth c H locs cells slots Q (F0 m pc ls (.ref (κ 4 + 112) :: rest)) :=
  yy_get C Z (k := 13) (by decide) (yy_ent_112 _) rfl inX10 (by decide) rfl hlink rfl hdg kk
theorem yg_X10_14 (C : yy_C D κ p m c cc nL s args own) (Z : yy_Z D κ ext A H0 τ H locs) (hlink : Cond.fieldLink own index RX10 "wasWith" "[I" ∈ gT) (hdg : decode cc pc = .ok (.getfield index, 3)) (kk : W p l e R s m args below meth c H locs cells slots Q (F0 m (pc + 3) ls (.ref (κ 4 + 121) :: rest))) : W p l e R s m args below meth c H locs cells slots Q (F0 m pc ls (.ref (κ 4 + 112) :: rest)) :=
  yy_get C Z (k := 14) (by decide) (yy_ent_112 _) rfl inX10 (by decide) rfl hlink rfl hdg kk
theorem yg_X10_15 (C : yy_C D κ p m c cc nL s args own) (Z : yy_Z D κ ext A H0 τ H locs) (hlink : Cond.fieldLink own index RX10 "blocks" "[I" ∈ gT) (hdg : decode cc pc = .ok (.getfield index, 3)) (kk : W p l e R s m args below meth c H locs cells slots Q (F0 m (pc + 3) ls (.ref (κ 4 + 122) :: rest))) : W p l e R s m args below meth c H locs cells slots Q (F0 m pc ls (.ref (κ 4 + 112) :: rest)) :=
  yy_get C Z (k := 15) (by decide) (yy_ent_112 _) rfl inX10 (by decide) rfl hlink rfl hdg kk
theorem yg_X10_16 (C : yy_C D κ p m c cc nL s args own) (Z : yy_Z D κ ext A H0 τ H locs) (hlink : Cond.fieldLink own index RX10 "blockMany" "I" ∈ gT) (hdg : decode cc pc = .ok (.getfield index, 3)) {K : Int32 → yy_M α} (h : yy_rF 112 16 K τ = some res) (kk : ∀ v : Int32, K v τ = some res → W p l e R s m args below meth c H locs cells slots Q (F0 m (pc + 3) ls (.int v :: rest))) : W p l e R s m args below meth c H locs cells slots Q (F0 m pc ls (.ref (κ 4 + 112) :: rest)) :=
  yy_get C Z (k := 16) (by decide) (yy_ent_112 _) rfl inX10 (by decide) rfl hlink rfl hdg (kk _ h)
theorem yp_X10_16 (C : yy_C D κ p m c cc nL s args own) (Z : yy_Z D κ ext A H0 τ H locs) {v : Int32} (hlink : Cond.fieldLink own index RX10 "blockMany" "I" ∈ gT) (hdg : decode cc pc = .ok (.putfield index, 3)) {K : yy_M α} (h : yy_wF 112 16 v K τ = some res) (kk : ∀ (H1 : Heap) (locs1 : List Loc) (τ1 : yy_T), yy_Z D κ ext A H0 τ1 H1 locs1 → K τ1 = some res → W p l e R s m args below meth c H1 locs1 cells slots Q (F0 m (pc + 3) ls rest)) : W p l e R s m args below meth c H locs cells slots Q (F0 m pc ls (.int v :: .ref (κ 4 + 112) :: rest)) :=
  yy_put C Z (k := 16) (by decide) (yy_ent_112 _) (by rw [yy_ent_112]; rfl) rfl inX10 tyX10_ok nmX10 (by decide) rfl rfl rfl rfl rfl (Nat.le_of_ble_eq_true rfl) hlink hdg h kk
theorem yg_X10_17 (C : yy_C D κ p m c cc nL s args own) (Z : yy_Z D κ ext A H0 τ H locs) (hlink : Cond.fieldLink own index RX10 "anchorsThere" "I" ∈ gT) (hdg : decode cc pc = .ok (.getfield index, 3)) {K : Int32 → yy_M α} (h : yy_rF 112 17 K τ = some res) (kk : ∀ v : Int32, K v τ = some res → W p l e R s m args below meth c H locs cells slots Q (F0 m (pc + 3) ls (.int v :: rest))) : W p l e R s m args below meth c H locs cells slots Q (F0 m pc ls (.ref (κ 4 + 112) :: rest)) :=
  yy_get C Z (k := 17) (by decide) (yy_ent_112 _) rfl inX10 (by decide) rfl hlink rfl hdg (kk _ h)
theorem yp_X10_17 (C : yy_C D κ p m c cc nL s args own) (Z : yy_Z D κ ext A H0 τ H locs) {v : Int32} (hlink : Cond.fieldLink own index RX10 "anchorsThere" "I" ∈ gT) (hdg : decode cc pc = .ok (.putfield index, 3)) {K : yy_M α} (h : yy_wF 112 17 v K τ = some res) (kk : ∀ (H1 : Heap) (locs1 : List Loc) (τ1 : yy_T), yy_Z D κ ext A H0 τ1 H1 locs1 → K τ1 = some res → W p l e R s m args below meth c H1 locs1 cells slots Q (F0 m (pc + 3) ls rest)) : W p l e R s m args below meth c H locs cells slots Q (F0 m pc ls (.int v :: .ref (κ 4 + 112) :: rest)) :=
  yy_put C Z (k := 17) (by decide) (yy_ent_112 _) (by rw [yy_ent_112]; rfl) rfl inX10 tyX10_ok nmX10 (by decide) rfl rfl rfl rfl rfl (Nat.le_of_ble_eq_true rfl) hlink hdg h kk
theorem yg_X10_18 (C : yy_C D κ p m c cc nL s args own) (Z : yy_Z D κ ext A H0 τ H locs) (hlink : Cond.fieldLink own index RX10 "runThere" "I" ∈ gT) (hdg : decode cc pc = .ok (.getfield index, 3)) {K : Int32 → yy_M α} (h : yy_rF 112 18 K τ = some res) (kk : ∀ v : Int32, K v τ = some res → W p l e R s m args below meth c H locs cells slots Q (F0 m (pc + 3) ls (.int v :: rest))) : W p l e R s m args below meth c H locs cells slots Q (F0 m pc ls (.ref (κ 4 + 112) :: rest)) :=
  yy_get C Z (k := 18) (by decide) (yy_ent_112 _) rfl inX10 (by decide) rfl hlink rfl hdg (kk _ h)
theorem yp_X10_18 (C : yy_C D κ p m c cc nL s args own) (Z : yy_Z D κ ext A H0 τ H locs) {v : Int32} (hlink : Cond.fieldLink own index RX10 "runThere" "I" ∈ gT) (hdg : decode cc pc = .ok (.putfield index, 3)) {K : yy_M α} (h : yy_wF 112 18 v K τ = some res) (kk : ∀ (H1 : Heap) (locs1 : List Loc) (τ1 : yy_T), yy_Z D κ ext A H0 τ1 H1 locs1 → K τ1 = some res → W p l e R s m args below meth c H1 locs1 cells slots Q (F0 m (pc + 3) ls rest)) : W p l e R s m args below meth c H locs cells slots Q (F0 m pc ls (.int v :: .ref (κ 4 + 112) :: rest)) :=
  yy_put C Z (k := 18) (by decide) (yy_ent_112 _) (by rw [yy_ent_112]; rfl) rfl inX10 tyX10_ok nmX10 (by decide) rfl rfl rfl rfl rfl (Nat.le_of_ble_eq_true rfl) hlink hdg h kk
theorem yg_X10_19 (C : yy_C D κ p m c cc nL s args own) (Z : yy_Z D κ ext A H0 τ H locs) (hlink : Cond.fieldLink own index RX10 "most" "[I" ∈ gT) (hdg : decode cc pc = .ok (.getfield index, 3)) (kk : W p l e R s m args below meth c H locs cells slots Q (F0 m (pc + 3) ls (.ref (κ 4 + 123) :: rest))) : W p l e R s m args below meth c H locs cells slots Q (F0 m pc ls (.ref (κ 4 + 112) :: rest)) :=
  yy_get C Z (k := 19) (by decide) (yy_ent_112 _) rfl inX10 (by decide) rfl hlink rfl hdg kk
end YF
end
