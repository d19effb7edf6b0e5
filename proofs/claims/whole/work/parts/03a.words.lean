/-- the tables' words that stay -/
def gT : List Cond := lw_tbl.filter goodWord
theorem gT_mem {w : Cond} (i : Nat) (h : lw_tbl[i]? = some w) (hg : goodWord w = true) : w ∈ gT := List.mem_filter.mpr ⟨List.mem_of_getElem? h, hg⟩
theorem gT_good {w : Cond} (h : w ∈ gT) : goodWord w = true := (List.mem_filter.mp h).2
theorem gT_tbl {w : Cond} (h : w ∈ gT) : w ∈ lw_tbl := (List.mem_filter.mp h).1
theorem tw_0 : (Jvm.Cond.selects "MovedLines" ({ cls := "MovedLines", name := "readTape", desc := "(Z)Z" } : Jvm.MethodName) ({ cls := "MovedLines", name := "readTape", desc := "(Z)Z" } : Jvm.MethodName)) ∈ gT := gT_mem 0 (by decide +kernel) rfl
theorem tw_1 : (Jvm.Cond.selects "MovedLines$Reader" ({ cls := "MovedLines$Reader", name := "readByte", desc := "(IZ)I" } : Jvm.MethodName) ({ cls := "MovedLines$Reader", name := "readByte", desc := "(IZ)I" } : Jvm.MethodName)) ∈ gT := gT_mem 1 (by decide +kernel) rfl
theorem tw_2 : (Jvm.Cond.selects "MovedLines$Reader" ({ cls := "MovedLines$Reader", name := "readLetter", desc := "(I)I" } : Jvm.MethodName) ({ cls := "MovedLines$Reader", name := "readLetter", desc := "(I)I" } : Jvm.MethodName)) ∈ gT := gT_mem 2 (by decide +kernel) rfl
theorem tw_3 : (Jvm.Cond.selects "MovedLines$Reader" ({ cls := "MovedLines$Reader", name := "closeLine", desc := "()I" } : Jvm.MethodName) ({ cls := "MovedLines$Reader", name := "closeLine", desc := "()I" } : Jvm.MethodName)) ∈ gT := gT_mem 3 (by decide +kernel) rfl
theorem tw_4 : (Jvm.Cond.selects "MovedLines$Reader" ({ cls := "MovedLines$Reader", name := "readEnd", desc := "(Z)I" } : Jvm.MethodName) ({ cls := "MovedLines$Reader", name := "readEnd", desc := "(Z)I" } : Jvm.MethodName)) ∈ gT := gT_mem 4 (by decide +kernel) rfl
theorem tw_5 : (Jvm.Cond.selects "MovedLines" ({ cls := "MovedLines", name := "editionOf", desc := "(I)LMovedLines$Edition;" } : Jvm.MethodName) ({ cls := "MovedLines", name := "editionOf", desc := "(I)LMovedLines$Edition;" } : Jvm.MethodName)) ∈ gT := gT_mem 5 (by decide +kernel) rfl
theorem tw_6 : (Jvm.Cond.selects "MovedLines" ({ cls := "MovedLines", name := "compared", desc := "()LMovedLines$Told;" } : Jvm.MethodName) ({ cls := "MovedLines", name := "compared", desc := "()LMovedLines$Told;" } : Jvm.MethodName)) ∈ gT := gT_mem 6 (by decide +kernel) rfl
theorem tw_7 : (Jvm.Cond.selects "MovedLines$Keeper" ({ cls := "MovedLines$Keeper", name := "addRange", desc := "(IIII)V" } : Jvm.MethodName) ({ cls := "MovedLines$Keeper", name := "addRange", desc := "(IIII)V" } : Jvm.MethodName)) ∈ gT := gT_mem 7 (by decide +kernel) rfl
theorem tw_8 : (Jvm.Cond.selects "MovedLines$Keeper" ({ cls := "MovedLines$Keeper", name := "keepEnds", desc := "(ILMovedLines$Kinds;LMovedLines$Told;)V" } : Jvm.MethodName) ({ cls := "MovedLines$Keeper", name := "keepEnds", desc := "(ILMovedLines$Kinds;LMovedLines$Told;)V" } : Jvm.MethodName)) ∈ gT := gT_mem 8 (by decide +kernel) rfl
theorem tw_9 : (Jvm.Cond.selects "MovedLines$Keeper" ({ cls := "MovedLines$Keeper", name := "findAnchors", desc := "(ILMovedLines$Kinds;)V" } : Jvm.MethodName) ({ cls := "MovedLines$Keeper", name := "findAnchors", desc := "(ILMovedLines$Kinds;)V" } : Jvm.MethodName)) ∈ gT := gT_mem 9 (by decide +kernel) rfl
theorem tw_10 : (Jvm.Cond.selects "MovedLines$Keeper" ({ cls := "MovedLines$Keeper", name := "measureRuns", desc := "()I" } : Jvm.MethodName) ({ cls := "MovedLines$Keeper", name := "measureRuns", desc := "()I" } : Jvm.MethodName)) ∈ gT := gT_mem 10 (by decide +kernel) rfl
theorem tw_11 : (Jvm.Cond.selects "MovedLines$Keeper" ({ cls := "MovedLines$Keeper", name := "keepRun", desc := "(IILMovedLines$Told;)V" } : Jvm.MethodName) ({ cls := "MovedLines$Keeper", name := "keepRun", desc := "(IILMovedLines$Told;)V" } : Jvm.MethodName)) ∈ gT := gT_mem 11 (by decide +kernel) rfl
theorem tw_12 : (Jvm.Cond.selects "MovedLines$Comparer" ({ cls := "MovedLines$Comparer", name := "moveLongest", desc := "(LMovedLines$Told;)Z" } : Jvm.MethodName) ({ cls := "MovedLines$Comparer", name := "moveLongest", desc := "(LMovedLines$Told;)Z" } : Jvm.MethodName)) ∈ gT := gT_mem 12 (by decide +kernel) rfl
theorem tw_13 : (Jvm.Cond.selects "MovedLines$Comparer" ({ cls := "MovedLines$Comparer", name := "looseRow", desc := "(IILMovedLines$Told;)I" } : Jvm.MethodName) ({ cls := "MovedLines$Comparer", name := "looseRow", desc := "(IILMovedLines$Told;)I" } : Jvm.MethodName)) ∈ gT := gT_mem 13 (by decide +kernel) rfl
theorem tw_14 : (Jvm.Cond.selects "MovedLines$Comparer" ({ cls := "MovedLines$Comparer", name := "measureLikeness", desc := "(LMovedLines$Edition;LMovedLines$Edition;LMovedLines$Told;)V" } : Jvm.MethodName) ({ cls := "MovedLines$Comparer", name := "measureLikeness", desc := "(LMovedLines$Edition;LMovedLines$Edition;LMovedLines$Told;)V" } : Jvm.MethodName)) ∈ gT := gT_mem 14 (by decide +kernel) rfl
theorem tw_15 : (Jvm.Cond.selects "MovedLines$Comparer" ({ cls := "MovedLines$Comparer", name := "likenessTo", desc := "(LMovedLines$Edition;II)I" } : Jvm.MethodName) ({ cls := "MovedLines$Comparer", name := "likenessTo", desc := "(LMovedLines$Edition;II)I" } : Jvm.MethodName)) ∈ gT := gT_mem 15 (by decide +kernel) rfl
theorem tw_16 : (Jvm.Cond.selects "MovedLines$Comparer" ({ cls := "MovedLines$Comparer", name := "editLikest", desc := "(LMovedLines$Edition;LMovedLines$Edition;LMovedLines$Told;)Z" } : Jvm.MethodName) ({ cls := "MovedLines$Comparer", name := "editLikest", desc := "(LMovedLines$Edition;LMovedLines$Edition;LMovedLines$Told;)Z" } : Jvm.MethodName)) ∈ gT := gT_mem 16 (by decide +kernel) rfl
theorem tw_17 : (Jvm.Cond.selects "MovedLines" ({ cls := "MovedLines", name := "hasLine", desc := "(II)Z" } : Jvm.MethodName) ({ cls := "MovedLines", name := "hasLine", desc := "(II)Z" } : Jvm.MethodName)) ∈ gT := gT_mem 17 (by decide +kernel) rfl
theorem tw_18 : (Jvm.Cond.selects "MovedLines" ({ cls := "MovedLines", name := "measureWords", desc := "(II)I" } : Jvm.MethodName) ({ cls := "MovedLines", name := "measureWords", desc := "(II)I" } : Jvm.MethodName)) ∈ gT := gT_mem 18 (by decide +kernel) rfl
theorem tw_19 : (Jvm.Cond.selects "MovedLines$CommonRow" ({ cls := "MovedLines$CommonRow", name := "nextLike", desc := "(II)I" } : Jvm.MethodName) ({ cls := "MovedLines$CommonRow", name := "nextLike", desc := "(II)I" } : Jvm.MethodName)) ∈ gT := gT_mem 19 (by decide +kernel) rfl
theorem tw_20 : (Jvm.Cond.selects "MovedLines" ({ cls := "MovedLines", name := "startStep", desc := "(I)LMovedLines$Edition;" } : Jvm.MethodName) ({ cls := "MovedLines", name := "startStep", desc := "(I)LMovedLines$Edition;" } : Jvm.MethodName)) ∈ gT := gT_mem 20 (by decide +kernel) rfl
theorem tw_21 : (Jvm.Cond.selects "java/lang/Throwable" ({ cls := "java/lang/Throwable", name := "fillInStackTrace", desc := "(I)Ljava/lang/Throwable;" } : Jvm.MethodName) ({ cls := "java/lang/Throwable", name := "fillInStackTrace", desc := "(I)Ljava/lang/Throwable;" } : Jvm.MethodName)) ∈ gT := gT_mem 21 (by decide +kernel) rfl
theorem tw_22 : (Jvm.Cond.selects "MovedLinesModel" ({ cls := "MovedLinesModel", name := "lays", desc := "(I)V" } : Jvm.MethodName) ({ cls := "MovedLinesModel", name := "lays", desc := "(I)V" } : Jvm.MethodName)) ∈ gT := gT_mem 22 (by decide +kernel) rfl
theorem tw_23 : (Jvm.Cond.selects "MovedLinesModel" ({ cls := "MovedLinesModel", name := "reads", desc := "(IZ)Z" } : Jvm.MethodName) ({ cls := "MovedLinesModel", name := "reads", desc := "(IZ)Z" } : Jvm.MethodName)) ∈ gT := gT_mem 23 (by decide +kernel) rfl
theorem tw_24 : (Jvm.Cond.selects "MovedLinesModel" ({ cls := "MovedLinesModel", name := "bad", desc := "(II)Z" } : Jvm.MethodName) ({ cls := "MovedLinesModel", name := "bad", desc := "(II)Z" } : Jvm.MethodName)) ∈ gT := gT_mem 24 (by decide +kernel) rfl
theorem tw_25 : (Jvm.Cond.selects "MovedLinesModel" ({ cls := "MovedLinesModel", name := "readLetter", desc := "(III)Z" } : Jvm.MethodName) ({ cls := "MovedLinesModel", name := "readLetter", desc := "(III)Z" } : Jvm.MethodName)) ∈ gT := gT_mem 25 (by decide +kernel) rfl
theorem tw_26 : (Jvm.Cond.selects "MovedLinesModel" ({ cls := "MovedLinesModel", name := "readEnd", desc := "(I)Z" } : Jvm.MethodName) ({ cls := "MovedLinesModel", name := "readEnd", desc := "(I)Z" } : Jvm.MethodName)) ∈ gT := gT_mem 26 (by decide +kernel) rfl
theorem tw_27 : (Jvm.Cond.selects "MovedLinesModel" ({ cls := "MovedLinesModel", name := "many", desc := "(I)I" } : Jvm.MethodName) ({ cls := "MovedLinesModel", name := "many", desc := "(I)I" } : Jvm.MethodName)) ∈ gT := gT_mem 27 (by decide +kernel) rfl
theorem tw_28 : (Jvm.Cond.selects "MovedLinesModel" ({ cls := "MovedLinesModel", name := "laysAll", desc := "()V" } : Jvm.MethodName) ({ cls := "MovedLinesModel", name := "laysAll", desc := "()V" } : Jvm.MethodName)) ∈ gT := gT_mem 28 (by decide +kernel) rfl
theorem tw_29 : (Jvm.Cond.selects "MovedLinesModel" ({ cls := "MovedLinesModel", name := "goesInto", desc := "(IIIIZ)V" } : Jvm.MethodName) ({ cls := "MovedLinesModel", name := "goesInto", desc := "(IIIIZ)V" } : Jvm.MethodName)) ∈ gT := gT_mem 29 (by decide +kernel) rfl
theorem tw_30 : (Jvm.Cond.selects "MovedLinesModel" ({ cls := "MovedLinesModel", name := "areAlike", desc := "(II)Z" } : Jvm.MethodName) ({ cls := "MovedLinesModel", name := "areAlike", desc := "(II)Z" } : Jvm.MethodName)) ∈ gT := gT_mem 30 (by decide +kernel) rfl
theorem tw_31 : (Jvm.Cond.selects "MovedLinesModel" ({ cls := "MovedLinesModel", name := "areAlike", desc := "(IIII)Z" } : Jvm.MethodName) ({ cls := "MovedLinesModel", name := "areAlike", desc := "(IIII)Z" } : Jvm.MethodName)) ∈ gT := gT_mem 31 (by decide +kernel) rfl
theorem tw_32 : (Jvm.Cond.selects "MovedLinesModel" ({ cls := "MovedLinesModel", name := "wordsOf", desc := "(II)I" } : Jvm.MethodName) ({ cls := "MovedLinesModel", name := "wordsOf", desc := "(II)I" } : Jvm.MethodName)) ∈ gT := gT_mem 32 (by decide +kernel) rfl
theorem tw_33 : (Jvm.Cond.selects "MovedLinesModel" ({ cls := "MovedLinesModel", name := "word", desc := "(III)I" } : Jvm.MethodName) ({ cls := "MovedLinesModel", name := "word", desc := "(III)I" } : Jvm.MethodName)) ∈ gT := gT_mem 33 (by decide +kernel) rfl
theorem tw_34 : (Jvm.Cond.selects "MovedLinesModel" ({ cls := "MovedLinesModel", name := "couples", desc := "(III)V" } : Jvm.MethodName) ({ cls := "MovedLinesModel", name := "couples", desc := "(III)V" } : Jvm.MethodName)) ∈ gT := gT_mem 34 (by decide +kernel) rfl
theorem tw_35 : (Jvm.Cond.selects "MovedLinesModel" ({ cls := "MovedLinesModel", name := "anchorOf", desc := "(IIIII)I" } : Jvm.MethodName) ({ cls := "MovedLinesModel", name := "anchorOf", desc := "(IIIII)I" } : Jvm.MethodName)) ∈ gT := gT_mem 35 (by decide +kernel) rfl
theorem tw_36 : (Jvm.Cond.selects "MovedLinesModel" ({ cls := "MovedLinesModel", name := "laysBlocks", desc := "()V" } : Jvm.MethodName) ({ cls := "MovedLinesModel", name := "laysBlocks", desc := "()V" } : Jvm.MethodName)) ∈ gT := gT_mem 36 (by decide +kernel) rfl
theorem tw_37 : (Jvm.Cond.selects "MovedLinesModel" ({ cls := "MovedLinesModel", name := "blockFrom", desc := "(II)I" } : Jvm.MethodName) ({ cls := "MovedLinesModel", name := "blockFrom", desc := "(II)I" } : Jvm.MethodName)) ∈ gT := gT_mem 37 (by decide +kernel) rfl
theorem tw_38 : (Jvm.Cond.selects "MovedLinesModel" ({ cls := "MovedLinesModel", name := "isLoose", desc := "(II)Z" } : Jvm.MethodName) ({ cls := "MovedLinesModel", name := "isLoose", desc := "(II)Z" } : Jvm.MethodName)) ∈ gT := gT_mem 38 (by decide +kernel) rfl
theorem tw_39 : (Jvm.Cond.selects "MovedLinesModel" ({ cls := "MovedLinesModel", name := "laysEdits", desc := "()V" } : Jvm.MethodName) ({ cls := "MovedLinesModel", name := "laysEdits", desc := "()V" } : Jvm.MethodName)) ∈ gT := gT_mem 39 (by decide +kernel) rfl
theorem tw_40 : (Jvm.Cond.selects "MovedLinesModel" ({ cls := "MovedLinesModel", name := "sharedOf", desc := "(II)I" } : Jvm.MethodName) ({ cls := "MovedLinesModel", name := "sharedOf", desc := "(II)I" } : Jvm.MethodName)) ∈ gT := gT_mem 40 (by decide +kernel) rfl
theorem tw_41 : (Jvm.Cond.selects "MovedLinesModel" ({ cls := "MovedLinesModel", name := "having", desc := "(II)I" } : Jvm.MethodName) ({ cls := "MovedLinesModel", name := "having", desc := "(II)I" } : Jvm.MethodName)) ∈ gT := gT_mem 41 (by decide +kernel) rfl
theorem tw_42 : (Jvm.Cond.selects "MovedLinesModel" ({ cls := "MovedLinesModel", name := "isLine", desc := "(II)Z" } : Jvm.MethodName) ({ cls := "MovedLinesModel", name := "isLine", desc := "(II)Z" } : Jvm.MethodName)) ∈ gT := gT_mem 42 (by decide +kernel) rfl
theorem tw_43 : (Jvm.Cond.selects "MovedLinesModel" ({ cls := "MovedLinesModel", name := "refuse", desc := "()I" } : Jvm.MethodName) ({ cls := "MovedLinesModel", name := "refuse", desc := "()I" } : Jvm.MethodName)) ∈ gT := gT_mem 43 (by decide +kernel) rfl
theorem tw_44 : (Jvm.Cond.selects "MovedLinesModel" ({ cls := "MovedLinesModel", name := "areLines", desc := "(II)Z" } : Jvm.MethodName) ({ cls := "MovedLinesModel", name := "areLines", desc := "(II)Z" } : Jvm.MethodName)) ∈ gT := gT_mem 44 (by decide +kernel) rfl
theorem tw_45 : (Jvm.Cond.selects "MovedLinesModel" ({ cls := "MovedLinesModel", name := "copiesLine", desc := "(II)V" } : Jvm.MethodName) ({ cls := "MovedLinesModel", name := "copiesLine", desc := "(II)V" } : Jvm.MethodName)) ∈ gT := gT_mem 45 (by decide +kernel) rfl
theorem tw_46 : (Jvm.Cond.selects "MovedLinesModel" ({ cls := "MovedLinesModel", name := "snap", desc := "()V" } : Jvm.MethodName) ({ cls := "MovedLinesModel", name := "snap", desc := "()V" } : Jvm.MethodName)) ∈ gT := gT_mem 46 (by decide +kernel) rfl
theorem tw_47 : (Jvm.Cond.selects "MovedLinesModel" ({ cls := "MovedLinesModel", name := "opens", desc := "(II)V" } : Jvm.MethodName) ({ cls := "MovedLinesModel", name := "opens", desc := "(II)V" } : Jvm.MethodName)) ∈ gT := gT_mem 47 (by decide +kernel) rfl
theorem tw_48 : (Jvm.Cond.selects "MovedLinesModel" ({ cls := "MovedLinesModel", name := "laysRead", desc := "(II)V" } : Jvm.MethodName) ({ cls := "MovedLinesModel", name := "laysRead", desc := "(II)V" } : Jvm.MethodName)) ∈ gT := gT_mem 48 (by decide +kernel) rfl
theorem tw_49 : (Jvm.Cond.selects "MovedLinesModel" ({ cls := "MovedLinesModel", name := "closes", desc := "(II)V" } : Jvm.MethodName) ({ cls := "MovedLinesModel", name := "closes", desc := "(II)V" } : Jvm.MethodName)) ∈ gT := gT_mem 49 (by decide +kernel) rfl
theorem tw_50 : (Jvm.Cond.initialized "MovedLinesLaw") ∈ gT := gT_mem 50 (by decide +kernel) rfl
theorem tw_51 : (Jvm.Cond.initialized "MovedLines") ∈ gT := gT_mem 51 (by decide +kernel) rfl
theorem tw_52 : (Jvm.Cond.initialized "MovedLines$Tape") ∈ gT := gT_mem 52 (by decide +kernel) rfl
theorem tw_53 : (Jvm.Cond.initialized "MovedLines$Reader") ∈ gT := gT_mem 53 (by decide +kernel) rfl
theorem tw_54 : (Jvm.Cond.initialized "MovedLines$Edition") ∈ gT := gT_mem 54 (by decide +kernel) rfl
theorem tw_55 : (Jvm.Cond.initialized "MovedLines$Past") ∈ gT := gT_mem 55 (by decide +kernel) rfl
theorem tw_56 : (Jvm.Cond.initialized "MovedLines$Comparer") ∈ gT := gT_mem 56 (by decide +kernel) rfl
theorem tw_57 : (Jvm.Cond.initialized "MovedLines$Kinds") ∈ gT := gT_mem 57 (by decide +kernel) rfl
theorem tw_58 : (Jvm.Cond.initialized "MovedLines$Keeper") ∈ gT := gT_mem 58 (by decide +kernel) rfl
theorem tw_59 : (Jvm.Cond.initialized "MovedLines$CommonRow") ∈ gT := gT_mem 59 (by decide +kernel) rfl
theorem tw_60 : (Jvm.Cond.initialized "MovedLines$Told") ∈ gT := gT_mem 60 (by decide +kernel) rfl
theorem tw_61 : (Jvm.Cond.initialized "MovedLinesModel") ∈ gT := gT_mem 61 (by decide +kernel) rfl
theorem tw_62 : (Jvm.Cond.initialized "java/lang/System") ∈ gT := gT_mem 62 (by decide +kernel) rfl
theorem tw_63 : (Jvm.Cond.initialized "java/lang/Math") ∈ gT := gT_mem 63 (by decide +kernel) rfl
theorem tw_64 : (Jvm.Cond.initialized "java/lang/Throwable") ∈ gT := gT_mem 64 (by decide +kernel) rfl
theorem tw_65 : (Jvm.Cond.initialized "java/lang/Exception") ∈ gT := gT_mem 65 (by decide +kernel) rfl
theorem tw_66 : (Jvm.Cond.initialized "java/lang/RuntimeException") ∈ gT := gT_mem 66 (by decide +kernel) rfl
theorem tw_67 : (Jvm.Cond.initialized "java/util/NoSuchElementException") ∈ gT := gT_mem 67 (by decide +kernel) rfl
theorem tw_68 : (Jvm.Cond.classLink "MovedLinesLaw" (8 : Nat) "MovedLines") ∈ gT := gT_mem 68 (by decide +kernel) rfl
theorem tw_69 : (Jvm.Cond.instantiable "MovedLines" (11 : Nat)) ∈ gT := gT_mem 69 (by decide +kernel) rfl
theorem tw_70 : (Jvm.Cond.methodLink "MovedLinesLaw" (15 : Nat) ({ cls := "MovedLines", name := "<init>", desc := "()V" } : Jvm.MethodName)) ∈ gT := gT_mem 70 (by decide +kernel) rfl
theorem tw_71 : (Jvm.Cond.instanceMethod ({ cls := "MovedLines", name := "<init>", desc := "()V" } : Jvm.MethodName)) ∈ gT := gT_mem 71 (by decide +kernel) rfl
theorem tw_72 : (Jvm.Cond.code ({ cls := "MovedLines", name := "<init>", desc := "()V" } : Jvm.MethodName) prog_1_method_1_code (1 : Nat) (Option.none : Option Jvm.ClassFile.FieldType)) ∈ gT := gT_mem 72 (by decide +kernel) rfl
theorem tw_73 : (Jvm.Cond.methodLink "MovedLines" (1 : Nat) ({ cls := "java/lang/Object", name := "<init>", desc := "()V" } : Jvm.MethodName)) ∈ gT := gT_mem 73 (by decide +kernel) rfl
theorem tw_74 : (Jvm.Cond.instanceMethod ({ cls := "java/lang/Object", name := "<init>", desc := "()V" } : Jvm.MethodName)) ∈ gT := gT_mem 74 (by decide +kernel) rfl
theorem tw_75 : (Jvm.Cond.code ({ cls := "java/lang/Object", name := "<init>", desc := "()V" } : Jvm.MethodName) object_method_1_code (1 : Nat) (Option.none : Option Jvm.ClassFile.FieldType)) ∈ gT := gT_mem 75 (by decide +kernel) rfl
theorem tw_76 : (Jvm.Cond.classLink "MovedLines" (7 : Nat) "MovedLines$Tape") ∈ gT := gT_mem 76 (by decide +kernel) rfl
theorem tw_77 : (Jvm.Cond.instantiable "MovedLines$Tape" (2 : Nat)) ∈ gT := gT_mem 77 (by decide +kernel) rfl
theorem tw_79 : (Jvm.Cond.instanceMethod ({ cls := "MovedLines$Tape", name := "<init>", desc := "()V" } : Jvm.MethodName)) ∈ gT := gT_mem 79 (by decide +kernel) rfl
theorem tw_80 : (Jvm.Cond.code ({ cls := "MovedLines$Tape", name := "<init>", desc := "()V" } : Jvm.MethodName) prog_9_method_1_code (1 : Nat) (Option.none : Option Jvm.ClassFile.FieldType)) ∈ gT := gT_mem 80 (by decide +kernel) rfl
theorem tw_81 : (Jvm.Cond.methodLink "MovedLines$Tape" (3 : Nat) ({ cls := "java/lang/Object", name := "<init>", desc := "()V" } : Jvm.MethodName)) ∈ gT := gT_mem 81 (by decide +kernel) rfl
theorem tw_82 : (Jvm.Cond.fieldLink "MovedLines$Tape" (9 : Nat) "MovedLines$Tape" "bytes" "[B") ∈ gT := gT_mem 82 (by decide +kernel) rfl
theorem tw_83 : (Jvm.Cond.fieldLink "MovedLines$Reader" (39 : Nat) "MovedLines$Tape" "bytes" "[B") ∈ gT := gT_mem 83 (by decide +kernel) rfl
theorem tw_84 : (Jvm.Cond.fieldLink "MovedLines$Tape" (15 : Nat) "MovedLines$Tape" "length" "I") ∈ gT := gT_mem 84 (by decide +kernel) rfl
theorem tw_85 : (Jvm.Cond.fieldLink "MovedLines" (71 : Nat) "MovedLines$Tape" "length" "I") ∈ gT := gT_mem 85 (by decide +kernel) rfl
theorem tw_86 : (Jvm.Cond.fieldLink "MovedLines$Reader" (34 : Nat) "MovedLines$Tape" "length" "I") ∈ gT := gT_mem 86 (by decide +kernel) rfl
theorem tw_87 : (Jvm.Cond.laysFinal "MovedLines$Tape" "MovedLines$Tape" "bytes" "[B") ∈ gT := gT_mem 87 (by decide +kernel) rfl
theorem tw_89 : (Jvm.Cond.lays "MovedLines$Tape" "MovedLines$Tape" "length" "I") ∈ gT := gT_mem 89 (by decide +kernel) rfl
theorem tw_92 : (Jvm.Cond.arrayClass Jvm.ClassFile.FieldType.byte) ∈ gT := gT_mem 92 (by decide +kernel) rfl
theorem tw_93 : (Jvm.Cond.classLink "MovedLines" (16 : Nat) "MovedLines$Reader") ∈ gT := gT_mem 93 (by decide +kernel) rfl
theorem tw_94 : (Jvm.Cond.instantiable "MovedLines$Reader" (5 : Nat)) ∈ gT := gT_mem 94 (by decide +kernel) rfl
theorem tw_96 : (Jvm.Cond.instanceMethod ({ cls := "MovedLines$Reader", name := "<init>", desc := "()V" } : Jvm.MethodName)) ∈ gT := gT_mem 96 (by decide +kernel) rfl
theorem tw_97 : (Jvm.Cond.code ({ cls := "MovedLines$Reader", name := "<init>", desc := "()V" } : Jvm.MethodName) prog_8_method_1_code (1 : Nat) (Option.none : Option Jvm.ClassFile.FieldType)) ∈ gT := gT_mem 97 (by decide +kernel) rfl
theorem tw_98 : (Jvm.Cond.methodLink "MovedLines$Reader" (3 : Nat) ({ cls := "java/lang/Object", name := "<init>", desc := "()V" } : Jvm.MethodName)) ∈ gT := gT_mem 98 (by decide +kernel) rfl
theorem tw_99 : (Jvm.Cond.classLink "MovedLines$Reader" (9 : Nat) "MovedLines$Edition") ∈ gT := gT_mem 99 (by decide +kernel) rfl
theorem tw_100 : (Jvm.Cond.instantiable "MovedLines$Edition" (3 : Nat)) ∈ gT := gT_mem 100 (by decide +kernel) rfl
theorem tw_102 : (Jvm.Cond.instanceMethod ({ cls := "MovedLines$Edition", name := "<init>", desc := "()V" } : Jvm.MethodName)) ∈ gT := gT_mem 102 (by decide +kernel) rfl
theorem tw_103 : (Jvm.Cond.code ({ cls := "MovedLines$Edition", name := "<init>", desc := "()V" } : Jvm.MethodName) prog_4_method_1_code (1 : Nat) (Option.none : Option Jvm.ClassFile.FieldType)) ∈ gT := gT_mem 103 (by decide +kernel) rfl
theorem tw_104 : (Jvm.Cond.methodLink "MovedLines$Edition" (3 : Nat) ({ cls := "java/lang/Object", name := "<init>", desc := "()V" } : Jvm.MethodName)) ∈ gT := gT_mem 104 (by decide +kernel) rfl
theorem tw_105 : (Jvm.Cond.fieldLink "MovedLines$Edition" (9 : Nat) "MovedLines$Edition" "sizes" "[I") ∈ gT := gT_mem 105 (by decide +kernel) rfl
theorem tw_106 : (Jvm.Cond.fieldLink "MovedLines$Reader" (62 : Nat) "MovedLines$Edition" "sizes" "[I") ∈ gT := gT_mem 106 (by decide +kernel) rfl
theorem tw_107 : (Jvm.Cond.fieldLink "MovedLines$Edition" (15 : Nat) "MovedLines$Edition" "words" "[I") ∈ gT := gT_mem 107 (by decide +kernel) rfl
theorem tw_108 : (Jvm.Cond.fieldLink "MovedLines$Reader" (59 : Nat) "MovedLines$Edition" "words" "[I") ∈ gT := gT_mem 108 (by decide +kernel) rfl
theorem tw_109 : (Jvm.Cond.fieldLink "MovedLines$Comparer" (114 : Nat) "MovedLines$Edition" "words" "[I") ∈ gT := gT_mem 109 (by decide +kernel) rfl
theorem tw_110 : (Jvm.Cond.fieldLink "MovedLines" (242 : Nat) "MovedLines$Edition" "words" "[I") ∈ gT := gT_mem 110 (by decide +kernel) rfl
theorem tw_111 : (Jvm.Cond.fieldLink "MovedLines$Edition" (18 : Nat) "MovedLines$Edition" "lines" "I") ∈ gT := gT_mem 111 (by decide +kernel) rfl
theorem tw_112 : (Jvm.Cond.fieldLink "MovedLines$Kinds" (25 : Nat) "MovedLines$Edition" "lines" "I") ∈ gT := gT_mem 112 (by decide +kernel) rfl
theorem tw_113 : (Jvm.Cond.fieldLink "MovedLines$Reader" (31 : Nat) "MovedLines$Edition" "lines" "I") ∈ gT := gT_mem 113 (by decide +kernel) rfl
theorem tw_114 : (Jvm.Cond.fieldLink "MovedLines" (104 : Nat) "MovedLines$Edition" "lines" "I") ∈ gT := gT_mem 114 (by decide +kernel) rfl
theorem tw_115 : (Jvm.Cond.fieldLink "MovedLines$Comparer" (109 : Nat) "MovedLines$Edition" "lines" "I") ∈ gT := gT_mem 115 (by decide +kernel) rfl
theorem tw_116 : (Jvm.Cond.laysFinal "MovedLines$Edition" "MovedLines$Edition" "sizes" "[I") ∈ gT := gT_mem 116 (by decide +kernel) rfl
theorem tw_118 : (Jvm.Cond.laysFinal "MovedLines$Edition" "MovedLines$Edition" "words" "[I") ∈ gT := gT_mem 118 (by decide +kernel) rfl
theorem tw_120 : (Jvm.Cond.lays "MovedLines$Edition" "MovedLines$Edition" "lines" "I") ∈ gT := gT_mem 120 (by decide +kernel) rfl
theorem tw_123 : (Jvm.Cond.arrayClass Jvm.ClassFile.FieldType.int) ∈ gT := gT_mem 123 (by decide +kernel) rfl
theorem tw_124 : (Jvm.Cond.fieldLink "MovedLines$Reader" (12 : Nat) "MovedLines$Reader" "draft" "LMovedLines$Edition;") ∈ gT := gT_mem 124 (by decide +kernel) rfl
theorem tw_125 : (Jvm.Cond.fieldLink "MovedLines" (94 : Nat) "MovedLines$Reader" "draft" "LMovedLines$Edition;") ∈ gT := gT_mem 125 (by decide +kernel) rfl
theorem tw_126 : (Jvm.Cond.fieldLink "MovedLines$Reader" (18 : Nat) "MovedLines$Reader" "fault" "I") ∈ gT := gT_mem 126 (by decide +kernel) rfl
theorem tw_127 : (Jvm.Cond.fieldLink "MovedLines" (107 : Nat) "MovedLines$Reader" "fault" "I") ∈ gT := gT_mem 127 (by decide +kernel) rfl
theorem tw_128 : (Jvm.Cond.fieldLink "MovedLines$Reader" (22 : Nat) "MovedLines$Reader" "place" "I") ∈ gT := gT_mem 128 (by decide +kernel) rfl
theorem tw_129 : (Jvm.Cond.fieldLink "MovedLines" (87 : Nat) "MovedLines$Reader" "place" "I") ∈ gT := gT_mem 129 (by decide +kernel) rfl
theorem tw_130 : (Jvm.Cond.fieldLink "MovedLines$Reader" (25 : Nat) "MovedLines$Reader" "words" "I") ∈ gT := gT_mem 130 (by decide +kernel) rfl
theorem tw_131 : (Jvm.Cond.fieldLink "MovedLines$Reader" (28 : Nat) "MovedLines$Reader" "letters" "I") ∈ gT := gT_mem 131 (by decide +kernel) rfl
theorem tw_132 : (Jvm.Cond.laysFinal "MovedLines$Reader" "MovedLines$Reader" "draft" "LMovedLines$Edition;") ∈ gT := gT_mem 132 (by decide +kernel) rfl
theorem tw_134 : (Jvm.Cond.lays "MovedLines$Reader" "MovedLines$Reader" "fault" "I") ∈ gT := gT_mem 134 (by decide +kernel) rfl
theorem tw_136 : (Jvm.Cond.lays "MovedLines$Reader" "MovedLines$Reader" "place" "I") ∈ gT := gT_mem 136 (by decide +kernel) rfl
theorem tw_138 : (Jvm.Cond.lays "MovedLines$Reader" "MovedLines$Reader" "words" "I") ∈ gT := gT_mem 138 (by decide +kernel) rfl
theorem tw_140 : (Jvm.Cond.lays "MovedLines$Reader" "MovedLines$Reader" "letters" "I") ∈ gT := gT_mem 140 (by decide +kernel) rfl
theorem tw_143 : (Jvm.Cond.classLink "MovedLines" (23 : Nat) "MovedLines$Edition") ∈ gT := gT_mem 143 (by decide +kernel) rfl
theorem tw_145 : (Jvm.Cond.classLink "MovedLines" (36 : Nat) "MovedLines$Past") ∈ gT := gT_mem 145 (by decide +kernel) rfl
theorem tw_146 : (Jvm.Cond.instantiable "MovedLines$Past" (4 : Nat)) ∈ gT := gT_mem 146 (by decide +kernel) rfl
theorem tw_147 : (Jvm.Cond.methodLink "MovedLines" (38 : Nat) ({ cls := "MovedLines$Past", name := "<init>", desc := "()V" } : Jvm.MethodName)) ∈ gT := gT_mem 147 (by decide +kernel) rfl
theorem tw_148 : (Jvm.Cond.instanceMethod ({ cls := "MovedLines$Past", name := "<init>", desc := "()V" } : Jvm.MethodName)) ∈ gT := gT_mem 148 (by decide +kernel) rfl
theorem tw_149 : (Jvm.Cond.code ({ cls := "MovedLines$Past", name := "<init>", desc := "()V" } : Jvm.MethodName) prog_7_method_1_code (2 : Nat) (Option.none : Option Jvm.ClassFile.FieldType)) ∈ gT := gT_mem 149 (by decide +kernel) rfl
theorem tw_150 : (Jvm.Cond.methodLink "MovedLines$Past" (3 : Nat) ({ cls := "java/lang/Object", name := "<init>", desc := "()V" } : Jvm.MethodName)) ∈ gT := gT_mem 150 (by decide +kernel) rfl
theorem tw_151 : (Jvm.Cond.classLink "MovedLines$Past" (9 : Nat) "MovedLines$Edition") ∈ gT := gT_mem 151 (by decide +kernel) rfl
theorem tw_154 : (Jvm.Cond.fieldLink "MovedLines$Past" (11 : Nat) "MovedLines$Past" "editions" "[LMovedLines$Edition;") ∈ gT := gT_mem 154 (by decide +kernel) rfl
theorem tw_155 : (Jvm.Cond.fieldLink "MovedLines" (227 : Nat) "MovedLines$Past" "editions" "[LMovedLines$Edition;") ∈ gT := gT_mem 155 (by decide +kernel) rfl
theorem tw_156 : (Jvm.Cond.fieldLink "MovedLines$Past" (17 : Nat) "MovedLines$Past" "which" "[I") ∈ gT := gT_mem 156 (by decide +kernel) rfl
theorem tw_157 : (Jvm.Cond.fieldLink "MovedLines" (224 : Nat) "MovedLines$Past" "which" "[I") ∈ gT := gT_mem 157 (by decide +kernel) rfl
theorem tw_158 : (Jvm.Cond.fieldLink "MovedLines$Past" (21 : Nat) "MovedLines$Past" "count" "I") ∈ gT := gT_mem 158 (by decide +kernel) rfl
theorem tw_159 : (Jvm.Cond.fieldLink "MovedLines" (125 : Nat) "MovedLines$Past" "count" "I") ∈ gT := gT_mem 159 (by decide +kernel) rfl
theorem tw_160 : (Jvm.Cond.fieldLink "MovedLines$Past" (25 : Nat) "MovedLines$Past" "next" "I") ∈ gT := gT_mem 160 (by decide +kernel) rfl
theorem tw_161 : (Jvm.Cond.laysFinal "MovedLines$Past" "MovedLines$Past" "editions" "[LMovedLines$Edition;") ∈ gT := gT_mem 161 (by decide +kernel) rfl
theorem tw_163 : (Jvm.Cond.laysFinal "MovedLines$Past" "MovedLines$Past" "which" "[I") ∈ gT := gT_mem 163 (by decide +kernel) rfl
theorem tw_165 : (Jvm.Cond.lays "MovedLines$Past" "MovedLines$Past" "count" "I") ∈ gT := gT_mem 165 (by decide +kernel) rfl
theorem tw_167 : (Jvm.Cond.lays "MovedLines$Past" "MovedLines$Past" "next" "I") ∈ gT := gT_mem 167 (by decide +kernel) rfl
theorem tw_170 : (Jvm.Cond.classLink "MovedLines" (43 : Nat) "MovedLines$Comparer") ∈ gT := gT_mem 170 (by decide +kernel) rfl
theorem tw_171 : (Jvm.Cond.instantiable "MovedLines$Comparer" (4 : Nat)) ∈ gT := gT_mem 171 (by decide +kernel) rfl
theorem tw_173 : (Jvm.Cond.instanceMethod ({ cls := "MovedLines$Comparer", name := "<init>", desc := "()V" } : Jvm.MethodName)) ∈ gT := gT_mem 173 (by decide +kernel) rfl
theorem tw_174 : (Jvm.Cond.code ({ cls := "MovedLines$Comparer", name := "<init>", desc := "()V" } : Jvm.MethodName) prog_3_method_1_code (1 : Nat) (Option.none : Option Jvm.ClassFile.FieldType)) ∈ gT := gT_mem 174 (by decide +kernel) rfl
theorem tw_175 : (Jvm.Cond.methodLink "MovedLines$Comparer" (3 : Nat) ({ cls := "java/lang/Object", name := "<init>", desc := "()V" } : Jvm.MethodName)) ∈ gT := gT_mem 175 (by decide +kernel) rfl
theorem tw_176 : (Jvm.Cond.classLink "MovedLines$Comparer" (9 : Nat) "MovedLines$Kinds") ∈ gT := gT_mem 176 (by decide +kernel) rfl
theorem tw_177 : (Jvm.Cond.instantiable "MovedLines$Kinds" (4 : Nat)) ∈ gT := gT_mem 177 (by decide +kernel) rfl
theorem tw_179 : (Jvm.Cond.instanceMethod ({ cls := "MovedLines$Kinds", name := "<init>", desc := "()V" } : Jvm.MethodName)) ∈ gT := gT_mem 179 (by decide +kernel) rfl
theorem tw_180 : (Jvm.Cond.code ({ cls := "MovedLines$Kinds", name := "<init>", desc := "()V" } : Jvm.MethodName) prog_6_method_1_code (1 : Nat) (Option.none : Option Jvm.ClassFile.FieldType)) ∈ gT := gT_mem 180 (by decide +kernel) rfl
theorem tw_181 : (Jvm.Cond.methodLink "MovedLines$Kinds" (3 : Nat) ({ cls := "java/lang/Object", name := "<init>", desc := "()V" } : Jvm.MethodName)) ∈ gT := gT_mem 181 (by decide +kernel) rfl
theorem tw_182 : (Jvm.Cond.fieldLink "MovedLines$Kinds" (9 : Nat) "MovedLines$Kinds" "olds" "[I") ∈ gT := gT_mem 182 (by decide +kernel) rfl
theorem tw_183 : (Jvm.Cond.fieldLink "MovedLines$Comparer" (70 : Nat) "MovedLines$Kinds" "olds" "[I") ∈ gT := gT_mem 183 (by decide +kernel) rfl
theorem tw_184 : (Jvm.Cond.fieldLink "MovedLines$Keeper" (83 : Nat) "MovedLines$Kinds" "olds" "[I") ∈ gT := gT_mem 184 (by decide +kernel) rfl
theorem tw_185 : (Jvm.Cond.fieldLink "MovedLines$Kinds" (15 : Nat) "MovedLines$Kinds" "news" "[I") ∈ gT := gT_mem 185 (by decide +kernel) rfl
theorem tw_186 : (Jvm.Cond.fieldLink "MovedLines$Comparer" (81 : Nat) "MovedLines$Kinds" "news" "[I") ∈ gT := gT_mem 186 (by decide +kernel) rfl
theorem tw_187 : (Jvm.Cond.fieldLink "MovedLines$Keeper" (86 : Nat) "MovedLines$Kinds" "news" "[I") ∈ gT := gT_mem 187 (by decide +kernel) rfl
theorem tw_188 : (Jvm.Cond.fieldLink "MovedLines$Kinds" (18 : Nat) "MovedLines$Kinds" "oldLines" "I") ∈ gT := gT_mem 188 (by decide +kernel) rfl
theorem tw_189 : (Jvm.Cond.fieldLink "MovedLines$Keeper" (40 : Nat) "MovedLines$Kinds" "oldLines" "I") ∈ gT := gT_mem 189 (by decide +kernel) rfl
theorem tw_190 : (Jvm.Cond.fieldLink "MovedLines$Comparer" (74 : Nat) "MovedLines$Kinds" "oldLines" "I") ∈ gT := gT_mem 190 (by decide +kernel) rfl
theorem tw_191 : (Jvm.Cond.fieldLink "MovedLines$Kinds" (22 : Nat) "MovedLines$Kinds" "newLines" "I") ∈ gT := gT_mem 191 (by decide +kernel) rfl
theorem tw_192 : (Jvm.Cond.fieldLink "MovedLines$Keeper" (45 : Nat) "MovedLines$Kinds" "newLines" "I") ∈ gT := gT_mem 192 (by decide +kernel) rfl
theorem tw_193 : (Jvm.Cond.fieldLink "MovedLines$Comparer" (84 : Nat) "MovedLines$Kinds" "newLines" "I") ∈ gT := gT_mem 193 (by decide +kernel) rfl
theorem tw_194 : (Jvm.Cond.laysFinal "MovedLines$Kinds" "MovedLines$Kinds" "olds" "[I") ∈ gT := gT_mem 194 (by decide +kernel) rfl
theorem tw_196 : (Jvm.Cond.laysFinal "MovedLines$Kinds" "MovedLines$Kinds" "news" "[I") ∈ gT := gT_mem 196 (by decide +kernel) rfl
theorem tw_198 : (Jvm.Cond.lays "MovedLines$Kinds" "MovedLines$Kinds" "oldLines" "I") ∈ gT := gT_mem 198 (by decide +kernel) rfl
theorem tw_200 : (Jvm.Cond.lays "MovedLines$Kinds" "MovedLines$Kinds" "newLines" "I") ∈ gT := gT_mem 200 (by decide +kernel) rfl
theorem tw_203 : (Jvm.Cond.classLink "MovedLines$Comparer" (18 : Nat) "MovedLines$Keeper") ∈ gT := gT_mem 203 (by decide +kernel) rfl
theorem tw_204 : (Jvm.Cond.instantiable "MovedLines$Keeper" (9 : Nat)) ∈ gT := gT_mem 204 (by decide +kernel) rfl
theorem tw_206 : (Jvm.Cond.instanceMethod ({ cls := "MovedLines$Keeper", name := "<init>", desc := "()V" } : Jvm.MethodName)) ∈ gT := gT_mem 206 (by decide +kernel) rfl
theorem tw_207 : (Jvm.Cond.code ({ cls := "MovedLines$Keeper", name := "<init>", desc := "()V" } : Jvm.MethodName) prog_5_method_1_code (1 : Nat) (Option.none : Option Jvm.ClassFile.FieldType)) ∈ gT := gT_mem 207 (by decide +kernel) rfl
theorem tw_208 : (Jvm.Cond.methodLink "MovedLines$Keeper" (3 : Nat) ({ cls := "java/lang/Object", name := "<init>", desc := "()V" } : Jvm.MethodName)) ∈ gT := gT_mem 208 (by decide +kernel) rfl
theorem tw_209 : (Jvm.Cond.fieldLink "MovedLines$Keeper" (9 : Nat) "MovedLines$Keeper" "oldFrom" "[I") ∈ gT := gT_mem 209 (by decide +kernel) rfl
theorem tw_210 : (Jvm.Cond.fieldLink "MovedLines$Keeper" (15 : Nat) "MovedLines$Keeper" "oldTo" "[I") ∈ gT := gT_mem 210 (by decide +kernel) rfl
theorem tw_211 : (Jvm.Cond.fieldLink "MovedLines$Keeper" (18 : Nat) "MovedLines$Keeper" "newFrom" "[I") ∈ gT := gT_mem 211 (by decide +kernel) rfl
theorem tw_212 : (Jvm.Cond.fieldLink "MovedLines$Keeper" (21 : Nat) "MovedLines$Keeper" "newTo" "[I") ∈ gT := gT_mem 212 (by decide +kernel) rfl
theorem tw_213 : (Jvm.Cond.fieldLink "MovedLines$Keeper" (24 : Nat) "MovedLines$Keeper" "ranges" "I") ∈ gT := gT_mem 213 (by decide +kernel) rfl
theorem tw_214 : (Jvm.Cond.fieldLink "MovedLines$Keeper" (28 : Nat) "MovedLines$Keeper" "anchorOld" "[I") ∈ gT := gT_mem 214 (by decide +kernel) rfl
theorem tw_215 : (Jvm.Cond.fieldLink "MovedLines$Keeper" (31 : Nat) "MovedLines$Keeper" "anchorNew" "[I") ∈ gT := gT_mem 215 (by decide +kernel) rfl
theorem tw_216 : (Jvm.Cond.fieldLink "MovedLines$Keeper" (34 : Nat) "MovedLines$Keeper" "rise" "[I") ∈ gT := gT_mem 216 (by decide +kernel) rfl
theorem tw_217 : (Jvm.Cond.fieldLink "MovedLines$Keeper" (37 : Nat) "MovedLines$Keeper" "found" "I") ∈ gT := gT_mem 217 (by decide +kernel) rfl
theorem tw_218 : (Jvm.Cond.laysFinal "MovedLines$Keeper" "MovedLines$Keeper" "oldFrom" "[I") ∈ gT := gT_mem 218 (by decide +kernel) rfl
theorem tw_220 : (Jvm.Cond.laysFinal "MovedLines$Keeper" "MovedLines$Keeper" "oldTo" "[I") ∈ gT := gT_mem 220 (by decide +kernel) rfl
theorem tw_222 : (Jvm.Cond.laysFinal "MovedLines$Keeper" "MovedLines$Keeper" "newFrom" "[I") ∈ gT := gT_mem 222 (by decide +kernel) rfl
theorem tw_224 : (Jvm.Cond.laysFinal "MovedLines$Keeper" "MovedLines$Keeper" "newTo" "[I") ∈ gT := gT_mem 224 (by decide +kernel) rfl
theorem tw_226 : (Jvm.Cond.lays "MovedLines$Keeper" "MovedLines$Keeper" "ranges" "I") ∈ gT := gT_mem 226 (by decide +kernel) rfl
theorem tw_228 : (Jvm.Cond.laysFinal "MovedLines$Keeper" "MovedLines$Keeper" "anchorOld" "[I") ∈ gT := gT_mem 228 (by decide +kernel) rfl
theorem tw_230 : (Jvm.Cond.laysFinal "MovedLines$Keeper" "MovedLines$Keeper" "anchorNew" "[I") ∈ gT := gT_mem 230 (by decide +kernel) rfl
theorem tw_232 : (Jvm.Cond.laysFinal "MovedLines$Keeper" "MovedLines$Keeper" "rise" "[I") ∈ gT := gT_mem 232 (by decide +kernel) rfl
theorem tw_234 : (Jvm.Cond.lays "MovedLines$Keeper" "MovedLines$Keeper" "found" "I") ∈ gT := gT_mem 234 (by decide +kernel) rfl
theorem tw_237 : (Jvm.Cond.classLink "MovedLines$Comparer" (25 : Nat) "MovedLines$CommonRow") ∈ gT := gT_mem 237 (by decide +kernel) rfl
theorem tw_238 : (Jvm.Cond.instantiable "MovedLines$CommonRow" (5 : Nat)) ∈ gT := gT_mem 238 (by decide +kernel) rfl
theorem tw_240 : (Jvm.Cond.instanceMethod ({ cls := "MovedLines$CommonRow", name := "<init>", desc := "()V" } : Jvm.MethodName)) ∈ gT := gT_mem 240 (by decide +kernel) rfl
theorem tw_241 : (Jvm.Cond.code ({ cls := "MovedLines$CommonRow", name := "<init>", desc := "()V" } : Jvm.MethodName) prog_2_method_1_code (1 : Nat) (Option.none : Option Jvm.ClassFile.FieldType)) ∈ gT := gT_mem 241 (by decide +kernel) rfl
theorem tw_242 : (Jvm.Cond.methodLink "MovedLines$CommonRow" (3 : Nat) ({ cls := "java/lang/Object", name := "<init>", desc := "()V" } : Jvm.MethodName)) ∈ gT := gT_mem 242 (by decide +kernel) rfl
theorem tw_243 : (Jvm.Cond.fieldLink "MovedLines$CommonRow" (9 : Nat) "MovedLines$CommonRow" "first" "[I") ∈ gT := gT_mem 243 (by decide +kernel) rfl
theorem tw_244 : (Jvm.Cond.fieldLink "MovedLines$CommonRow" (15 : Nat) "MovedLines$CommonRow" "second" "[I") ∈ gT := gT_mem 244 (by decide +kernel) rfl
theorem tw_245 : (Jvm.Cond.fieldLink "MovedLines$CommonRow" (18 : Nat) "MovedLines$CommonRow" "longest" "[I") ∈ gT := gT_mem 245 (by decide +kernel) rfl
theorem tw_246 : (Jvm.Cond.fieldLink "MovedLines$CommonRow" (21 : Nat) "MovedLines$CommonRow" "firsts" "I") ∈ gT := gT_mem 246 (by decide +kernel) rfl
theorem tw_247 : (Jvm.Cond.fieldLink "MovedLines$CommonRow" (25 : Nat) "MovedLines$CommonRow" "seconds" "I") ∈ gT := gT_mem 247 (by decide +kernel) rfl
theorem tw_248 : (Jvm.Cond.laysFinal "MovedLines$CommonRow" "MovedLines$CommonRow" "first" "[I") ∈ gT := gT_mem 248 (by decide +kernel) rfl
theorem tw_250 : (Jvm.Cond.laysFinal "MovedLines$CommonRow" "MovedLines$CommonRow" "second" "[I") ∈ gT := gT_mem 250 (by decide +kernel) rfl
theorem tw_252 : (Jvm.Cond.laysFinal "MovedLines$CommonRow" "MovedLines$CommonRow" "longest" "[I") ∈ gT := gT_mem 252 (by decide +kernel) rfl
theorem tw_254 : (Jvm.Cond.lays "MovedLines$CommonRow" "MovedLines$CommonRow" "firsts" "I") ∈ gT := gT_mem 254 (by decide +kernel) rfl
theorem tw_256 : (Jvm.Cond.lays "MovedLines$CommonRow" "MovedLines$CommonRow" "seconds" "I") ∈ gT := gT_mem 256 (by decide +kernel) rfl
theorem tw_259 : (Jvm.Cond.classLink "MovedLines$Comparer" (32 : Nat) "[[I") ∈ gT := gT_mem 259 (by decide +kernel) rfl
theorem tw_261 : (Jvm.Cond.fieldLink "MovedLines$Comparer" (12 : Nat) "MovedLines$Comparer" "kinds" "LMovedLines$Kinds;") ∈ gT := gT_mem 261 (by decide +kernel) rfl
theorem tw_262 : (Jvm.Cond.fieldLink "MovedLines$Comparer" (21 : Nat) "MovedLines$Comparer" "keeper" "LMovedLines$Keeper;") ∈ gT := gT_mem 262 (by decide +kernel) rfl
theorem tw_263 : (Jvm.Cond.fieldLink "MovedLines$Comparer" (28 : Nat) "MovedLines$Comparer" "common" "LMovedLines$CommonRow;") ∈ gT := gT_mem 263 (by decide +kernel) rfl
theorem tw_264 : (Jvm.Cond.fieldLink "MovedLines$Comparer" (34 : Nat) "MovedLines$Comparer" "likeness" "[[I") ∈ gT := gT_mem 264 (by decide +kernel) rfl
theorem tw_265 : (Jvm.Cond.laysFinal "MovedLines$Comparer" "MovedLines$Comparer" "kinds" "LMovedLines$Kinds;") ∈ gT := gT_mem 265 (by decide +kernel) rfl
theorem tw_267 : (Jvm.Cond.laysFinal "MovedLines$Comparer" "MovedLines$Comparer" "keeper" "LMovedLines$Keeper;") ∈ gT := gT_mem 267 (by decide +kernel) rfl
theorem tw_269 : (Jvm.Cond.laysFinal "MovedLines$Comparer" "MovedLines$Comparer" "common" "LMovedLines$CommonRow;") ∈ gT := gT_mem 269 (by decide +kernel) rfl
theorem tw_271 : (Jvm.Cond.laysFinal "MovedLines$Comparer" "MovedLines$Comparer" "likeness" "[[I") ∈ gT := gT_mem 271 (by decide +kernel) rfl
theorem tw_274 : (Jvm.Cond.classLink "MovedLines" (50 : Nat) "MovedLines$CommonRow") ∈ gT := gT_mem 274 (by decide +kernel) rfl
theorem tw_276 : (Jvm.Cond.classLink "MovedLines" (57 : Nat) "MovedLines$Told") ∈ gT := gT_mem 276 (by decide +kernel) rfl
theorem tw_277 : (Jvm.Cond.instantiable "MovedLines$Told" (11 : Nat)) ∈ gT := gT_mem 277 (by decide +kernel) rfl
theorem tw_279 : (Jvm.Cond.instanceMethod ({ cls := "MovedLines$Told", name := "<init>", desc := "()V" } : Jvm.MethodName)) ∈ gT := gT_mem 279 (by decide +kernel) rfl
theorem tw_280 : (Jvm.Cond.code ({ cls := "MovedLines$Told", name := "<init>", desc := "()V" } : Jvm.MethodName) prog_10_method_1_code (1 : Nat) (Option.none : Option Jvm.ClassFile.FieldType)) ∈ gT := gT_mem 280 (by decide +kernel) rfl
theorem tw_281 : (Jvm.Cond.methodLink "MovedLines$Told" (3 : Nat) ({ cls := "java/lang/Object", name := "<init>", desc := "()V" } : Jvm.MethodName)) ∈ gT := gT_mem 281 (by decide +kernel) rfl
theorem tw_282 : (Jvm.Cond.classLink "MovedLines$Told" (9 : Nat) "[[I") ∈ gT := gT_mem 282 (by decide +kernel) rfl
theorem tw_283 : (Jvm.Cond.fieldLink "MovedLines$Told" (11 : Nat) "MovedLines$Told" "how" "[[I") ∈ gT := gT_mem 283 (by decide +kernel) rfl
theorem tw_284 : (Jvm.Cond.fieldLink "MovedLines" (143 : Nat) "MovedLines$Told" "how" "[[I") ∈ gT := gT_mem 284 (by decide +kernel) rfl
theorem tw_285 : (Jvm.Cond.fieldLink "MovedLines$Told" (16 : Nat) "MovedLines$Told" "with" "[[I") ∈ gT := gT_mem 285 (by decide +kernel) rfl
theorem tw_286 : (Jvm.Cond.fieldLink "MovedLines" (147 : Nat) "MovedLines$Told" "with" "[[I") ∈ gT := gT_mem 286 (by decide +kernel) rfl
theorem tw_287 : (Jvm.Cond.fieldLink "MovedLines$Told" (19 : Nat) "MovedLines$Told" "blockOf" "[[I") ∈ gT := gT_mem 287 (by decide +kernel) rfl
theorem tw_288 : (Jvm.Cond.fieldLink "MovedLines" (150 : Nat) "MovedLines$Told" "blockOf" "[[I") ∈ gT := gT_mem 288 (by decide +kernel) rfl
theorem tw_289 : (Jvm.Cond.fieldLink "MovedLines$Told" (22 : Nat) "MovedLines$Told" "couples" "[I") ∈ gT := gT_mem 289 (by decide +kernel) rfl
theorem tw_290 : (Jvm.Cond.fieldLink "MovedLines" (114 : Nat) "MovedLines$Told" "couples" "[I") ∈ gT := gT_mem 290 (by decide +kernel) rfl
theorem tw_291 : (Jvm.Cond.fieldLink "MovedLines$Told" (26 : Nat) "MovedLines$Told" "blockOld" "[I") ∈ gT := gT_mem 291 (by decide +kernel) rfl
theorem tw_292 : (Jvm.Cond.fieldLink "MovedLines" (165 : Nat) "MovedLines$Told" "blockOld" "[I") ∈ gT := gT_mem 292 (by decide +kernel) rfl
theorem tw_293 : (Jvm.Cond.fieldLink "MovedLines$Told" (29 : Nat) "MovedLines$Told" "blockNew" "[I") ∈ gT := gT_mem 293 (by decide +kernel) rfl
theorem tw_294 : (Jvm.Cond.fieldLink "MovedLines" (168 : Nat) "MovedLines$Told" "blockNew" "[I") ∈ gT := gT_mem 294 (by decide +kernel) rfl
theorem tw_295 : (Jvm.Cond.fieldLink "MovedLines$Told" (32 : Nat) "MovedLines$Told" "blockLines" "[I") ∈ gT := gT_mem 295 (by decide +kernel) rfl
theorem tw_296 : (Jvm.Cond.fieldLink "MovedLines" (171 : Nat) "MovedLines$Told" "blockLines" "[I") ∈ gT := gT_mem 296 (by decide +kernel) rfl
theorem tw_297 : (Jvm.Cond.fieldLink "MovedLines$Told" (35 : Nat) "MovedLines$Told" "blocks" "I") ∈ gT := gT_mem 297 (by decide +kernel) rfl
theorem tw_298 : (Jvm.Cond.fieldLink "MovedLines" (118 : Nat) "MovedLines$Told" "blocks" "I") ∈ gT := gT_mem 298 (by decide +kernel) rfl
theorem tw_299 : (Jvm.Cond.fieldLink "MovedLines$Told" (39 : Nat) "MovedLines$Told" "firstAnchors" "I") ∈ gT := gT_mem 299 (by decide +kernel) rfl
theorem tw_300 : (Jvm.Cond.fieldLink "MovedLines$Keeper" (64 : Nat) "MovedLines$Told" "firstAnchors" "I") ∈ gT := gT_mem 300 (by decide +kernel) rfl
theorem tw_301 : (Jvm.Cond.fieldLink "MovedLines" (187 : Nat) "MovedLines$Told" "firstAnchors" "I") ∈ gT := gT_mem 301 (by decide +kernel) rfl
theorem tw_302 : (Jvm.Cond.fieldLink "MovedLines$Told" (42 : Nat) "MovedLines$Told" "firstRun" "I") ∈ gT := gT_mem 302 (by decide +kernel) rfl
theorem tw_303 : (Jvm.Cond.fieldLink "MovedLines$Keeper" (69 : Nat) "MovedLines$Told" "firstRun" "I") ∈ gT := gT_mem 303 (by decide +kernel) rfl
theorem tw_304 : (Jvm.Cond.fieldLink "MovedLines" (190 : Nat) "MovedLines$Told" "firstRun" "I") ∈ gT := gT_mem 304 (by decide +kernel) rfl
theorem tw_305 : (Jvm.Cond.fieldLink "MovedLines$Told" (45 : Nat) "MovedLines$Told" "changedWords" "I") ∈ gT := gT_mem 305 (by decide +kernel) rfl
theorem tw_306 : (Jvm.Cond.fieldLink "MovedLines$Comparer" (62 : Nat) "MovedLines$Told" "changedWords" "I") ∈ gT := gT_mem 306 (by decide +kernel) rfl
theorem tw_307 : (Jvm.Cond.fieldLink "MovedLines" (184 : Nat) "MovedLines$Told" "changedWords" "I") ∈ gT := gT_mem 307 (by decide +kernel) rfl
theorem tw_308 : (Jvm.Cond.laysFinal "MovedLines$Told" "MovedLines$Told" "how" "[[I") ∈ gT := gT_mem 308 (by decide +kernel) rfl
theorem tw_310 : (Jvm.Cond.laysFinal "MovedLines$Told" "MovedLines$Told" "with" "[[I") ∈ gT := gT_mem 310 (by decide +kernel) rfl
theorem tw_312 : (Jvm.Cond.laysFinal "MovedLines$Told" "MovedLines$Told" "blockOf" "[[I") ∈ gT := gT_mem 312 (by decide +kernel) rfl
theorem tw_314 : (Jvm.Cond.laysFinal "MovedLines$Told" "MovedLines$Told" "couples" "[I") ∈ gT := gT_mem 314 (by decide +kernel) rfl
theorem tw_316 : (Jvm.Cond.laysFinal "MovedLines$Told" "MovedLines$Told" "blockOld" "[I") ∈ gT := gT_mem 316 (by decide +kernel) rfl
theorem tw_318 : (Jvm.Cond.laysFinal "MovedLines$Told" "MovedLines$Told" "blockNew" "[I") ∈ gT := gT_mem 318 (by decide +kernel) rfl
theorem tw_320 : (Jvm.Cond.laysFinal "MovedLines$Told" "MovedLines$Told" "blockLines" "[I") ∈ gT := gT_mem 320 (by decide +kernel) rfl
theorem tw_322 : (Jvm.Cond.lays "MovedLines$Told" "MovedLines$Told" "blocks" "I") ∈ gT := gT_mem 322 (by decide +kernel) rfl
theorem tw_324 : (Jvm.Cond.lays "MovedLines$Told" "MovedLines$Told" "firstAnchors" "I") ∈ gT := gT_mem 324 (by decide +kernel) rfl
