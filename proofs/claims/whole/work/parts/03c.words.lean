theorem tw_622 : (Jvm.Cond.methodLink "MovedLinesLaw" (74 : Nat) ({ cls := "MovedLines", name := "changes", desc := "()I" } : Jvm.MethodName)) ∈ gT := gT_mem 622 (by decide +kernel) rfl
theorem tw_623 : (Jvm.Cond.instanceMethod ({ cls := "MovedLines", name := "changes", desc := "()I" } : Jvm.MethodName)) ∈ gT := gT_mem 623 (by decide +kernel) rfl
theorem tw_624 : (Jvm.Cond.selects "MovedLines" ({ cls := "MovedLines", name := "changes", desc := "()I" } : Jvm.MethodName) ({ cls := "MovedLines", name := "changes", desc := "()I" } : Jvm.MethodName)) ∈ gT := gT_mem 624 (by decide +kernel) rfl
theorem tw_625 : (Jvm.Cond.code ({ cls := "MovedLines", name := "changes", desc := "()I" } : Jvm.MethodName) prog_1_method_13_code (1 : Nat) (Option.some Jvm.ClassFile.FieldType.int)) ∈ gT := gT_mem 625 (by decide +kernel) rfl
theorem tw_626 : (Jvm.Cond.methodLink "MovedLinesLaw" (78 : Nat) ({ cls := "MovedLines", name := "anchors", desc := "(I)I" } : Jvm.MethodName)) ∈ gT := gT_mem 626 (by decide +kernel) rfl
theorem tw_627 : (Jvm.Cond.instanceMethod ({ cls := "MovedLines", name := "anchors", desc := "(I)I" } : Jvm.MethodName)) ∈ gT := gT_mem 627 (by decide +kernel) rfl
theorem tw_628 : (Jvm.Cond.selects "MovedLines" ({ cls := "MovedLines", name := "anchors", desc := "(I)I" } : Jvm.MethodName) ({ cls := "MovedLines", name := "anchors", desc := "(I)I" } : Jvm.MethodName)) ∈ gT := gT_mem 628 (by decide +kernel) rfl
theorem tw_629 : (Jvm.Cond.code ({ cls := "MovedLines", name := "anchors", desc := "(I)I" } : Jvm.MethodName) prog_1_method_14_code (2 : Nat) (Option.some Jvm.ClassFile.FieldType.int)) ∈ gT := gT_mem 629 (by decide +kernel) rfl
theorem tw_630 : (Jvm.Cond.methodLink "MovedLinesLaw" (82 : Nat) ({ cls := "MovedLines", name := "would", desc := "(III)I" } : Jvm.MethodName)) ∈ gT := gT_mem 630 (by decide +kernel) rfl
theorem tw_631 : (Jvm.Cond.instanceMethod ({ cls := "MovedLines", name := "would", desc := "(III)I" } : Jvm.MethodName)) ∈ gT := gT_mem 631 (by decide +kernel) rfl
theorem tw_632 : (Jvm.Cond.selects "MovedLines" ({ cls := "MovedLines", name := "would", desc := "(III)I" } : Jvm.MethodName) ({ cls := "MovedLines", name := "would", desc := "(III)I" } : Jvm.MethodName)) ∈ gT := gT_mem 632 (by decide +kernel) rfl
theorem tw_633 : (Jvm.Cond.code ({ cls := "MovedLines", name := "would", desc := "(III)I" } : Jvm.MethodName) prog_1_method_15_code (4 : Nat) (Option.some Jvm.ClassFile.FieldType.int)) ∈ gT := gT_mem 633 (by decide +kernel) rfl
theorem tw_634 : (Jvm.Cond.methodLink "MovedLines" (193 : Nat) ({ cls := "MovedLines", name := "otherThan", desc := "(I)I" } : Jvm.MethodName)) ∈ gT := gT_mem 634 (by decide +kernel) rfl
theorem tw_635 : (Jvm.Cond.static ({ cls := "MovedLines", name := "otherThan", desc := "(I)I" } : Jvm.MethodName)) ∈ gT := gT_mem 635 (by decide +kernel) rfl
theorem tw_636 : (Jvm.Cond.code ({ cls := "MovedLines", name := "otherThan", desc := "(I)I" } : Jvm.MethodName) prog_1_method_23_code (1 : Nat) (Option.some Jvm.ClassFile.FieldType.int)) ∈ gT := gT_mem 636 (by decide +kernel) rfl
theorem tw_637 : (Jvm.Cond.methodLink "MovedLines" (196 : Nat) ({ cls := "MovedLines$Edition", name := "setLine", desc := "(ILMovedLines$Edition;I)V" } : Jvm.MethodName)) ∈ gT := gT_mem 637 (by decide +kernel) rfl
theorem tw_638 : (Jvm.Cond.methodLink "MovedLines" (204 : Nat) ({ cls := "MovedLines$Told", name := "differencesFrom", desc := "(LMovedLines$Told;)I" } : Jvm.MethodName)) ∈ gT := gT_mem 638 (by decide +kernel) rfl
theorem tw_639 : (Jvm.Cond.instanceMethod ({ cls := "MovedLines$Told", name := "differencesFrom", desc := "(LMovedLines$Told;)I" } : Jvm.MethodName)) ∈ gT := gT_mem 639 (by decide +kernel) rfl
theorem tw_640 : (Jvm.Cond.selects "MovedLines$Told" ({ cls := "MovedLines$Told", name := "differencesFrom", desc := "(LMovedLines$Told;)I" } : Jvm.MethodName) ({ cls := "MovedLines$Told", name := "differencesFrom", desc := "(LMovedLines$Told;)I" } : Jvm.MethodName)) ∈ gT := gT_mem 640 (by decide +kernel) rfl
theorem tw_641 : (Jvm.Cond.code ({ cls := "MovedLines$Told", name := "differencesFrom", desc := "(LMovedLines$Told;)I" } : Jvm.MethodName) prog_10_method_7_code (5 : Nat) (Option.some Jvm.ClassFile.FieldType.int)) ∈ gT := gT_mem 641 (by decide +kernel) rfl
theorem tw_642 : (Jvm.Cond.methodLink "MovedLinesLaw" (86 : Nat) ({ cls := "MovedLines", name := "put", desc := "(II)I" } : Jvm.MethodName)) ∈ gT := gT_mem 642 (by decide +kernel) rfl
theorem tw_643 : (Jvm.Cond.instanceMethod ({ cls := "MovedLines", name := "put", desc := "(II)I" } : Jvm.MethodName)) ∈ gT := gT_mem 643 (by decide +kernel) rfl
theorem tw_644 : (Jvm.Cond.selects "MovedLines" ({ cls := "MovedLines", name := "put", desc := "(II)I" } : Jvm.MethodName) ({ cls := "MovedLines", name := "put", desc := "(II)I" } : Jvm.MethodName)) ∈ gT := gT_mem 644 (by decide +kernel) rfl
theorem tw_645 : (Jvm.Cond.code ({ cls := "MovedLines", name := "put", desc := "(II)I" } : Jvm.MethodName) prog_1_method_16_code (4 : Nat) (Option.some Jvm.ClassFile.FieldType.int)) ∈ gT := gT_mem 645 (by decide +kernel) rfl
theorem tw_646 : (Jvm.Cond.methodLink "MovedLines" (208 : Nat) ({ cls := "MovedLines", name := "startStep", desc := "(I)LMovedLines$Edition;" } : Jvm.MethodName)) ∈ gT := gT_mem 646 (by decide +kernel) rfl
theorem tw_648 : (Jvm.Cond.instanceMethod ({ cls := "MovedLines", name := "startStep", desc := "(I)LMovedLines$Edition;" } : Jvm.MethodName)) ∈ gT := gT_mem 648 (by decide +kernel) rfl
theorem tw_649 : (Jvm.Cond.code ({ cls := "MovedLines", name := "startStep", desc := "(I)LMovedLines$Edition;" } : Jvm.MethodName) prog_1_method_27_code (2 : Nat) (Option.some (Jvm.ClassFile.FieldType.object "MovedLines$Edition"))) ∈ gT := gT_mem 649 (by decide +kernel) rfl
theorem tw_650 : (Jvm.Cond.methodLink "MovedLines" (238 : Nat) ({ cls := "MovedLines$Past", name := "keep", desc := "(ILMovedLines$Edition;)V" } : Jvm.MethodName)) ∈ gT := gT_mem 650 (by decide +kernel) rfl
theorem tw_651 : (Jvm.Cond.instanceMethod ({ cls := "MovedLines$Past", name := "keep", desc := "(ILMovedLines$Edition;)V" } : Jvm.MethodName)) ∈ gT := gT_mem 651 (by decide +kernel) rfl
theorem tw_652 : (Jvm.Cond.selects "MovedLines$Past" ({ cls := "MovedLines$Past", name := "keep", desc := "(ILMovedLines$Edition;)V" } : Jvm.MethodName) ({ cls := "MovedLines$Past", name := "keep", desc := "(ILMovedLines$Edition;)V" } : Jvm.MethodName)) ∈ gT := gT_mem 652 (by decide +kernel) rfl
theorem tw_653 : (Jvm.Cond.code ({ cls := "MovedLines$Past", name := "keep", desc := "(ILMovedLines$Edition;)V" } : Jvm.MethodName) prog_7_method_2_code (3 : Nat) (Option.none : Option Jvm.ClassFile.FieldType)) ∈ gT := gT_mem 653 (by decide +kernel) rfl
theorem tw_654 : (Jvm.Cond.methodLink "MovedLines$Past" (29 : Nat) ({ cls := "MovedLines$Edition", name := "copyAll", desc := "(LMovedLines$Edition;)V" } : Jvm.MethodName)) ∈ gT := gT_mem 654 (by decide +kernel) rfl
theorem tw_655 : (Jvm.Cond.methodLink "MovedLines$Past" (33 : Nat) ({ cls := "java/lang/Math", name := "min", desc := "(II)I" } : Jvm.MethodName)) ∈ gT := gT_mem 655 (by decide +kernel) rfl
theorem tw_656 : (Jvm.Cond.methodLink "MovedLines" (211 : Nat) ({ cls := "MovedLines$Edition", name := "insertLine", desc := "(ILMovedLines$Edition;I)V" } : Jvm.MethodName)) ∈ gT := gT_mem 656 (by decide +kernel) rfl
theorem tw_657 : (Jvm.Cond.instanceMethod ({ cls := "MovedLines$Edition", name := "insertLine", desc := "(ILMovedLines$Edition;I)V" } : Jvm.MethodName)) ∈ gT := gT_mem 657 (by decide +kernel) rfl
theorem tw_658 : (Jvm.Cond.selects "MovedLines$Edition" ({ cls := "MovedLines$Edition", name := "insertLine", desc := "(ILMovedLines$Edition;I)V" } : Jvm.MethodName) ({ cls := "MovedLines$Edition", name := "insertLine", desc := "(ILMovedLines$Edition;I)V" } : Jvm.MethodName)) ∈ gT := gT_mem 658 (by decide +kernel) rfl
theorem tw_659 : (Jvm.Cond.code ({ cls := "MovedLines$Edition", name := "insertLine", desc := "(ILMovedLines$Edition;I)V" } : Jvm.MethodName) prog_4_method_9_code (5 : Nat) (Option.none : Option Jvm.ClassFile.FieldType)) ∈ gT := gT_mem 659 (by decide +kernel) rfl
theorem tw_660 : (Jvm.Cond.methodLink "MovedLinesLaw" (90 : Nat) ({ cls := "MovedLines", name := "change", desc := "(II)I" } : Jvm.MethodName)) ∈ gT := gT_mem 660 (by decide +kernel) rfl
theorem tw_661 : (Jvm.Cond.instanceMethod ({ cls := "MovedLines", name := "change", desc := "(II)I" } : Jvm.MethodName)) ∈ gT := gT_mem 661 (by decide +kernel) rfl
theorem tw_662 : (Jvm.Cond.selects "MovedLines" ({ cls := "MovedLines", name := "change", desc := "(II)I" } : Jvm.MethodName) ({ cls := "MovedLines", name := "change", desc := "(II)I" } : Jvm.MethodName)) ∈ gT := gT_mem 662 (by decide +kernel) rfl
theorem tw_663 : (Jvm.Cond.code ({ cls := "MovedLines", name := "change", desc := "(II)I" } : Jvm.MethodName) prog_1_method_17_code (4 : Nat) (Option.some Jvm.ClassFile.FieldType.int)) ∈ gT := gT_mem 663 (by decide +kernel) rfl
theorem tw_664 : (Jvm.Cond.methodLink "MovedLinesLaw" (94 : Nat) ({ cls := "MovedLines", name := "cut", desc := "(II)I" } : Jvm.MethodName)) ∈ gT := gT_mem 664 (by decide +kernel) rfl
theorem tw_665 : (Jvm.Cond.instanceMethod ({ cls := "MovedLines", name := "cut", desc := "(II)I" } : Jvm.MethodName)) ∈ gT := gT_mem 665 (by decide +kernel) rfl
theorem tw_666 : (Jvm.Cond.selects "MovedLines" ({ cls := "MovedLines", name := "cut", desc := "(II)I" } : Jvm.MethodName) ({ cls := "MovedLines", name := "cut", desc := "(II)I" } : Jvm.MethodName)) ∈ gT := gT_mem 666 (by decide +kernel) rfl
theorem tw_667 : (Jvm.Cond.code ({ cls := "MovedLines", name := "cut", desc := "(II)I" } : Jvm.MethodName) prog_1_method_18_code (4 : Nat) (Option.some Jvm.ClassFile.FieldType.int)) ∈ gT := gT_mem 667 (by decide +kernel) rfl
theorem tw_668 : (Jvm.Cond.methodLink "MovedLines" (214 : Nat) ({ cls := "MovedLines$Edition", name := "removeLine", desc := "(I)V" } : Jvm.MethodName)) ∈ gT := gT_mem 668 (by decide +kernel) rfl
theorem tw_669 : (Jvm.Cond.instanceMethod ({ cls := "MovedLines$Edition", name := "removeLine", desc := "(I)V" } : Jvm.MethodName)) ∈ gT := gT_mem 669 (by decide +kernel) rfl
theorem tw_670 : (Jvm.Cond.selects "MovedLines$Edition" ({ cls := "MovedLines$Edition", name := "removeLine", desc := "(I)V" } : Jvm.MethodName) ({ cls := "MovedLines$Edition", name := "removeLine", desc := "(I)V" } : Jvm.MethodName)) ∈ gT := gT_mem 670 (by decide +kernel) rfl
theorem tw_671 : (Jvm.Cond.code ({ cls := "MovedLines$Edition", name := "removeLine", desc := "(I)V" } : Jvm.MethodName) prog_4_method_10_code (3 : Nat) (Option.none : Option Jvm.ClassFile.FieldType)) ∈ gT := gT_mem 671 (by decide +kernel) rfl
theorem tw_672 : (Jvm.Cond.methodLink "MovedLinesLaw" (98 : Nat) ({ cls := "MovedLines", name := "move", desc := "(IIII)Z" } : Jvm.MethodName)) ∈ gT := gT_mem 672 (by decide +kernel) rfl
theorem tw_673 : (Jvm.Cond.instanceMethod ({ cls := "MovedLines", name := "move", desc := "(IIII)Z" } : Jvm.MethodName)) ∈ gT := gT_mem 673 (by decide +kernel) rfl
theorem tw_674 : (Jvm.Cond.selects "MovedLines" ({ cls := "MovedLines", name := "move", desc := "(IIII)Z" } : Jvm.MethodName) ({ cls := "MovedLines", name := "move", desc := "(IIII)Z" } : Jvm.MethodName)) ∈ gT := gT_mem 674 (by decide +kernel) rfl
theorem tw_675 : (Jvm.Cond.code ({ cls := "MovedLines", name := "move", desc := "(IIII)Z" } : Jvm.MethodName) prog_1_method_19_code (7 : Nat) (Option.some Jvm.ClassFile.FieldType.boolean)) ∈ gT := gT_mem 675 (by decide +kernel) rfl
theorem tw_676 : (Jvm.Cond.methodLink "MovedLines" (217 : Nat) ({ cls := "MovedLines$Edition", name := "arrangeFrom", desc := "(LMovedLines$Edition;III)V" } : Jvm.MethodName)) ∈ gT := gT_mem 676 (by decide +kernel) rfl
theorem tw_677 : (Jvm.Cond.instanceMethod ({ cls := "MovedLines$Edition", name := "arrangeFrom", desc := "(LMovedLines$Edition;III)V" } : Jvm.MethodName)) ∈ gT := gT_mem 677 (by decide +kernel) rfl
theorem tw_678 : (Jvm.Cond.selects "MovedLines$Edition" ({ cls := "MovedLines$Edition", name := "arrangeFrom", desc := "(LMovedLines$Edition;III)V" } : Jvm.MethodName) ({ cls := "MovedLines$Edition", name := "arrangeFrom", desc := "(LMovedLines$Edition;III)V" } : Jvm.MethodName)) ∈ gT := gT_mem 678 (by decide +kernel) rfl
theorem tw_679 : (Jvm.Cond.code ({ cls := "MovedLines$Edition", name := "arrangeFrom", desc := "(LMovedLines$Edition;III)V" } : Jvm.MethodName) prog_4_method_11_code (6 : Nat) (Option.none : Option Jvm.ClassFile.FieldType)) ∈ gT := gT_mem 679 (by decide +kernel) rfl
theorem tw_680 : (Jvm.Cond.methodLink "MovedLines$Edition" (47 : Nat) ({ cls := "MovedLines$Edition", name := "sourceOf", desc := "(IIII)I" } : Jvm.MethodName)) ∈ gT := gT_mem 680 (by decide +kernel) rfl
theorem tw_681 : (Jvm.Cond.static ({ cls := "MovedLines$Edition", name := "sourceOf", desc := "(IIII)I" } : Jvm.MethodName)) ∈ gT := gT_mem 681 (by decide +kernel) rfl
theorem tw_682 : (Jvm.Cond.code ({ cls := "MovedLines$Edition", name := "sourceOf", desc := "(IIII)I" } : Jvm.MethodName) prog_4_method_12_code (5 : Nat) (Option.some Jvm.ClassFile.FieldType.int)) ∈ gT := gT_mem 682 (by decide +kernel) rfl
theorem tw_683 : (Jvm.Cond.methodLink "MovedLinesLaw" (103 : Nat) ({ cls := "MovedLines", name := "take", desc := "()I" } : Jvm.MethodName)) ∈ gT := gT_mem 683 (by decide +kernel) rfl
theorem tw_684 : (Jvm.Cond.instanceMethod ({ cls := "MovedLines", name := "take", desc := "()I" } : Jvm.MethodName)) ∈ gT := gT_mem 684 (by decide +kernel) rfl
theorem tw_685 : (Jvm.Cond.selects "MovedLines" ({ cls := "MovedLines", name := "take", desc := "()I" } : Jvm.MethodName) ({ cls := "MovedLines", name := "take", desc := "()I" } : Jvm.MethodName)) ∈ gT := gT_mem 685 (by decide +kernel) rfl
theorem tw_686 : (Jvm.Cond.code ({ cls := "MovedLines", name := "take", desc := "()I" } : Jvm.MethodName) prog_1_method_20_code (1 : Nat) (Option.some Jvm.ClassFile.FieldType.int)) ∈ gT := gT_mem 686 (by decide +kernel) rfl
theorem tw_687 : (Jvm.Cond.methodLink "MovedLinesLaw" (107 : Nat) ({ cls := "MovedLines", name := "undo", desc := "()I" } : Jvm.MethodName)) ∈ gT := gT_mem 687 (by decide +kernel) rfl
theorem tw_688 : (Jvm.Cond.instanceMethod ({ cls := "MovedLines", name := "undo", desc := "()I" } : Jvm.MethodName)) ∈ gT := gT_mem 688 (by decide +kernel) rfl
theorem tw_689 : (Jvm.Cond.selects "MovedLines" ({ cls := "MovedLines", name := "undo", desc := "()I" } : Jvm.MethodName) ({ cls := "MovedLines", name := "undo", desc := "()I" } : Jvm.MethodName)) ∈ gT := gT_mem 689 (by decide +kernel) rfl
theorem tw_690 : (Jvm.Cond.code ({ cls := "MovedLines", name := "undo", desc := "()I" } : Jvm.MethodName) prog_1_method_21_code (2 : Nat) (Option.some Jvm.ClassFile.FieldType.int)) ∈ gT := gT_mem 690 (by decide +kernel) rfl
theorem tw_691 : (Jvm.Cond.methodLink "MovedLines" (221 : Nat) ({ cls := "MovedLines$Past", name := "stepBack", desc := "()I" } : Jvm.MethodName)) ∈ gT := gT_mem 691 (by decide +kernel) rfl
theorem tw_692 : (Jvm.Cond.instanceMethod ({ cls := "MovedLines$Past", name := "stepBack", desc := "()I" } : Jvm.MethodName)) ∈ gT := gT_mem 692 (by decide +kernel) rfl
theorem tw_693 : (Jvm.Cond.selects "MovedLines$Past" ({ cls := "MovedLines$Past", name := "stepBack", desc := "()I" } : Jvm.MethodName) ({ cls := "MovedLines$Past", name := "stepBack", desc := "()I" } : Jvm.MethodName)) ∈ gT := gT_mem 693 (by decide +kernel) rfl
theorem tw_694 : (Jvm.Cond.code ({ cls := "MovedLines$Past", name := "stepBack", desc := "()I" } : Jvm.MethodName) prog_7_method_3_code (1 : Nat) (Option.some Jvm.ClassFile.FieldType.int)) ∈ gT := gT_mem 694 (by decide +kernel) rfl
theorem tw_695 : (Jvm.Cond.methodLink "MovedLines$Past" (39 : Nat) ({ cls := "java/lang/Math", name := "max", desc := "(II)I" } : Jvm.MethodName)) ∈ gT := gT_mem 695 (by decide +kernel) rfl
theorem tw_696 : (Jvm.Cond.methodLink "MovedLinesLaw" (43 : Nat) ({ cls := "MovedLinesLaw", name := "line", desc := "(LMovedLines;III[J)I" } : Jvm.MethodName)) ∈ gT := gT_mem 696 (by decide +kernel) rfl
theorem tw_697 : (Jvm.Cond.static ({ cls := "MovedLinesLaw", name := "line", desc := "(LMovedLines;III[J)I" } : Jvm.MethodName)) ∈ gT := gT_mem 697 (by decide +kernel) rfl
theorem tw_699 : (Jvm.Cond.classLink "MovedLinesLaw" (13 : Nat) "java/util/NoSuchElementException") ∈ gT := gT_mem 699 (by decide +kernel) rfl
theorem tw_700 : (Jvm.Cond.methodLink "MovedLinesLaw" (7 : Nat) ({ cls := "MovedLines", name := "line", desc := "(III)I" } : Jvm.MethodName)) ∈ gT := gT_mem 700 (by decide +kernel) rfl
theorem tw_701 : (Jvm.Cond.instanceMethod ({ cls := "MovedLines", name := "line", desc := "(III)I" } : Jvm.MethodName)) ∈ gT := gT_mem 701 (by decide +kernel) rfl
theorem tw_702 : (Jvm.Cond.selects "MovedLines" ({ cls := "MovedLines", name := "line", desc := "(III)I" } : Jvm.MethodName) ({ cls := "MovedLines", name := "line", desc := "(III)I" } : Jvm.MethodName)) ∈ gT := gT_mem 702 (by decide +kernel) rfl
theorem tw_703 : (Jvm.Cond.code ({ cls := "MovedLines", name := "line", desc := "(III)I" } : Jvm.MethodName) prog_1_method_7_code (4 : Nat) (Option.some Jvm.ClassFile.FieldType.int)) ∈ gT := gT_mem 703 (by decide +kernel) rfl
theorem tw_704 : (Jvm.Cond.classLink "MovedLines" (132 : Nat) "java/util/NoSuchElementException") ∈ gT := gT_mem 704 (by decide +kernel) rfl
theorem tw_705 : (Jvm.Cond.instantiable "java/util/NoSuchElementException" (6 : Nat)) ∈ gT := gT_mem 705 (by decide +kernel) rfl
theorem tw_713 : (Jvm.Cond.selects "java/util/NoSuchElementException" ({ cls := "java/lang/Throwable", name := "fillInStackTrace", desc := "(I)Ljava/lang/Throwable;" } : Jvm.MethodName) ({ cls := "java/lang/Throwable", name := "fillInStackTrace", desc := "(I)Ljava/lang/Throwable;" } : Jvm.MethodName)) ∈ gT := gT_mem 713 (by decide +kernel) rfl
theorem tw_714 : (Jvm.Cond.selects "java/util/NoSuchElementException" ({ cls := "java/lang/Throwable", name := "fillInStackTrace", desc := "()Ljava/lang/Throwable;" } : Jvm.MethodName) ({ cls := "java/lang/Throwable", name := "fillInStackTrace", desc := "()Ljava/lang/Throwable;" } : Jvm.MethodName)) ∈ gT := gT_mem 714 (by decide +kernel) rfl
theorem tw_715 : (Jvm.Cond.lays "java/util/NoSuchElementException" "java/lang/Throwable" "cause" "Ljava/lang/Throwable;") ∈ gT := gT_mem 715 (by decide +kernel) rfl
theorem tw_716 : (Jvm.Cond.lays "java/lang/Throwable" "java/lang/Throwable" "cause" "Ljava/lang/Throwable;") ∈ gT := gT_mem 716 (by decide +kernel) rfl
theorem tw_717 : (Jvm.Cond.lays "java/util/NoSuchElementException" "java/lang/Throwable" "stackTrace" "[Ljava/lang/StackTraceElement;") ∈ gT := gT_mem 717 (by decide +kernel) rfl
theorem tw_718 : (Jvm.Cond.lays "java/lang/Throwable" "java/lang/Throwable" "stackTrace" "[Ljava/lang/StackTraceElement;") ∈ gT := gT_mem 718 (by decide +kernel) rfl
theorem tw_719 : (Jvm.Cond.lays "java/util/NoSuchElementException" "java/lang/Throwable" "suppressedExceptions" "Ljava/util/List;") ∈ gT := gT_mem 719 (by decide +kernel) rfl
theorem tw_720 : (Jvm.Cond.lays "java/lang/Throwable" "java/lang/Throwable" "suppressedExceptions" "Ljava/util/List;") ∈ gT := gT_mem 720 (by decide +kernel) rfl
theorem tw_721 : (Jvm.Cond.lays "java/util/NoSuchElementException" "java/lang/Throwable" "detailMessage" "Ljava/lang/String;") ∈ gT := gT_mem 721 (by decide +kernel) rfl
theorem tw_722 : (Jvm.Cond.lays "java/lang/Throwable" "java/lang/Throwable" "detailMessage" "Ljava/lang/String;") ∈ gT := gT_mem 722 (by decide +kernel) rfl
theorem tw_723 : (Jvm.Cond.lays "java/util/NoSuchElementException" "java/lang/Throwable" "backtrace" "Ljava/lang/Object;") ∈ gT := gT_mem 723 (by decide +kernel) rfl
theorem tw_724 : (Jvm.Cond.lays "java/lang/Throwable" "java/lang/Throwable" "backtrace" "Ljava/lang/Object;") ∈ gT := gT_mem 724 (by decide +kernel) rfl
theorem tw_725 : (Jvm.Cond.fieldLink "java/lang/Throwable" (198 : Nat) "java/lang/Throwable" "backtrace" "Ljava/lang/Object;") ∈ gT := gT_mem 725 (by decide +kernel) rfl
theorem tw_727 : (Jvm.Cond.instanceMethod ({ cls := "java/lang/Throwable", name := "<init>", desc := "()V" } : Jvm.MethodName)) ∈ gT := gT_mem 727 (by decide +kernel) rfl
theorem tw_728 : (Jvm.Cond.code ({ cls := "java/lang/Throwable", name := "<init>", desc := "()V" } : Jvm.MethodName) prog_19_method_1_code (1 : Nat) (Option.none : Option Jvm.ClassFile.FieldType)) ∈ gT := gT_mem 728 (by decide +kernel) rfl
theorem tw_729 : (Jvm.Cond.methodLink "java/lang/Throwable" (1 : Nat) ({ cls := "java/lang/Object", name := "<init>", desc := "()V" } : Jvm.MethodName)) ∈ gT := gT_mem 729 (by decide +kernel) rfl
theorem tw_730 : (Jvm.Cond.fieldLink "java/lang/Throwable" (13 : Nat) "java/lang/Throwable" "UNASSIGNED_STACK" "[Ljava/lang/StackTraceElement;") ∈ gT := gT_mem 730 (by decide +kernel) rfl
theorem tw_732 : (Jvm.Cond.fieldLink "java/lang/Throwable" (20 : Nat) "java/lang/Throwable" "SUPPRESSED_SENTINEL" "Ljava/util/List;") ∈ gT := gT_mem 732 (by decide +kernel) rfl
theorem tw_734 : (Jvm.Cond.methodLink "java/lang/Throwable" (27 : Nat) ({ cls := "java/lang/Throwable", name := "fillInStackTrace", desc := "()Ljava/lang/Throwable;" } : Jvm.MethodName)) ∈ gT := gT_mem 734 (by decide +kernel) rfl
theorem tw_735 : (Jvm.Cond.instanceMethod ({ cls := "java/lang/Throwable", name := "fillInStackTrace", desc := "()Ljava/lang/Throwable;" } : Jvm.MethodName)) ∈ gT := gT_mem 735 (by decide +kernel) rfl
theorem tw_738 : (Jvm.Cond.methodLink "java/lang/Throwable" (202 : Nat) ({ cls := "java/lang/Throwable", name := "fillInStackTrace", desc := "(I)Ljava/lang/Throwable;" } : Jvm.MethodName)) ∈ gT := gT_mem 738 (by decide +kernel) rfl
theorem tw_740 : (Jvm.Cond.instanceMethod ({ cls := "java/lang/Throwable", name := "fillInStackTrace", desc := "(I)Ljava/lang/Throwable;" } : Jvm.MethodName)) ∈ gT := gT_mem 740 (by decide +kernel) rfl
theorem tw_741 : (Jvm.Cond.instantiable "java/lang/Throwable" (6 : Nat)) ∈ gT := gT_mem 741 (by decide +kernel) rfl
theorem tw_742 : (Jvm.Cond.native ({ cls := "java/lang/Throwable", name := "fillInStackTrace", desc := "(I)Ljava/lang/Throwable;" } : Jvm.MethodName)) ∈ gT := gT_mem 742 (by decide +kernel) rfl
theorem tw_744 : (Jvm.Cond.methodLink "MovedLines" (136 : Nat) ({ cls := "java/util/NoSuchElementException", name := "<init>", desc := "(Ljava/lang/String;)V" } : Jvm.MethodName)) ∈ gT := gT_mem 744 (by decide +kernel) rfl
theorem tw_745 : (Jvm.Cond.instanceMethod ({ cls := "java/util/NoSuchElementException", name := "<init>", desc := "(Ljava/lang/String;)V" } : Jvm.MethodName)) ∈ gT := gT_mem 745 (by decide +kernel) rfl
theorem tw_746 : (Jvm.Cond.code ({ cls := "java/util/NoSuchElementException", name := "<init>", desc := "(Ljava/lang/String;)V" } : Jvm.MethodName) prog_20_method_4_code (2 : Nat) (Option.none : Option Jvm.ClassFile.FieldType)) ∈ gT := gT_mem 746 (by decide +kernel) rfl
theorem tw_747 : (Jvm.Cond.methodLink "java/util/NoSuchElementException" (13 : Nat) ({ cls := "java/lang/RuntimeException", name := "<init>", desc := "(Ljava/lang/String;)V" } : Jvm.MethodName)) ∈ gT := gT_mem 747 (by decide +kernel) rfl
theorem tw_748 : (Jvm.Cond.instanceMethod ({ cls := "java/lang/RuntimeException", name := "<init>", desc := "(Ljava/lang/String;)V" } : Jvm.MethodName)) ∈ gT := gT_mem 748 (by decide +kernel) rfl
theorem tw_749 : (Jvm.Cond.code ({ cls := "java/lang/RuntimeException", name := "<init>", desc := "(Ljava/lang/String;)V" } : Jvm.MethodName) prog_16_method_2_code (2 : Nat) (Option.none : Option Jvm.ClassFile.FieldType)) ∈ gT := gT_mem 749 (by decide +kernel) rfl
theorem tw_750 : (Jvm.Cond.methodLink "java/lang/RuntimeException" (7 : Nat) ({ cls := "java/lang/Exception", name := "<init>", desc := "(Ljava/lang/String;)V" } : Jvm.MethodName)) ∈ gT := gT_mem 750 (by decide +kernel) rfl
theorem tw_751 : (Jvm.Cond.instanceMethod ({ cls := "java/lang/Exception", name := "<init>", desc := "(Ljava/lang/String;)V" } : Jvm.MethodName)) ∈ gT := gT_mem 751 (by decide +kernel) rfl
theorem tw_752 : (Jvm.Cond.code ({ cls := "java/lang/Exception", name := "<init>", desc := "(Ljava/lang/String;)V" } : Jvm.MethodName) prog_14_method_2_code (2 : Nat) (Option.none : Option Jvm.ClassFile.FieldType)) ∈ gT := gT_mem 752 (by decide +kernel) rfl
theorem tw_753 : (Jvm.Cond.methodLink "java/lang/Exception" (7 : Nat) ({ cls := "java/lang/Throwable", name := "<init>", desc := "(Ljava/lang/String;)V" } : Jvm.MethodName)) ∈ gT := gT_mem 753 (by decide +kernel) rfl
theorem tw_754 : (Jvm.Cond.instanceMethod ({ cls := "java/lang/Throwable", name := "<init>", desc := "(Ljava/lang/String;)V" } : Jvm.MethodName)) ∈ gT := gT_mem 754 (by decide +kernel) rfl
theorem tw_755 : (Jvm.Cond.code ({ cls := "java/lang/Throwable", name := "<init>", desc := "(Ljava/lang/String;)V" } : Jvm.MethodName) prog_19_method_2_code (2 : Nat) (Option.none : Option Jvm.ClassFile.FieldType)) ∈ gT := gT_mem 755 (by decide +kernel) rfl
theorem tw_756 : (Jvm.Cond.fieldLink "java/lang/Throwable" (198 : Nat) "java/lang/Throwable" "backtrace" "Ljava/lang/Object;") ∈ gT := gT_mem 756 (by decide +kernel) rfl
theorem tw_757 : (Jvm.Cond.fieldLink "java/lang/Throwable" (31 : Nat) "java/lang/Throwable" "detailMessage" "Ljava/lang/String;") ∈ gT := gT_mem 757 (by decide +kernel) rfl
theorem tw_758 : (Jvm.Cond.fieldLink "java/lang/Throwable" (7 : Nat) "java/lang/Throwable" "cause" "Ljava/lang/Throwable;") ∈ gT := gT_mem 758 (by decide +kernel) rfl
theorem tw_759 : (Jvm.Cond.fieldLink "java/lang/Throwable" (17 : Nat) "java/lang/Throwable" "stackTrace" "[Ljava/lang/StackTraceElement;") ∈ gT := gT_mem 759 (by decide +kernel) rfl
theorem tw_760 : (Jvm.Cond.fieldLink "java/lang/Throwable" (24 : Nat) "java/lang/Throwable" "suppressedExceptions" "Ljava/util/List;") ∈ gT := gT_mem 760 (by decide +kernel) rfl
theorem tw_765 : (Jvm.Cond.lays "java/util/NoSuchElementException" "java/lang/Throwable" "depth" "I") ∈ gT := gT_mem 765 (by decide +kernel) rfl
theorem tw_770 : (Jvm.Cond.methodLink "MovedLinesLaw" (49 : Nat) ({ cls := "MovedLinesModel", name := "thrown", desc := "()I" } : Jvm.MethodName)) ∈ gT := gT_mem 770 (by decide +kernel) rfl
theorem tw_771 : (Jvm.Cond.instanceMethod ({ cls := "MovedLinesModel", name := "thrown", desc := "()I" } : Jvm.MethodName)) ∈ gT := gT_mem 771 (by decide +kernel) rfl
theorem tw_772 : (Jvm.Cond.selects "MovedLinesModel" ({ cls := "MovedLinesModel", name := "thrown", desc := "()I" } : Jvm.MethodName) ({ cls := "MovedLinesModel", name := "thrown", desc := "()I" } : Jvm.MethodName)) ∈ gT := gT_mem 772 (by decide +kernel) rfl
theorem tw_773 : (Jvm.Cond.code ({ cls := "MovedLinesModel", name := "thrown", desc := "()I" } : Jvm.MethodName) prog_12_method_1_code (1 : Nat) (Option.some Jvm.ClassFile.FieldType.int)) ∈ gT := gT_mem 773 (by decide +kernel) rfl
theorem tw_774 : (Jvm.Cond.methodLink "MovedLinesLaw" (23 : Nat) ({ cls := "MovedLinesModel", name := "feed", desc := "(IIIII)I" } : Jvm.MethodName)) ∈ gT := gT_mem 774 (by decide +kernel) rfl
theorem tw_775 : (Jvm.Cond.instanceMethod ({ cls := "MovedLinesModel", name := "feed", desc := "(IIIII)I" } : Jvm.MethodName)) ∈ gT := gT_mem 775 (by decide +kernel) rfl
theorem tw_776 : (Jvm.Cond.selects "MovedLinesModel" ({ cls := "MovedLinesModel", name := "feed", desc := "(IIIII)I" } : Jvm.MethodName) ({ cls := "MovedLinesModel", name := "feed", desc := "(IIIII)I" } : Jvm.MethodName)) ∈ gT := gT_mem 776 (by decide +kernel) rfl
theorem tw_777 : (Jvm.Cond.code ({ cls := "MovedLinesModel", name := "feed", desc := "(IIIII)I" } : Jvm.MethodName) prog_12_method_5_code (6 : Nat) (Option.some Jvm.ClassFile.FieldType.int)) ∈ gT := gT_mem 777 (by decide +kernel) rfl
theorem tw_778 : (Jvm.Cond.methodLink "MovedLinesModel" (14 : Nat) ({ cls := "MovedLinesModel", name := "lays", desc := "(I)V" } : Jvm.MethodName)) ∈ gT := gT_mem 778 (by decide +kernel) rfl
theorem tw_780 : (Jvm.Cond.instanceMethod ({ cls := "MovedLinesModel", name := "lays", desc := "(I)V" } : Jvm.MethodName)) ∈ gT := gT_mem 780 (by decide +kernel) rfl
theorem tw_781 : (Jvm.Cond.instantiable "MovedLinesModel" (20 : Nat)) ∈ gT := gT_mem 781 (by decide +kernel) rfl
theorem tw_782 : (Jvm.Cond.code ({ cls := "MovedLinesModel", name := "lays", desc := "(I)V" } : Jvm.MethodName) prog_12_method_4_code (3 : Nat) (Option.none : Option Jvm.ClassFile.FieldType)) ∈ gT := gT_mem 782 (by decide +kernel) rfl
theorem tw_783 : (Jvm.Cond.methodLink "MovedLinesLaw" (28 : Nat) ({ cls := "MovedLinesModel", name := "end", desc := "(I)Z" } : Jvm.MethodName)) ∈ gT := gT_mem 783 (by decide +kernel) rfl
theorem tw_784 : (Jvm.Cond.instanceMethod ({ cls := "MovedLinesModel", name := "end", desc := "(I)Z" } : Jvm.MethodName)) ∈ gT := gT_mem 784 (by decide +kernel) rfl
theorem tw_785 : (Jvm.Cond.selects "MovedLinesModel" ({ cls := "MovedLinesModel", name := "end", desc := "(I)Z" } : Jvm.MethodName) ({ cls := "MovedLinesModel", name := "end", desc := "(I)Z" } : Jvm.MethodName)) ∈ gT := gT_mem 785 (by decide +kernel) rfl
theorem tw_786 : (Jvm.Cond.code ({ cls := "MovedLinesModel", name := "end", desc := "(I)Z" } : Jvm.MethodName) prog_12_method_6_code (2 : Nat) (Option.some Jvm.ClassFile.FieldType.boolean)) ∈ gT := gT_mem 786 (by decide +kernel) rfl
theorem tw_787 : (Jvm.Cond.classLink "MovedLinesLaw" (16 : Nat) "MovedLinesModel") ∈ gT := gT_mem 787 (by decide +kernel) rfl
theorem tw_788 : (Jvm.Cond.methodLink "MovedLinesLaw" (18 : Nat) ({ cls := "MovedLinesModel", name := "<init>", desc := "()V" } : Jvm.MethodName)) ∈ gT := gT_mem 788 (by decide +kernel) rfl
theorem tw_789 : (Jvm.Cond.instanceMethod ({ cls := "MovedLinesModel", name := "<init>", desc := "()V" } : Jvm.MethodName)) ∈ gT := gT_mem 789 (by decide +kernel) rfl
theorem tw_790 : (Jvm.Cond.code ({ cls := "MovedLinesModel", name := "<init>", desc := "()V" } : Jvm.MethodName) prog_12_method_7_code (1 : Nat) (Option.none : Option Jvm.ClassFile.FieldType)) ∈ gT := gT_mem 790 (by decide +kernel) rfl
theorem tw_791 : (Jvm.Cond.methodLink "MovedLinesModel" (18 : Nat) ({ cls := "java/lang/Object", name := "<init>", desc := "()V" } : Jvm.MethodName)) ∈ gT := gT_mem 791 (by decide +kernel) rfl
theorem tw_792 : (Jvm.Cond.fieldLink "MovedLinesModel" (1 : Nat) "MovedLinesModel" "thrown" "I") ∈ gT := gT_mem 792 (by decide +kernel) rfl
theorem tw_793 : (Jvm.Cond.fieldLink "MovedLinesModel" (7 : Nat) "MovedLinesModel" "tape" "[I") ∈ gT := gT_mem 793 (by decide +kernel) rfl
theorem tw_794 : (Jvm.Cond.fieldLink "MovedLinesModel" (11 : Nat) "MovedLinesModel" "taped" "I") ∈ gT := gT_mem 794 (by decide +kernel) rfl
theorem tw_795 : (Jvm.Cond.fieldLink "MovedLinesModel" (24 : Nat) "MovedLinesModel" "now" "[I") ∈ gT := gT_mem 795 (by decide +kernel) rfl
theorem tw_796 : (Jvm.Cond.fieldLink "MovedLinesModel" (27 : Nat) "MovedLinesModel" "read" "[I") ∈ gT := gT_mem 796 (by decide +kernel) rfl
theorem tw_797 : (Jvm.Cond.fieldLink "MovedLinesModel" (30 : Nat) "MovedLinesModel" "snaps" "[I") ∈ gT := gT_mem 797 (by decide +kernel) rfl
theorem tw_798 : (Jvm.Cond.fieldLink "MovedLinesModel" (92 : Nat) "MovedLinesModel" "snapMany" "I") ∈ gT := gT_mem 798 (by decide +kernel) rfl
theorem tw_799 : (Jvm.Cond.fieldLink "MovedLinesModel" (66 : Nat) "MovedLinesModel" "fault" "I") ∈ gT := gT_mem 799 (by decide +kernel) rfl
theorem tw_800 : (Jvm.Cond.fieldLink "MovedLinesModel" (69 : Nat) "MovedLinesModel" "place" "I") ∈ gT := gT_mem 800 (by decide +kernel) rfl
theorem tw_801 : (Jvm.Cond.fieldLink "MovedLinesModel" (72 : Nat) "MovedLinesModel" "letters" "I") ∈ gT := gT_mem 801 (by decide +kernel) rfl
theorem tw_802 : (Jvm.Cond.fieldLink "MovedLinesModel" (33 : Nat) "MovedLinesModel" "how" "[I") ∈ gT := gT_mem 802 (by decide +kernel) rfl
theorem tw_803 : (Jvm.Cond.fieldLink "MovedLinesModel" (36 : Nat) "MovedLinesModel" "with" "[I") ∈ gT := gT_mem 803 (by decide +kernel) rfl
theorem tw_804 : (Jvm.Cond.fieldLink "MovedLinesModel" (39 : Nat) "MovedLinesModel" "inBlock" "[I") ∈ gT := gT_mem 804 (by decide +kernel) rfl
theorem tw_805 : (Jvm.Cond.fieldLink "MovedLinesModel" (42 : Nat) "MovedLinesModel" "wasHow" "[I") ∈ gT := gT_mem 805 (by decide +kernel) rfl
theorem tw_806 : (Jvm.Cond.fieldLink "MovedLinesModel" (45 : Nat) "MovedLinesModel" "wasWith" "[I") ∈ gT := gT_mem 806 (by decide +kernel) rfl
theorem tw_807 : (Jvm.Cond.fieldLink "MovedLinesModel" (48 : Nat) "MovedLinesModel" "blocks" "[I") ∈ gT := gT_mem 807 (by decide +kernel) rfl
theorem tw_808 : (Jvm.Cond.fieldLink "MovedLinesModel" (133 : Nat) "MovedLinesModel" "blockMany" "I") ∈ gT := gT_mem 808 (by decide +kernel) rfl
theorem tw_809 : (Jvm.Cond.fieldLink "MovedLinesModel" (120 : Nat) "MovedLinesModel" "anchorsThere" "I") ∈ gT := gT_mem 809 (by decide +kernel) rfl
theorem tw_810 : (Jvm.Cond.fieldLink "MovedLinesModel" (123 : Nat) "MovedLinesModel" "runThere" "I") ∈ gT := gT_mem 810 (by decide +kernel) rfl
theorem tw_811 : (Jvm.Cond.fieldLink "MovedLinesModel" (51 : Nat) "MovedLinesModel" "most" "[I") ∈ gT := gT_mem 811 (by decide +kernel) rfl
theorem tw_812 : (Jvm.Cond.lays "MovedLinesModel" "MovedLinesModel" "thrown" "I") ∈ gT := gT_mem 812 (by decide +kernel) rfl
theorem tw_814 : (Jvm.Cond.laysFinal "MovedLinesModel" "MovedLinesModel" "tape" "[I") ∈ gT := gT_mem 814 (by decide +kernel) rfl
theorem tw_816 : (Jvm.Cond.lays "MovedLinesModel" "MovedLinesModel" "taped" "I") ∈ gT := gT_mem 816 (by decide +kernel) rfl
theorem tw_818 : (Jvm.Cond.laysFinal "MovedLinesModel" "MovedLinesModel" "now" "[I") ∈ gT := gT_mem 818 (by decide +kernel) rfl
theorem tw_820 : (Jvm.Cond.laysFinal "MovedLinesModel" "MovedLinesModel" "read" "[I") ∈ gT := gT_mem 820 (by decide +kernel) rfl
theorem tw_822 : (Jvm.Cond.laysFinal "MovedLinesModel" "MovedLinesModel" "snaps" "[I") ∈ gT := gT_mem 822 (by decide +kernel) rfl
theorem tw_824 : (Jvm.Cond.lays "MovedLinesModel" "MovedLinesModel" "snapMany" "I") ∈ gT := gT_mem 824 (by decide +kernel) rfl
theorem tw_826 : (Jvm.Cond.lays "MovedLinesModel" "MovedLinesModel" "fault" "I") ∈ gT := gT_mem 826 (by decide +kernel) rfl
theorem tw_828 : (Jvm.Cond.lays "MovedLinesModel" "MovedLinesModel" "place" "I") ∈ gT := gT_mem 828 (by decide +kernel) rfl
theorem tw_830 : (Jvm.Cond.lays "MovedLinesModel" "MovedLinesModel" "letters" "I") ∈ gT := gT_mem 830 (by decide +kernel) rfl
theorem tw_832 : (Jvm.Cond.laysFinal "MovedLinesModel" "MovedLinesModel" "how" "[I") ∈ gT := gT_mem 832 (by decide +kernel) rfl
theorem tw_834 : (Jvm.Cond.laysFinal "MovedLinesModel" "MovedLinesModel" "with" "[I") ∈ gT := gT_mem 834 (by decide +kernel) rfl
theorem tw_836 : (Jvm.Cond.laysFinal "MovedLinesModel" "MovedLinesModel" "inBlock" "[I") ∈ gT := gT_mem 836 (by decide +kernel) rfl
theorem tw_838 : (Jvm.Cond.laysFinal "MovedLinesModel" "MovedLinesModel" "wasHow" "[I") ∈ gT := gT_mem 838 (by decide +kernel) rfl
theorem tw_840 : (Jvm.Cond.laysFinal "MovedLinesModel" "MovedLinesModel" "wasWith" "[I") ∈ gT := gT_mem 840 (by decide +kernel) rfl
theorem tw_842 : (Jvm.Cond.laysFinal "MovedLinesModel" "MovedLinesModel" "blocks" "[I") ∈ gT := gT_mem 842 (by decide +kernel) rfl
theorem tw_844 : (Jvm.Cond.lays "MovedLinesModel" "MovedLinesModel" "blockMany" "I") ∈ gT := gT_mem 844 (by decide +kernel) rfl
theorem tw_846 : (Jvm.Cond.lays "MovedLinesModel" "MovedLinesModel" "anchorsThere" "I") ∈ gT := gT_mem 846 (by decide +kernel) rfl
theorem tw_848 : (Jvm.Cond.lays "MovedLinesModel" "MovedLinesModel" "runThere" "I") ∈ gT := gT_mem 848 (by decide +kernel) rfl
theorem tw_850 : (Jvm.Cond.laysFinal "MovedLinesModel" "MovedLinesModel" "most" "[I") ∈ gT := gT_mem 850 (by decide +kernel) rfl
theorem tw_853 : (Jvm.Cond.methodLink "MovedLinesLaw" (33 : Nat) ({ cls := "MovedLinesModel", name := "edition", desc := "(I)I" } : Jvm.MethodName)) ∈ gT := gT_mem 853 (by decide +kernel) rfl
theorem tw_854 : (Jvm.Cond.instanceMethod ({ cls := "MovedLinesModel", name := "edition", desc := "(I)I" } : Jvm.MethodName)) ∈ gT := gT_mem 854 (by decide +kernel) rfl
theorem tw_855 : (Jvm.Cond.selects "MovedLinesModel" ({ cls := "MovedLinesModel", name := "edition", desc := "(I)I" } : Jvm.MethodName) ({ cls := "MovedLinesModel", name := "edition", desc := "(I)I" } : Jvm.MethodName)) ∈ gT := gT_mem 855 (by decide +kernel) rfl
theorem tw_856 : (Jvm.Cond.code ({ cls := "MovedLinesModel", name := "edition", desc := "(I)I" } : Jvm.MethodName) prog_12_method_17_code (3 : Nat) (Option.some Jvm.ClassFile.FieldType.int)) ∈ gT := gT_mem 856 (by decide +kernel) rfl
theorem tw_857 : (Jvm.Cond.methodLink "MovedLinesModel" (58 : Nat) ({ cls := "MovedLinesModel", name := "isEdition", desc := "(I)Z" } : Jvm.MethodName)) ∈ gT := gT_mem 857 (by decide +kernel) rfl
theorem tw_858 : (Jvm.Cond.static ({ cls := "MovedLinesModel", name := "isEdition", desc := "(I)Z" } : Jvm.MethodName)) ∈ gT := gT_mem 858 (by decide +kernel) rfl
theorem tw_859 : (Jvm.Cond.code ({ cls := "MovedLinesModel", name := "isEdition", desc := "(I)Z" } : Jvm.MethodName) prog_12_method_9_code (1 : Nat) (Option.some Jvm.ClassFile.FieldType.boolean)) ∈ gT := gT_mem 859 (by decide +kernel) rfl
theorem tw_860 : (Jvm.Cond.methodLink "MovedLinesModel" (54 : Nat) ({ cls := "MovedLinesModel", name := "isIn", desc := "(III)Z" } : Jvm.MethodName)) ∈ gT := gT_mem 860 (by decide +kernel) rfl
theorem tw_861 : (Jvm.Cond.static ({ cls := "MovedLinesModel", name := "isIn", desc := "(III)Z" } : Jvm.MethodName)) ∈ gT := gT_mem 861 (by decide +kernel) rfl
theorem tw_862 : (Jvm.Cond.code ({ cls := "MovedLinesModel", name := "isIn", desc := "(III)Z" } : Jvm.MethodName) prog_12_method_3_code (3 : Nat) (Option.some Jvm.ClassFile.FieldType.boolean)) ∈ gT := gT_mem 862 (by decide +kernel) rfl
theorem tw_863 : (Jvm.Cond.methodLink "MovedLinesModel" (88 : Nat) ({ cls := "MovedLinesModel", name := "reads", desc := "(IZ)Z" } : Jvm.MethodName)) ∈ gT := gT_mem 863 (by decide +kernel) rfl
theorem tw_865 : (Jvm.Cond.instanceMethod ({ cls := "MovedLinesModel", name := "reads", desc := "(IZ)Z" } : Jvm.MethodName)) ∈ gT := gT_mem 865 (by decide +kernel) rfl
theorem tw_866 : (Jvm.Cond.code ({ cls := "MovedLinesModel", name := "reads", desc := "(IZ)Z" } : Jvm.MethodName) prog_12_method_16_code (7 : Nat) (Option.some Jvm.ClassFile.FieldType.boolean)) ∈ gT := gT_mem 866 (by decide +kernel) rfl
theorem tw_867 : (Jvm.Cond.methodLink "MovedLinesModel" (75 : Nat) ({ cls := "MovedLinesModel", name := "bad", desc := "(II)Z" } : Jvm.MethodName)) ∈ gT := gT_mem 867 (by decide +kernel) rfl
theorem tw_869 : (Jvm.Cond.instanceMethod ({ cls := "MovedLinesModel", name := "bad", desc := "(II)Z" } : Jvm.MethodName)) ∈ gT := gT_mem 869 (by decide +kernel) rfl
theorem tw_870 : (Jvm.Cond.code ({ cls := "MovedLinesModel", name := "bad", desc := "(II)Z" } : Jvm.MethodName) prog_12_method_12_code (3 : Nat) (Option.some Jvm.ClassFile.FieldType.boolean)) ∈ gT := gT_mem 870 (by decide +kernel) rfl
theorem tw_871 : (Jvm.Cond.methodLink "MovedLinesModel" (79 : Nat) ({ cls := "MovedLinesModel", name := "isLetter", desc := "(I)Z" } : Jvm.MethodName)) ∈ gT := gT_mem 871 (by decide +kernel) rfl
theorem tw_872 : (Jvm.Cond.static ({ cls := "MovedLinesModel", name := "isLetter", desc := "(I)Z" } : Jvm.MethodName)) ∈ gT := gT_mem 872 (by decide +kernel) rfl
theorem tw_873 : (Jvm.Cond.code ({ cls := "MovedLinesModel", name := "isLetter", desc := "(I)Z" } : Jvm.MethodName) prog_12_method_13_code (1 : Nat) (Option.some Jvm.ClassFile.FieldType.boolean)) ∈ gT := gT_mem 873 (by decide +kernel) rfl
theorem tw_874 : (Jvm.Cond.methodLink "MovedLinesModel" (82 : Nat) ({ cls := "MovedLinesModel", name := "readLetter", desc := "(III)Z" } : Jvm.MethodName)) ∈ gT := gT_mem 874 (by decide +kernel) rfl
theorem tw_876 : (Jvm.Cond.instanceMethod ({ cls := "MovedLinesModel", name := "readLetter", desc := "(III)Z" } : Jvm.MethodName)) ∈ gT := gT_mem 876 (by decide +kernel) rfl
theorem tw_877 : (Jvm.Cond.code ({ cls := "MovedLinesModel", name := "readLetter", desc := "(III)Z" } : Jvm.MethodName) prog_12_method_14_code (5 : Nat) (Option.some Jvm.ClassFile.FieldType.boolean)) ∈ gT := gT_mem 877 (by decide +kernel) rfl
theorem tw_878 : (Jvm.Cond.methodLink "MovedLinesModel" (85 : Nat) ({ cls := "MovedLinesModel", name := "readEnd", desc := "(I)Z" } : Jvm.MethodName)) ∈ gT := gT_mem 878 (by decide +kernel) rfl
theorem tw_880 : (Jvm.Cond.instanceMethod ({ cls := "MovedLinesModel", name := "readEnd", desc := "(I)Z" } : Jvm.MethodName)) ∈ gT := gT_mem 880 (by decide +kernel) rfl
theorem tw_881 : (Jvm.Cond.code ({ cls := "MovedLinesModel", name := "readEnd", desc := "(I)Z" } : Jvm.MethodName) prog_12_method_15_code (2 : Nat) (Option.some Jvm.ClassFile.FieldType.boolean)) ∈ gT := gT_mem 881 (by decide +kernel) rfl
theorem tw_882 : (Jvm.Cond.methodLink "MovedLinesModel" (62 : Nat) ({ cls := "MovedLinesModel", name := "many", desc := "(I)I" } : Jvm.MethodName)) ∈ gT := gT_mem 882 (by decide +kernel) rfl
theorem tw_884 : (Jvm.Cond.instanceMethod ({ cls := "MovedLinesModel", name := "many", desc := "(I)I" } : Jvm.MethodName)) ∈ gT := gT_mem 884 (by decide +kernel) rfl
theorem tw_885 : (Jvm.Cond.code ({ cls := "MovedLinesModel", name := "many", desc := "(I)I" } : Jvm.MethodName) prog_12_method_10_code (2 : Nat) (Option.some Jvm.ClassFile.FieldType.int)) ∈ gT := gT_mem 885 (by decide +kernel) rfl
theorem tw_886 : (Jvm.Cond.methodLink "MovedLinesLaw" (38 : Nat) ({ cls := "MovedLinesModel", name := "fault", desc := "()I" } : Jvm.MethodName)) ∈ gT := gT_mem 886 (by decide +kernel) rfl
theorem tw_887 : (Jvm.Cond.instanceMethod ({ cls := "MovedLinesModel", name := "fault", desc := "()I" } : Jvm.MethodName)) ∈ gT := gT_mem 887 (by decide +kernel) rfl
theorem tw_888 : (Jvm.Cond.selects "MovedLinesModel" ({ cls := "MovedLinesModel", name := "fault", desc := "()I" } : Jvm.MethodName) ({ cls := "MovedLinesModel", name := "fault", desc := "()I" } : Jvm.MethodName)) ∈ gT := gT_mem 888 (by decide +kernel) rfl
theorem tw_889 : (Jvm.Cond.code ({ cls := "MovedLinesModel", name := "fault", desc := "()I" } : Jvm.MethodName) prog_12_method_18_code (1 : Nat) (Option.some Jvm.ClassFile.FieldType.int)) ∈ gT := gT_mem 889 (by decide +kernel) rfl
theorem tw_890 : (Jvm.Cond.methodLink "MovedLinesLaw" (42 : Nat) ({ cls := "MovedLinesModel", name := "now", desc := "(I)I" } : Jvm.MethodName)) ∈ gT := gT_mem 890 (by decide +kernel) rfl
theorem tw_891 : (Jvm.Cond.instanceMethod ({ cls := "MovedLinesModel", name := "now", desc := "(I)I" } : Jvm.MethodName)) ∈ gT := gT_mem 891 (by decide +kernel) rfl
theorem tw_892 : (Jvm.Cond.selects "MovedLinesModel" ({ cls := "MovedLinesModel", name := "now", desc := "(I)I" } : Jvm.MethodName) ({ cls := "MovedLinesModel", name := "now", desc := "(I)I" } : Jvm.MethodName)) ∈ gT := gT_mem 892 (by decide +kernel) rfl
theorem tw_893 : (Jvm.Cond.code ({ cls := "MovedLinesModel", name := "now", desc := "(I)I" } : Jvm.MethodName) prog_12_method_33_code (2 : Nat) (Option.some Jvm.ClassFile.FieldType.int)) ∈ gT := gT_mem 893 (by decide +kernel) rfl
theorem tw_894 : (Jvm.Cond.methodLink "MovedLinesModel" (148 : Nat) ({ cls := "MovedLinesModel", name := "laysAll", desc := "()V" } : Jvm.MethodName)) ∈ gT := gT_mem 894 (by decide +kernel) rfl
theorem tw_896 : (Jvm.Cond.instanceMethod ({ cls := "MovedLinesModel", name := "laysAll", desc := "()V" } : Jvm.MethodName)) ∈ gT := gT_mem 896 (by decide +kernel) rfl
theorem tw_897 : (Jvm.Cond.code ({ cls := "MovedLinesModel", name := "laysAll", desc := "()V" } : Jvm.MethodName) prog_12_method_31_code (2 : Nat) (Option.none : Option Jvm.ClassFile.FieldType)) ∈ gT := gT_mem 897 (by decide +kernel) rfl
theorem tw_898 : (Jvm.Cond.methodLink "MovedLinesModel" (126 : Nat) ({ cls := "MovedLinesModel", name := "goesInto", desc := "(IIIIZ)V" } : Jvm.MethodName)) ∈ gT := gT_mem 898 (by decide +kernel) rfl
theorem tw_900 : (Jvm.Cond.instanceMethod ({ cls := "MovedLinesModel", name := "goesInto", desc := "(IIIIZ)V" } : Jvm.MethodName)) ∈ gT := gT_mem 900 (by decide +kernel) rfl
theorem tw_901 : (Jvm.Cond.code ({ cls := "MovedLinesModel", name := "goesInto", desc := "(IIIIZ)V" } : Jvm.MethodName) prog_12_method_25_code (19 : Nat) (Option.none : Option Jvm.ClassFile.FieldType)) ∈ gT := gT_mem 901 (by decide +kernel) rfl
theorem tw_902 : (Jvm.Cond.methodLink "MovedLinesModel" (110 : Nat) ({ cls := "MovedLinesModel", name := "areAlike", desc := "(II)Z" } : Jvm.MethodName)) ∈ gT := gT_mem 902 (by decide +kernel) rfl
theorem tw_904 : (Jvm.Cond.instanceMethod ({ cls := "MovedLinesModel", name := "areAlike", desc := "(II)Z" } : Jvm.MethodName)) ∈ gT := gT_mem 904 (by decide +kernel) rfl
theorem tw_905 : (Jvm.Cond.code ({ cls := "MovedLinesModel", name := "areAlike", desc := "(II)Z" } : Jvm.MethodName) prog_12_method_22_code (3 : Nat) (Option.some Jvm.ClassFile.FieldType.boolean)) ∈ gT := gT_mem 905 (by decide +kernel) rfl
theorem tw_906 : (Jvm.Cond.methodLink "MovedLinesModel" (106 : Nat) ({ cls := "MovedLinesModel", name := "areAlike", desc := "(IIII)Z" } : Jvm.MethodName)) ∈ gT := gT_mem 906 (by decide +kernel) rfl
theorem tw_908 : (Jvm.Cond.instanceMethod ({ cls := "MovedLinesModel", name := "areAlike", desc := "(IIII)Z" } : Jvm.MethodName)) ∈ gT := gT_mem 908 (by decide +kernel) rfl
theorem tw_909 : (Jvm.Cond.code ({ cls := "MovedLinesModel", name := "areAlike", desc := "(IIII)Z" } : Jvm.MethodName) prog_12_method_21_code (7 : Nat) (Option.some Jvm.ClassFile.FieldType.boolean)) ∈ gT := gT_mem 909 (by decide +kernel) rfl
theorem tw_910 : (Jvm.Cond.methodLink "MovedLinesModel" (99 : Nat) ({ cls := "MovedLinesModel", name := "wordsOf", desc := "(II)I" } : Jvm.MethodName)) ∈ gT := gT_mem 910 (by decide +kernel) rfl
theorem tw_912 : (Jvm.Cond.instanceMethod ({ cls := "MovedLinesModel", name := "wordsOf", desc := "(II)I" } : Jvm.MethodName)) ∈ gT := gT_mem 912 (by decide +kernel) rfl
theorem tw_913 : (Jvm.Cond.code ({ cls := "MovedLinesModel", name := "wordsOf", desc := "(II)I" } : Jvm.MethodName) prog_12_method_19_code (3 : Nat) (Option.some Jvm.ClassFile.FieldType.int)) ∈ gT := gT_mem 913 (by decide +kernel) rfl
theorem tw_914 : (Jvm.Cond.methodLink "MovedLinesModel" (95 : Nat) ({ cls := "MovedLinesModel", name := "lineAt", desc := "(II)I" } : Jvm.MethodName)) ∈ gT := gT_mem 914 (by decide +kernel) rfl
theorem tw_915 : (Jvm.Cond.static ({ cls := "MovedLinesModel", name := "lineAt", desc := "(II)I" } : Jvm.MethodName)) ∈ gT := gT_mem 915 (by decide +kernel) rfl
theorem tw_916 : (Jvm.Cond.code ({ cls := "MovedLinesModel", name := "lineAt", desc := "(II)I" } : Jvm.MethodName) prog_12_method_8_code (2 : Nat) (Option.some Jvm.ClassFile.FieldType.int)) ∈ gT := gT_mem 916 (by decide +kernel) rfl
theorem tw_917 : (Jvm.Cond.methodLink "MovedLinesModel" (102 : Nat) ({ cls := "MovedLinesModel", name := "word", desc := "(III)I" } : Jvm.MethodName)) ∈ gT := gT_mem 917 (by decide +kernel) rfl
theorem tw_919 : (Jvm.Cond.instanceMethod ({ cls := "MovedLinesModel", name := "word", desc := "(III)I" } : Jvm.MethodName)) ∈ gT := gT_mem 919 (by decide +kernel) rfl
theorem tw_920 : (Jvm.Cond.code ({ cls := "MovedLinesModel", name := "word", desc := "(III)I" } : Jvm.MethodName) prog_12_method_20_code (4 : Nat) (Option.some Jvm.ClassFile.FieldType.int)) ∈ gT := gT_mem 920 (by decide +kernel) rfl
theorem tw_921 : (Jvm.Cond.methodLink "MovedLinesModel" (112 : Nat) ({ cls := "MovedLinesModel", name := "couples", desc := "(III)V" } : Jvm.MethodName)) ∈ gT := gT_mem 921 (by decide +kernel) rfl
theorem tw_923 : (Jvm.Cond.instanceMethod ({ cls := "MovedLinesModel", name := "couples", desc := "(III)V" } : Jvm.MethodName)) ∈ gT := gT_mem 923 (by decide +kernel) rfl
theorem tw_924 : (Jvm.Cond.code ({ cls := "MovedLinesModel", name := "couples", desc := "(III)V" } : Jvm.MethodName) prog_12_method_23_code (4 : Nat) (Option.none : Option Jvm.ClassFile.FieldType)) ∈ gT := gT_mem 924 (by decide +kernel) rfl
theorem tw_925 : (Jvm.Cond.methodLink "MovedLinesModel" (116 : Nat) ({ cls := "MovedLinesModel", name := "anchorOf", desc := "(IIIII)I" } : Jvm.MethodName)) ∈ gT := gT_mem 925 (by decide +kernel) rfl
theorem tw_927 : (Jvm.Cond.instanceMethod ({ cls := "MovedLinesModel", name := "anchorOf", desc := "(IIIII)I" } : Jvm.MethodName)) ∈ gT := gT_mem 927 (by decide +kernel) rfl
theorem tw_928 : (Jvm.Cond.code ({ cls := "MovedLinesModel", name := "anchorOf", desc := "(IIIII)I" } : Jvm.MethodName) prog_12_method_24_code (8 : Nat) (Option.some Jvm.ClassFile.FieldType.int)) ∈ gT := gT_mem 928 (by decide +kernel) rfl
theorem tw_929 : (Jvm.Cond.methodLink "MovedLinesModel" (142 : Nat) ({ cls := "MovedLinesModel", name := "laysBlocks", desc := "()V" } : Jvm.MethodName)) ∈ gT := gT_mem 929 (by decide +kernel) rfl
theorem tw_931 : (Jvm.Cond.instanceMethod ({ cls := "MovedLinesModel", name := "laysBlocks", desc := "()V" } : Jvm.MethodName)) ∈ gT := gT_mem 931 (by decide +kernel) rfl
theorem tw_932 : (Jvm.Cond.code ({ cls := "MovedLinesModel", name := "laysBlocks", desc := "()V" } : Jvm.MethodName) prog_12_method_28_code (5 : Nat) (Option.none : Option Jvm.ClassFile.FieldType)) ∈ gT := gT_mem 932 (by decide +kernel) rfl
theorem tw_933 : (Jvm.Cond.methodLink "MovedLinesModel" (136 : Nat) ({ cls := "MovedLinesModel", name := "blockFrom", desc := "(II)I" } : Jvm.MethodName)) ∈ gT := gT_mem 933 (by decide +kernel) rfl
theorem tw_935 : (Jvm.Cond.instanceMethod ({ cls := "MovedLinesModel", name := "blockFrom", desc := "(II)I" } : Jvm.MethodName)) ∈ gT := gT_mem 935 (by decide +kernel) rfl
theorem tw_936 : (Jvm.Cond.code ({ cls := "MovedLinesModel", name := "blockFrom", desc := "(II)I" } : Jvm.MethodName) prog_12_method_27_code (4 : Nat) (Option.some Jvm.ClassFile.FieldType.int)) ∈ gT := gT_mem 936 (by decide +kernel) rfl
theorem tw_937 : (Jvm.Cond.methodLink "MovedLinesModel" (130 : Nat) ({ cls := "MovedLinesModel", name := "isLoose", desc := "(II)Z" } : Jvm.MethodName)) ∈ gT := gT_mem 937 (by decide +kernel) rfl
theorem tw_939 : (Jvm.Cond.instanceMethod ({ cls := "MovedLinesModel", name := "isLoose", desc := "(II)Z" } : Jvm.MethodName)) ∈ gT := gT_mem 939 (by decide +kernel) rfl
theorem tw_940 : (Jvm.Cond.code ({ cls := "MovedLinesModel", name := "isLoose", desc := "(II)Z" } : Jvm.MethodName) prog_12_method_26_code (3 : Nat) (Option.some Jvm.ClassFile.FieldType.boolean)) ∈ gT := gT_mem 940 (by decide +kernel) rfl
theorem tw_941 : (Jvm.Cond.methodLink "MovedLinesModel" (145 : Nat) ({ cls := "MovedLinesModel", name := "laysEdits", desc := "()V" } : Jvm.MethodName)) ∈ gT := gT_mem 941 (by decide +kernel) rfl
theorem tw_943 : (Jvm.Cond.instanceMethod ({ cls := "MovedLinesModel", name := "laysEdits", desc := "()V" } : Jvm.MethodName)) ∈ gT := gT_mem 943 (by decide +kernel) rfl
theorem tw_944 : (Jvm.Cond.code ({ cls := "MovedLinesModel", name := "laysEdits", desc := "()V" } : Jvm.MethodName) prog_12_method_30_code (5 : Nat) (Option.none : Option Jvm.ClassFile.FieldType)) ∈ gT := gT_mem 944 (by decide +kernel) rfl
