/-! the law calls the class by these -/
theorem w_71 : Cond.initialized "QuasigroveLaw" ∈ g_GW := g_mem (i := 71) (by decide +kernel) rfl
theorem w_317 : Cond.static yL_grid ∈ g_GW := g_mem (i := 317) (by decide +kernel) rfl
theorem w_318 : Cond.codeWith yL_grid cL_grid 4 (some .int) [(0, 9, 12, 13), (0, 9, 15, 15)] ∈ g_GW := g_mem (i := 318) (by decide +kernel) rfl
theorem w_319 : Cond.classLink "QuasigroveLaw" 13 "java/lang/IllegalArgumentException" ∈ g_GW := g_mem (i := 319) (by decide +kernel) rfl
theorem w_320 : Cond.classLink "QuasigroveLaw" 15 "java/lang/IllegalStateException" ∈ g_GW := g_mem (i := 320) (by decide +kernel) rfl
theorem w_321 : Cond.methodLink "QuasigroveLaw" 7 yX11_grid ∈ g_GW := g_mem (i := 321) (by decide +kernel) rfl
theorem w_333 : Cond.castable "java/lang/IllegalArgumentException" "java/lang/IllegalArgumentException" ∈ g_NW := g_memN (i := 333) (by decide +kernel) rfl
theorem w_405 : Cond.castable "java/lang/IllegalStateException" "java/lang/IllegalStateException" ∈ g_NW := g_memN (i := 405) (by decide +kernel) rfl
theorem w_430 : Cond.static yL_linear ∈ g_GW := g_mem (i := 430) (by decide +kernel) rfl
theorem w_431 : Cond.codeWith yL_linear cL_linear 7 (some .int) [(0, 14, 17, 13), (0, 14, 21, 15)] ∈ g_GW := g_mem (i := 431) (by decide +kernel) rfl
theorem w_432 : Cond.methodLink "QuasigroveLaw" 17 yX11_linear ∈ g_GW := g_mem (i := 432) (by decide +kernel) rfl
theorem w_455 : Cond.static yL_put ∈ g_GW := g_mem (i := 455) (by decide +kernel) rfl
theorem w_456 : Cond.codeWith yL_put cL_put 7 (some .int) [(0, 14, 17, 24), (0, 14, 21, 13), (0, 14, 25, 15)] ∈ g_GW := g_mem (i := 456) (by decide +kernel) rfl
theorem w_457 : Cond.classLink "QuasigroveLaw" 24 "java/lang/IndexOutOfBoundsException" ∈ g_GW := g_mem (i := 457) (by decide +kernel) rfl
theorem w_458 : Cond.methodLink "QuasigroveLaw" 21 yX11_put ∈ g_GW := g_mem (i := 458) (by decide +kernel) rfl
theorem w_468 : Cond.castable "java/lang/IndexOutOfBoundsException" "java/lang/IndexOutOfBoundsException" ∈ g_NW := g_memN (i := 468) (by decide +kernel) rfl
theorem w_503 : Cond.static yL_isotope ∈ g_GW := g_mem (i := 503) (by decide +kernel) rfl
theorem w_504 : Cond.codeWith yL_isotope cL_isotope 7 (some .int) [(0, 14, 17, 24), (0, 14, 21, 13), (0, 14, 25, 15)] ∈ g_GW := g_mem (i := 504) (by decide +kernel) rfl
theorem w_505 : Cond.methodLink "QuasigroveLaw" 26 yX11_isotope ∈ g_GW := g_mem (i := 505) (by decide +kernel) rfl
theorem w_528 : Cond.static yL_conjugate ∈ g_GW := g_mem (i := 528) (by decide +kernel) rfl
theorem w_529 : Cond.codeWith yL_conjugate cL_conjugate 5 (some .int) [(0, 10, 13, 24), (0, 10, 17, 13), (0, 10, 21, 15)] ∈ g_GW := g_mem (i := 529) (by decide +kernel) rfl
theorem w_530 : Cond.methodLink "QuasigroveLaw" 29 yX11_conjugate ∈ g_GW := g_mem (i := 530) (by decide +kernel) rfl
theorem w_538 : Cond.static yL_cell ∈ g_GW := g_mem (i := 538) (by decide +kernel) rfl
theorem w_539 : Cond.codeWith yL_cell cL_cell 6 (some .int) [(0, 12, 15, 24)] ∈ g_GW := g_mem (i := 539) (by decide +kernel) rfl
theorem w_540 : Cond.methodLink "QuasigroveLaw" 33 yX11_cell ∈ g_GW := g_mem (i := 540) (by decide +kernel) rfl
theorem w_545 : Cond.static yL_of ∈ g_GW := g_mem (i := 545) (by decide +kernel) rfl
theorem w_546 : Cond.codeWith yL_of cL_of 5 (some .int) [(0, 10, 13, 24), (0, 10, 17, 13)] ∈ g_GW := g_mem (i := 546) (by decide +kernel) rfl
theorem w_547 : Cond.methodLink "QuasigroveLaw" 37 yX11_of ∈ g_GW := g_mem (i := 547) (by decide +kernel) rfl
theorem w_565 : Cond.static yL_distance ∈ g_GW := g_mem (i := 565) (by decide +kernel) rfl
theorem w_566 : Cond.codeWith yL_distance cL_distance 5 (some .int) [(0, 10, 13, 24), (0, 10, 17, 13)] ∈ g_GW := g_mem (i := 566) (by decide +kernel) rfl
theorem w_567 : Cond.methodLink "QuasigroveLaw" 40 yX11_distance ∈ g_GW := g_mem (i := 567) (by decide +kernel) rfl
theorem w_572 : Cond.static yL_turn ∈ g_GW := g_mem (i := 572) (by decide +kernel) rfl
theorem w_573 : Cond.codeWith yL_turn cL_turn 7 (some .int) [(0, 14, 17, 24), (0, 14, 21, 13), (0, 14, 25, 15)] ∈ g_GW := g_mem (i := 573) (by decide +kernel) rfl
theorem w_574 : Cond.methodLink "QuasigroveLaw" 43 yX11_turn ∈ g_GW := g_mem (i := 574) (by decide +kernel) rfl
theorem w_595 : Cond.static yL_stir ∈ g_GW := g_mem (i := 595) (by decide +kernel) rfl
theorem w_596 : Cond.codeWith yL_stir cL_stir 6 (some .int) [(0, 12, 15, 24), (0, 12, 19, 13), (0, 12, 23, 15)] ∈ g_GW := g_mem (i := 596) (by decide +kernel) rfl
theorem w_597 : Cond.methodLink "QuasigroveLaw" 46 yX11_stir ∈ g_GW := g_mem (i := 597) (by decide +kernel) rfl
theorem w_616 : Cond.static yL_can ∈ g_GW := g_mem (i := 616) (by decide +kernel) rfl
theorem w_617 : Cond.codeWith yL_can cL_can 6 (some .int) [(0, 12, 15, 24)] ∈ g_GW := g_mem (i := 617) (by decide +kernel) rfl
theorem w_618 : Cond.methodLink "QuasigroveLaw" 49 yX11_can ∈ g_GW := g_mem (i := 618) (by decide +kernel) rfl
theorem w_624 : Cond.static yL_fills ∈ g_GW := g_mem (i := 624) (by decide +kernel) rfl
theorem w_625 : Cond.codeWith yL_fills cL_fills 5 (some .int) [(0, 10, 13, 24), (0, 10, 17, 13)] ∈ g_GW := g_mem (i := 625) (by decide +kernel) rfl
theorem w_626 : Cond.methodLink "QuasigroveLaw" 52 yX11_fills ∈ g_GW := g_mem (i := 626) (by decide +kernel) rfl
theorem w_654 : Cond.static yL_fillsAnew ∈ g_GW := g_mem (i := 654) (by decide +kernel) rfl
theorem w_655 : Cond.codeWith yL_fillsAnew cL_fillsAnew 5 (some .int) [(0, 10, 13, 24), (0, 10, 17, 13)] ∈ g_GW := g_mem (i := 655) (by decide +kernel) rfl
theorem w_656 : Cond.methodLink "QuasigroveLaw" 55 yX11_fillsAnew ∈ g_GW := g_mem (i := 656) (by decide +kernel) rfl
theorem w_695 : Cond.static yL_fill ∈ g_GW := g_mem (i := 695) (by decide +kernel) rfl
theorem w_696 : Cond.codeWith yL_fill cL_fill 4 (some .int) [(0, 9, 12, 24), (0, 9, 15, 15)] ∈ g_GW := g_mem (i := 696) (by decide +kernel) rfl
theorem w_697 : Cond.methodLink "QuasigroveLaw" 58 yX11_fill ∈ g_GW := g_mem (i := 697) (by decide +kernel) rfl
theorem w_709 : Cond.static yL_forced ∈ g_GW := g_mem (i := 709) (by decide +kernel) rfl
theorem w_710 : Cond.codeWith yL_forced cL_forced 4 (some .int) [(0, 9, 12, 24)] ∈ g_GW := g_mem (i := 710) (by decide +kernel) rfl
theorem w_711 : Cond.methodLink "QuasigroveLaw" 61 yX11_forced ∈ g_GW := g_mem (i := 711) (by decide +kernel) rfl
theorem w_743 : Cond.static yL_logic ∈ g_GW := g_mem (i := 743) (by decide +kernel) rfl
theorem w_744 : Cond.codeWith yL_logic cL_logic 4 (some .int) [(0, 9, 12, 24)] ∈ g_GW := g_mem (i := 744) (by decide +kernel) rfl
theorem w_745 : Cond.methodLink "QuasigroveLaw" 64 yX11_logic ∈ g_GW := g_mem (i := 745) (by decide +kernel) rfl
theorem w_757 : Cond.static yL_critical ∈ g_GW := g_mem (i := 757) (by decide +kernel) rfl
theorem w_758 : Cond.codeWith yL_critical cL_critical 4 (some .int) [(0, 9, 12, 24), (0, 9, 15, 15)] ∈ g_GW := g_mem (i := 758) (by decide +kernel) rfl
theorem w_759 : Cond.methodLink "QuasigroveLaw" 67 yX11_critical ∈ g_GW := g_mem (i := 759) (by decide +kernel) rfl
theorem w_790 : Cond.static yL_type ∈ g_GW := g_mem (i := 790) (by decide +kernel) rfl
theorem w_791 : Cond.codeWith yL_type cL_type 6 (some .int) [(0, 11, 14, 13), (0, 11, 18, 15)] ∈ g_GW := g_mem (i := 791) (by decide +kernel) rfl
theorem w_792 : Cond.methodLink "QuasigroveLaw" 70 yX11_type ∈ g_GW := g_mem (i := 792) (by decide +kernel) rfl
theorem w_811 : Cond.static yL_breaks ∈ g_GW := g_mem (i := 811) (by decide +kernel) rfl
theorem w_812 : Cond.codeWith yL_breaks cL_breaks 4 (some .int) [(0, 9, 12, 24), (0, 9, 15, 13), (0, 9, 18, 15)] ∈ g_GW := g_mem (i := 812) (by decide +kernel) rfl
theorem w_813 : Cond.methodLink "QuasigroveLaw" 74 yX11_breaks ∈ g_GW := g_mem (i := 813) (by decide +kernel) rfl
theorem w_831 : Cond.static yL_unit ∈ g_GW := g_mem (i := 831) (by decide +kernel) rfl
theorem w_832 : Cond.codeWith yL_unit cL_unit 4 (some .int) [(0, 9, 12, 24), (0, 9, 15, 15)] ∈ g_GW := g_mem (i := 832) (by decide +kernel) rfl
theorem w_833 : Cond.methodLink "QuasigroveLaw" 77 yX11_unit ∈ g_GW := g_mem (i := 833) (by decide +kernel) rfl
theorem w_845 : Cond.static yL_nucleus ∈ g_GW := g_mem (i := 845) (by decide +kernel) rfl
theorem w_846 : Cond.codeWith yL_nucleus cL_nucleus 5 (some .int) [(0, 10, 13, 24), (0, 10, 17, 13), (0, 10, 21, 15)] ∈ g_GW := g_mem (i := 846) (by decide +kernel) rfl
theorem w_847 : Cond.methodLink "QuasigroveLaw" 80 yX11_nucleus ∈ g_GW := g_mem (i := 847) (by decide +kernel) rfl
theorem w_867 : Cond.static yL_closed ∈ g_GW := g_mem (i := 867) (by decide +kernel) rfl
theorem w_868 : Cond.codeWith yL_closed cL_closed 5 (some .int) [(0, 10, 13, 24), (0, 10, 17, 13), (0, 10, 21, 15)] ∈ g_GW := g_mem (i := 868) (by decide +kernel) rfl
theorem w_869 : Cond.methodLink "QuasigroveLaw" 83 yX11_closed ∈ g_GW := g_mem (i := 869) (by decide +kernel) rfl
theorem w_882 : Cond.static yL_count ∈ g_GW := g_mem (i := 882) (by decide +kernel) rfl
theorem w_883 : Cond.codeWith yL_count cL_count 5 (some .int) [(0, 10, 13, 24), (0, 10, 17, 13), (0, 10, 21, 15)] ∈ g_GW := g_mem (i := 883) (by decide +kernel) rfl
theorem w_884 : Cond.methodLink "QuasigroveLaw" 86 yX11_count ∈ g_GW := g_mem (i := 884) (by decide +kernel) rfl
theorem w_935 : Cond.static yL_isotopies ∈ g_GW := g_mem (i := 935) (by decide +kernel) rfl
theorem w_936 : Cond.codeWith yL_isotopies cL_isotopies 5 (some .int) [(0, 10, 13, 24), (0, 10, 17, 15)] ∈ g_GW := g_mem (i := 936) (by decide +kernel) rfl
theorem w_937 : Cond.methodLink "QuasigroveLaw" 89 yX11_isotopies ∈ g_GW := g_mem (i := 937) (by decide +kernel) rfl
theorem w_959 : Cond.static yL_transversals ∈ g_GW := g_mem (i := 959) (by decide +kernel) rfl
theorem w_960 : Cond.codeWith yL_transversals cL_transversals 4 (some .int) [(0, 9, 12, 24), (0, 9, 15, 15)] ∈ g_GW := g_mem (i := 960) (by decide +kernel) rfl
theorem w_961 : Cond.methodLink "QuasigroveLaw" 92 yX11_transversals ∈ g_GW := g_mem (i := 961) (by decide +kernel) rfl
theorem w_978 : Cond.static yL_mates ∈ g_GW := g_mem (i := 978) (by decide +kernel) rfl
theorem w_979 : Cond.codeWith yL_mates cL_mates 4 (some .int) [(0, 9, 12, 24), (0, 9, 15, 15)] ∈ g_GW := g_mem (i := 979) (by decide +kernel) rfl
theorem w_980 : Cond.methodLink "QuasigroveLaw" 95 yX11_mates ∈ g_GW := g_mem (i := 980) (by decide +kernel) rfl
theorem w_1005 : Cond.static yL_mate ∈ g_GW := g_mem (i := 1005) (by decide +kernel) rfl
theorem w_1006 : Cond.codeWith yL_mate cL_mate 4 (some .int) [(0, 9, 12, 24), (0, 9, 15, 15)] ∈ g_GW := g_mem (i := 1006) (by decide +kernel) rfl
theorem w_1007 : Cond.methodLink "QuasigroveLaw" 98 yX11_mate ∈ g_GW := g_mem (i := 1007) (by decide +kernel) rfl
theorem w_1012 : Cond.static yL_areMates ∈ g_GW := g_mem (i := 1012) (by decide +kernel) rfl
theorem w_1013 : Cond.codeWith yL_areMates cL_areMates 5 (some .int) [(0, 17, 20, 24), (0, 17, 24, 15)] ∈ g_GW := g_mem (i := 1013) (by decide +kernel) rfl
theorem w_1014 : Cond.methodLink "QuasigroveLaw" 101 yX11_areMates ∈ g_GW := g_mem (i := 1014) (by decide +kernel) rfl
theorem w_1023 : Cond.static yL_parity ∈ g_GW := g_mem (i := 1023) (by decide +kernel) rfl
theorem w_1024 : Cond.codeWith yL_parity cL_parity 5 (some .int) [(0, 10, 13, 24), (0, 10, 17, 13), (0, 10, 21, 15)] ∈ g_GW := g_mem (i := 1024) (by decide +kernel) rfl
theorem w_1025 : Cond.methodLink "QuasigroveLaw" 105 yX11_parity ∈ g_GW := g_mem (i := 1025) (by decide +kernel) rfl
theorem w_1037 : Cond.static yL_wins ∈ g_GW := g_mem (i := 1037) (by decide +kernel) rfl
theorem w_1038 : Cond.codeWith yL_wins cL_wins 4 (some .int) [(0, 9, 12, 24), (0, 9, 15, 15)] ∈ g_GW := g_mem (i := 1038) (by decide +kernel) rfl
theorem w_1039 : Cond.methodLink "QuasigroveLaw" 108 yX11_wins ∈ g_GW := g_mem (i := 1039) (by decide +kernel) rfl
def tb_L_areMates : List (Nat × Instr × Nat) := [(0, .aload_n 3, 1), (1, .iconst 0, 1), (2, .aload_n 0, 1), (3, .iload_n 1, 1), (4, .iload_n 2, 1), (5, .invokevirtual 101, 3), (8, .ifCond .eq 7, 3), (11, .lconst 1, 1), (12, .goto 4, 3), (15, .lconst 0, 1), (16, .lastore, 1), (17, .goto 11, 3), (20, .astore 4, 2), (22, .iconst 1, 1), (23, .ireturn, 1), (24, .astore 4, 2), (26, .iconst 2, 1), (27, .ireturn, 1), (28, .iconst 0, 1), (29, .ireturn, 1)]
theorem dt_L_areMates : decAll cL_areMates tb_L_areMates := by unfold decAll tb_L_areMates; decide +kernel
def tb_L_breaks : List (Nat × Instr × Nat) := [(0, .aload_n 2, 1), (1, .iconst 0, 1), (2, .aload_n 0, 1), (3, .iload_n 1, 1), (4, .invokevirtual 74, 3), (7, .i2l, 1), (8, .lastore, 1), (9, .goto 12, 3), (12, .astore_n 3, 1), (13, .iconst 1, 1), (14, .ireturn, 1), (15, .astore_n 3, 1), (16, .iconst 2, 1), (17, .ireturn, 1), (18, .astore_n 3, 1), (19, .iconst 3, 1), (20, .ireturn, 1), (21, .iconst 0, 1), (22, .ireturn, 1)]
theorem dt_L_breaks : decAll cL_breaks tb_L_breaks := by unfold decAll tb_L_breaks; decide +kernel
def tb_L_can : List (Nat × Instr × Nat) := [(0, .aload 4, 2), (2, .iconst 0, 1), (3, .aload_n 0, 1), (4, .iload_n 1, 1), (5, .iload_n 2, 1), (6, .iload_n 3, 1), (7, .invokevirtual 49, 3), (10, .i2l, 1), (11, .lastore, 1), (12, .goto 7, 3), (15, .astore 5, 2), (17, .iconst 1, 1), (18, .ireturn, 1), (19, .iconst 0, 1), (20, .ireturn, 1)]
theorem dt_L_can : decAll cL_can tb_L_can := by unfold decAll tb_L_can; decide +kernel
def tb_L_cell : List (Nat × Instr × Nat) := [(0, .aload 4, 2), (2, .iconst 0, 1), (3, .aload_n 0, 1), (4, .iload_n 1, 1), (5, .iload_n 2, 1), (6, .iload_n 3, 1), (7, .invokevirtual 33, 3), (10, .i2l, 1), (11, .lastore, 1), (12, .goto 7, 3), (15, .astore 5, 2), (17, .iconst 1, 1), (18, .ireturn, 1), (19, .iconst 0, 1), (20, .ireturn, 1)]
theorem dt_L_cell : decAll cL_cell tb_L_cell := by unfold decAll tb_L_cell; decide +kernel
def tb_L_closed : List (Nat × Instr × Nat) := [(0, .aload_n 3, 1), (1, .iconst 0, 1), (2, .aload_n 0, 1), (3, .iload_n 1, 1), (4, .iload_n 2, 1), (5, .invokevirtual 83, 3), (8, .i2l, 1), (9, .lastore, 1), (10, .goto 15, 3), (13, .astore 4, 2), (15, .iconst 1, 1), (16, .ireturn, 1), (17, .astore 4, 2), (19, .iconst 2, 1), (20, .ireturn, 1), (21, .astore 4, 2), (23, .iconst 3, 1), (24, .ireturn, 1), (25, .iconst 0, 1), (26, .ireturn, 1)]
theorem dt_L_closed : decAll cL_closed tb_L_closed := by unfold decAll tb_L_closed; decide +kernel
def tb_L_conjugate : List (Nat × Instr × Nat) := [(0, .aload_n 3, 1), (1, .iconst 0, 1), (2, .aload_n 0, 1), (3, .iload_n 1, 1), (4, .iload_n 2, 1), (5, .invokevirtual 29, 3), (8, .i2l, 1), (9, .lastore, 1), (10, .goto 15, 3), (13, .astore 4, 2), (15, .iconst 1, 1), (16, .ireturn, 1), (17, .astore 4, 2), (19, .iconst 2, 1), (20, .ireturn, 1), (21, .astore 4, 2), (23, .iconst 3, 1), (24, .ireturn, 1), (25, .iconst 0, 1), (26, .ireturn, 1)]
theorem dt_L_conjugate : decAll cL_conjugate tb_L_conjugate := by unfold decAll tb_L_conjugate; decide +kernel
def tb_L_count : List (Nat × Instr × Nat) := [(0, .aload_n 3, 1), (1, .iconst 0, 1), (2, .aload_n 0, 1), (3, .iload_n 1, 1), (4, .iload_n 2, 1), (5, .invokevirtual 86, 3), (8, .i2l, 1), (9, .lastore, 1), (10, .goto 15, 3), (13, .astore 4, 2), (15, .iconst 1, 1), (16, .ireturn, 1), (17, .astore 4, 2), (19, .iconst 2, 1), (20, .ireturn, 1), (21, .astore 4, 2), (23, .iconst 3, 1), (24, .ireturn, 1), (25, .iconst 0, 1), (26, .ireturn, 1)]
theorem dt_L_count : decAll cL_count tb_L_count := by unfold decAll tb_L_count; decide +kernel
def tb_L_critical : List (Nat × Instr × Nat) := [(0, .aload_n 2, 1), (1, .iconst 0, 1), (2, .aload_n 0, 1), (3, .iload_n 1, 1), (4, .invokevirtual 67, 3), (7, .i2l, 1), (8, .lastore, 1), (9, .goto 9, 3), (12, .astore_n 3, 1), (13, .iconst 1, 1), (14, .ireturn, 1), (15, .astore_n 3, 1), (16, .iconst 2, 1), (17, .ireturn, 1), (18, .iconst 0, 1), (19, .ireturn, 1)]
theorem dt_L_critical : decAll cL_critical tb_L_critical := by unfold decAll tb_L_critical; decide +kernel
def tb_L_distance : List (Nat × Instr × Nat) := [(0, .aload_n 3, 1), (1, .iconst 0, 1), (2, .aload_n 0, 1), (3, .iload_n 1, 1), (4, .iload_n 2, 1), (5, .invokevirtual 40, 3), (8, .i2l, 1), (9, .lastore, 1), (10, .goto 11, 3), (13, .astore 4, 2), (15, .iconst 1, 1), (16, .ireturn, 1), (17, .astore 4, 2), (19, .iconst 2, 1), (20, .ireturn, 1), (21, .iconst 0, 1), (22, .ireturn, 1)]
theorem dt_L_distance : decAll cL_distance tb_L_distance := by unfold decAll tb_L_distance; decide +kernel
def tb_L_fill : List (Nat × Instr × Nat) := [(0, .aload_n 2, 1), (1, .iconst 0, 1), (2, .aload_n 0, 1), (3, .iload_n 1, 1), (4, .invokevirtual 58, 3), (7, .i2l, 1), (8, .lastore, 1), (9, .goto 9, 3), (12, .astore_n 3, 1), (13, .iconst 1, 1), (14, .ireturn, 1), (15, .astore_n 3, 1), (16, .iconst 2, 1), (17, .ireturn, 1), (18, .iconst 0, 1), (19, .ireturn, 1)]
theorem dt_L_fill : decAll cL_fill tb_L_fill := by unfold decAll tb_L_fill; decide +kernel
def tb_L_fills : List (Nat × Instr × Nat) := [(0, .aload_n 3, 1), (1, .iconst 0, 1), (2, .aload_n 0, 1), (3, .iload_n 1, 1), (4, .iload_n 2, 1), (5, .invokevirtual 52, 3), (8, .i2l, 1), (9, .lastore, 1), (10, .goto 11, 3), (13, .astore 4, 2), (15, .iconst 1, 1), (16, .ireturn, 1), (17, .astore 4, 2), (19, .iconst 2, 1), (20, .ireturn, 1), (21, .iconst 0, 1), (22, .ireturn, 1)]
theorem dt_L_fills : decAll cL_fills tb_L_fills := by unfold decAll tb_L_fills; decide +kernel
def tb_L_fillsAnew : List (Nat × Instr × Nat) := [(0, .aload_n 3, 1), (1, .iconst 0, 1), (2, .aload_n 0, 1), (3, .iload_n 1, 1), (4, .iload_n 2, 1), (5, .invokevirtual 55, 3), (8, .i2l, 1), (9, .lastore, 1), (10, .goto 11, 3), (13, .astore 4, 2), (15, .iconst 1, 1), (16, .ireturn, 1), (17, .astore 4, 2), (19, .iconst 2, 1), (20, .ireturn, 1), (21, .iconst 0, 1), (22, .ireturn, 1)]
theorem dt_L_fillsAnew : decAll cL_fillsAnew tb_L_fillsAnew := by unfold decAll tb_L_fillsAnew; decide +kernel
def tb_L_forced : List (Nat × Instr × Nat) := [(0, .aload_n 2, 1), (1, .iconst 0, 1), (2, .aload_n 0, 1), (3, .iload_n 1, 1), (4, .invokevirtual 61, 3), (7, .i2l, 1), (8, .lastore, 1), (9, .goto 6, 3), (12, .astore_n 3, 1), (13, .iconst 1, 1), (14, .ireturn, 1), (15, .iconst 0, 1), (16, .ireturn, 1)]
theorem dt_L_forced : decAll cL_forced tb_L_forced := by unfold decAll tb_L_forced; decide +kernel
def tb_L_grid : List (Nat × Instr × Nat) := [(0, .aload_n 2, 1), (1, .iconst 0, 1), (2, .aload_n 0, 1), (3, .iload_n 1, 1), (4, .invokevirtual 7, 3), (7, .i2l, 1), (8, .lastore, 1), (9, .goto 9, 3), (12, .astore_n 3, 1), (13, .iconst 1, 1), (14, .ireturn, 1), (15, .astore_n 3, 1), (16, .iconst 2, 1), (17, .ireturn, 1), (18, .iconst 0, 1), (19, .ireturn, 1)]
theorem dt_L_grid : decAll cL_grid tb_L_grid := by unfold decAll tb_L_grid; decide +kernel
def tb_L_isotope : List (Nat × Instr × Nat) := [(0, .aload 5, 2), (2, .iconst 0, 1), (3, .aload_n 0, 1), (4, .iload_n 1, 1), (5, .iload_n 2, 1), (6, .iload_n 3, 1), (7, .iload 4, 2), (9, .invokevirtual 26, 3), (12, .i2l, 1), (13, .lastore, 1), (14, .goto 15, 3), (17, .astore 6, 2), (19, .iconst 1, 1), (20, .ireturn, 1), (21, .astore 6, 2), (23, .iconst 2, 1), (24, .ireturn, 1), (25, .astore 6, 2), (27, .iconst 3, 1), (28, .ireturn, 1), (29, .iconst 0, 1), (30, .ireturn, 1)]
theorem dt_L_isotope : decAll cL_isotope tb_L_isotope := by unfold decAll tb_L_isotope; decide +kernel
def tb_L_isotopies : List (Nat × Instr × Nat) := [(0, .aload_n 3, 1), (1, .iconst 0, 1), (2, .aload_n 0, 1), (3, .iload_n 1, 1), (4, .iload_n 2, 1), (5, .invokevirtual 89, 3), (8, .i2l, 1), (9, .lastore, 1), (10, .goto 11, 3), (13, .astore 4, 2), (15, .iconst 1, 1), (16, .ireturn, 1), (17, .astore 4, 2), (19, .iconst 2, 1), (20, .ireturn, 1), (21, .iconst 0, 1), (22, .ireturn, 1)]
theorem dt_L_isotopies : decAll cL_isotopies tb_L_isotopies := by unfold decAll tb_L_isotopies; decide +kernel
def tb_L_linear : List (Nat × Instr × Nat) := [(0, .aload 5, 2), (2, .iconst 0, 1), (3, .aload_n 0, 1), (4, .iload_n 1, 1), (5, .iload_n 2, 1), (6, .iload_n 3, 1), (7, .iload 4, 2), (9, .invokevirtual 17, 3), (12, .i2l, 1), (13, .lastore, 1), (14, .goto 11, 3), (17, .astore 6, 2), (19, .iconst 1, 1), (20, .ireturn, 1), (21, .astore 6, 2), (23, .iconst 2, 1), (24, .ireturn, 1), (25, .iconst 0, 1), (26, .ireturn, 1)]
theorem dt_L_linear : decAll cL_linear tb_L_linear := by unfold decAll tb_L_linear; decide +kernel
def tb_L_logic : List (Nat × Instr × Nat) := [(0, .aload_n 2, 1), (1, .iconst 0, 1), (2, .aload_n 0, 1), (3, .iload_n 1, 1), (4, .invokevirtual 64, 3), (7, .i2l, 1), (8, .lastore, 1), (9, .goto 6, 3), (12, .astore_n 3, 1), (13, .iconst 1, 1), (14, .ireturn, 1), (15, .iconst 0, 1), (16, .ireturn, 1)]
theorem dt_L_logic : decAll cL_logic tb_L_logic := by unfold decAll tb_L_logic; decide +kernel
def tb_L_mate : List (Nat × Instr × Nat) := [(0, .aload_n 2, 1), (1, .iconst 0, 1), (2, .aload_n 0, 1), (3, .iload_n 1, 1), (4, .invokevirtual 98, 3), (7, .i2l, 1), (8, .lastore, 1), (9, .goto 9, 3), (12, .astore_n 3, 1), (13, .iconst 1, 1), (14, .ireturn, 1), (15, .astore_n 3, 1), (16, .iconst 2, 1), (17, .ireturn, 1), (18, .iconst 0, 1), (19, .ireturn, 1)]
theorem dt_L_mate : decAll cL_mate tb_L_mate := by unfold decAll tb_L_mate; decide +kernel
def tb_L_mates : List (Nat × Instr × Nat) := [(0, .aload_n 2, 1), (1, .iconst 0, 1), (2, .aload_n 0, 1), (3, .iload_n 1, 1), (4, .invokevirtual 95, 3), (7, .i2l, 1), (8, .lastore, 1), (9, .goto 9, 3), (12, .astore_n 3, 1), (13, .iconst 1, 1), (14, .ireturn, 1), (15, .astore_n 3, 1), (16, .iconst 2, 1), (17, .ireturn, 1), (18, .iconst 0, 1), (19, .ireturn, 1)]
theorem dt_L_mates : decAll cL_mates tb_L_mates := by unfold decAll tb_L_mates; decide +kernel
def tb_L_nucleus : List (Nat × Instr × Nat) := [(0, .aload_n 3, 1), (1, .iconst 0, 1), (2, .aload_n 0, 1), (3, .iload_n 1, 1), (4, .iload_n 2, 1), (5, .invokevirtual 80, 3), (8, .i2l, 1), (9, .lastore, 1), (10, .goto 15, 3), (13, .astore 4, 2), (15, .iconst 1, 1), (16, .ireturn, 1), (17, .astore 4, 2), (19, .iconst 2, 1), (20, .ireturn, 1), (21, .astore 4, 2), (23, .iconst 3, 1), (24, .ireturn, 1), (25, .iconst 0, 1), (26, .ireturn, 1)]
theorem dt_L_nucleus : decAll cL_nucleus tb_L_nucleus := by unfold decAll tb_L_nucleus; decide +kernel
def tb_L_of : List (Nat × Instr × Nat) := [(0, .aload_n 3, 1), (1, .iconst 0, 1), (2, .aload_n 0, 1), (3, .iload_n 1, 1), (4, .iload_n 2, 1), (5, .invokevirtual 37, 3), (8, .i2l, 1), (9, .lastore, 1), (10, .goto 11, 3), (13, .astore 4, 2), (15, .iconst 1, 1), (16, .ireturn, 1), (17, .astore 4, 2), (19, .iconst 2, 1), (20, .ireturn, 1), (21, .iconst 0, 1), (22, .ireturn, 1)]
theorem dt_L_of : decAll cL_of tb_L_of := by unfold decAll tb_L_of; decide +kernel
def tb_L_parity : List (Nat × Instr × Nat) := [(0, .aload_n 3, 1), (1, .iconst 0, 1), (2, .aload_n 0, 1), (3, .iload_n 1, 1), (4, .iload_n 2, 1), (5, .invokevirtual 105, 3), (8, .i2l, 1), (9, .lastore, 1), (10, .goto 15, 3), (13, .astore 4, 2), (15, .iconst 1, 1), (16, .ireturn, 1), (17, .astore 4, 2), (19, .iconst 2, 1), (20, .ireturn, 1), (21, .astore 4, 2), (23, .iconst 3, 1), (24, .ireturn, 1), (25, .iconst 0, 1), (26, .ireturn, 1)]
theorem dt_L_parity : decAll cL_parity tb_L_parity := by unfold decAll tb_L_parity; decide +kernel
def tb_L_put : List (Nat × Instr × Nat) := [(0, .aload 5, 2), (2, .iconst 0, 1), (3, .aload_n 0, 1), (4, .iload_n 1, 1), (5, .iload_n 2, 1), (6, .iload_n 3, 1), (7, .iload 4, 2), (9, .invokevirtual 21, 3), (12, .i2l, 1), (13, .lastore, 1), (14, .goto 15, 3), (17, .astore 6, 2), (19, .iconst 1, 1), (20, .ireturn, 1), (21, .astore 6, 2), (23, .iconst 2, 1), (24, .ireturn, 1), (25, .astore 6, 2), (27, .iconst 3, 1), (28, .ireturn, 1), (29, .iconst 0, 1), (30, .ireturn, 1)]
theorem dt_L_put : decAll cL_put tb_L_put := by unfold decAll tb_L_put; decide +kernel
def tb_L_stir : List (Nat × Instr × Nat) := [(0, .aload 4, 2), (2, .iconst 0, 1), (3, .aload_n 0, 1), (4, .iload_n 1, 1), (5, .iload_n 2, 1), (6, .iload_n 3, 1), (7, .invokevirtual 46, 3), (10, .i2l, 1), (11, .lastore, 1), (12, .goto 15, 3), (15, .astore 5, 2), (17, .iconst 1, 1), (18, .ireturn, 1), (19, .astore 5, 2), (21, .iconst 2, 1), (22, .ireturn, 1), (23, .astore 5, 2), (25, .iconst 3, 1), (26, .ireturn, 1), (27, .iconst 0, 1), (28, .ireturn, 1)]
theorem dt_L_stir : decAll cL_stir tb_L_stir := by unfold decAll tb_L_stir; decide +kernel
def tb_L_transversals : List (Nat × Instr × Nat) := [(0, .aload_n 2, 1), (1, .iconst 0, 1), (2, .aload_n 0, 1), (3, .iload_n 1, 1), (4, .invokevirtual 92, 3), (7, .i2l, 1), (8, .lastore, 1), (9, .goto 9, 3), (12, .astore_n 3, 1), (13, .iconst 1, 1), (14, .ireturn, 1), (15, .astore_n 3, 1), (16, .iconst 2, 1), (17, .ireturn, 1), (18, .iconst 0, 1), (19, .ireturn, 1)]
theorem dt_L_transversals : decAll cL_transversals tb_L_transversals := by unfold decAll tb_L_transversals; decide +kernel
def tb_L_turn : List (Nat × Instr × Nat) := [(0, .aload 5, 2), (2, .iconst 0, 1), (3, .aload_n 0, 1), (4, .iload_n 1, 1), (5, .iload_n 2, 1), (6, .iload_n 3, 1), (7, .iload 4, 2), (9, .invokevirtual 43, 3), (12, .i2l, 1), (13, .lastore, 1), (14, .goto 15, 3), (17, .astore 6, 2), (19, .iconst 1, 1), (20, .ireturn, 1), (21, .astore 6, 2), (23, .iconst 2, 1), (24, .ireturn, 1), (25, .astore 6, 2), (27, .iconst 3, 1), (28, .ireturn, 1), (29, .iconst 0, 1), (30, .ireturn, 1)]
theorem dt_L_turn : decAll cL_turn tb_L_turn := by unfold decAll tb_L_turn; decide +kernel
def tb_L_type : List (Nat × Instr × Nat) := [(0, .aload 4, 2), (2, .iconst 0, 1), (3, .aload_n 0, 1), (4, .lload_n 1, 1), (5, .iload_n 3, 1), (6, .invokevirtual 70, 3), (9, .i2l, 1), (10, .lastore, 1), (11, .goto 11, 3), (14, .astore 5, 2), (16, .iconst 1, 1), (17, .ireturn, 1), (18, .astore 5, 2), (20, .iconst 2, 1), (21, .ireturn, 1), (22, .iconst 0, 1), (23, .ireturn, 1)]
theorem dt_L_type : decAll cL_type tb_L_type := by unfold decAll tb_L_type; decide +kernel
def tb_L_unit : List (Nat × Instr × Nat) := [(0, .aload_n 2, 1), (1, .iconst 0, 1), (2, .aload_n 0, 1), (3, .iload_n 1, 1), (4, .invokevirtual 77, 3), (7, .i2l, 1), (8, .lastore, 1), (9, .goto 9, 3), (12, .astore_n 3, 1), (13, .iconst 1, 1), (14, .ireturn, 1), (15, .astore_n 3, 1), (16, .iconst 2, 1), (17, .ireturn, 1), (18, .iconst 0, 1), (19, .ireturn, 1)]
theorem dt_L_unit : decAll cL_unit tb_L_unit := by unfold decAll tb_L_unit; decide +kernel
def tb_L_wins : List (Nat × Instr × Nat) := [(0, .aload_n 2, 1), (1, .iconst 0, 1), (2, .aload_n 0, 1), (3, .iload_n 1, 1), (4, .invokevirtual 108, 3), (7, .i2l, 1), (8, .lastore, 1), (9, .goto 9, 3), (12, .astore_n 3, 1), (13, .iconst 1, 1), (14, .ireturn, 1), (15, .astore_n 3, 1), (16, .iconst 2, 1), (17, .ireturn, 1), (18, .iconst 0, 1), (19, .ireturn, 1)]
theorem dt_L_wins : decAll cL_wins tb_L_wins := by unfold decAll tb_L_wins; decide +kernel
def bo (o : Option (Except Nat Int32 × St)) : Option (Except Nat Int32 × St) := match o with
  | some (.ok v, σ) => some (.ok (if v = 0 then 0 else 1), σ)
  | x => x
def cd_areMates : Nat → Option Int32 := fun e => match e with
  | 1 => some 1
  | 3 => some 2
  | _ => none
def fw_areMates (σ : St) (p1 : Int32) (p2 : Int32) : Option (Int32 × St) := wv cd_areMates (bo (f_Q_areMates σ p1 p2))
def cd_breaks : Nat → Option Int32 := fun e => match e with
  | 1 => some 1
  | 2 => some 2
  | 3 => some 3
  | _ => none
def fw_breaks (σ : St) (p1 : Int32) : Option (Int32 × St) := wv cd_breaks (f_Q_breaks σ p1)
def cd_can : Nat → Option Int32 := fun e => match e with
  | 1 => some 1
  | _ => none
def fw_can (σ : St) (p1 : Int32) (p2 : Int32) (p3 : Int32) : Option (Int32 × St) := wv cd_can (f_Q_can σ p1 p2 p3)
def cd_cell : Nat → Option Int32 := fun e => match e with
  | 1 => some 1
  | _ => none
def fw_cell (σ : St) (p1 : Int32) (p2 : Int32) (p3 : Int32) : Option (Int32 × St) := wv cd_cell (f_Q_cell σ p1 p2 p3)
def cd_closed : Nat → Option Int32 := fun e => match e with
  | 1 => some 1
  | 2 => some 2
  | 3 => some 3
  | _ => none
def fw_closed (σ : St) (p1 : Int32) (p2 : Int32) : Option (Int32 × St) := wv cd_closed (f_Q_closed σ p1 p2)
def cd_conjugate : Nat → Option Int32 := fun e => match e with
  | 1 => some 1
  | 2 => some 2
  | 3 => some 3
  | _ => none
def fw_conjugate (σ : St) (p1 : Int32) (p2 : Int32) : Option (Int32 × St) := wv cd_conjugate (f_Q_conjugate σ p1 p2)
def cd_count : Nat → Option Int32 := fun e => match e with
  | 1 => some 1
  | 2 => some 2
  | 3 => some 3
  | _ => none
def fw_count (σ : St) (p1 : Int32) (p2 : Int32) : Option (Int32 × St) := wv cd_count (f_Q_count σ p1 p2)
def cd_critical : Nat → Option Int32 := fun e => match e with
  | 1 => some 1
  | 3 => some 2
  | _ => none
def fw_critical (σ : St) (p1 : Int32) : Option (Int32 × St) := wv cd_critical (f_Q_critical σ p1)
def cd_distance : Nat → Option Int32 := fun e => match e with
  | 1 => some 1
  | 2 => some 2
  | _ => none
def fw_distance (σ : St) (p1 : Int32) (p2 : Int32) : Option (Int32 × St) := wv cd_distance (f_Q_distance σ p1 p2)
def cd_fill : Nat → Option Int32 := fun e => match e with
  | 1 => some 1
  | 3 => some 2
  | _ => none
def fw_fill (σ : St) (p1 : Int32) : Option (Int32 × St) := wv cd_fill (f_Q_fill σ p1)
def cd_fills : Nat → Option Int32 := fun e => match e with
  | 1 => some 1
  | 2 => some 2
  | _ => none
def fw_fills (σ : St) (p1 : Int32) (p2 : Int32) : Option (Int32 × St) := wv cd_fills (f_Q_fills σ p1 p2)
def cd_fillsAnew : Nat → Option Int32 := fun e => match e with
  | 1 => some 1
  | 2 => some 2
  | _ => none
def fw_fillsAnew (σ : St) (p1 : Int32) (p2 : Int32) : Option (Int32 × St) := wv cd_fillsAnew (f_Q_fillsAnew σ p1 p2)
def cd_forced : Nat → Option Int32 := fun e => match e with
  | 1 => some 1
  | _ => none
def fw_forced (σ : St) (p1 : Int32) : Option (Int32 × St) := wv cd_forced (f_Q_forced σ p1)
def cd_grid : Nat → Option Int32 := fun e => match e with
  | 2 => some 1
  | 3 => some 2
  | _ => none
def fw_grid (σ : St) (p1 : Int32) : Option (Int32 × St) := wv cd_grid (f_Q_grid σ p1)
def cd_isotope : Nat → Option Int32 := fun e => match e with
  | 1 => some 1
  | 2 => some 2
  | 3 => some 3
  | _ => none
def fw_isotope (σ : St) (p1 : Int32) (p2 : Int32) (p3 : Int32) (p4 : Int32) : Option (Int32 × St) := wv cd_isotope (f_Q_isotope σ p1 p2 p3 p4)
def cd_isotopies : Nat → Option Int32 := fun e => match e with
  | 1 => some 1
  | 3 => some 2
  | _ => none
def fw_isotopies (σ : St) (p1 : Int32) (p2 : Int32) : Option (Int32 × St) := wv cd_isotopies (f_Q_isotopies σ p1 p2)
def cd_linear : Nat → Option Int32 := fun e => match e with
  | 2 => some 1
  | 3 => some 2
  | _ => none
def fw_linear (σ : St) (p1 : Int32) (p2 : Int32) (p3 : Int32) (p4 : Int32) : Option (Int32 × St) := wv cd_linear (f_Q_linear σ p1 p2 p3 p4)
def cd_logic : Nat → Option Int32 := fun e => match e with
  | 1 => some 1
  | _ => none
def fw_logic (σ : St) (p1 : Int32) : Option (Int32 × St) := wv cd_logic (f_Q_logic σ p1)
def cd_mate : Nat → Option Int32 := fun e => match e with
  | 1 => some 1
  | 3 => some 2
  | _ => none
def fw_mate (σ : St) (p1 : Int32) : Option (Int32 × St) := wv cd_mate (f_Q_mate σ p1)
def cd_mates : Nat → Option Int32 := fun e => match e with
  | 1 => some 1
  | 3 => some 2
  | _ => none
def fw_mates (σ : St) (p1 : Int32) : Option (Int32 × St) := wv cd_mates (f_Q_mates σ p1)
def cd_nucleus : Nat → Option Int32 := fun e => match e with
  | 1 => some 1
  | 2 => some 2
  | 3 => some 3
  | _ => none
def fw_nucleus (σ : St) (p1 : Int32) (p2 : Int32) : Option (Int32 × St) := wv cd_nucleus (f_Q_nucleus σ p1 p2)
def cd_of : Nat → Option Int32 := fun e => match e with
  | 1 => some 1
  | 2 => some 2
  | _ => none
def fw_of (σ : St) (p1 : Int32) (p2 : Int32) : Option (Int32 × St) := wv cd_of (f_Q_of σ p1 p2)
def cd_parity : Nat → Option Int32 := fun e => match e with
  | 1 => some 1
  | 2 => some 2
  | 3 => some 3
  | _ => none
def fw_parity (σ : St) (p1 : Int32) (p2 : Int32) : Option (Int32 × St) := wv cd_parity (f_Q_parity σ p1 p2)
def cd_put : Nat → Option Int32 := fun e => match e with
  | 1 => some 1
  | 2 => some 2
  | 3 => some 3
  | _ => none
def fw_put (σ : St) (p1 : Int32) (p2 : Int32) (p3 : Int32) (p4 : Int32) : Option (Int32 × St) := wv cd_put (f_Q_put σ p1 p2 p3 p4)
def cd_stir : Nat → Option Int32 := fun e => match e with
  | 1 => some 1
  | 2 => some 2
  | 3 => some 3
  | _ => none
def fw_stir (σ : St) (p1 : Int32) (p2 : Int32) (p3 : Int32) : Option (Int32 × St) := wv cd_stir (f_Q_stir σ p1 p2 p3)
def cd_transversals : Nat → Option Int32 := fun e => match e with
  | 1 => some 1
  | 3 => some 2
  | _ => none
def fw_transversals (σ : St) (p1 : Int32) : Option (Int32 × St) := wv cd_transversals (f_Q_transversals σ p1)
def cd_turn : Nat → Option Int32 := fun e => match e with
  | 1 => some 1
  | 2 => some 2
  | 3 => some 3
  | _ => none
def fw_turn (σ : St) (p1 : Int32) (p2 : Int32) (p3 : Int32) (p4 : Int32) : Option (Int32 × St) := wv cd_turn (f_Q_turn σ p1 p2 p3 p4)
def cd_type : Nat → Option Int32 := fun e => match e with
  | 2 => some 1
  | 3 => some 2
  | _ => none
def fw_type (σ : St) (p1 : Int64) (p3 : Int32) : Option (Int32 × St) := wv cd_type (f_Q_type σ p1 p3)
def cd_unit : Nat → Option Int32 := fun e => match e with
  | 1 => some 1
  | 3 => some 2
  | _ => none
def fw_unit (σ : St) (p1 : Int32) : Option (Int32 × St) := wv cd_unit (f_Q_unit σ p1)
def cd_wins : Nat → Option Int32 := fun e => match e with
  | 1 => some 1
  | 3 => some 2
  | _ => none
def fw_wins (σ : St) (p1 : Int32) : Option (Int32 × St) := wv cd_wins (f_Q_wins σ p1)
set_option maxRecDepth 100000 in
set_option maxHeartbeats 4000000 in
theorem s_L_areMates {l : Launch} (htr : l.stackTraces = false) (ad : Nat → Nat) (σ : St) (p1 : Int32) (p2 : Int32) {k : Int32} {σe : St} (h : fw_areMates σ p1 p2 = some (k, σe)) : RtW l yL_areMates cL_areMates 5 [(0, 17, 20, 24), (0, 17, 24, 15)] 8 145 (g_SH, ad) [.ref (ad 0), .int p1, .int p2, .ref (ad 103)] σ k σe := by
  refine RtW.intro (L := [some (.ref (ad 0)), some (.int p1), some (.int p2), some (.ref (ad 103)), none]) (by decide +kernel) (Nat.le_of_ble_eq_true rfl) rfl (fun θ hl X hq => ?_)
  subst hl
  unfold fw_areMates bo wv at h
  refine G_aload_n (pc := 0) 3 X (dg dt_L_areMates 0 rfl) rfl rfl ?_
  refine G_iconst (pc := 1) 0 X (dg dt_L_areMates 1 rfl) (by decide) ?_
  refine G_aload_n (pc := 2) 0 X (dg dt_L_areMates 2 rfl) rfl rfl ?_
  refine G_iload_n (pc := 3) 1 X (dg dt_L_areMates 3 rfl) rfl rfl ?_
  refine G_iload_n (pc := 4) 2 X (dg dt_L_areMates 4 rfl) rfl rfl ?_
  generalize hf : f_Q_areMates σ p1 p2 = o at h
  match o, hf, h with
  | none, hf, h => cases h
  | some (.ok v, σ1), hf, h =>
    cases h
    refine G_callV (pc := 5) (S := [.int 0, .ref (ad 103)]) [.int p1, .int p2] (fun _ h => h) X (dg dt_L_areMates 5 rfl) cb_Q_areMates cv_Q_areMates w_1014 (s_Q_areMates htr () ad _ _ _ hf) rfl ⟨Nat.le_of_ble_eq_true rfl, Nat.le_of_ble_eq_true rfl⟩ sh_0 rfl (Nat.le_of_ble_eq_true rfl) Rc0 ?_
    by_cases hv0 : v = 0
    · subst hv0
      refine G_if_eq (pc := 8) (a := 1) (b := 0) (r := 1) 15 X (dg dt_L_areMates 6 rfl) (by decide) (by simp) (fun _ => ?_) (fun h => absurd h (by decide))
      refine G_lconst (pc := 15) ((0 : Int32).toInt64) X (dg dt_L_areMates 9 rfl) (by decide) ?_
      refine G_last (pc := 16) (v := 0) X (dg dt_L_areMates 10 rfl) sh_103 (by decide) ?_
      refine G_goto (pc := 17) 28 X (dg dt_L_areMates 11 rfl) (by decide) ?_
      refine G_iconst (pc := 28) 0 X (dg dt_L_areMates 18 rfl) (by decide) ?_
      exact G_wret (pc := 29) (cs := (0, 0)) X hq (dg dt_L_areMates 19 rfl) (by decide) rfl
    · rw [if_neg hv0] at hq
      refine G_if_eq (pc := 8) (a := 0) (b := 1) (r := 1) 15 X (dg dt_L_areMates 6 rfl) (by decide) (by simp [hv0]) (fun h => absurd h (by decide)) (fun _ => ?_)
      refine G_lconst (pc := 11) ((1 : Int32).toInt64) X (dg dt_L_areMates 7 rfl) (by decide) ?_
      refine G_goto (pc := 12) 16 X (dg dt_L_areMates 8 rfl) (by decide) ?_
      refine G_last (pc := 16) (v := 1) X (dg dt_L_areMates 10 rfl) sh_103 (by decide) ?_
      refine G_goto (pc := 17) 28 X (dg dt_L_areMates 11 rfl) (by decide) ?_
      refine G_iconst (pc := 28) 0 X (dg dt_L_areMates 18 rfl) (by decide) ?_
      exact G_wret (pc := 29) (cs := (0, 0)) X hq (dg dt_L_areMates 19 rfl) (by decide) rfl
  | some (.error e, σ1), hf, h =>
    match e, hf, h with
    | 1, hf, h =>
      cases h
      refine G_callVC (pc := 5) (S := [.int 0, .ref (ad 103)]) (e := 1) [.int p1, .int p2] [] (0, 17, 20, 24) [(0, 17, 24, 15)] X hq (dg dt_L_areMates 5 rfl) cb_Q_areMates cv_Q_areMates w_1014 (s_Q_areMates htr () ad _ _ _ hf) rfl ⟨Nat.le_of_ble_eq_true rfl, Nat.le_of_ble_eq_true rfl⟩ sh_0 rfl (Nat.le_of_ble_eq_true rfl) rfl (fun _ h => absurd h List.not_mem_nil) (by decide) (by decide) w_457 w_468 (fun q => ?_)
      refine G_astore (pc := 20) X (dg dt_L_areMates 12 rfl) (Nat.le_of_ble_eq_true rfl) rfl ?_
      refine G_iconst (pc := 22) 1 X (dg dt_L_areMates 13 rfl) (by decide) ?_
      exact G_wret (pc := 23) (cs := (1, 6)) X hq (dg dt_L_areMates 14 rfl) (by decide) rfl
    | 3, hf, h =>
      cases h
      refine G_callVC (pc := 5) (S := [.int 0, .ref (ad 103)]) (e := 3) [.int p1, .int p2] [(0, 17, 20, 24)] (0, 17, 24, 15) [] X hq (dg dt_L_areMates 5 rfl) cb_Q_areMates cv_Q_areMates w_1014 (s_Q_areMates htr () ad _ _ _ hf) rfl ⟨Nat.le_of_ble_eq_true rfl, Nat.le_of_ble_eq_true rfl⟩ sh_0 rfl (Nat.le_of_ble_eq_true rfl) rfl (List.forall_mem_cons.mpr ⟨⟨_, by decide, w_457, fun U h => h.2.1⟩, (fun _ h => absurd h List.not_mem_nil)⟩) (by decide) (by decide) w_320 w_405 (fun q => ?_)
      refine G_astore (pc := 24) X (dg dt_L_areMates 15 rfl) (Nat.le_of_ble_eq_true rfl) rfl ?_
      refine G_iconst (pc := 26) 2 X (dg dt_L_areMates 16 rfl) (by decide) ?_
      exact G_wret (pc := 27) (cs := (1, 6)) X hq (dg dt_L_areMates 17 rfl) (by decide) rfl
    | 0, hf, h => cases h
    | 2, hf, h => cases h
    | n + 4, hf, h => cases h
set_option maxRecDepth 100000 in
set_option maxHeartbeats 4000000 in
theorem s_L_breaks {l : Launch} (htr : l.stackTraces = false) (ad : Nat → Nat) (σ : St) (p1 : Int32) {k : Int32} {σe : St} (h : fw_breaks σ p1 = some (k, σe)) : RtW l yL_breaks cL_breaks 4 [(0, 9, 12, 24), (0, 9, 15, 13), (0, 9, 18, 15)] 8 143 (g_SH, ad) [.ref (ad 0), .int p1, .ref (ad 103)] σ k σe := by
  refine RtW.intro (L := [some (.ref (ad 0)), some (.int p1), some (.ref (ad 103)), none]) (by decide +kernel) (Nat.le_of_ble_eq_true rfl) rfl (fun θ hl X hq => ?_)
  subst hl
  unfold fw_breaks wv at h
  refine G_aload_n (pc := 0) 2 X (dg dt_L_breaks 0 rfl) rfl rfl ?_
  refine G_iconst (pc := 1) 0 X (dg dt_L_breaks 1 rfl) (by decide) ?_
  refine G_aload_n (pc := 2) 0 X (dg dt_L_breaks 2 rfl) rfl rfl ?_
  refine G_iload_n (pc := 3) 1 X (dg dt_L_breaks 3 rfl) rfl rfl ?_
  generalize hf : f_Q_breaks σ p1 = o at h
  match o, hf, h with
  | none, hf, h => cases h
  | some (.ok v, σ1), hf, h =>
    cases h
    refine G_callV (pc := 4) (S := [.int 0, .ref (ad 103)]) [.int p1] (fun _ h => h) X (dg dt_L_breaks 4 rfl) cb_Q_breaks cv_Q_breaks w_813 (s_Q_breaks htr () ad _ _ hf) rfl ⟨Nat.le_of_ble_eq_true rfl, Nat.le_of_ble_eq_true rfl⟩ sh_0 rfl (Nat.le_of_ble_eq_true rfl) Rc0 ?_
    refine G_i2l (pc := 7) X (dg dt_L_breaks 5 rfl) ?_
    refine G_last (pc := 8) X (dg dt_L_breaks 6 rfl) sh_103 (by decide) ?_
    refine G_goto (pc := 9) 21 X (dg dt_L_breaks 7 rfl) (by decide) ?_
    refine G_iconst (pc := 21) 0 X (dg dt_L_breaks 17 rfl) (by decide) ?_
    exact G_wret (pc := 22) (cs := (0, 0)) X hq (dg dt_L_breaks 18 rfl) (by decide) rfl
  | some (.error e, σ1), hf, h =>
    match e, hf, h with
    | 1, hf, h =>
      cases h
      refine G_callVC (pc := 4) (S := [.int 0, .ref (ad 103)]) (e := 1) [.int p1] [] (0, 9, 12, 24) [(0, 9, 15, 13), (0, 9, 18, 15)] X hq (dg dt_L_breaks 4 rfl) cb_Q_breaks cv_Q_breaks w_813 (s_Q_breaks htr () ad _ _ hf) rfl ⟨Nat.le_of_ble_eq_true rfl, Nat.le_of_ble_eq_true rfl⟩ sh_0 rfl (Nat.le_of_ble_eq_true rfl) rfl (fun _ h => absurd h List.not_mem_nil) (by decide) (by decide) w_457 w_468 (fun q => ?_)
      refine G_astore_n (pc := 12) 3 X (dg dt_L_breaks 8 rfl) rfl (Nat.le_of_ble_eq_true rfl) rfl ?_
      refine G_iconst (pc := 13) 1 X (dg dt_L_breaks 9 rfl) (by decide) ?_
      exact G_wret (pc := 14) (cs := (1, 6)) X hq (dg dt_L_breaks 10 rfl) (by decide) rfl
    | 2, hf, h =>
      cases h
      refine G_callVC (pc := 4) (S := [.int 0, .ref (ad 103)]) (e := 2) [.int p1] [(0, 9, 12, 24)] (0, 9, 15, 13) [(0, 9, 18, 15)] X hq (dg dt_L_breaks 4 rfl) cb_Q_breaks cv_Q_breaks w_813 (s_Q_breaks htr () ad _ _ hf) rfl ⟨Nat.le_of_ble_eq_true rfl, Nat.le_of_ble_eq_true rfl⟩ sh_0 rfl (Nat.le_of_ble_eq_true rfl) rfl (List.forall_mem_cons.mpr ⟨⟨_, by decide, w_457, fun U h => h.1⟩, (fun _ h => absurd h List.not_mem_nil)⟩) (by decide) (by decide) w_319 w_333 (fun q => ?_)
      refine G_astore_n (pc := 15) 3 X (dg dt_L_breaks 11 rfl) rfl (Nat.le_of_ble_eq_true rfl) rfl ?_
      refine G_iconst (pc := 16) 2 X (dg dt_L_breaks 12 rfl) (by decide) ?_
      exact G_wret (pc := 17) (cs := (1, 6)) X hq (dg dt_L_breaks 13 rfl) (by decide) rfl
    | 3, hf, h =>
      cases h
      refine G_callVC (pc := 4) (S := [.int 0, .ref (ad 103)]) (e := 3) [.int p1] [(0, 9, 12, 24), (0, 9, 15, 13)] (0, 9, 18, 15) [] X hq (dg dt_L_breaks 4 rfl) cb_Q_breaks cv_Q_breaks w_813 (s_Q_breaks htr () ad _ _ hf) rfl ⟨Nat.le_of_ble_eq_true rfl, Nat.le_of_ble_eq_true rfl⟩ sh_0 rfl (Nat.le_of_ble_eq_true rfl) rfl (List.forall_mem_cons.mpr ⟨⟨_, by decide, w_457, fun U h => h.2.1⟩, (List.forall_mem_cons.mpr ⟨⟨_, by decide, w_319, fun U h => h.2.2⟩, (fun _ h => absurd h List.not_mem_nil)⟩)⟩) (by decide) (by decide) w_320 w_405 (fun q => ?_)
      refine G_astore_n (pc := 18) 3 X (dg dt_L_breaks 14 rfl) rfl (Nat.le_of_ble_eq_true rfl) rfl ?_
      refine G_iconst (pc := 19) 3 X (dg dt_L_breaks 15 rfl) (by decide) ?_
      exact G_wret (pc := 20) (cs := (1, 6)) X hq (dg dt_L_breaks 16 rfl) (by decide) rfl
    | 0, hf, h => cases h
    | n + 4, hf, h => cases h
set_option maxRecDepth 100000 in
set_option maxHeartbeats 4000000 in
theorem s_L_can {l : Launch} (htr : l.stackTraces = false) (ad : Nat → Nat) (σ : St) (p1 : Int32) (p2 : Int32) (p3 : Int32) {k : Int32} {σe : St} (h : fw_can σ p1 p2 p3 = some (k, σe)) : RtW l yL_can cL_can 6 [(0, 12, 15, 24)] 8 146 (g_SH, ad) [.ref (ad 0), .int p1, .int p2, .int p3, .ref (ad 103)] σ k σe := by
  refine RtW.intro (L := [some (.ref (ad 0)), some (.int p1), some (.int p2), some (.int p3), some (.ref (ad 103)), none]) (by decide +kernel) (Nat.le_of_ble_eq_true rfl) rfl (fun θ hl X hq => ?_)
  subst hl
  unfold fw_can wv at h
  refine G_aload (pc := 0) X (dg dt_L_can 0 rfl) rfl ?_
  refine G_iconst (pc := 2) 0 X (dg dt_L_can 1 rfl) (by decide) ?_
  refine G_aload_n (pc := 3) 0 X (dg dt_L_can 2 rfl) rfl rfl ?_
  refine G_iload_n (pc := 4) 1 X (dg dt_L_can 3 rfl) rfl rfl ?_
  refine G_iload_n (pc := 5) 2 X (dg dt_L_can 4 rfl) rfl rfl ?_
  refine G_iload_n (pc := 6) 3 X (dg dt_L_can 5 rfl) rfl rfl ?_
  generalize hf : f_Q_can σ p1 p2 p3 = o at h
  match o, hf, h with
  | none, hf, h => cases h
  | some (.ok v, σ1), hf, h =>
    cases h
    refine G_callV (pc := 7) (S := [.int 0, .ref (ad 103)]) [.int p1, .int p2, .int p3] (fun _ h => h) X (dg dt_L_can 6 rfl) cb_Q_can cv_Q_can w_618 (s_Q_can htr () ad _ _ _ _ hf) rfl ⟨Nat.le_of_ble_eq_true rfl, Nat.le_of_ble_eq_true rfl⟩ sh_0 rfl (Nat.le_of_ble_eq_true rfl) Rc0 ?_
    refine G_i2l (pc := 10) X (dg dt_L_can 7 rfl) ?_
    refine G_last (pc := 11) X (dg dt_L_can 8 rfl) sh_103 (by decide) ?_
    refine G_goto (pc := 12) 19 X (dg dt_L_can 9 rfl) (by decide) ?_
    refine G_iconst (pc := 19) 0 X (dg dt_L_can 13 rfl) (by decide) ?_
    exact G_wret (pc := 20) (cs := (0, 0)) X hq (dg dt_L_can 14 rfl) (by decide) rfl
  | some (.error e, σ1), hf, h =>
    match e, hf, h with
    | 1, hf, h =>
      cases h
      refine G_callVC (pc := 7) (S := [.int 0, .ref (ad 103)]) (e := 1) [.int p1, .int p2, .int p3] [] (0, 12, 15, 24) [] X hq (dg dt_L_can 6 rfl) cb_Q_can cv_Q_can w_618 (s_Q_can htr () ad _ _ _ _ hf) rfl ⟨Nat.le_of_ble_eq_true rfl, Nat.le_of_ble_eq_true rfl⟩ sh_0 rfl (Nat.le_of_ble_eq_true rfl) rfl (fun _ h => absurd h List.not_mem_nil) (by decide) (by decide) w_457 w_468 (fun q => ?_)
      refine G_astore (pc := 15) X (dg dt_L_can 10 rfl) (Nat.le_of_ble_eq_true rfl) rfl ?_
      refine G_iconst (pc := 17) 1 X (dg dt_L_can 11 rfl) (by decide) ?_
      exact G_wret (pc := 18) (cs := (1, 6)) X hq (dg dt_L_can 12 rfl) (by decide) rfl
    | 0, hf, h => cases h
    | 2, hf, h => cases h
    | 3, hf, h => cases h
    | n + 4, hf, h => cases h
set_option maxRecDepth 100000 in
set_option maxHeartbeats 4000000 in
theorem s_L_cell {l : Launch} (htr : l.stackTraces = false) (ad : Nat → Nat) (σ : St) (p1 : Int32) (p2 : Int32) (p3 : Int32) {k : Int32} {σe : St} (h : fw_cell σ p1 p2 p3 = some (k, σe)) : RtW l yL_cell cL_cell 6 [(0, 12, 15, 24)] 8 146 (g_SH, ad) [.ref (ad 0), .int p1, .int p2, .int p3, .ref (ad 103)] σ k σe := by
  refine RtW.intro (L := [some (.ref (ad 0)), some (.int p1), some (.int p2), some (.int p3), some (.ref (ad 103)), none]) (by decide +kernel) (Nat.le_of_ble_eq_true rfl) rfl (fun θ hl X hq => ?_)
  subst hl
  unfold fw_cell wv at h
  refine G_aload (pc := 0) X (dg dt_L_cell 0 rfl) rfl ?_
  refine G_iconst (pc := 2) 0 X (dg dt_L_cell 1 rfl) (by decide) ?_
  refine G_aload_n (pc := 3) 0 X (dg dt_L_cell 2 rfl) rfl rfl ?_
  refine G_iload_n (pc := 4) 1 X (dg dt_L_cell 3 rfl) rfl rfl ?_
  refine G_iload_n (pc := 5) 2 X (dg dt_L_cell 4 rfl) rfl rfl ?_
  refine G_iload_n (pc := 6) 3 X (dg dt_L_cell 5 rfl) rfl rfl ?_
  generalize hf : f_Q_cell σ p1 p2 p3 = o at h
  match o, hf, h with
  | none, hf, h => cases h
  | some (.ok v, σ1), hf, h =>
    cases h
    refine G_callV (pc := 7) (S := [.int 0, .ref (ad 103)]) [.int p1, .int p2, .int p3] (fun _ h => h) X (dg dt_L_cell 6 rfl) cb_Q_cell cv_Q_cell w_540 (s_Q_cell htr () ad _ _ _ _ hf) rfl ⟨Nat.le_of_ble_eq_true rfl, Nat.le_of_ble_eq_true rfl⟩ sh_0 rfl (Nat.le_of_ble_eq_true rfl) Rc0 ?_
    refine G_i2l (pc := 10) X (dg dt_L_cell 7 rfl) ?_
    refine G_last (pc := 11) X (dg dt_L_cell 8 rfl) sh_103 (by decide) ?_
    refine G_goto (pc := 12) 19 X (dg dt_L_cell 9 rfl) (by decide) ?_
    refine G_iconst (pc := 19) 0 X (dg dt_L_cell 13 rfl) (by decide) ?_
    exact G_wret (pc := 20) (cs := (0, 0)) X hq (dg dt_L_cell 14 rfl) (by decide) rfl
  | some (.error e, σ1), hf, h =>
    match e, hf, h with
    | 1, hf, h =>
      cases h
      refine G_callVC (pc := 7) (S := [.int 0, .ref (ad 103)]) (e := 1) [.int p1, .int p2, .int p3] [] (0, 12, 15, 24) [] X hq (dg dt_L_cell 6 rfl) cb_Q_cell cv_Q_cell w_540 (s_Q_cell htr () ad _ _ _ _ hf) rfl ⟨Nat.le_of_ble_eq_true rfl, Nat.le_of_ble_eq_true rfl⟩ sh_0 rfl (Nat.le_of_ble_eq_true rfl) rfl (fun _ h => absurd h List.not_mem_nil) (by decide) (by decide) w_457 w_468 (fun q => ?_)
      refine G_astore (pc := 15) X (dg dt_L_cell 10 rfl) (Nat.le_of_ble_eq_true rfl) rfl ?_
      refine G_iconst (pc := 17) 1 X (dg dt_L_cell 11 rfl) (by decide) ?_
      exact G_wret (pc := 18) (cs := (1, 6)) X hq (dg dt_L_cell 12 rfl) (by decide) rfl
    | 0, hf, h => cases h
    | 2, hf, h => cases h
    | 3, hf, h => cases h
    | n + 4, hf, h => cases h
set_option maxRecDepth 100000 in
set_option maxHeartbeats 4000000 in
theorem s_L_closed {l : Launch} (htr : l.stackTraces = false) (ad : Nat → Nat) (σ : St) (p1 : Int32) (p2 : Int32) {k : Int32} {σe : St} (h : fw_closed σ p1 p2 = some (k, σe)) : RtW l yL_closed cL_closed 5 [(0, 10, 13, 24), (0, 10, 17, 13), (0, 10, 21, 15)] 8 144 (g_SH, ad) [.ref (ad 0), .int p1, .int p2, .ref (ad 103)] σ k σe := by
  refine RtW.intro (L := [some (.ref (ad 0)), some (.int p1), some (.int p2), some (.ref (ad 103)), none]) (by decide +kernel) (Nat.le_of_ble_eq_true rfl) rfl (fun θ hl X hq => ?_)
  subst hl
  unfold fw_closed wv at h
  refine G_aload_n (pc := 0) 3 X (dg dt_L_closed 0 rfl) rfl rfl ?_
  refine G_iconst (pc := 1) 0 X (dg dt_L_closed 1 rfl) (by decide) ?_
  refine G_aload_n (pc := 2) 0 X (dg dt_L_closed 2 rfl) rfl rfl ?_
  refine G_iload_n (pc := 3) 1 X (dg dt_L_closed 3 rfl) rfl rfl ?_
  refine G_iload_n (pc := 4) 2 X (dg dt_L_closed 4 rfl) rfl rfl ?_
  generalize hf : f_Q_closed σ p1 p2 = o at h
  match o, hf, h with
  | none, hf, h => cases h
  | some (.ok v, σ1), hf, h =>
    cases h
    refine G_callV (pc := 5) (S := [.int 0, .ref (ad 103)]) [.int p1, .int p2] (fun _ h => h) X (dg dt_L_closed 5 rfl) cb_Q_closed cv_Q_closed w_869 (s_Q_closed htr () ad _ _ _ hf) rfl ⟨Nat.le_of_ble_eq_true rfl, Nat.le_of_ble_eq_true rfl⟩ sh_0 rfl (Nat.le_of_ble_eq_true rfl) Rc0 ?_
    refine G_i2l (pc := 8) X (dg dt_L_closed 6 rfl) ?_
    refine G_last (pc := 9) X (dg dt_L_closed 7 rfl) sh_103 (by decide) ?_
    refine G_goto (pc := 10) 25 X (dg dt_L_closed 8 rfl) (by decide) ?_
    refine G_iconst (pc := 25) 0 X (dg dt_L_closed 18 rfl) (by decide) ?_
    exact G_wret (pc := 26) (cs := (0, 0)) X hq (dg dt_L_closed 19 rfl) (by decide) rfl
  | some (.error e, σ1), hf, h =>
    match e, hf, h with
    | 1, hf, h =>
      cases h
      refine G_callVC (pc := 5) (S := [.int 0, .ref (ad 103)]) (e := 1) [.int p1, .int p2] [] (0, 10, 13, 24) [(0, 10, 17, 13), (0, 10, 21, 15)] X hq (dg dt_L_closed 5 rfl) cb_Q_closed cv_Q_closed w_869 (s_Q_closed htr () ad _ _ _ hf) rfl ⟨Nat.le_of_ble_eq_true rfl, Nat.le_of_ble_eq_true rfl⟩ sh_0 rfl (Nat.le_of_ble_eq_true rfl) rfl (fun _ h => absurd h List.not_mem_nil) (by decide) (by decide) w_457 w_468 (fun q => ?_)
      refine G_astore (pc := 13) X (dg dt_L_closed 9 rfl) (Nat.le_of_ble_eq_true rfl) rfl ?_
      refine G_iconst (pc := 15) 1 X (dg dt_L_closed 10 rfl) (by decide) ?_
      exact G_wret (pc := 16) (cs := (1, 6)) X hq (dg dt_L_closed 11 rfl) (by decide) rfl
    | 2, hf, h =>
      cases h
      refine G_callVC (pc := 5) (S := [.int 0, .ref (ad 103)]) (e := 2) [.int p1, .int p2] [(0, 10, 13, 24)] (0, 10, 17, 13) [(0, 10, 21, 15)] X hq (dg dt_L_closed 5 rfl) cb_Q_closed cv_Q_closed w_869 (s_Q_closed htr () ad _ _ _ hf) rfl ⟨Nat.le_of_ble_eq_true rfl, Nat.le_of_ble_eq_true rfl⟩ sh_0 rfl (Nat.le_of_ble_eq_true rfl) rfl (List.forall_mem_cons.mpr ⟨⟨_, by decide, w_457, fun U h => h.1⟩, (fun _ h => absurd h List.not_mem_nil)⟩) (by decide) (by decide) w_319 w_333 (fun q => ?_)
      refine G_astore (pc := 17) X (dg dt_L_closed 12 rfl) (Nat.le_of_ble_eq_true rfl) rfl ?_
      refine G_iconst (pc := 19) 2 X (dg dt_L_closed 13 rfl) (by decide) ?_
      exact G_wret (pc := 20) (cs := (1, 6)) X hq (dg dt_L_closed 14 rfl) (by decide) rfl
    | 3, hf, h =>
      cases h
      refine G_callVC (pc := 5) (S := [.int 0, .ref (ad 103)]) (e := 3) [.int p1, .int p2] [(0, 10, 13, 24), (0, 10, 17, 13)] (0, 10, 21, 15) [] X hq (dg dt_L_closed 5 rfl) cb_Q_closed cv_Q_closed w_869 (s_Q_closed htr () ad _ _ _ hf) rfl ⟨Nat.le_of_ble_eq_true rfl, Nat.le_of_ble_eq_true rfl⟩ sh_0 rfl (Nat.le_of_ble_eq_true rfl) rfl (List.forall_mem_cons.mpr ⟨⟨_, by decide, w_457, fun U h => h.2.1⟩, (List.forall_mem_cons.mpr ⟨⟨_, by decide, w_319, fun U h => h.2.2⟩, (fun _ h => absurd h List.not_mem_nil)⟩)⟩) (by decide) (by decide) w_320 w_405 (fun q => ?_)
      refine G_astore (pc := 21) X (dg dt_L_closed 15 rfl) (Nat.le_of_ble_eq_true rfl) rfl ?_
      refine G_iconst (pc := 23) 3 X (dg dt_L_closed 16 rfl) (by decide) ?_
      exact G_wret (pc := 24) (cs := (1, 6)) X hq (dg dt_L_closed 17 rfl) (by decide) rfl
    | 0, hf, h => cases h
    | n + 4, hf, h => cases h
set_option maxRecDepth 100000 in
set_option maxHeartbeats 4000000 in
theorem s_L_conjugate {l : Launch} (htr : l.stackTraces = false) (ad : Nat → Nat) (σ : St) (p1 : Int32) (p2 : Int32) {k : Int32} {σe : St} (h : fw_conjugate σ p1 p2 = some (k, σe)) : RtW l yL_conjugate cL_conjugate 5 [(0, 10, 13, 24), (0, 10, 17, 13), (0, 10, 21, 15)] 8 149 (g_SH, ad) [.ref (ad 0), .int p1, .int p2, .ref (ad 103)] σ k σe := by
  refine RtW.intro (L := [some (.ref (ad 0)), some (.int p1), some (.int p2), some (.ref (ad 103)), none]) (by decide +kernel) (Nat.le_of_ble_eq_true rfl) rfl (fun θ hl X hq => ?_)
  subst hl
  unfold fw_conjugate wv at h
  refine G_aload_n (pc := 0) 3 X (dg dt_L_conjugate 0 rfl) rfl rfl ?_
  refine G_iconst (pc := 1) 0 X (dg dt_L_conjugate 1 rfl) (by decide) ?_
  refine G_aload_n (pc := 2) 0 X (dg dt_L_conjugate 2 rfl) rfl rfl ?_
  refine G_iload_n (pc := 3) 1 X (dg dt_L_conjugate 3 rfl) rfl rfl ?_
  refine G_iload_n (pc := 4) 2 X (dg dt_L_conjugate 4 rfl) rfl rfl ?_
  generalize hf : f_Q_conjugate σ p1 p2 = o at h
  match o, hf, h with
  | none, hf, h => cases h
  | some (.ok v, σ1), hf, h =>
    cases h
    refine G_callV (pc := 5) (S := [.int 0, .ref (ad 103)]) [.int p1, .int p2] (fun _ h => h) X (dg dt_L_conjugate 5 rfl) cb_Q_conjugate cv_Q_conjugate w_530 (s_Q_conjugate htr () ad _ _ _ hf) rfl ⟨Nat.le_of_ble_eq_true rfl, Nat.le_of_ble_eq_true rfl⟩ sh_0 rfl (Nat.le_of_ble_eq_true rfl) Rc0 ?_
    refine G_i2l (pc := 8) X (dg dt_L_conjugate 6 rfl) ?_
    refine G_last (pc := 9) X (dg dt_L_conjugate 7 rfl) sh_103 (by decide) ?_
    refine G_goto (pc := 10) 25 X (dg dt_L_conjugate 8 rfl) (by decide) ?_
    refine G_iconst (pc := 25) 0 X (dg dt_L_conjugate 18 rfl) (by decide) ?_
    exact G_wret (pc := 26) (cs := (0, 0)) X hq (dg dt_L_conjugate 19 rfl) (by decide) rfl
  | some (.error e, σ1), hf, h =>
    match e, hf, h with
    | 1, hf, h =>
      cases h
      refine G_callVC (pc := 5) (S := [.int 0, .ref (ad 103)]) (e := 1) [.int p1, .int p2] [] (0, 10, 13, 24) [(0, 10, 17, 13), (0, 10, 21, 15)] X hq (dg dt_L_conjugate 5 rfl) cb_Q_conjugate cv_Q_conjugate w_530 (s_Q_conjugate htr () ad _ _ _ hf) rfl ⟨Nat.le_of_ble_eq_true rfl, Nat.le_of_ble_eq_true rfl⟩ sh_0 rfl (Nat.le_of_ble_eq_true rfl) rfl (fun _ h => absurd h List.not_mem_nil) (by decide) (by decide) w_457 w_468 (fun q => ?_)
      refine G_astore (pc := 13) X (dg dt_L_conjugate 9 rfl) (Nat.le_of_ble_eq_true rfl) rfl ?_
      refine G_iconst (pc := 15) 1 X (dg dt_L_conjugate 10 rfl) (by decide) ?_
      exact G_wret (pc := 16) (cs := (1, 6)) X hq (dg dt_L_conjugate 11 rfl) (by decide) rfl
    | 2, hf, h =>
      cases h
      refine G_callVC (pc := 5) (S := [.int 0, .ref (ad 103)]) (e := 2) [.int p1, .int p2] [(0, 10, 13, 24)] (0, 10, 17, 13) [(0, 10, 21, 15)] X hq (dg dt_L_conjugate 5 rfl) cb_Q_conjugate cv_Q_conjugate w_530 (s_Q_conjugate htr () ad _ _ _ hf) rfl ⟨Nat.le_of_ble_eq_true rfl, Nat.le_of_ble_eq_true rfl⟩ sh_0 rfl (Nat.le_of_ble_eq_true rfl) rfl (List.forall_mem_cons.mpr ⟨⟨_, by decide, w_457, fun U h => h.1⟩, (fun _ h => absurd h List.not_mem_nil)⟩) (by decide) (by decide) w_319 w_333 (fun q => ?_)
      refine G_astore (pc := 17) X (dg dt_L_conjugate 12 rfl) (Nat.le_of_ble_eq_true rfl) rfl ?_
      refine G_iconst (pc := 19) 2 X (dg dt_L_conjugate 13 rfl) (by decide) ?_
      exact G_wret (pc := 20) (cs := (1, 6)) X hq (dg dt_L_conjugate 14 rfl) (by decide) rfl
    | 3, hf, h =>
      cases h
      refine G_callVC (pc := 5) (S := [.int 0, .ref (ad 103)]) (e := 3) [.int p1, .int p2] [(0, 10, 13, 24), (0, 10, 17, 13)] (0, 10, 21, 15) [] X hq (dg dt_L_conjugate 5 rfl) cb_Q_conjugate cv_Q_conjugate w_530 (s_Q_conjugate htr () ad _ _ _ hf) rfl ⟨Nat.le_of_ble_eq_true rfl, Nat.le_of_ble_eq_true rfl⟩ sh_0 rfl (Nat.le_of_ble_eq_true rfl) rfl (List.forall_mem_cons.mpr ⟨⟨_, by decide, w_457, fun U h => h.2.1⟩, (List.forall_mem_cons.mpr ⟨⟨_, by decide, w_319, fun U h => h.2.2⟩, (fun _ h => absurd h List.not_mem_nil)⟩)⟩) (by decide) (by decide) w_320 w_405 (fun q => ?_)
      refine G_astore (pc := 21) X (dg dt_L_conjugate 15 rfl) (Nat.le_of_ble_eq_true rfl) rfl ?_
      refine G_iconst (pc := 23) 3 X (dg dt_L_conjugate 16 rfl) (by decide) ?_
      exact G_wret (pc := 24) (cs := (1, 6)) X hq (dg dt_L_conjugate 17 rfl) (by decide) rfl
    | 0, hf, h => cases h
    | n + 4, hf, h => cases h
set_option maxRecDepth 100000 in
set_option maxHeartbeats 4000000 in
theorem s_L_count {l : Launch} (htr : l.stackTraces = false) (ad : Nat → Nat) (σ : St) (p1 : Int32) (p2 : Int32) {k : Int32} {σe : St} (h : fw_count σ p1 p2 = some (k, σe)) : RtW l yL_count cL_count 5 [(0, 10, 13, 24), (0, 10, 17, 13), (0, 10, 21, 15)] 8 144 (g_SH, ad) [.ref (ad 0), .int p1, .int p2, .ref (ad 103)] σ k σe := by
  refine RtW.intro (L := [some (.ref (ad 0)), some (.int p1), some (.int p2), some (.ref (ad 103)), none]) (by decide +kernel) (Nat.le_of_ble_eq_true rfl) rfl (fun θ hl X hq => ?_)
  subst hl
  unfold fw_count wv at h
  refine G_aload_n (pc := 0) 3 X (dg dt_L_count 0 rfl) rfl rfl ?_
  refine G_iconst (pc := 1) 0 X (dg dt_L_count 1 rfl) (by decide) ?_
  refine G_aload_n (pc := 2) 0 X (dg dt_L_count 2 rfl) rfl rfl ?_
  refine G_iload_n (pc := 3) 1 X (dg dt_L_count 3 rfl) rfl rfl ?_
  refine G_iload_n (pc := 4) 2 X (dg dt_L_count 4 rfl) rfl rfl ?_
  generalize hf : f_Q_count σ p1 p2 = o at h
  match o, hf, h with
  | none, hf, h => cases h
  | some (.ok v, σ1), hf, h =>
    cases h
    refine G_callV (pc := 5) (S := [.int 0, .ref (ad 103)]) [.int p1, .int p2] (fun _ h => h) X (dg dt_L_count 5 rfl) cb_Q_count cv_Q_count w_884 (s_Q_count htr () ad _ _ _ hf) rfl ⟨Nat.le_of_ble_eq_true rfl, Nat.le_of_ble_eq_true rfl⟩ sh_0 rfl (Nat.le_of_ble_eq_true rfl) Rc0 ?_
    refine G_i2l (pc := 8) X (dg dt_L_count 6 rfl) ?_
    refine G_last (pc := 9) X (dg dt_L_count 7 rfl) sh_103 (by decide) ?_
    refine G_goto (pc := 10) 25 X (dg dt_L_count 8 rfl) (by decide) ?_
    refine G_iconst (pc := 25) 0 X (dg dt_L_count 18 rfl) (by decide) ?_
    exact G_wret (pc := 26) (cs := (0, 0)) X hq (dg dt_L_count 19 rfl) (by decide) rfl
  | some (.error e, σ1), hf, h =>
    match e, hf, h with
    | 1, hf, h =>
      cases h
      refine G_callVC (pc := 5) (S := [.int 0, .ref (ad 103)]) (e := 1) [.int p1, .int p2] [] (0, 10, 13, 24) [(0, 10, 17, 13), (0, 10, 21, 15)] X hq (dg dt_L_count 5 rfl) cb_Q_count cv_Q_count w_884 (s_Q_count htr () ad _ _ _ hf) rfl ⟨Nat.le_of_ble_eq_true rfl, Nat.le_of_ble_eq_true rfl⟩ sh_0 rfl (Nat.le_of_ble_eq_true rfl) rfl (fun _ h => absurd h List.not_mem_nil) (by decide) (by decide) w_457 w_468 (fun q => ?_)
      refine G_astore (pc := 13) X (dg dt_L_count 9 rfl) (Nat.le_of_ble_eq_true rfl) rfl ?_
      refine G_iconst (pc := 15) 1 X (dg dt_L_count 10 rfl) (by decide) ?_
      exact G_wret (pc := 16) (cs := (1, 6)) X hq (dg dt_L_count 11 rfl) (by decide) rfl
    | 2, hf, h =>
      cases h
      refine G_callVC (pc := 5) (S := [.int 0, .ref (ad 103)]) (e := 2) [.int p1, .int p2] [(0, 10, 13, 24)] (0, 10, 17, 13) [(0, 10, 21, 15)] X hq (dg dt_L_count 5 rfl) cb_Q_count cv_Q_count w_884 (s_Q_count htr () ad _ _ _ hf) rfl ⟨Nat.le_of_ble_eq_true rfl, Nat.le_of_ble_eq_true rfl⟩ sh_0 rfl (Nat.le_of_ble_eq_true rfl) rfl (List.forall_mem_cons.mpr ⟨⟨_, by decide, w_457, fun U h => h.1⟩, (fun _ h => absurd h List.not_mem_nil)⟩) (by decide) (by decide) w_319 w_333 (fun q => ?_)
      refine G_astore (pc := 17) X (dg dt_L_count 12 rfl) (Nat.le_of_ble_eq_true rfl) rfl ?_
      refine G_iconst (pc := 19) 2 X (dg dt_L_count 13 rfl) (by decide) ?_
      exact G_wret (pc := 20) (cs := (1, 6)) X hq (dg dt_L_count 14 rfl) (by decide) rfl
    | 3, hf, h =>
      cases h
      refine G_callVC (pc := 5) (S := [.int 0, .ref (ad 103)]) (e := 3) [.int p1, .int p2] [(0, 10, 13, 24), (0, 10, 17, 13)] (0, 10, 21, 15) [] X hq (dg dt_L_count 5 rfl) cb_Q_count cv_Q_count w_884 (s_Q_count htr () ad _ _ _ hf) rfl ⟨Nat.le_of_ble_eq_true rfl, Nat.le_of_ble_eq_true rfl⟩ sh_0 rfl (Nat.le_of_ble_eq_true rfl) rfl (List.forall_mem_cons.mpr ⟨⟨_, by decide, w_457, fun U h => h.2.1⟩, (List.forall_mem_cons.mpr ⟨⟨_, by decide, w_319, fun U h => h.2.2⟩, (fun _ h => absurd h List.not_mem_nil)⟩)⟩) (by decide) (by decide) w_320 w_405 (fun q => ?_)
      refine G_astore (pc := 21) X (dg dt_L_count 15 rfl) (Nat.le_of_ble_eq_true rfl) rfl ?_
      refine G_iconst (pc := 23) 3 X (dg dt_L_count 16 rfl) (by decide) ?_
      exact G_wret (pc := 24) (cs := (1, 6)) X hq (dg dt_L_count 17 rfl) (by decide) rfl
    | 0, hf, h => cases h
    | n + 4, hf, h => cases h
set_option maxRecDepth 100000 in
set_option maxHeartbeats 4000000 in
theorem s_L_critical {l : Launch} (htr : l.stackTraces = false) (ad : Nat → Nat) (σ : St) (p1 : Int32) {k : Int32} {σe : St} (h : fw_critical σ p1 = some (k, σe)) : RtW l yL_critical cL_critical 4 [(0, 9, 12, 24), (0, 9, 15, 15)] 47 1201 (g_SH, ad) [.ref (ad 0), .int p1, .ref (ad 103)] σ k σe := by
  refine RtW.intro (L := [some (.ref (ad 0)), some (.int p1), some (.ref (ad 103)), none]) (by decide +kernel) (Nat.le_of_ble_eq_true rfl) rfl (fun θ hl X hq => ?_)
  subst hl
  unfold fw_critical wv at h
  refine G_aload_n (pc := 0) 2 X (dg dt_L_critical 0 rfl) rfl rfl ?_
  refine G_iconst (pc := 1) 0 X (dg dt_L_critical 1 rfl) (by decide) ?_
  refine G_aload_n (pc := 2) 0 X (dg dt_L_critical 2 rfl) rfl rfl ?_
  refine G_iload_n (pc := 3) 1 X (dg dt_L_critical 3 rfl) rfl rfl ?_
  generalize hf : f_Q_critical σ p1 = o at h
  match o, hf, h with
  | none, hf, h => cases h
  | some (.ok v, σ1), hf, h =>
    cases h
    refine G_callV (pc := 4) (S := [.int 0, .ref (ad 103)]) [.int p1] (fun _ h => h) X (dg dt_L_critical 4 rfl) cb_Q_critical cv_Q_critical w_759 (s_Q_critical htr () ad _ _ hf) rfl ⟨Nat.le_of_ble_eq_true rfl, Nat.le_of_ble_eq_true rfl⟩ sh_0 rfl (Nat.le_of_ble_eq_true rfl) Rc0 ?_
    refine G_i2l (pc := 7) X (dg dt_L_critical 5 rfl) ?_
    refine G_last (pc := 8) X (dg dt_L_critical 6 rfl) sh_103 (by decide) ?_
    refine G_goto (pc := 9) 18 X (dg dt_L_critical 7 rfl) (by decide) ?_
    refine G_iconst (pc := 18) 0 X (dg dt_L_critical 14 rfl) (by decide) ?_
    exact G_wret (pc := 19) (cs := (0, 0)) X hq (dg dt_L_critical 15 rfl) (by decide) rfl
  | some (.error e, σ1), hf, h =>
    match e, hf, h with
    | 1, hf, h =>
      cases h
      refine G_callVC (pc := 4) (S := [.int 0, .ref (ad 103)]) (e := 1) [.int p1] [] (0, 9, 12, 24) [(0, 9, 15, 15)] X hq (dg dt_L_critical 4 rfl) cb_Q_critical cv_Q_critical w_759 (s_Q_critical htr () ad _ _ hf) rfl ⟨Nat.le_of_ble_eq_true rfl, Nat.le_of_ble_eq_true rfl⟩ sh_0 rfl (Nat.le_of_ble_eq_true rfl) rfl (fun _ h => absurd h List.not_mem_nil) (by decide) (by decide) w_457 w_468 (fun q => ?_)
      refine G_astore_n (pc := 12) 3 X (dg dt_L_critical 8 rfl) rfl (Nat.le_of_ble_eq_true rfl) rfl ?_
      refine G_iconst (pc := 13) 1 X (dg dt_L_critical 9 rfl) (by decide) ?_
      exact G_wret (pc := 14) (cs := (1, 6)) X hq (dg dt_L_critical 10 rfl) (by decide) rfl
    | 3, hf, h =>
      cases h
      refine G_callVC (pc := 4) (S := [.int 0, .ref (ad 103)]) (e := 3) [.int p1] [(0, 9, 12, 24)] (0, 9, 15, 15) [] X hq (dg dt_L_critical 4 rfl) cb_Q_critical cv_Q_critical w_759 (s_Q_critical htr () ad _ _ hf) rfl ⟨Nat.le_of_ble_eq_true rfl, Nat.le_of_ble_eq_true rfl⟩ sh_0 rfl (Nat.le_of_ble_eq_true rfl) rfl (List.forall_mem_cons.mpr ⟨⟨_, by decide, w_457, fun U h => h.2.1⟩, (fun _ h => absurd h List.not_mem_nil)⟩) (by decide) (by decide) w_320 w_405 (fun q => ?_)
      refine G_astore_n (pc := 15) 3 X (dg dt_L_critical 11 rfl) rfl (Nat.le_of_ble_eq_true rfl) rfl ?_
      refine G_iconst (pc := 16) 2 X (dg dt_L_critical 12 rfl) (by decide) ?_
      exact G_wret (pc := 17) (cs := (1, 6)) X hq (dg dt_L_critical 13 rfl) (by decide) rfl
    | 0, hf, h => cases h
    | 2, hf, h => cases h
    | n + 4, hf, h => cases h
set_option maxRecDepth 100000 in
set_option maxHeartbeats 4000000 in
theorem s_L_distance {l : Launch} (htr : l.stackTraces = false) (ad : Nat → Nat) (σ : St) (p1 : Int32) (p2 : Int32) {k : Int32} {σe : St} (h : fw_distance σ p1 p2 = some (k, σe)) : RtW l yL_distance cL_distance 5 [(0, 10, 13, 24), (0, 10, 17, 13)] 8 148 (g_SH, ad) [.ref (ad 0), .int p1, .int p2, .ref (ad 103)] σ k σe := by
  refine RtW.intro (L := [some (.ref (ad 0)), some (.int p1), some (.int p2), some (.ref (ad 103)), none]) (by decide +kernel) (Nat.le_of_ble_eq_true rfl) rfl (fun θ hl X hq => ?_)
  subst hl
  unfold fw_distance wv at h
  refine G_aload_n (pc := 0) 3 X (dg dt_L_distance 0 rfl) rfl rfl ?_
  refine G_iconst (pc := 1) 0 X (dg dt_L_distance 1 rfl) (by decide) ?_
  refine G_aload_n (pc := 2) 0 X (dg dt_L_distance 2 rfl) rfl rfl ?_
  refine G_iload_n (pc := 3) 1 X (dg dt_L_distance 3 rfl) rfl rfl ?_
  refine G_iload_n (pc := 4) 2 X (dg dt_L_distance 4 rfl) rfl rfl ?_
  generalize hf : f_Q_distance σ p1 p2 = o at h
  match o, hf, h with
  | none, hf, h => cases h
  | some (.ok v, σ1), hf, h =>
    cases h
    refine G_callV (pc := 5) (S := [.int 0, .ref (ad 103)]) [.int p1, .int p2] (fun _ h => h) X (dg dt_L_distance 5 rfl) cb_Q_distance cv_Q_distance w_567 (s_Q_distance htr () ad _ _ _ hf) rfl ⟨Nat.le_of_ble_eq_true rfl, Nat.le_of_ble_eq_true rfl⟩ sh_0 rfl (Nat.le_of_ble_eq_true rfl) Rc0 ?_
    refine G_i2l (pc := 8) X (dg dt_L_distance 6 rfl) ?_
    refine G_last (pc := 9) X (dg dt_L_distance 7 rfl) sh_103 (by decide) ?_
    refine G_goto (pc := 10) 21 X (dg dt_L_distance 8 rfl) (by decide) ?_
    refine G_iconst (pc := 21) 0 X (dg dt_L_distance 15 rfl) (by decide) ?_
    exact G_wret (pc := 22) (cs := (0, 0)) X hq (dg dt_L_distance 16 rfl) (by decide) rfl
  | some (.error e, σ1), hf, h =>
    match e, hf, h with
    | 1, hf, h =>
      cases h
      refine G_callVC (pc := 5) (S := [.int 0, .ref (ad 103)]) (e := 1) [.int p1, .int p2] [] (0, 10, 13, 24) [(0, 10, 17, 13)] X hq (dg dt_L_distance 5 rfl) cb_Q_distance cv_Q_distance w_567 (s_Q_distance htr () ad _ _ _ hf) rfl ⟨Nat.le_of_ble_eq_true rfl, Nat.le_of_ble_eq_true rfl⟩ sh_0 rfl (Nat.le_of_ble_eq_true rfl) rfl (fun _ h => absurd h List.not_mem_nil) (by decide) (by decide) w_457 w_468 (fun q => ?_)
      refine G_astore (pc := 13) X (dg dt_L_distance 9 rfl) (Nat.le_of_ble_eq_true rfl) rfl ?_
      refine G_iconst (pc := 15) 1 X (dg dt_L_distance 10 rfl) (by decide) ?_
      exact G_wret (pc := 16) (cs := (1, 6)) X hq (dg dt_L_distance 11 rfl) (by decide) rfl
    | 2, hf, h =>
      cases h
      refine G_callVC (pc := 5) (S := [.int 0, .ref (ad 103)]) (e := 2) [.int p1, .int p2] [(0, 10, 13, 24)] (0, 10, 17, 13) [] X hq (dg dt_L_distance 5 rfl) cb_Q_distance cv_Q_distance w_567 (s_Q_distance htr () ad _ _ _ hf) rfl ⟨Nat.le_of_ble_eq_true rfl, Nat.le_of_ble_eq_true rfl⟩ sh_0 rfl (Nat.le_of_ble_eq_true rfl) rfl (List.forall_mem_cons.mpr ⟨⟨_, by decide, w_457, fun U h => h.1⟩, (fun _ h => absurd h List.not_mem_nil)⟩) (by decide) (by decide) w_319 w_333 (fun q => ?_)
      refine G_astore (pc := 17) X (dg dt_L_distance 12 rfl) (Nat.le_of_ble_eq_true rfl) rfl ?_
      refine G_iconst (pc := 19) 2 X (dg dt_L_distance 13 rfl) (by decide) ?_
      exact G_wret (pc := 20) (cs := (1, 6)) X hq (dg dt_L_distance 14 rfl) (by decide) rfl
    | 0, hf, h => cases h
    | 3, hf, h => cases h
    | n + 4, hf, h => cases h
set_option maxRecDepth 100000 in
set_option maxHeartbeats 4000000 in
theorem s_L_fill {l : Launch} (htr : l.stackTraces = false) (ad : Nat → Nat) (σ : St) (p1 : Int32) {k : Int32} {σe : St} (h : fw_fill σ p1 = some (k, σe)) : RtW l yL_fill cL_fill 4 [(0, 9, 12, 24), (0, 9, 15, 15)] 48 1307 (g_SH, ad) [.ref (ad 0), .int p1, .ref (ad 103)] σ k σe := by
  refine RtW.intro (L := [some (.ref (ad 0)), some (.int p1), some (.ref (ad 103)), none]) (by decide +kernel) (Nat.le_of_ble_eq_true rfl) rfl (fun θ hl X hq => ?_)
  subst hl
  unfold fw_fill wv at h
  refine G_aload_n (pc := 0) 2 X (dg dt_L_fill 0 rfl) rfl rfl ?_
  refine G_iconst (pc := 1) 0 X (dg dt_L_fill 1 rfl) (by decide) ?_
  refine G_aload_n (pc := 2) 0 X (dg dt_L_fill 2 rfl) rfl rfl ?_
  refine G_iload_n (pc := 3) 1 X (dg dt_L_fill 3 rfl) rfl rfl ?_
  generalize hf : f_Q_fill σ p1 = o at h
  match o, hf, h with
  | none, hf, h => cases h
  | some (.ok v, σ1), hf, h =>
    cases h
    refine G_callV (pc := 4) (S := [.int 0, .ref (ad 103)]) [.int p1] (fun _ h => h) X (dg dt_L_fill 4 rfl) cb_Q_fill cv_Q_fill w_697 (s_Q_fill htr () ad _ _ hf) rfl ⟨Nat.le_of_ble_eq_true rfl, Nat.le_of_ble_eq_true rfl⟩ sh_0 rfl (Nat.le_of_ble_eq_true rfl) Rc0 ?_
    refine G_i2l (pc := 7) X (dg dt_L_fill 5 rfl) ?_
    refine G_last (pc := 8) X (dg dt_L_fill 6 rfl) sh_103 (by decide) ?_
    refine G_goto (pc := 9) 18 X (dg dt_L_fill 7 rfl) (by decide) ?_
    refine G_iconst (pc := 18) 0 X (dg dt_L_fill 14 rfl) (by decide) ?_
    exact G_wret (pc := 19) (cs := (0, 0)) X hq (dg dt_L_fill 15 rfl) (by decide) rfl
  | some (.error e, σ1), hf, h =>
    match e, hf, h with
    | 1, hf, h =>
      cases h
      refine G_callVC (pc := 4) (S := [.int 0, .ref (ad 103)]) (e := 1) [.int p1] [] (0, 9, 12, 24) [(0, 9, 15, 15)] X hq (dg dt_L_fill 4 rfl) cb_Q_fill cv_Q_fill w_697 (s_Q_fill htr () ad _ _ hf) rfl ⟨Nat.le_of_ble_eq_true rfl, Nat.le_of_ble_eq_true rfl⟩ sh_0 rfl (Nat.le_of_ble_eq_true rfl) rfl (fun _ h => absurd h List.not_mem_nil) (by decide) (by decide) w_457 w_468 (fun q => ?_)
      refine G_astore_n (pc := 12) 3 X (dg dt_L_fill 8 rfl) rfl (Nat.le_of_ble_eq_true rfl) rfl ?_
      refine G_iconst (pc := 13) 1 X (dg dt_L_fill 9 rfl) (by decide) ?_
      exact G_wret (pc := 14) (cs := (1, 6)) X hq (dg dt_L_fill 10 rfl) (by decide) rfl
    | 3, hf, h =>
      cases h
      refine G_callVC (pc := 4) (S := [.int 0, .ref (ad 103)]) (e := 3) [.int p1] [(0, 9, 12, 24)] (0, 9, 15, 15) [] X hq (dg dt_L_fill 4 rfl) cb_Q_fill cv_Q_fill w_697 (s_Q_fill htr () ad _ _ hf) rfl ⟨Nat.le_of_ble_eq_true rfl, Nat.le_of_ble_eq_true rfl⟩ sh_0 rfl (Nat.le_of_ble_eq_true rfl) rfl (List.forall_mem_cons.mpr ⟨⟨_, by decide, w_457, fun U h => h.2.1⟩, (fun _ h => absurd h List.not_mem_nil)⟩) (by decide) (by decide) w_320 w_405 (fun q => ?_)
      refine G_astore_n (pc := 15) 3 X (dg dt_L_fill 11 rfl) rfl (Nat.le_of_ble_eq_true rfl) rfl ?_
      refine G_iconst (pc := 16) 2 X (dg dt_L_fill 12 rfl) (by decide) ?_
      exact G_wret (pc := 17) (cs := (1, 6)) X hq (dg dt_L_fill 13 rfl) (by decide) rfl
    | 0, hf, h => cases h
    | 2, hf, h => cases h
    | n + 4, hf, h => cases h
set_option maxRecDepth 100000 in
set_option maxHeartbeats 4000000 in
theorem s_L_fills {l : Launch} (htr : l.stackTraces = false) (ad : Nat → Nat) (σ : St) (p1 : Int32) (p2 : Int32) {k : Int32} {σe : St} (h : fw_fills σ p1 p2 = some (k, σe)) : RtW l yL_fills cL_fills 5 [(0, 10, 13, 24), (0, 10, 17, 13)] 47 1282 (g_SH, ad) [.ref (ad 0), .int p1, .int p2, .ref (ad 103)] σ k σe := by
  refine RtW.intro (L := [some (.ref (ad 0)), some (.int p1), some (.int p2), some (.ref (ad 103)), none]) (by decide +kernel) (Nat.le_of_ble_eq_true rfl) rfl (fun θ hl X hq => ?_)
  subst hl
  unfold fw_fills wv at h
  refine G_aload_n (pc := 0) 3 X (dg dt_L_fills 0 rfl) rfl rfl ?_
  refine G_iconst (pc := 1) 0 X (dg dt_L_fills 1 rfl) (by decide) ?_
  refine G_aload_n (pc := 2) 0 X (dg dt_L_fills 2 rfl) rfl rfl ?_
  refine G_iload_n (pc := 3) 1 X (dg dt_L_fills 3 rfl) rfl rfl ?_
  refine G_iload_n (pc := 4) 2 X (dg dt_L_fills 4 rfl) rfl rfl ?_
  generalize hf : f_Q_fills σ p1 p2 = o at h
  match o, hf, h with
  | none, hf, h => cases h
  | some (.ok v, σ1), hf, h =>
    cases h
    refine G_callV (pc := 5) (S := [.int 0, .ref (ad 103)]) [.int p1, .int p2] (fun _ h => h) X (dg dt_L_fills 5 rfl) cb_Q_fills cv_Q_fills w_626 (s_Q_fills htr () ad _ _ _ hf) rfl ⟨Nat.le_of_ble_eq_true rfl, Nat.le_of_ble_eq_true rfl⟩ sh_0 rfl (Nat.le_of_ble_eq_true rfl) Rc0 ?_
    refine G_i2l (pc := 8) X (dg dt_L_fills 6 rfl) ?_
    refine G_last (pc := 9) X (dg dt_L_fills 7 rfl) sh_103 (by decide) ?_
    refine G_goto (pc := 10) 21 X (dg dt_L_fills 8 rfl) (by decide) ?_
    refine G_iconst (pc := 21) 0 X (dg dt_L_fills 15 rfl) (by decide) ?_
    exact G_wret (pc := 22) (cs := (0, 0)) X hq (dg dt_L_fills 16 rfl) (by decide) rfl
  | some (.error e, σ1), hf, h =>
    match e, hf, h with
    | 1, hf, h =>
      cases h
      refine G_callVC (pc := 5) (S := [.int 0, .ref (ad 103)]) (e := 1) [.int p1, .int p2] [] (0, 10, 13, 24) [(0, 10, 17, 13)] X hq (dg dt_L_fills 5 rfl) cb_Q_fills cv_Q_fills w_626 (s_Q_fills htr () ad _ _ _ hf) rfl ⟨Nat.le_of_ble_eq_true rfl, Nat.le_of_ble_eq_true rfl⟩ sh_0 rfl (Nat.le_of_ble_eq_true rfl) rfl (fun _ h => absurd h List.not_mem_nil) (by decide) (by decide) w_457 w_468 (fun q => ?_)
      refine G_astore (pc := 13) X (dg dt_L_fills 9 rfl) (Nat.le_of_ble_eq_true rfl) rfl ?_
      refine G_iconst (pc := 15) 1 X (dg dt_L_fills 10 rfl) (by decide) ?_
      exact G_wret (pc := 16) (cs := (1, 6)) X hq (dg dt_L_fills 11 rfl) (by decide) rfl
    | 2, hf, h =>
      cases h
      refine G_callVC (pc := 5) (S := [.int 0, .ref (ad 103)]) (e := 2) [.int p1, .int p2] [(0, 10, 13, 24)] (0, 10, 17, 13) [] X hq (dg dt_L_fills 5 rfl) cb_Q_fills cv_Q_fills w_626 (s_Q_fills htr () ad _ _ _ hf) rfl ⟨Nat.le_of_ble_eq_true rfl, Nat.le_of_ble_eq_true rfl⟩ sh_0 rfl (Nat.le_of_ble_eq_true rfl) rfl (List.forall_mem_cons.mpr ⟨⟨_, by decide, w_457, fun U h => h.1⟩, (fun _ h => absurd h List.not_mem_nil)⟩) (by decide) (by decide) w_319 w_333 (fun q => ?_)
      refine G_astore (pc := 17) X (dg dt_L_fills 12 rfl) (Nat.le_of_ble_eq_true rfl) rfl ?_
      refine G_iconst (pc := 19) 2 X (dg dt_L_fills 13 rfl) (by decide) ?_
      exact G_wret (pc := 20) (cs := (1, 6)) X hq (dg dt_L_fills 14 rfl) (by decide) rfl
    | 0, hf, h => cases h
    | 3, hf, h => cases h
    | n + 4, hf, h => cases h
set_option maxRecDepth 100000 in
set_option maxHeartbeats 4000000 in
theorem s_L_fillsAnew {l : Launch} (htr : l.stackTraces = false) (ad : Nat → Nat) (σ : St) (p1 : Int32) (p2 : Int32) {k : Int32} {σe : St} (h : fw_fillsAnew σ p1 p2 = some (k, σe)) : RtW l yL_fillsAnew cL_fillsAnew 5 [(0, 10, 13, 24), (0, 10, 17, 13)] 46 1351 (g_SH, ad) [.ref (ad 0), .int p1, .int p2, .ref (ad 103)] σ k σe := by
  refine RtW.intro (L := [some (.ref (ad 0)), some (.int p1), some (.int p2), some (.ref (ad 103)), none]) (by decide +kernel) (Nat.le_of_ble_eq_true rfl) rfl (fun θ hl X hq => ?_)
  subst hl
  unfold fw_fillsAnew wv at h
  refine G_aload_n (pc := 0) 3 X (dg dt_L_fillsAnew 0 rfl) rfl rfl ?_
  refine G_iconst (pc := 1) 0 X (dg dt_L_fillsAnew 1 rfl) (by decide) ?_
  refine G_aload_n (pc := 2) 0 X (dg dt_L_fillsAnew 2 rfl) rfl rfl ?_
  refine G_iload_n (pc := 3) 1 X (dg dt_L_fillsAnew 3 rfl) rfl rfl ?_
  refine G_iload_n (pc := 4) 2 X (dg dt_L_fillsAnew 4 rfl) rfl rfl ?_
  generalize hf : f_Q_fillsAnew σ p1 p2 = o at h
  match o, hf, h with
  | none, hf, h => cases h
  | some (.ok v, σ1), hf, h =>
    cases h
    refine G_callV (pc := 5) (S := [.int 0, .ref (ad 103)]) [.int p1, .int p2] (fun _ h => h) X (dg dt_L_fillsAnew 5 rfl) cb_Q_fillsAnew cv_Q_fillsAnew w_656 (s_Q_fillsAnew htr () ad _ _ _ hf) rfl ⟨Nat.le_of_ble_eq_true rfl, Nat.le_of_ble_eq_true rfl⟩ sh_0 rfl (Nat.le_of_ble_eq_true rfl) Rc0 ?_
    refine G_i2l (pc := 8) X (dg dt_L_fillsAnew 6 rfl) ?_
    refine G_last (pc := 9) X (dg dt_L_fillsAnew 7 rfl) sh_103 (by decide) ?_
    refine G_goto (pc := 10) 21 X (dg dt_L_fillsAnew 8 rfl) (by decide) ?_
    refine G_iconst (pc := 21) 0 X (dg dt_L_fillsAnew 15 rfl) (by decide) ?_
    exact G_wret (pc := 22) (cs := (0, 0)) X hq (dg dt_L_fillsAnew 16 rfl) (by decide) rfl
  | some (.error e, σ1), hf, h =>
    match e, hf, h with
    | 1, hf, h =>
      cases h
      refine G_callVC (pc := 5) (S := [.int 0, .ref (ad 103)]) (e := 1) [.int p1, .int p2] [] (0, 10, 13, 24) [(0, 10, 17, 13)] X hq (dg dt_L_fillsAnew 5 rfl) cb_Q_fillsAnew cv_Q_fillsAnew w_656 (s_Q_fillsAnew htr () ad _ _ _ hf) rfl ⟨Nat.le_of_ble_eq_true rfl, Nat.le_of_ble_eq_true rfl⟩ sh_0 rfl (Nat.le_of_ble_eq_true rfl) rfl (fun _ h => absurd h List.not_mem_nil) (by decide) (by decide) w_457 w_468 (fun q => ?_)
      refine G_astore (pc := 13) X (dg dt_L_fillsAnew 9 rfl) (Nat.le_of_ble_eq_true rfl) rfl ?_
      refine G_iconst (pc := 15) 1 X (dg dt_L_fillsAnew 10 rfl) (by decide) ?_
      exact G_wret (pc := 16) (cs := (1, 6)) X hq (dg dt_L_fillsAnew 11 rfl) (by decide) rfl
    | 2, hf, h =>
      cases h
      refine G_callVC (pc := 5) (S := [.int 0, .ref (ad 103)]) (e := 2) [.int p1, .int p2] [(0, 10, 13, 24)] (0, 10, 17, 13) [] X hq (dg dt_L_fillsAnew 5 rfl) cb_Q_fillsAnew cv_Q_fillsAnew w_656 (s_Q_fillsAnew htr () ad _ _ _ hf) rfl ⟨Nat.le_of_ble_eq_true rfl, Nat.le_of_ble_eq_true rfl⟩ sh_0 rfl (Nat.le_of_ble_eq_true rfl) rfl (List.forall_mem_cons.mpr ⟨⟨_, by decide, w_457, fun U h => h.1⟩, (fun _ h => absurd h List.not_mem_nil)⟩) (by decide) (by decide) w_319 w_333 (fun q => ?_)
      refine G_astore (pc := 17) X (dg dt_L_fillsAnew 12 rfl) (Nat.le_of_ble_eq_true rfl) rfl ?_
      refine G_iconst (pc := 19) 2 X (dg dt_L_fillsAnew 13 rfl) (by decide) ?_
      exact G_wret (pc := 20) (cs := (1, 6)) X hq (dg dt_L_fillsAnew 14 rfl) (by decide) rfl
    | 0, hf, h => cases h
    | 3, hf, h => cases h
    | n + 4, hf, h => cases h
set_option maxRecDepth 100000 in
set_option maxHeartbeats 4000000 in
theorem s_L_forced {l : Launch} (htr : l.stackTraces = false) (ad : Nat → Nat) (σ : St) (p1 : Int32) {k : Int32} {σe : St} (h : fw_forced σ p1 = some (k, σe)) : RtW l yL_forced cL_forced 4 [(0, 9, 12, 24)] 8 158 (g_SH, ad) [.ref (ad 0), .int p1, .ref (ad 103)] σ k σe := by
  refine RtW.intro (L := [some (.ref (ad 0)), some (.int p1), some (.ref (ad 103)), none]) (by decide +kernel) (Nat.le_of_ble_eq_true rfl) rfl (fun θ hl X hq => ?_)
  subst hl
  unfold fw_forced wv at h
  refine G_aload_n (pc := 0) 2 X (dg dt_L_forced 0 rfl) rfl rfl ?_
  refine G_iconst (pc := 1) 0 X (dg dt_L_forced 1 rfl) (by decide) ?_
  refine G_aload_n (pc := 2) 0 X (dg dt_L_forced 2 rfl) rfl rfl ?_
  refine G_iload_n (pc := 3) 1 X (dg dt_L_forced 3 rfl) rfl rfl ?_
  generalize hf : f_Q_forced σ p1 = o at h
  match o, hf, h with
  | none, hf, h => cases h
  | some (.ok v, σ1), hf, h =>
    cases h
    refine G_callV (pc := 4) (S := [.int 0, .ref (ad 103)]) [.int p1] (fun _ h => h) X (dg dt_L_forced 4 rfl) cb_Q_forced cv_Q_forced w_711 (s_Q_forced htr () ad _ _ hf) rfl ⟨Nat.le_of_ble_eq_true rfl, Nat.le_of_ble_eq_true rfl⟩ sh_0 rfl (Nat.le_of_ble_eq_true rfl) Rc0 ?_
    refine G_i2l (pc := 7) X (dg dt_L_forced 5 rfl) ?_
    refine G_last (pc := 8) X (dg dt_L_forced 6 rfl) sh_103 (by decide) ?_
    refine G_goto (pc := 9) 15 X (dg dt_L_forced 7 rfl) (by decide) ?_
    refine G_iconst (pc := 15) 0 X (dg dt_L_forced 11 rfl) (by decide) ?_
    exact G_wret (pc := 16) (cs := (0, 0)) X hq (dg dt_L_forced 12 rfl) (by decide) rfl
  | some (.error e, σ1), hf, h =>
    match e, hf, h with
    | 1, hf, h =>
      cases h
      refine G_callVC (pc := 4) (S := [.int 0, .ref (ad 103)]) (e := 1) [.int p1] [] (0, 9, 12, 24) [] X hq (dg dt_L_forced 4 rfl) cb_Q_forced cv_Q_forced w_711 (s_Q_forced htr () ad _ _ hf) rfl ⟨Nat.le_of_ble_eq_true rfl, Nat.le_of_ble_eq_true rfl⟩ sh_0 rfl (Nat.le_of_ble_eq_true rfl) rfl (fun _ h => absurd h List.not_mem_nil) (by decide) (by decide) w_457 w_468 (fun q => ?_)
      refine G_astore_n (pc := 12) 3 X (dg dt_L_forced 8 rfl) rfl (Nat.le_of_ble_eq_true rfl) rfl ?_
      refine G_iconst (pc := 13) 1 X (dg dt_L_forced 9 rfl) (by decide) ?_
      exact G_wret (pc := 14) (cs := (1, 6)) X hq (dg dt_L_forced 10 rfl) (by decide) rfl
    | 0, hf, h => cases h
    | 2, hf, h => cases h
    | 3, hf, h => cases h
    | n + 4, hf, h => cases h
set_option maxRecDepth 100000 in
set_option maxHeartbeats 4000000 in
theorem s_L_grid {l : Launch} (htr : l.stackTraces = false) (ad : Nat → Nat) (σ : St) (p1 : Int32) {k : Int32} {σe : St} (h : fw_grid σ p1 = some (k, σe)) : RtW l yL_grid cL_grid 4 [(0, 9, 12, 13), (0, 9, 15, 15)] 8 143 (g_SH, ad) [.ref (ad 0), .int p1, .ref (ad 103)] σ k σe := by
  refine RtW.intro (L := [some (.ref (ad 0)), some (.int p1), some (.ref (ad 103)), none]) (by decide +kernel) (Nat.le_of_ble_eq_true rfl) rfl (fun θ hl X hq => ?_)
  subst hl
  unfold fw_grid wv at h
  refine G_aload_n (pc := 0) 2 X (dg dt_L_grid 0 rfl) rfl rfl ?_
  refine G_iconst (pc := 1) 0 X (dg dt_L_grid 1 rfl) (by decide) ?_
  refine G_aload_n (pc := 2) 0 X (dg dt_L_grid 2 rfl) rfl rfl ?_
  refine G_iload_n (pc := 3) 1 X (dg dt_L_grid 3 rfl) rfl rfl ?_
  generalize hf : f_Q_grid σ p1 = o at h
  match o, hf, h with
  | none, hf, h => cases h
  | some (.ok v, σ1), hf, h =>
    cases h
    refine G_callV (pc := 4) (S := [.int 0, .ref (ad 103)]) [.int p1] (fun _ h => h) X (dg dt_L_grid 4 rfl) cb_Q_grid cv_Q_grid w_321 (s_Q_grid htr () ad _ _ hf) rfl ⟨Nat.le_of_ble_eq_true rfl, Nat.le_of_ble_eq_true rfl⟩ sh_0 rfl (Nat.le_of_ble_eq_true rfl) Rc0 ?_
    refine G_i2l (pc := 7) X (dg dt_L_grid 5 rfl) ?_
    refine G_last (pc := 8) X (dg dt_L_grid 6 rfl) sh_103 (by decide) ?_
    refine G_goto (pc := 9) 18 X (dg dt_L_grid 7 rfl) (by decide) ?_
    refine G_iconst (pc := 18) 0 X (dg dt_L_grid 14 rfl) (by decide) ?_
    exact G_wret (pc := 19) (cs := (0, 0)) X hq (dg dt_L_grid 15 rfl) (by decide) rfl
  | some (.error e, σ1), hf, h =>
    match e, hf, h with
    | 2, hf, h =>
      cases h
      refine G_callVC (pc := 4) (S := [.int 0, .ref (ad 103)]) (e := 2) [.int p1] [] (0, 9, 12, 13) [(0, 9, 15, 15)] X hq (dg dt_L_grid 4 rfl) cb_Q_grid cv_Q_grid w_321 (s_Q_grid htr () ad _ _ hf) rfl ⟨Nat.le_of_ble_eq_true rfl, Nat.le_of_ble_eq_true rfl⟩ sh_0 rfl (Nat.le_of_ble_eq_true rfl) rfl (fun _ h => absurd h List.not_mem_nil) (by decide) (by decide) w_319 w_333 (fun q => ?_)
      refine G_astore_n (pc := 12) 3 X (dg dt_L_grid 8 rfl) rfl (Nat.le_of_ble_eq_true rfl) rfl ?_
      refine G_iconst (pc := 13) 1 X (dg dt_L_grid 9 rfl) (by decide) ?_
      exact G_wret (pc := 14) (cs := (1, 6)) X hq (dg dt_L_grid 10 rfl) (by decide) rfl
    | 3, hf, h =>
      cases h
      refine G_callVC (pc := 4) (S := [.int 0, .ref (ad 103)]) (e := 3) [.int p1] [(0, 9, 12, 13)] (0, 9, 15, 15) [] X hq (dg dt_L_grid 4 rfl) cb_Q_grid cv_Q_grid w_321 (s_Q_grid htr () ad _ _ hf) rfl ⟨Nat.le_of_ble_eq_true rfl, Nat.le_of_ble_eq_true rfl⟩ sh_0 rfl (Nat.le_of_ble_eq_true rfl) rfl (List.forall_mem_cons.mpr ⟨⟨_, by decide, w_319, fun U h => h.2.2⟩, (fun _ h => absurd h List.not_mem_nil)⟩) (by decide) (by decide) w_320 w_405 (fun q => ?_)
      refine G_astore_n (pc := 15) 3 X (dg dt_L_grid 11 rfl) rfl (Nat.le_of_ble_eq_true rfl) rfl ?_
      refine G_iconst (pc := 16) 2 X (dg dt_L_grid 12 rfl) (by decide) ?_
      exact G_wret (pc := 17) (cs := (1, 6)) X hq (dg dt_L_grid 13 rfl) (by decide) rfl
    | 0, hf, h => cases h
    | 1, hf, h => cases h
    | n + 4, hf, h => cases h
set_option maxRecDepth 100000 in
set_option maxHeartbeats 4000000 in
theorem s_L_isotope {l : Launch} (htr : l.stackTraces = false) (ad : Nat → Nat) (σ : St) (p1 : Int32) (p2 : Int32) (p3 : Int32) (p4 : Int32) {k : Int32} {σe : St} (h : fw_isotope σ p1 p2 p3 p4 = some (k, σe)) : RtW l yL_isotope cL_isotope 7 [(0, 14, 17, 24), (0, 14, 21, 13), (0, 14, 25, 15)] 8 154 (g_SH, ad) [.ref (ad 0), .int p1, .int p2, .int p3, .int p4, .ref (ad 103)] σ k σe := by
  refine RtW.intro (L := [some (.ref (ad 0)), some (.int p1), some (.int p2), some (.int p3), some (.int p4), some (.ref (ad 103)), none]) (by decide +kernel) (Nat.le_of_ble_eq_true rfl) rfl (fun θ hl X hq => ?_)
  subst hl
  unfold fw_isotope wv at h
  refine G_aload (pc := 0) X (dg dt_L_isotope 0 rfl) rfl ?_
  refine G_iconst (pc := 2) 0 X (dg dt_L_isotope 1 rfl) (by decide) ?_
  refine G_aload_n (pc := 3) 0 X (dg dt_L_isotope 2 rfl) rfl rfl ?_
  refine G_iload_n (pc := 4) 1 X (dg dt_L_isotope 3 rfl) rfl rfl ?_
  refine G_iload_n (pc := 5) 2 X (dg dt_L_isotope 4 rfl) rfl rfl ?_
  refine G_iload_n (pc := 6) 3 X (dg dt_L_isotope 5 rfl) rfl rfl ?_
  refine G_iload (pc := 7) X (dg dt_L_isotope 6 rfl) rfl ?_
  generalize hf : f_Q_isotope σ p1 p2 p3 p4 = o at h
  match o, hf, h with
  | none, hf, h => cases h
  | some (.ok v, σ1), hf, h =>
    cases h
    refine G_callV (pc := 9) (S := [.int 0, .ref (ad 103)]) [.int p1, .int p2, .int p3, .int p4] (fun _ h => h) X (dg dt_L_isotope 7 rfl) cb_Q_isotope cv_Q_isotope w_505 (s_Q_isotope htr () ad _ _ _ _ _ hf) rfl ⟨Nat.le_of_ble_eq_true rfl, Nat.le_of_ble_eq_true rfl⟩ sh_0 rfl (Nat.le_of_ble_eq_true rfl) Rc0 ?_
    refine G_i2l (pc := 12) X (dg dt_L_isotope 8 rfl) ?_
    refine G_last (pc := 13) X (dg dt_L_isotope 9 rfl) sh_103 (by decide) ?_
    refine G_goto (pc := 14) 29 X (dg dt_L_isotope 10 rfl) (by decide) ?_
    refine G_iconst (pc := 29) 0 X (dg dt_L_isotope 20 rfl) (by decide) ?_
    exact G_wret (pc := 30) (cs := (0, 0)) X hq (dg dt_L_isotope 21 rfl) (by decide) rfl
  | some (.error e, σ1), hf, h =>
    match e, hf, h with
    | 1, hf, h =>
      cases h
      refine G_callVC (pc := 9) (S := [.int 0, .ref (ad 103)]) (e := 1) [.int p1, .int p2, .int p3, .int p4] [] (0, 14, 17, 24) [(0, 14, 21, 13), (0, 14, 25, 15)] X hq (dg dt_L_isotope 7 rfl) cb_Q_isotope cv_Q_isotope w_505 (s_Q_isotope htr () ad _ _ _ _ _ hf) rfl ⟨Nat.le_of_ble_eq_true rfl, Nat.le_of_ble_eq_true rfl⟩ sh_0 rfl (Nat.le_of_ble_eq_true rfl) rfl (fun _ h => absurd h List.not_mem_nil) (by decide) (by decide) w_457 w_468 (fun q => ?_)
      refine G_astore (pc := 17) X (dg dt_L_isotope 11 rfl) (Nat.le_of_ble_eq_true rfl) rfl ?_
      refine G_iconst (pc := 19) 1 X (dg dt_L_isotope 12 rfl) (by decide) ?_
      exact G_wret (pc := 20) (cs := (1, 6)) X hq (dg dt_L_isotope 13 rfl) (by decide) rfl
    | 2, hf, h =>
      cases h
      refine G_callVC (pc := 9) (S := [.int 0, .ref (ad 103)]) (e := 2) [.int p1, .int p2, .int p3, .int p4] [(0, 14, 17, 24)] (0, 14, 21, 13) [(0, 14, 25, 15)] X hq (dg dt_L_isotope 7 rfl) cb_Q_isotope cv_Q_isotope w_505 (s_Q_isotope htr () ad _ _ _ _ _ hf) rfl ⟨Nat.le_of_ble_eq_true rfl, Nat.le_of_ble_eq_true rfl⟩ sh_0 rfl (Nat.le_of_ble_eq_true rfl) rfl (List.forall_mem_cons.mpr ⟨⟨_, by decide, w_457, fun U h => h.1⟩, (fun _ h => absurd h List.not_mem_nil)⟩) (by decide) (by decide) w_319 w_333 (fun q => ?_)
      refine G_astore (pc := 21) X (dg dt_L_isotope 14 rfl) (Nat.le_of_ble_eq_true rfl) rfl ?_
      refine G_iconst (pc := 23) 2 X (dg dt_L_isotope 15 rfl) (by decide) ?_
      exact G_wret (pc := 24) (cs := (1, 6)) X hq (dg dt_L_isotope 16 rfl) (by decide) rfl
    | 3, hf, h =>
      cases h
      refine G_callVC (pc := 9) (S := [.int 0, .ref (ad 103)]) (e := 3) [.int p1, .int p2, .int p3, .int p4] [(0, 14, 17, 24), (0, 14, 21, 13)] (0, 14, 25, 15) [] X hq (dg dt_L_isotope 7 rfl) cb_Q_isotope cv_Q_isotope w_505 (s_Q_isotope htr () ad _ _ _ _ _ hf) rfl ⟨Nat.le_of_ble_eq_true rfl, Nat.le_of_ble_eq_true rfl⟩ sh_0 rfl (Nat.le_of_ble_eq_true rfl) rfl (List.forall_mem_cons.mpr ⟨⟨_, by decide, w_457, fun U h => h.2.1⟩, (List.forall_mem_cons.mpr ⟨⟨_, by decide, w_319, fun U h => h.2.2⟩, (fun _ h => absurd h List.not_mem_nil)⟩)⟩) (by decide) (by decide) w_320 w_405 (fun q => ?_)
      refine G_astore (pc := 25) X (dg dt_L_isotope 17 rfl) (Nat.le_of_ble_eq_true rfl) rfl ?_
      refine G_iconst (pc := 27) 3 X (dg dt_L_isotope 18 rfl) (by decide) ?_
      exact G_wret (pc := 28) (cs := (1, 6)) X hq (dg dt_L_isotope 19 rfl) (by decide) rfl
    | 0, hf, h => cases h
    | n + 4, hf, h => cases h
set_option maxRecDepth 100000 in
set_option maxHeartbeats 4000000 in
theorem s_L_isotopies {l : Launch} (htr : l.stackTraces = false) (ad : Nat → Nat) (σ : St) (p1 : Int32) (p2 : Int32) {k : Int32} {σe : St} (h : fw_isotopies σ p1 p2 = some (k, σe)) : RtW l yL_isotopies cL_isotopies 5 [(0, 10, 13, 24), (0, 10, 17, 15)] 8 163 (g_SH, ad) [.ref (ad 0), .int p1, .int p2, .ref (ad 103)] σ k σe := by
  refine RtW.intro (L := [some (.ref (ad 0)), some (.int p1), some (.int p2), some (.ref (ad 103)), none]) (by decide +kernel) (Nat.le_of_ble_eq_true rfl) rfl (fun θ hl X hq => ?_)
  subst hl
  unfold fw_isotopies wv at h
  refine G_aload_n (pc := 0) 3 X (dg dt_L_isotopies 0 rfl) rfl rfl ?_
  refine G_iconst (pc := 1) 0 X (dg dt_L_isotopies 1 rfl) (by decide) ?_
  refine G_aload_n (pc := 2) 0 X (dg dt_L_isotopies 2 rfl) rfl rfl ?_
  refine G_iload_n (pc := 3) 1 X (dg dt_L_isotopies 3 rfl) rfl rfl ?_
  refine G_iload_n (pc := 4) 2 X (dg dt_L_isotopies 4 rfl) rfl rfl ?_
  generalize hf : f_Q_isotopies σ p1 p2 = o at h
  match o, hf, h with
  | none, hf, h => cases h
  | some (.ok v, σ1), hf, h =>
    cases h
    refine G_callV (pc := 5) (S := [.int 0, .ref (ad 103)]) [.int p1, .int p2] (fun _ h => h) X (dg dt_L_isotopies 5 rfl) cb_Q_isotopies cv_Q_isotopies w_937 (s_Q_isotopies htr () ad _ _ _ hf) rfl ⟨Nat.le_of_ble_eq_true rfl, Nat.le_of_ble_eq_true rfl⟩ sh_0 rfl (Nat.le_of_ble_eq_true rfl) Rc0 ?_
    refine G_i2l (pc := 8) X (dg dt_L_isotopies 6 rfl) ?_
    refine G_last (pc := 9) X (dg dt_L_isotopies 7 rfl) sh_103 (by decide) ?_
    refine G_goto (pc := 10) 21 X (dg dt_L_isotopies 8 rfl) (by decide) ?_
    refine G_iconst (pc := 21) 0 X (dg dt_L_isotopies 15 rfl) (by decide) ?_
    exact G_wret (pc := 22) (cs := (0, 0)) X hq (dg dt_L_isotopies 16 rfl) (by decide) rfl
  | some (.error e, σ1), hf, h =>
    match e, hf, h with
    | 1, hf, h =>
      cases h
      refine G_callVC (pc := 5) (S := [.int 0, .ref (ad 103)]) (e := 1) [.int p1, .int p2] [] (0, 10, 13, 24) [(0, 10, 17, 15)] X hq (dg dt_L_isotopies 5 rfl) cb_Q_isotopies cv_Q_isotopies w_937 (s_Q_isotopies htr () ad _ _ _ hf) rfl ⟨Nat.le_of_ble_eq_true rfl, Nat.le_of_ble_eq_true rfl⟩ sh_0 rfl (Nat.le_of_ble_eq_true rfl) rfl (fun _ h => absurd h List.not_mem_nil) (by decide) (by decide) w_457 w_468 (fun q => ?_)
      refine G_astore (pc := 13) X (dg dt_L_isotopies 9 rfl) (Nat.le_of_ble_eq_true rfl) rfl ?_
      refine G_iconst (pc := 15) 1 X (dg dt_L_isotopies 10 rfl) (by decide) ?_
      exact G_wret (pc := 16) (cs := (1, 6)) X hq (dg dt_L_isotopies 11 rfl) (by decide) rfl
    | 3, hf, h =>
      cases h
      refine G_callVC (pc := 5) (S := [.int 0, .ref (ad 103)]) (e := 3) [.int p1, .int p2] [(0, 10, 13, 24)] (0, 10, 17, 15) [] X hq (dg dt_L_isotopies 5 rfl) cb_Q_isotopies cv_Q_isotopies w_937 (s_Q_isotopies htr () ad _ _ _ hf) rfl ⟨Nat.le_of_ble_eq_true rfl, Nat.le_of_ble_eq_true rfl⟩ sh_0 rfl (Nat.le_of_ble_eq_true rfl) rfl (List.forall_mem_cons.mpr ⟨⟨_, by decide, w_457, fun U h => h.2.1⟩, (fun _ h => absurd h List.not_mem_nil)⟩) (by decide) (by decide) w_320 w_405 (fun q => ?_)
      refine G_astore (pc := 17) X (dg dt_L_isotopies 12 rfl) (Nat.le_of_ble_eq_true rfl) rfl ?_
      refine G_iconst (pc := 19) 2 X (dg dt_L_isotopies 13 rfl) (by decide) ?_
      exact G_wret (pc := 20) (cs := (1, 6)) X hq (dg dt_L_isotopies 14 rfl) (by decide) rfl
    | 0, hf, h => cases h
    | 2, hf, h => cases h
    | n + 4, hf, h => cases h
set_option maxRecDepth 100000 in
set_option maxHeartbeats 4000000 in
theorem s_L_linear {l : Launch} (htr : l.stackTraces = false) (ad : Nat → Nat) (σ : St) (p1 : Int32) (p2 : Int32) (p3 : Int32) (p4 : Int32) {k : Int32} {σe : St} (h : fw_linear σ p1 p2 p3 p4 = some (k, σe)) : RtW l yL_linear cL_linear 7 [(0, 14, 17, 13), (0, 14, 21, 15)] 8 149 (g_SH, ad) [.ref (ad 0), .int p1, .int p2, .int p3, .int p4, .ref (ad 103)] σ k σe := by
  refine RtW.intro (L := [some (.ref (ad 0)), some (.int p1), some (.int p2), some (.int p3), some (.int p4), some (.ref (ad 103)), none]) (by decide +kernel) (Nat.le_of_ble_eq_true rfl) rfl (fun θ hl X hq => ?_)
  subst hl
  unfold fw_linear wv at h
  refine G_aload (pc := 0) X (dg dt_L_linear 0 rfl) rfl ?_
  refine G_iconst (pc := 2) 0 X (dg dt_L_linear 1 rfl) (by decide) ?_
  refine G_aload_n (pc := 3) 0 X (dg dt_L_linear 2 rfl) rfl rfl ?_
  refine G_iload_n (pc := 4) 1 X (dg dt_L_linear 3 rfl) rfl rfl ?_
  refine G_iload_n (pc := 5) 2 X (dg dt_L_linear 4 rfl) rfl rfl ?_
  refine G_iload_n (pc := 6) 3 X (dg dt_L_linear 5 rfl) rfl rfl ?_
  refine G_iload (pc := 7) X (dg dt_L_linear 6 rfl) rfl ?_
  generalize hf : f_Q_linear σ p1 p2 p3 p4 = o at h
  match o, hf, h with
  | none, hf, h => cases h
  | some (.ok v, σ1), hf, h =>
    cases h
    refine G_callV (pc := 9) (S := [.int 0, .ref (ad 103)]) [.int p1, .int p2, .int p3, .int p4] (fun _ h => h) X (dg dt_L_linear 7 rfl) cb_Q_linear cv_Q_linear w_432 (s_Q_linear htr () ad _ _ _ _ _ hf) rfl ⟨Nat.le_of_ble_eq_true rfl, Nat.le_of_ble_eq_true rfl⟩ sh_0 rfl (Nat.le_of_ble_eq_true rfl) Rc0 ?_
    refine G_i2l (pc := 12) X (dg dt_L_linear 8 rfl) ?_
    refine G_last (pc := 13) X (dg dt_L_linear 9 rfl) sh_103 (by decide) ?_
    refine G_goto (pc := 14) 25 X (dg dt_L_linear 10 rfl) (by decide) ?_
    refine G_iconst (pc := 25) 0 X (dg dt_L_linear 17 rfl) (by decide) ?_
    exact G_wret (pc := 26) (cs := (0, 0)) X hq (dg dt_L_linear 18 rfl) (by decide) rfl
  | some (.error e, σ1), hf, h =>
    match e, hf, h with
    | 2, hf, h =>
      cases h
      refine G_callVC (pc := 9) (S := [.int 0, .ref (ad 103)]) (e := 2) [.int p1, .int p2, .int p3, .int p4] [] (0, 14, 17, 13) [(0, 14, 21, 15)] X hq (dg dt_L_linear 7 rfl) cb_Q_linear cv_Q_linear w_432 (s_Q_linear htr () ad _ _ _ _ _ hf) rfl ⟨Nat.le_of_ble_eq_true rfl, Nat.le_of_ble_eq_true rfl⟩ sh_0 rfl (Nat.le_of_ble_eq_true rfl) rfl (fun _ h => absurd h List.not_mem_nil) (by decide) (by decide) w_319 w_333 (fun q => ?_)
      refine G_astore (pc := 17) X (dg dt_L_linear 11 rfl) (Nat.le_of_ble_eq_true rfl) rfl ?_
      refine G_iconst (pc := 19) 1 X (dg dt_L_linear 12 rfl) (by decide) ?_
      exact G_wret (pc := 20) (cs := (1, 6)) X hq (dg dt_L_linear 13 rfl) (by decide) rfl
    | 3, hf, h =>
      cases h
      refine G_callVC (pc := 9) (S := [.int 0, .ref (ad 103)]) (e := 3) [.int p1, .int p2, .int p3, .int p4] [(0, 14, 17, 13)] (0, 14, 21, 15) [] X hq (dg dt_L_linear 7 rfl) cb_Q_linear cv_Q_linear w_432 (s_Q_linear htr () ad _ _ _ _ _ hf) rfl ⟨Nat.le_of_ble_eq_true rfl, Nat.le_of_ble_eq_true rfl⟩ sh_0 rfl (Nat.le_of_ble_eq_true rfl) rfl (List.forall_mem_cons.mpr ⟨⟨_, by decide, w_319, fun U h => h.2.2⟩, (fun _ h => absurd h List.not_mem_nil)⟩) (by decide) (by decide) w_320 w_405 (fun q => ?_)
      refine G_astore (pc := 21) X (dg dt_L_linear 14 rfl) (Nat.le_of_ble_eq_true rfl) rfl ?_
      refine G_iconst (pc := 23) 2 X (dg dt_L_linear 15 rfl) (by decide) ?_
      exact G_wret (pc := 24) (cs := (1, 6)) X hq (dg dt_L_linear 16 rfl) (by decide) rfl
    | 0, hf, h => cases h
    | 1, hf, h => cases h
    | n + 4, hf, h => cases h
set_option maxRecDepth 100000 in
set_option maxHeartbeats 4000000 in
theorem s_L_logic {l : Launch} (htr : l.stackTraces = false) (ad : Nat → Nat) (σ : St) (p1 : Int32) {k : Int32} {σe : St} (h : fw_logic σ p1 = some (k, σe)) : RtW l yL_logic cL_logic 4 [(0, 9, 12, 24)] 8 179 (g_SH, ad) [.ref (ad 0), .int p1, .ref (ad 103)] σ k σe := by
  refine RtW.intro (L := [some (.ref (ad 0)), some (.int p1), some (.ref (ad 103)), none]) (by decide +kernel) (Nat.le_of_ble_eq_true rfl) rfl (fun θ hl X hq => ?_)
  subst hl
  unfold fw_logic wv at h
  refine G_aload_n (pc := 0) 2 X (dg dt_L_logic 0 rfl) rfl rfl ?_
  refine G_iconst (pc := 1) 0 X (dg dt_L_logic 1 rfl) (by decide) ?_
  refine G_aload_n (pc := 2) 0 X (dg dt_L_logic 2 rfl) rfl rfl ?_
  refine G_iload_n (pc := 3) 1 X (dg dt_L_logic 3 rfl) rfl rfl ?_
  generalize hf : f_Q_logic σ p1 = o at h
  match o, hf, h with
  | none, hf, h => cases h
  | some (.ok v, σ1), hf, h =>
    cases h
    refine G_callV (pc := 4) (S := [.int 0, .ref (ad 103)]) [.int p1] (fun _ h => h) X (dg dt_L_logic 4 rfl) cb_Q_logic cv_Q_logic w_745 (s_Q_logic htr () ad _ _ hf) rfl ⟨Nat.le_of_ble_eq_true rfl, Nat.le_of_ble_eq_true rfl⟩ sh_0 rfl (Nat.le_of_ble_eq_true rfl) Rc0 ?_
    refine G_i2l (pc := 7) X (dg dt_L_logic 5 rfl) ?_
    refine G_last (pc := 8) X (dg dt_L_logic 6 rfl) sh_103 (by decide) ?_
    refine G_goto (pc := 9) 15 X (dg dt_L_logic 7 rfl) (by decide) ?_
    refine G_iconst (pc := 15) 0 X (dg dt_L_logic 11 rfl) (by decide) ?_
    exact G_wret (pc := 16) (cs := (0, 0)) X hq (dg dt_L_logic 12 rfl) (by decide) rfl
  | some (.error e, σ1), hf, h =>
    match e, hf, h with
    | 1, hf, h =>
      cases h
      refine G_callVC (pc := 4) (S := [.int 0, .ref (ad 103)]) (e := 1) [.int p1] [] (0, 9, 12, 24) [] X hq (dg dt_L_logic 4 rfl) cb_Q_logic cv_Q_logic w_745 (s_Q_logic htr () ad _ _ hf) rfl ⟨Nat.le_of_ble_eq_true rfl, Nat.le_of_ble_eq_true rfl⟩ sh_0 rfl (Nat.le_of_ble_eq_true rfl) rfl (fun _ h => absurd h List.not_mem_nil) (by decide) (by decide) w_457 w_468 (fun q => ?_)
      refine G_astore_n (pc := 12) 3 X (dg dt_L_logic 8 rfl) rfl (Nat.le_of_ble_eq_true rfl) rfl ?_
      refine G_iconst (pc := 13) 1 X (dg dt_L_logic 9 rfl) (by decide) ?_
      exact G_wret (pc := 14) (cs := (1, 6)) X hq (dg dt_L_logic 10 rfl) (by decide) rfl
    | 0, hf, h => cases h
    | 2, hf, h => cases h
    | 3, hf, h => cases h
    | n + 4, hf, h => cases h
set_option maxRecDepth 100000 in
set_option maxHeartbeats 4000000 in
theorem s_L_mate {l : Launch} (htr : l.stackTraces = false) (ad : Nat → Nat) (σ : St) (p1 : Int32) {k : Int32} {σe : St} (h : fw_mate σ p1 = some (k, σe)) : RtW l yL_mate cL_mate 4 [(0, 9, 12, 24), (0, 9, 15, 15)] 47 1199 (g_SH, ad) [.ref (ad 0), .int p1, .ref (ad 103)] σ k σe := by
  refine RtW.intro (L := [some (.ref (ad 0)), some (.int p1), some (.ref (ad 103)), none]) (by decide +kernel) (Nat.le_of_ble_eq_true rfl) rfl (fun θ hl X hq => ?_)
  subst hl
  unfold fw_mate wv at h
  refine G_aload_n (pc := 0) 2 X (dg dt_L_mate 0 rfl) rfl rfl ?_
  refine G_iconst (pc := 1) 0 X (dg dt_L_mate 1 rfl) (by decide) ?_
  refine G_aload_n (pc := 2) 0 X (dg dt_L_mate 2 rfl) rfl rfl ?_
  refine G_iload_n (pc := 3) 1 X (dg dt_L_mate 3 rfl) rfl rfl ?_
  generalize hf : f_Q_mate σ p1 = o at h
  match o, hf, h with
  | none, hf, h => cases h
  | some (.ok v, σ1), hf, h =>
    cases h
    refine G_callV (pc := 4) (S := [.int 0, .ref (ad 103)]) [.int p1] (fun _ h => h) X (dg dt_L_mate 4 rfl) cb_Q_mate cv_Q_mate w_1007 (s_Q_mate htr () ad _ _ hf) rfl ⟨Nat.le_of_ble_eq_true rfl, Nat.le_of_ble_eq_true rfl⟩ sh_0 rfl (Nat.le_of_ble_eq_true rfl) Rc0 ?_
    refine G_i2l (pc := 7) X (dg dt_L_mate 5 rfl) ?_
    refine G_last (pc := 8) X (dg dt_L_mate 6 rfl) sh_103 (by decide) ?_
    refine G_goto (pc := 9) 18 X (dg dt_L_mate 7 rfl) (by decide) ?_
    refine G_iconst (pc := 18) 0 X (dg dt_L_mate 14 rfl) (by decide) ?_
    exact G_wret (pc := 19) (cs := (0, 0)) X hq (dg dt_L_mate 15 rfl) (by decide) rfl
  | some (.error e, σ1), hf, h =>
    match e, hf, h with
    | 1, hf, h =>
      cases h
      refine G_callVC (pc := 4) (S := [.int 0, .ref (ad 103)]) (e := 1) [.int p1] [] (0, 9, 12, 24) [(0, 9, 15, 15)] X hq (dg dt_L_mate 4 rfl) cb_Q_mate cv_Q_mate w_1007 (s_Q_mate htr () ad _ _ hf) rfl ⟨Nat.le_of_ble_eq_true rfl, Nat.le_of_ble_eq_true rfl⟩ sh_0 rfl (Nat.le_of_ble_eq_true rfl) rfl (fun _ h => absurd h List.not_mem_nil) (by decide) (by decide) w_457 w_468 (fun q => ?_)
      refine G_astore_n (pc := 12) 3 X (dg dt_L_mate 8 rfl) rfl (Nat.le_of_ble_eq_true rfl) rfl ?_
      refine G_iconst (pc := 13) 1 X (dg dt_L_mate 9 rfl) (by decide) ?_
      exact G_wret (pc := 14) (cs := (1, 6)) X hq (dg dt_L_mate 10 rfl) (by decide) rfl
    | 3, hf, h =>
      cases h
      refine G_callVC (pc := 4) (S := [.int 0, .ref (ad 103)]) (e := 3) [.int p1] [(0, 9, 12, 24)] (0, 9, 15, 15) [] X hq (dg dt_L_mate 4 rfl) cb_Q_mate cv_Q_mate w_1007 (s_Q_mate htr () ad _ _ hf) rfl ⟨Nat.le_of_ble_eq_true rfl, Nat.le_of_ble_eq_true rfl⟩ sh_0 rfl (Nat.le_of_ble_eq_true rfl) rfl (List.forall_mem_cons.mpr ⟨⟨_, by decide, w_457, fun U h => h.2.1⟩, (fun _ h => absurd h List.not_mem_nil)⟩) (by decide) (by decide) w_320 w_405 (fun q => ?_)
      refine G_astore_n (pc := 15) 3 X (dg dt_L_mate 11 rfl) rfl (Nat.le_of_ble_eq_true rfl) rfl ?_
      refine G_iconst (pc := 16) 2 X (dg dt_L_mate 12 rfl) (by decide) ?_
      exact G_wret (pc := 17) (cs := (1, 6)) X hq (dg dt_L_mate 13 rfl) (by decide) rfl
    | 0, hf, h => cases h
    | 2, hf, h => cases h
    | n + 4, hf, h => cases h
set_option maxRecDepth 100000 in
set_option maxHeartbeats 4000000 in
theorem s_L_mates {l : Launch} (htr : l.stackTraces = false) (ad : Nat → Nat) (σ : St) (p1 : Int32) {k : Int32} {σe : St} (h : fw_mates σ p1 = some (k, σe)) : RtW l yL_mates cL_mates 4 [(0, 9, 12, 24), (0, 9, 15, 15)] 47 1199 (g_SH, ad) [.ref (ad 0), .int p1, .ref (ad 103)] σ k σe := by
  refine RtW.intro (L := [some (.ref (ad 0)), some (.int p1), some (.ref (ad 103)), none]) (by decide +kernel) (Nat.le_of_ble_eq_true rfl) rfl (fun θ hl X hq => ?_)
  subst hl
  unfold fw_mates wv at h
  refine G_aload_n (pc := 0) 2 X (dg dt_L_mates 0 rfl) rfl rfl ?_
  refine G_iconst (pc := 1) 0 X (dg dt_L_mates 1 rfl) (by decide) ?_
  refine G_aload_n (pc := 2) 0 X (dg dt_L_mates 2 rfl) rfl rfl ?_
  refine G_iload_n (pc := 3) 1 X (dg dt_L_mates 3 rfl) rfl rfl ?_
  generalize hf : f_Q_mates σ p1 = o at h
  match o, hf, h with
  | none, hf, h => cases h
  | some (.ok v, σ1), hf, h =>
    cases h
    refine G_callV (pc := 4) (S := [.int 0, .ref (ad 103)]) [.int p1] (fun _ h => h) X (dg dt_L_mates 4 rfl) cb_Q_mates cv_Q_mates w_980 (s_Q_mates htr () ad _ _ hf) rfl ⟨Nat.le_of_ble_eq_true rfl, Nat.le_of_ble_eq_true rfl⟩ sh_0 rfl (Nat.le_of_ble_eq_true rfl) Rc0 ?_
    refine G_i2l (pc := 7) X (dg dt_L_mates 5 rfl) ?_
    refine G_last (pc := 8) X (dg dt_L_mates 6 rfl) sh_103 (by decide) ?_
    refine G_goto (pc := 9) 18 X (dg dt_L_mates 7 rfl) (by decide) ?_
    refine G_iconst (pc := 18) 0 X (dg dt_L_mates 14 rfl) (by decide) ?_
    exact G_wret (pc := 19) (cs := (0, 0)) X hq (dg dt_L_mates 15 rfl) (by decide) rfl
  | some (.error e, σ1), hf, h =>
    match e, hf, h with
    | 1, hf, h =>
      cases h
      refine G_callVC (pc := 4) (S := [.int 0, .ref (ad 103)]) (e := 1) [.int p1] [] (0, 9, 12, 24) [(0, 9, 15, 15)] X hq (dg dt_L_mates 4 rfl) cb_Q_mates cv_Q_mates w_980 (s_Q_mates htr () ad _ _ hf) rfl ⟨Nat.le_of_ble_eq_true rfl, Nat.le_of_ble_eq_true rfl⟩ sh_0 rfl (Nat.le_of_ble_eq_true rfl) rfl (fun _ h => absurd h List.not_mem_nil) (by decide) (by decide) w_457 w_468 (fun q => ?_)
      refine G_astore_n (pc := 12) 3 X (dg dt_L_mates 8 rfl) rfl (Nat.le_of_ble_eq_true rfl) rfl ?_
      refine G_iconst (pc := 13) 1 X (dg dt_L_mates 9 rfl) (by decide) ?_
      exact G_wret (pc := 14) (cs := (1, 6)) X hq (dg dt_L_mates 10 rfl) (by decide) rfl
    | 3, hf, h =>
      cases h
      refine G_callVC (pc := 4) (S := [.int 0, .ref (ad 103)]) (e := 3) [.int p1] [(0, 9, 12, 24)] (0, 9, 15, 15) [] X hq (dg dt_L_mates 4 rfl) cb_Q_mates cv_Q_mates w_980 (s_Q_mates htr () ad _ _ hf) rfl ⟨Nat.le_of_ble_eq_true rfl, Nat.le_of_ble_eq_true rfl⟩ sh_0 rfl (Nat.le_of_ble_eq_true rfl) rfl (List.forall_mem_cons.mpr ⟨⟨_, by decide, w_457, fun U h => h.2.1⟩, (fun _ h => absurd h List.not_mem_nil)⟩) (by decide) (by decide) w_320 w_405 (fun q => ?_)
      refine G_astore_n (pc := 15) 3 X (dg dt_L_mates 11 rfl) rfl (Nat.le_of_ble_eq_true rfl) rfl ?_
      refine G_iconst (pc := 16) 2 X (dg dt_L_mates 12 rfl) (by decide) ?_
      exact G_wret (pc := 17) (cs := (1, 6)) X hq (dg dt_L_mates 13 rfl) (by decide) rfl
    | 0, hf, h => cases h
    | 2, hf, h => cases h
    | n + 4, hf, h => cases h
set_option maxRecDepth 100000 in
set_option maxHeartbeats 4000000 in
theorem s_L_nucleus {l : Launch} (htr : l.stackTraces = false) (ad : Nat → Nat) (σ : St) (p1 : Int32) (p2 : Int32) {k : Int32} {σe : St} (h : fw_nucleus σ p1 p2 = some (k, σe)) : RtW l yL_nucleus cL_nucleus 5 [(0, 10, 13, 24), (0, 10, 17, 13), (0, 10, 21, 15)] 8 181 (g_SH, ad) [.ref (ad 0), .int p1, .int p2, .ref (ad 103)] σ k σe := by
  refine RtW.intro (L := [some (.ref (ad 0)), some (.int p1), some (.int p2), some (.ref (ad 103)), none]) (by decide +kernel) (Nat.le_of_ble_eq_true rfl) rfl (fun θ hl X hq => ?_)
  subst hl
  unfold fw_nucleus wv at h
  refine G_aload_n (pc := 0) 3 X (dg dt_L_nucleus 0 rfl) rfl rfl ?_
  refine G_iconst (pc := 1) 0 X (dg dt_L_nucleus 1 rfl) (by decide) ?_
  refine G_aload_n (pc := 2) 0 X (dg dt_L_nucleus 2 rfl) rfl rfl ?_
  refine G_iload_n (pc := 3) 1 X (dg dt_L_nucleus 3 rfl) rfl rfl ?_
  refine G_iload_n (pc := 4) 2 X (dg dt_L_nucleus 4 rfl) rfl rfl ?_
  generalize hf : f_Q_nucleus σ p1 p2 = o at h
  match o, hf, h with
  | none, hf, h => cases h
  | some (.ok v, σ1), hf, h =>
    cases h
    refine G_callV (pc := 5) (S := [.int 0, .ref (ad 103)]) [.int p1, .int p2] (fun _ h => h) X (dg dt_L_nucleus 5 rfl) cb_Q_nucleus cv_Q_nucleus w_847 (s_Q_nucleus htr () ad _ _ _ hf) rfl ⟨Nat.le_of_ble_eq_true rfl, Nat.le_of_ble_eq_true rfl⟩ sh_0 rfl (Nat.le_of_ble_eq_true rfl) Rc0 ?_
    refine G_i2l (pc := 8) X (dg dt_L_nucleus 6 rfl) ?_
    refine G_last (pc := 9) X (dg dt_L_nucleus 7 rfl) sh_103 (by decide) ?_
    refine G_goto (pc := 10) 25 X (dg dt_L_nucleus 8 rfl) (by decide) ?_
    refine G_iconst (pc := 25) 0 X (dg dt_L_nucleus 18 rfl) (by decide) ?_
    exact G_wret (pc := 26) (cs := (0, 0)) X hq (dg dt_L_nucleus 19 rfl) (by decide) rfl
  | some (.error e, σ1), hf, h =>
    match e, hf, h with
    | 1, hf, h =>
      cases h
      refine G_callVC (pc := 5) (S := [.int 0, .ref (ad 103)]) (e := 1) [.int p1, .int p2] [] (0, 10, 13, 24) [(0, 10, 17, 13), (0, 10, 21, 15)] X hq (dg dt_L_nucleus 5 rfl) cb_Q_nucleus cv_Q_nucleus w_847 (s_Q_nucleus htr () ad _ _ _ hf) rfl ⟨Nat.le_of_ble_eq_true rfl, Nat.le_of_ble_eq_true rfl⟩ sh_0 rfl (Nat.le_of_ble_eq_true rfl) rfl (fun _ h => absurd h List.not_mem_nil) (by decide) (by decide) w_457 w_468 (fun q => ?_)
      refine G_astore (pc := 13) X (dg dt_L_nucleus 9 rfl) (Nat.le_of_ble_eq_true rfl) rfl ?_
      refine G_iconst (pc := 15) 1 X (dg dt_L_nucleus 10 rfl) (by decide) ?_
      exact G_wret (pc := 16) (cs := (1, 6)) X hq (dg dt_L_nucleus 11 rfl) (by decide) rfl
    | 2, hf, h =>
      cases h
      refine G_callVC (pc := 5) (S := [.int 0, .ref (ad 103)]) (e := 2) [.int p1, .int p2] [(0, 10, 13, 24)] (0, 10, 17, 13) [(0, 10, 21, 15)] X hq (dg dt_L_nucleus 5 rfl) cb_Q_nucleus cv_Q_nucleus w_847 (s_Q_nucleus htr () ad _ _ _ hf) rfl ⟨Nat.le_of_ble_eq_true rfl, Nat.le_of_ble_eq_true rfl⟩ sh_0 rfl (Nat.le_of_ble_eq_true rfl) rfl (List.forall_mem_cons.mpr ⟨⟨_, by decide, w_457, fun U h => h.1⟩, (fun _ h => absurd h List.not_mem_nil)⟩) (by decide) (by decide) w_319 w_333 (fun q => ?_)
      refine G_astore (pc := 17) X (dg dt_L_nucleus 12 rfl) (Nat.le_of_ble_eq_true rfl) rfl ?_
      refine G_iconst (pc := 19) 2 X (dg dt_L_nucleus 13 rfl) (by decide) ?_
      exact G_wret (pc := 20) (cs := (1, 6)) X hq (dg dt_L_nucleus 14 rfl) (by decide) rfl
    | 3, hf, h =>
      cases h
      refine G_callVC (pc := 5) (S := [.int 0, .ref (ad 103)]) (e := 3) [.int p1, .int p2] [(0, 10, 13, 24), (0, 10, 17, 13)] (0, 10, 21, 15) [] X hq (dg dt_L_nucleus 5 rfl) cb_Q_nucleus cv_Q_nucleus w_847 (s_Q_nucleus htr () ad _ _ _ hf) rfl ⟨Nat.le_of_ble_eq_true rfl, Nat.le_of_ble_eq_true rfl⟩ sh_0 rfl (Nat.le_of_ble_eq_true rfl) rfl (List.forall_mem_cons.mpr ⟨⟨_, by decide, w_457, fun U h => h.2.1⟩, (List.forall_mem_cons.mpr ⟨⟨_, by decide, w_319, fun U h => h.2.2⟩, (fun _ h => absurd h List.not_mem_nil)⟩)⟩) (by decide) (by decide) w_320 w_405 (fun q => ?_)
      refine G_astore (pc := 21) X (dg dt_L_nucleus 15 rfl) (Nat.le_of_ble_eq_true rfl) rfl ?_
      refine G_iconst (pc := 23) 3 X (dg dt_L_nucleus 16 rfl) (by decide) ?_
      exact G_wret (pc := 24) (cs := (1, 6)) X hq (dg dt_L_nucleus 17 rfl) (by decide) rfl
    | 0, hf, h => cases h
    | n + 4, hf, h => cases h
set_option maxRecDepth 100000 in
set_option maxHeartbeats 4000000 in
theorem s_L_of {l : Launch} (htr : l.stackTraces = false) (ad : Nat → Nat) (σ : St) (p1 : Int32) (p2 : Int32) {k : Int32} {σe : St} (h : fw_of σ p1 p2 = some (k, σe)) : RtW l yL_of cL_of 5 [(0, 10, 13, 24), (0, 10, 17, 13)] 8 144 (g_SH, ad) [.ref (ad 0), .int p1, .int p2, .ref (ad 103)] σ k σe := by
  refine RtW.intro (L := [some (.ref (ad 0)), some (.int p1), some (.int p2), some (.ref (ad 103)), none]) (by decide +kernel) (Nat.le_of_ble_eq_true rfl) rfl (fun θ hl X hq => ?_)
  subst hl
  unfold fw_of wv at h
  refine G_aload_n (pc := 0) 3 X (dg dt_L_of 0 rfl) rfl rfl ?_
  refine G_iconst (pc := 1) 0 X (dg dt_L_of 1 rfl) (by decide) ?_
  refine G_aload_n (pc := 2) 0 X (dg dt_L_of 2 rfl) rfl rfl ?_
  refine G_iload_n (pc := 3) 1 X (dg dt_L_of 3 rfl) rfl rfl ?_
  refine G_iload_n (pc := 4) 2 X (dg dt_L_of 4 rfl) rfl rfl ?_
  generalize hf : f_Q_of σ p1 p2 = o at h
  match o, hf, h with
  | none, hf, h => cases h
  | some (.ok v, σ1), hf, h =>
    cases h
    refine G_callV (pc := 5) (S := [.int 0, .ref (ad 103)]) [.int p1, .int p2] (fun _ h => h) X (dg dt_L_of 5 rfl) cb_Q_of cv_Q_of w_547 (s_Q_of htr () ad _ _ _ hf) rfl ⟨Nat.le_of_ble_eq_true rfl, Nat.le_of_ble_eq_true rfl⟩ sh_0 rfl (Nat.le_of_ble_eq_true rfl) Rc0 ?_
    refine G_i2l (pc := 8) X (dg dt_L_of 6 rfl) ?_
    refine G_last (pc := 9) X (dg dt_L_of 7 rfl) sh_103 (by decide) ?_
    refine G_goto (pc := 10) 21 X (dg dt_L_of 8 rfl) (by decide) ?_
    refine G_iconst (pc := 21) 0 X (dg dt_L_of 15 rfl) (by decide) ?_
    exact G_wret (pc := 22) (cs := (0, 0)) X hq (dg dt_L_of 16 rfl) (by decide) rfl
  | some (.error e, σ1), hf, h =>
    match e, hf, h with
    | 1, hf, h =>
      cases h
      refine G_callVC (pc := 5) (S := [.int 0, .ref (ad 103)]) (e := 1) [.int p1, .int p2] [] (0, 10, 13, 24) [(0, 10, 17, 13)] X hq (dg dt_L_of 5 rfl) cb_Q_of cv_Q_of w_547 (s_Q_of htr () ad _ _ _ hf) rfl ⟨Nat.le_of_ble_eq_true rfl, Nat.le_of_ble_eq_true rfl⟩ sh_0 rfl (Nat.le_of_ble_eq_true rfl) rfl (fun _ h => absurd h List.not_mem_nil) (by decide) (by decide) w_457 w_468 (fun q => ?_)
      refine G_astore (pc := 13) X (dg dt_L_of 9 rfl) (Nat.le_of_ble_eq_true rfl) rfl ?_
      refine G_iconst (pc := 15) 1 X (dg dt_L_of 10 rfl) (by decide) ?_
      exact G_wret (pc := 16) (cs := (1, 6)) X hq (dg dt_L_of 11 rfl) (by decide) rfl
    | 2, hf, h =>
      cases h
      refine G_callVC (pc := 5) (S := [.int 0, .ref (ad 103)]) (e := 2) [.int p1, .int p2] [(0, 10, 13, 24)] (0, 10, 17, 13) [] X hq (dg dt_L_of 5 rfl) cb_Q_of cv_Q_of w_547 (s_Q_of htr () ad _ _ _ hf) rfl ⟨Nat.le_of_ble_eq_true rfl, Nat.le_of_ble_eq_true rfl⟩ sh_0 rfl (Nat.le_of_ble_eq_true rfl) rfl (List.forall_mem_cons.mpr ⟨⟨_, by decide, w_457, fun U h => h.1⟩, (fun _ h => absurd h List.not_mem_nil)⟩) (by decide) (by decide) w_319 w_333 (fun q => ?_)
      refine G_astore (pc := 17) X (dg dt_L_of 12 rfl) (Nat.le_of_ble_eq_true rfl) rfl ?_
      refine G_iconst (pc := 19) 2 X (dg dt_L_of 13 rfl) (by decide) ?_
      exact G_wret (pc := 20) (cs := (1, 6)) X hq (dg dt_L_of 14 rfl) (by decide) rfl
    | 0, hf, h => cases h
    | 3, hf, h => cases h
    | n + 4, hf, h => cases h
set_option maxRecDepth 100000 in
set_option maxHeartbeats 4000000 in
theorem s_L_parity {l : Launch} (htr : l.stackTraces = false) (ad : Nat → Nat) (σ : St) (p1 : Int32) (p2 : Int32) {k : Int32} {σe : St} (h : fw_parity σ p1 p2 = some (k, σe)) : RtW l yL_parity cL_parity 5 [(0, 10, 13, 24), (0, 10, 17, 13), (0, 10, 21, 15)] 8 159 (g_SH, ad) [.ref (ad 0), .int p1, .int p2, .ref (ad 103)] σ k σe := by
  refine RtW.intro (L := [some (.ref (ad 0)), some (.int p1), some (.int p2), some (.ref (ad 103)), none]) (by decide +kernel) (Nat.le_of_ble_eq_true rfl) rfl (fun θ hl X hq => ?_)
  subst hl
  unfold fw_parity wv at h
  refine G_aload_n (pc := 0) 3 X (dg dt_L_parity 0 rfl) rfl rfl ?_
  refine G_iconst (pc := 1) 0 X (dg dt_L_parity 1 rfl) (by decide) ?_
  refine G_aload_n (pc := 2) 0 X (dg dt_L_parity 2 rfl) rfl rfl ?_
  refine G_iload_n (pc := 3) 1 X (dg dt_L_parity 3 rfl) rfl rfl ?_
  refine G_iload_n (pc := 4) 2 X (dg dt_L_parity 4 rfl) rfl rfl ?_
  generalize hf : f_Q_parity σ p1 p2 = o at h
  match o, hf, h with
  | none, hf, h => cases h
  | some (.ok v, σ1), hf, h =>
    cases h
    refine G_callV (pc := 5) (S := [.int 0, .ref (ad 103)]) [.int p1, .int p2] (fun _ h => h) X (dg dt_L_parity 5 rfl) cb_Q_parity cv_Q_parity w_1025 (s_Q_parity htr () ad _ _ _ hf) rfl ⟨Nat.le_of_ble_eq_true rfl, Nat.le_of_ble_eq_true rfl⟩ sh_0 rfl (Nat.le_of_ble_eq_true rfl) Rc0 ?_
    refine G_i2l (pc := 8) X (dg dt_L_parity 6 rfl) ?_
    refine G_last (pc := 9) X (dg dt_L_parity 7 rfl) sh_103 (by decide) ?_
    refine G_goto (pc := 10) 25 X (dg dt_L_parity 8 rfl) (by decide) ?_
    refine G_iconst (pc := 25) 0 X (dg dt_L_parity 18 rfl) (by decide) ?_
    exact G_wret (pc := 26) (cs := (0, 0)) X hq (dg dt_L_parity 19 rfl) (by decide) rfl
  | some (.error e, σ1), hf, h =>
    match e, hf, h with
    | 1, hf, h =>
      cases h
      refine G_callVC (pc := 5) (S := [.int 0, .ref (ad 103)]) (e := 1) [.int p1, .int p2] [] (0, 10, 13, 24) [(0, 10, 17, 13), (0, 10, 21, 15)] X hq (dg dt_L_parity 5 rfl) cb_Q_parity cv_Q_parity w_1025 (s_Q_parity htr () ad _ _ _ hf) rfl ⟨Nat.le_of_ble_eq_true rfl, Nat.le_of_ble_eq_true rfl⟩ sh_0 rfl (Nat.le_of_ble_eq_true rfl) rfl (fun _ h => absurd h List.not_mem_nil) (by decide) (by decide) w_457 w_468 (fun q => ?_)
      refine G_astore (pc := 13) X (dg dt_L_parity 9 rfl) (Nat.le_of_ble_eq_true rfl) rfl ?_
      refine G_iconst (pc := 15) 1 X (dg dt_L_parity 10 rfl) (by decide) ?_
      exact G_wret (pc := 16) (cs := (1, 6)) X hq (dg dt_L_parity 11 rfl) (by decide) rfl
    | 2, hf, h =>
      cases h
      refine G_callVC (pc := 5) (S := [.int 0, .ref (ad 103)]) (e := 2) [.int p1, .int p2] [(0, 10, 13, 24)] (0, 10, 17, 13) [(0, 10, 21, 15)] X hq (dg dt_L_parity 5 rfl) cb_Q_parity cv_Q_parity w_1025 (s_Q_parity htr () ad _ _ _ hf) rfl ⟨Nat.le_of_ble_eq_true rfl, Nat.le_of_ble_eq_true rfl⟩ sh_0 rfl (Nat.le_of_ble_eq_true rfl) rfl (List.forall_mem_cons.mpr ⟨⟨_, by decide, w_457, fun U h => h.1⟩, (fun _ h => absurd h List.not_mem_nil)⟩) (by decide) (by decide) w_319 w_333 (fun q => ?_)
      refine G_astore (pc := 17) X (dg dt_L_parity 12 rfl) (Nat.le_of_ble_eq_true rfl) rfl ?_
      refine G_iconst (pc := 19) 2 X (dg dt_L_parity 13 rfl) (by decide) ?_
      exact G_wret (pc := 20) (cs := (1, 6)) X hq (dg dt_L_parity 14 rfl) (by decide) rfl
    | 3, hf, h =>
      cases h
      refine G_callVC (pc := 5) (S := [.int 0, .ref (ad 103)]) (e := 3) [.int p1, .int p2] [(0, 10, 13, 24), (0, 10, 17, 13)] (0, 10, 21, 15) [] X hq (dg dt_L_parity 5 rfl) cb_Q_parity cv_Q_parity w_1025 (s_Q_parity htr () ad _ _ _ hf) rfl ⟨Nat.le_of_ble_eq_true rfl, Nat.le_of_ble_eq_true rfl⟩ sh_0 rfl (Nat.le_of_ble_eq_true rfl) rfl (List.forall_mem_cons.mpr ⟨⟨_, by decide, w_457, fun U h => h.2.1⟩, (List.forall_mem_cons.mpr ⟨⟨_, by decide, w_319, fun U h => h.2.2⟩, (fun _ h => absurd h List.not_mem_nil)⟩)⟩) (by decide) (by decide) w_320 w_405 (fun q => ?_)
      refine G_astore (pc := 21) X (dg dt_L_parity 15 rfl) (Nat.le_of_ble_eq_true rfl) rfl ?_
      refine G_iconst (pc := 23) 3 X (dg dt_L_parity 16 rfl) (by decide) ?_
      exact G_wret (pc := 24) (cs := (1, 6)) X hq (dg dt_L_parity 17 rfl) (by decide) rfl
    | 0, hf, h => cases h
    | n + 4, hf, h => cases h
set_option maxRecDepth 100000 in
set_option maxHeartbeats 4000000 in
theorem s_L_put {l : Launch} (htr : l.stackTraces = false) (ad : Nat → Nat) (σ : St) (p1 : Int32) (p2 : Int32) (p3 : Int32) (p4 : Int32) {k : Int32} {σe : St} (h : fw_put σ p1 p2 p3 p4 = some (k, σe)) : RtW l yL_put cL_put 7 [(0, 14, 17, 24), (0, 14, 21, 13), (0, 14, 25, 15)] 8 148 (g_SH, ad) [.ref (ad 0), .int p1, .int p2, .int p3, .int p4, .ref (ad 103)] σ k σe := by
  refine RtW.intro (L := [some (.ref (ad 0)), some (.int p1), some (.int p2), some (.int p3), some (.int p4), some (.ref (ad 103)), none]) (by decide +kernel) (Nat.le_of_ble_eq_true rfl) rfl (fun θ hl X hq => ?_)
  subst hl
  unfold fw_put wv at h
  refine G_aload (pc := 0) X (dg dt_L_put 0 rfl) rfl ?_
  refine G_iconst (pc := 2) 0 X (dg dt_L_put 1 rfl) (by decide) ?_
  refine G_aload_n (pc := 3) 0 X (dg dt_L_put 2 rfl) rfl rfl ?_
  refine G_iload_n (pc := 4) 1 X (dg dt_L_put 3 rfl) rfl rfl ?_
  refine G_iload_n (pc := 5) 2 X (dg dt_L_put 4 rfl) rfl rfl ?_
  refine G_iload_n (pc := 6) 3 X (dg dt_L_put 5 rfl) rfl rfl ?_
  refine G_iload (pc := 7) X (dg dt_L_put 6 rfl) rfl ?_
  generalize hf : f_Q_put σ p1 p2 p3 p4 = o at h
  match o, hf, h with
  | none, hf, h => cases h
  | some (.ok v, σ1), hf, h =>
    cases h
    refine G_callV (pc := 9) (S := [.int 0, .ref (ad 103)]) [.int p1, .int p2, .int p3, .int p4] (fun _ h => h) X (dg dt_L_put 7 rfl) cb_Q_put cv_Q_put w_458 (s_Q_put htr () ad _ _ _ _ _ hf) rfl ⟨Nat.le_of_ble_eq_true rfl, Nat.le_of_ble_eq_true rfl⟩ sh_0 rfl (Nat.le_of_ble_eq_true rfl) Rc0 ?_
    refine G_i2l (pc := 12) X (dg dt_L_put 8 rfl) ?_
    refine G_last (pc := 13) X (dg dt_L_put 9 rfl) sh_103 (by decide) ?_
    refine G_goto (pc := 14) 29 X (dg dt_L_put 10 rfl) (by decide) ?_
    refine G_iconst (pc := 29) 0 X (dg dt_L_put 20 rfl) (by decide) ?_
    exact G_wret (pc := 30) (cs := (0, 0)) X hq (dg dt_L_put 21 rfl) (by decide) rfl
  | some (.error e, σ1), hf, h =>
    match e, hf, h with
    | 1, hf, h =>
      cases h
      refine G_callVC (pc := 9) (S := [.int 0, .ref (ad 103)]) (e := 1) [.int p1, .int p2, .int p3, .int p4] [] (0, 14, 17, 24) [(0, 14, 21, 13), (0, 14, 25, 15)] X hq (dg dt_L_put 7 rfl) cb_Q_put cv_Q_put w_458 (s_Q_put htr () ad _ _ _ _ _ hf) rfl ⟨Nat.le_of_ble_eq_true rfl, Nat.le_of_ble_eq_true rfl⟩ sh_0 rfl (Nat.le_of_ble_eq_true rfl) rfl (fun _ h => absurd h List.not_mem_nil) (by decide) (by decide) w_457 w_468 (fun q => ?_)
      refine G_astore (pc := 17) X (dg dt_L_put 11 rfl) (Nat.le_of_ble_eq_true rfl) rfl ?_
      refine G_iconst (pc := 19) 1 X (dg dt_L_put 12 rfl) (by decide) ?_
      exact G_wret (pc := 20) (cs := (1, 6)) X hq (dg dt_L_put 13 rfl) (by decide) rfl
    | 2, hf, h =>
      cases h
      refine G_callVC (pc := 9) (S := [.int 0, .ref (ad 103)]) (e := 2) [.int p1, .int p2, .int p3, .int p4] [(0, 14, 17, 24)] (0, 14, 21, 13) [(0, 14, 25, 15)] X hq (dg dt_L_put 7 rfl) cb_Q_put cv_Q_put w_458 (s_Q_put htr () ad _ _ _ _ _ hf) rfl ⟨Nat.le_of_ble_eq_true rfl, Nat.le_of_ble_eq_true rfl⟩ sh_0 rfl (Nat.le_of_ble_eq_true rfl) rfl (List.forall_mem_cons.mpr ⟨⟨_, by decide, w_457, fun U h => h.1⟩, (fun _ h => absurd h List.not_mem_nil)⟩) (by decide) (by decide) w_319 w_333 (fun q => ?_)
      refine G_astore (pc := 21) X (dg dt_L_put 14 rfl) (Nat.le_of_ble_eq_true rfl) rfl ?_
      refine G_iconst (pc := 23) 2 X (dg dt_L_put 15 rfl) (by decide) ?_
      exact G_wret (pc := 24) (cs := (1, 6)) X hq (dg dt_L_put 16 rfl) (by decide) rfl
    | 3, hf, h =>
      cases h
      refine G_callVC (pc := 9) (S := [.int 0, .ref (ad 103)]) (e := 3) [.int p1, .int p2, .int p3, .int p4] [(0, 14, 17, 24), (0, 14, 21, 13)] (0, 14, 25, 15) [] X hq (dg dt_L_put 7 rfl) cb_Q_put cv_Q_put w_458 (s_Q_put htr () ad _ _ _ _ _ hf) rfl ⟨Nat.le_of_ble_eq_true rfl, Nat.le_of_ble_eq_true rfl⟩ sh_0 rfl (Nat.le_of_ble_eq_true rfl) rfl (List.forall_mem_cons.mpr ⟨⟨_, by decide, w_457, fun U h => h.2.1⟩, (List.forall_mem_cons.mpr ⟨⟨_, by decide, w_319, fun U h => h.2.2⟩, (fun _ h => absurd h List.not_mem_nil)⟩)⟩) (by decide) (by decide) w_320 w_405 (fun q => ?_)
      refine G_astore (pc := 25) X (dg dt_L_put 17 rfl) (Nat.le_of_ble_eq_true rfl) rfl ?_
      refine G_iconst (pc := 27) 3 X (dg dt_L_put 18 rfl) (by decide) ?_
      exact G_wret (pc := 28) (cs := (1, 6)) X hq (dg dt_L_put 19 rfl) (by decide) rfl
    | 0, hf, h => cases h
    | n + 4, hf, h => cases h
set_option maxRecDepth 100000 in
set_option maxHeartbeats 4000000 in
theorem s_L_stir {l : Launch} (htr : l.stackTraces = false) (ad : Nat → Nat) (σ : St) (p1 : Int32) (p2 : Int32) (p3 : Int32) {k : Int32} {σe : St} (h : fw_stir σ p1 p2 p3 = some (k, σe)) : RtW l yL_stir cL_stir 6 [(0, 12, 15, 24), (0, 12, 19, 13), (0, 12, 23, 15)] 8 164 (g_SH, ad) [.ref (ad 0), .int p1, .int p2, .int p3, .ref (ad 103)] σ k σe := by
  refine RtW.intro (L := [some (.ref (ad 0)), some (.int p1), some (.int p2), some (.int p3), some (.ref (ad 103)), none]) (by decide +kernel) (Nat.le_of_ble_eq_true rfl) rfl (fun θ hl X hq => ?_)
  subst hl
  unfold fw_stir wv at h
  refine G_aload (pc := 0) X (dg dt_L_stir 0 rfl) rfl ?_
  refine G_iconst (pc := 2) 0 X (dg dt_L_stir 1 rfl) (by decide) ?_
  refine G_aload_n (pc := 3) 0 X (dg dt_L_stir 2 rfl) rfl rfl ?_
  refine G_iload_n (pc := 4) 1 X (dg dt_L_stir 3 rfl) rfl rfl ?_
  refine G_iload_n (pc := 5) 2 X (dg dt_L_stir 4 rfl) rfl rfl ?_
  refine G_iload_n (pc := 6) 3 X (dg dt_L_stir 5 rfl) rfl rfl ?_
  generalize hf : f_Q_stir σ p1 p2 p3 = o at h
  match o, hf, h with
  | none, hf, h => cases h
  | some (.ok v, σ1), hf, h =>
    cases h
    refine G_callV (pc := 7) (S := [.int 0, .ref (ad 103)]) [.int p1, .int p2, .int p3] (fun _ h => h) X (dg dt_L_stir 6 rfl) cb_Q_stir cv_Q_stir w_597 (s_Q_stir htr () ad _ _ _ _ hf) rfl ⟨Nat.le_of_ble_eq_true rfl, Nat.le_of_ble_eq_true rfl⟩ sh_0 rfl (Nat.le_of_ble_eq_true rfl) Rc0 ?_
    refine G_i2l (pc := 10) X (dg dt_L_stir 7 rfl) ?_
    refine G_last (pc := 11) X (dg dt_L_stir 8 rfl) sh_103 (by decide) ?_
    refine G_goto (pc := 12) 27 X (dg dt_L_stir 9 rfl) (by decide) ?_
    refine G_iconst (pc := 27) 0 X (dg dt_L_stir 19 rfl) (by decide) ?_
    exact G_wret (pc := 28) (cs := (0, 0)) X hq (dg dt_L_stir 20 rfl) (by decide) rfl
  | some (.error e, σ1), hf, h =>
    match e, hf, h with
    | 1, hf, h =>
      cases h
      refine G_callVC (pc := 7) (S := [.int 0, .ref (ad 103)]) (e := 1) [.int p1, .int p2, .int p3] [] (0, 12, 15, 24) [(0, 12, 19, 13), (0, 12, 23, 15)] X hq (dg dt_L_stir 6 rfl) cb_Q_stir cv_Q_stir w_597 (s_Q_stir htr () ad _ _ _ _ hf) rfl ⟨Nat.le_of_ble_eq_true rfl, Nat.le_of_ble_eq_true rfl⟩ sh_0 rfl (Nat.le_of_ble_eq_true rfl) rfl (fun _ h => absurd h List.not_mem_nil) (by decide) (by decide) w_457 w_468 (fun q => ?_)
      refine G_astore (pc := 15) X (dg dt_L_stir 10 rfl) (Nat.le_of_ble_eq_true rfl) rfl ?_
      refine G_iconst (pc := 17) 1 X (dg dt_L_stir 11 rfl) (by decide) ?_
      exact G_wret (pc := 18) (cs := (1, 6)) X hq (dg dt_L_stir 12 rfl) (by decide) rfl
    | 2, hf, h =>
      cases h
      refine G_callVC (pc := 7) (S := [.int 0, .ref (ad 103)]) (e := 2) [.int p1, .int p2, .int p3] [(0, 12, 15, 24)] (0, 12, 19, 13) [(0, 12, 23, 15)] X hq (dg dt_L_stir 6 rfl) cb_Q_stir cv_Q_stir w_597 (s_Q_stir htr () ad _ _ _ _ hf) rfl ⟨Nat.le_of_ble_eq_true rfl, Nat.le_of_ble_eq_true rfl⟩ sh_0 rfl (Nat.le_of_ble_eq_true rfl) rfl (List.forall_mem_cons.mpr ⟨⟨_, by decide, w_457, fun U h => h.1⟩, (fun _ h => absurd h List.not_mem_nil)⟩) (by decide) (by decide) w_319 w_333 (fun q => ?_)
      refine G_astore (pc := 19) X (dg dt_L_stir 13 rfl) (Nat.le_of_ble_eq_true rfl) rfl ?_
      refine G_iconst (pc := 21) 2 X (dg dt_L_stir 14 rfl) (by decide) ?_
      exact G_wret (pc := 22) (cs := (1, 6)) X hq (dg dt_L_stir 15 rfl) (by decide) rfl
    | 3, hf, h =>
      cases h
      refine G_callVC (pc := 7) (S := [.int 0, .ref (ad 103)]) (e := 3) [.int p1, .int p2, .int p3] [(0, 12, 15, 24), (0, 12, 19, 13)] (0, 12, 23, 15) [] X hq (dg dt_L_stir 6 rfl) cb_Q_stir cv_Q_stir w_597 (s_Q_stir htr () ad _ _ _ _ hf) rfl ⟨Nat.le_of_ble_eq_true rfl, Nat.le_of_ble_eq_true rfl⟩ sh_0 rfl (Nat.le_of_ble_eq_true rfl) rfl (List.forall_mem_cons.mpr ⟨⟨_, by decide, w_457, fun U h => h.2.1⟩, (List.forall_mem_cons.mpr ⟨⟨_, by decide, w_319, fun U h => h.2.2⟩, (fun _ h => absurd h List.not_mem_nil)⟩)⟩) (by decide) (by decide) w_320 w_405 (fun q => ?_)
      refine G_astore (pc := 23) X (dg dt_L_stir 16 rfl) (Nat.le_of_ble_eq_true rfl) rfl ?_
      refine G_iconst (pc := 25) 3 X (dg dt_L_stir 17 rfl) (by decide) ?_
      exact G_wret (pc := 26) (cs := (1, 6)) X hq (dg dt_L_stir 18 rfl) (by decide) rfl
    | 0, hf, h => cases h
    | n + 4, hf, h => cases h
set_option maxRecDepth 100000 in
set_option maxHeartbeats 4000000 in
theorem s_L_transversals {l : Launch} (htr : l.stackTraces = false) (ad : Nat → Nat) (σ : St) (p1 : Int32) {k : Int32} {σe : St} (h : fw_transversals σ p1 = some (k, σe)) : RtW l yL_transversals cL_transversals 4 [(0, 9, 12, 24), (0, 9, 15, 15)] 8 143 (g_SH, ad) [.ref (ad 0), .int p1, .ref (ad 103)] σ k σe := by
  refine RtW.intro (L := [some (.ref (ad 0)), some (.int p1), some (.ref (ad 103)), none]) (by decide +kernel) (Nat.le_of_ble_eq_true rfl) rfl (fun θ hl X hq => ?_)
  subst hl
  unfold fw_transversals wv at h
  refine G_aload_n (pc := 0) 2 X (dg dt_L_transversals 0 rfl) rfl rfl ?_
  refine G_iconst (pc := 1) 0 X (dg dt_L_transversals 1 rfl) (by decide) ?_
  refine G_aload_n (pc := 2) 0 X (dg dt_L_transversals 2 rfl) rfl rfl ?_
  refine G_iload_n (pc := 3) 1 X (dg dt_L_transversals 3 rfl) rfl rfl ?_
  generalize hf : f_Q_transversals σ p1 = o at h
  match o, hf, h with
  | none, hf, h => cases h
  | some (.ok v, σ1), hf, h =>
    cases h
    refine G_callV (pc := 4) (S := [.int 0, .ref (ad 103)]) [.int p1] (fun _ h => h) X (dg dt_L_transversals 4 rfl) cb_Q_transversals cv_Q_transversals w_961 (s_Q_transversals htr () ad _ _ hf) rfl ⟨Nat.le_of_ble_eq_true rfl, Nat.le_of_ble_eq_true rfl⟩ sh_0 rfl (Nat.le_of_ble_eq_true rfl) Rc0 ?_
    refine G_i2l (pc := 7) X (dg dt_L_transversals 5 rfl) ?_
    refine G_last (pc := 8) X (dg dt_L_transversals 6 rfl) sh_103 (by decide) ?_
    refine G_goto (pc := 9) 18 X (dg dt_L_transversals 7 rfl) (by decide) ?_
    refine G_iconst (pc := 18) 0 X (dg dt_L_transversals 14 rfl) (by decide) ?_
    exact G_wret (pc := 19) (cs := (0, 0)) X hq (dg dt_L_transversals 15 rfl) (by decide) rfl
  | some (.error e, σ1), hf, h =>
    match e, hf, h with
    | 1, hf, h =>
      cases h
      refine G_callVC (pc := 4) (S := [.int 0, .ref (ad 103)]) (e := 1) [.int p1] [] (0, 9, 12, 24) [(0, 9, 15, 15)] X hq (dg dt_L_transversals 4 rfl) cb_Q_transversals cv_Q_transversals w_961 (s_Q_transversals htr () ad _ _ hf) rfl ⟨Nat.le_of_ble_eq_true rfl, Nat.le_of_ble_eq_true rfl⟩ sh_0 rfl (Nat.le_of_ble_eq_true rfl) rfl (fun _ h => absurd h List.not_mem_nil) (by decide) (by decide) w_457 w_468 (fun q => ?_)
      refine G_astore_n (pc := 12) 3 X (dg dt_L_transversals 8 rfl) rfl (Nat.le_of_ble_eq_true rfl) rfl ?_
      refine G_iconst (pc := 13) 1 X (dg dt_L_transversals 9 rfl) (by decide) ?_
      exact G_wret (pc := 14) (cs := (1, 6)) X hq (dg dt_L_transversals 10 rfl) (by decide) rfl
    | 3, hf, h =>
      cases h
      refine G_callVC (pc := 4) (S := [.int 0, .ref (ad 103)]) (e := 3) [.int p1] [(0, 9, 12, 24)] (0, 9, 15, 15) [] X hq (dg dt_L_transversals 4 rfl) cb_Q_transversals cv_Q_transversals w_961 (s_Q_transversals htr () ad _ _ hf) rfl ⟨Nat.le_of_ble_eq_true rfl, Nat.le_of_ble_eq_true rfl⟩ sh_0 rfl (Nat.le_of_ble_eq_true rfl) rfl (List.forall_mem_cons.mpr ⟨⟨_, by decide, w_457, fun U h => h.2.1⟩, (fun _ h => absurd h List.not_mem_nil)⟩) (by decide) (by decide) w_320 w_405 (fun q => ?_)
      refine G_astore_n (pc := 15) 3 X (dg dt_L_transversals 11 rfl) rfl (Nat.le_of_ble_eq_true rfl) rfl ?_
      refine G_iconst (pc := 16) 2 X (dg dt_L_transversals 12 rfl) (by decide) ?_
      exact G_wret (pc := 17) (cs := (1, 6)) X hq (dg dt_L_transversals 13 rfl) (by decide) rfl
    | 0, hf, h => cases h
    | 2, hf, h => cases h
    | n + 4, hf, h => cases h
set_option maxRecDepth 100000 in
set_option maxHeartbeats 4000000 in
theorem s_L_turn {l : Launch} (htr : l.stackTraces = false) (ad : Nat → Nat) (σ : St) (p1 : Int32) (p2 : Int32) (p3 : Int32) (p4 : Int32) {k : Int32} {σe : St} (h : fw_turn σ p1 p2 p3 p4 = some (k, σe)) : RtW l yL_turn cL_turn 7 [(0, 14, 17, 24), (0, 14, 21, 13), (0, 14, 25, 15)] 8 147 (g_SH, ad) [.ref (ad 0), .int p1, .int p2, .int p3, .int p4, .ref (ad 103)] σ k σe := by
  refine RtW.intro (L := [some (.ref (ad 0)), some (.int p1), some (.int p2), some (.int p3), some (.int p4), some (.ref (ad 103)), none]) (by decide +kernel) (Nat.le_of_ble_eq_true rfl) rfl (fun θ hl X hq => ?_)
  subst hl
  unfold fw_turn wv at h
  refine G_aload (pc := 0) X (dg dt_L_turn 0 rfl) rfl ?_
  refine G_iconst (pc := 2) 0 X (dg dt_L_turn 1 rfl) (by decide) ?_
  refine G_aload_n (pc := 3) 0 X (dg dt_L_turn 2 rfl) rfl rfl ?_
  refine G_iload_n (pc := 4) 1 X (dg dt_L_turn 3 rfl) rfl rfl ?_
  refine G_iload_n (pc := 5) 2 X (dg dt_L_turn 4 rfl) rfl rfl ?_
  refine G_iload_n (pc := 6) 3 X (dg dt_L_turn 5 rfl) rfl rfl ?_
  refine G_iload (pc := 7) X (dg dt_L_turn 6 rfl) rfl ?_
  generalize hf : f_Q_turn σ p1 p2 p3 p4 = o at h
  match o, hf, h with
  | none, hf, h => cases h
  | some (.ok v, σ1), hf, h =>
    cases h
    refine G_callV (pc := 9) (S := [.int 0, .ref (ad 103)]) [.int p1, .int p2, .int p3, .int p4] (fun _ h => h) X (dg dt_L_turn 7 rfl) cb_Q_turn cv_Q_turn w_574 (s_Q_turn htr () ad _ _ _ _ _ hf) rfl ⟨Nat.le_of_ble_eq_true rfl, Nat.le_of_ble_eq_true rfl⟩ sh_0 rfl (Nat.le_of_ble_eq_true rfl) Rc0 ?_
    refine G_i2l (pc := 12) X (dg dt_L_turn 8 rfl) ?_
    refine G_last (pc := 13) X (dg dt_L_turn 9 rfl) sh_103 (by decide) ?_
    refine G_goto (pc := 14) 29 X (dg dt_L_turn 10 rfl) (by decide) ?_
    refine G_iconst (pc := 29) 0 X (dg dt_L_turn 20 rfl) (by decide) ?_
    exact G_wret (pc := 30) (cs := (0, 0)) X hq (dg dt_L_turn 21 rfl) (by decide) rfl
  | some (.error e, σ1), hf, h =>
    match e, hf, h with
    | 1, hf, h =>
      cases h
      refine G_callVC (pc := 9) (S := [.int 0, .ref (ad 103)]) (e := 1) [.int p1, .int p2, .int p3, .int p4] [] (0, 14, 17, 24) [(0, 14, 21, 13), (0, 14, 25, 15)] X hq (dg dt_L_turn 7 rfl) cb_Q_turn cv_Q_turn w_574 (s_Q_turn htr () ad _ _ _ _ _ hf) rfl ⟨Nat.le_of_ble_eq_true rfl, Nat.le_of_ble_eq_true rfl⟩ sh_0 rfl (Nat.le_of_ble_eq_true rfl) rfl (fun _ h => absurd h List.not_mem_nil) (by decide) (by decide) w_457 w_468 (fun q => ?_)
      refine G_astore (pc := 17) X (dg dt_L_turn 11 rfl) (Nat.le_of_ble_eq_true rfl) rfl ?_
      refine G_iconst (pc := 19) 1 X (dg dt_L_turn 12 rfl) (by decide) ?_
      exact G_wret (pc := 20) (cs := (1, 6)) X hq (dg dt_L_turn 13 rfl) (by decide) rfl
    | 2, hf, h =>
      cases h
      refine G_callVC (pc := 9) (S := [.int 0, .ref (ad 103)]) (e := 2) [.int p1, .int p2, .int p3, .int p4] [(0, 14, 17, 24)] (0, 14, 21, 13) [(0, 14, 25, 15)] X hq (dg dt_L_turn 7 rfl) cb_Q_turn cv_Q_turn w_574 (s_Q_turn htr () ad _ _ _ _ _ hf) rfl ⟨Nat.le_of_ble_eq_true rfl, Nat.le_of_ble_eq_true rfl⟩ sh_0 rfl (Nat.le_of_ble_eq_true rfl) rfl (List.forall_mem_cons.mpr ⟨⟨_, by decide, w_457, fun U h => h.1⟩, (fun _ h => absurd h List.not_mem_nil)⟩) (by decide) (by decide) w_319 w_333 (fun q => ?_)
      refine G_astore (pc := 21) X (dg dt_L_turn 14 rfl) (Nat.le_of_ble_eq_true rfl) rfl ?_
      refine G_iconst (pc := 23) 2 X (dg dt_L_turn 15 rfl) (by decide) ?_
      exact G_wret (pc := 24) (cs := (1, 6)) X hq (dg dt_L_turn 16 rfl) (by decide) rfl
    | 3, hf, h =>
      cases h
      refine G_callVC (pc := 9) (S := [.int 0, .ref (ad 103)]) (e := 3) [.int p1, .int p2, .int p3, .int p4] [(0, 14, 17, 24), (0, 14, 21, 13)] (0, 14, 25, 15) [] X hq (dg dt_L_turn 7 rfl) cb_Q_turn cv_Q_turn w_574 (s_Q_turn htr () ad _ _ _ _ _ hf) rfl ⟨Nat.le_of_ble_eq_true rfl, Nat.le_of_ble_eq_true rfl⟩ sh_0 rfl (Nat.le_of_ble_eq_true rfl) rfl (List.forall_mem_cons.mpr ⟨⟨_, by decide, w_457, fun U h => h.2.1⟩, (List.forall_mem_cons.mpr ⟨⟨_, by decide, w_319, fun U h => h.2.2⟩, (fun _ h => absurd h List.not_mem_nil)⟩)⟩) (by decide) (by decide) w_320 w_405 (fun q => ?_)
      refine G_astore (pc := 25) X (dg dt_L_turn 17 rfl) (Nat.le_of_ble_eq_true rfl) rfl ?_
      refine G_iconst (pc := 27) 3 X (dg dt_L_turn 18 rfl) (by decide) ?_
      exact G_wret (pc := 28) (cs := (1, 6)) X hq (dg dt_L_turn 19 rfl) (by decide) rfl
    | 0, hf, h => cases h
    | n + 4, hf, h => cases h
set_option maxRecDepth 100000 in
set_option maxHeartbeats 4000000 in
theorem s_L_type {l : Launch} (htr : l.stackTraces = false) (ad : Nat → Nat) (σ : St) (p1 : Int64) (p3 : Int32) {k : Int32} {σe : St} (h : fw_type σ p1 p3 = some (k, σe)) : RtW l yL_type cL_type 6 [(0, 11, 14, 13), (0, 11, 18, 15)] 8 144 (g_SH, ad) [.ref (ad 0), .long p1, .int p3, .ref (ad 103)] σ k σe := by
  refine RtW.intro (L := [some (.ref (ad 0)), some (.long p1), none, some (.int p3), some (.ref (ad 103)), none]) (by decide +kernel) (Nat.le_of_ble_eq_true rfl) rfl (fun θ hl X hq => ?_)
  subst hl
  unfold fw_type wv at h
  refine G_aload (pc := 0) X (dg dt_L_type 0 rfl) rfl ?_
  refine G_iconst (pc := 2) 0 X (dg dt_L_type 1 rfl) (by decide) ?_
  refine G_aload_n (pc := 3) 0 X (dg dt_L_type 2 rfl) rfl rfl ?_
  refine G_lload_n (pc := 4) 1 X (dg dt_L_type 3 rfl) rfl rfl ?_
  refine G_iload_n (pc := 5) 3 X (dg dt_L_type 4 rfl) rfl rfl ?_
  generalize hf : f_Q_type σ p1 p3 = o at h
  match o, hf, h with
  | none, hf, h => cases h
  | some (.ok v, σ1), hf, h =>
    cases h
    refine G_callV (pc := 6) (S := [.int 0, .ref (ad 103)]) [.long p1, .int p3] (fun _ h => h) X (dg dt_L_type 5 rfl) cb_Q_type cv_Q_type w_792 (s_Q_type htr () ad _ _ _ hf) rfl ⟨Nat.le_of_ble_eq_true rfl, Nat.le_of_ble_eq_true rfl⟩ sh_0 rfl (Nat.le_of_ble_eq_true rfl) Rc0 ?_
    refine G_i2l (pc := 9) X (dg dt_L_type 6 rfl) ?_
    refine G_last (pc := 10) X (dg dt_L_type 7 rfl) sh_103 (by decide) ?_
    refine G_goto (pc := 11) 22 X (dg dt_L_type 8 rfl) (by decide) ?_
    refine G_iconst (pc := 22) 0 X (dg dt_L_type 15 rfl) (by decide) ?_
    exact G_wret (pc := 23) (cs := (0, 0)) X hq (dg dt_L_type 16 rfl) (by decide) rfl
  | some (.error e, σ1), hf, h =>
    match e, hf, h with
    | 2, hf, h =>
      cases h
      refine G_callVC (pc := 6) (S := [.int 0, .ref (ad 103)]) (e := 2) [.long p1, .int p3] [] (0, 11, 14, 13) [(0, 11, 18, 15)] X hq (dg dt_L_type 5 rfl) cb_Q_type cv_Q_type w_792 (s_Q_type htr () ad _ _ _ hf) rfl ⟨Nat.le_of_ble_eq_true rfl, Nat.le_of_ble_eq_true rfl⟩ sh_0 rfl (Nat.le_of_ble_eq_true rfl) rfl (fun _ h => absurd h List.not_mem_nil) (by decide) (by decide) w_319 w_333 (fun q => ?_)
      refine G_astore (pc := 14) X (dg dt_L_type 9 rfl) (Nat.le_of_ble_eq_true rfl) rfl ?_
      refine G_iconst (pc := 16) 1 X (dg dt_L_type 10 rfl) (by decide) ?_
      exact G_wret (pc := 17) (cs := (1, 6)) X hq (dg dt_L_type 11 rfl) (by decide) rfl
    | 3, hf, h =>
      cases h
      refine G_callVC (pc := 6) (S := [.int 0, .ref (ad 103)]) (e := 3) [.long p1, .int p3] [(0, 11, 14, 13)] (0, 11, 18, 15) [] X hq (dg dt_L_type 5 rfl) cb_Q_type cv_Q_type w_792 (s_Q_type htr () ad _ _ _ hf) rfl ⟨Nat.le_of_ble_eq_true rfl, Nat.le_of_ble_eq_true rfl⟩ sh_0 rfl (Nat.le_of_ble_eq_true rfl) rfl (List.forall_mem_cons.mpr ⟨⟨_, by decide, w_319, fun U h => h.2.2⟩, (fun _ h => absurd h List.not_mem_nil)⟩) (by decide) (by decide) w_320 w_405 (fun q => ?_)
      refine G_astore (pc := 18) X (dg dt_L_type 12 rfl) (Nat.le_of_ble_eq_true rfl) rfl ?_
      refine G_iconst (pc := 20) 2 X (dg dt_L_type 13 rfl) (by decide) ?_
      exact G_wret (pc := 21) (cs := (1, 6)) X hq (dg dt_L_type 14 rfl) (by decide) rfl
    | 0, hf, h => cases h
    | 1, hf, h => cases h
    | n + 4, hf, h => cases h
set_option maxRecDepth 100000 in
set_option maxHeartbeats 4000000 in
theorem s_L_unit {l : Launch} (htr : l.stackTraces = false) (ad : Nat → Nat) (σ : St) (p1 : Int32) {k : Int32} {σe : St} (h : fw_unit σ p1 = some (k, σe)) : RtW l yL_unit cL_unit 4 [(0, 9, 12, 24), (0, 9, 15, 15)] 8 143 (g_SH, ad) [.ref (ad 0), .int p1, .ref (ad 103)] σ k σe := by
  refine RtW.intro (L := [some (.ref (ad 0)), some (.int p1), some (.ref (ad 103)), none]) (by decide +kernel) (Nat.le_of_ble_eq_true rfl) rfl (fun θ hl X hq => ?_)
  subst hl
  unfold fw_unit wv at h
  refine G_aload_n (pc := 0) 2 X (dg dt_L_unit 0 rfl) rfl rfl ?_
  refine G_iconst (pc := 1) 0 X (dg dt_L_unit 1 rfl) (by decide) ?_
  refine G_aload_n (pc := 2) 0 X (dg dt_L_unit 2 rfl) rfl rfl ?_
  refine G_iload_n (pc := 3) 1 X (dg dt_L_unit 3 rfl) rfl rfl ?_
  generalize hf : f_Q_unit σ p1 = o at h
  match o, hf, h with
  | none, hf, h => cases h
  | some (.ok v, σ1), hf, h =>
    cases h
    refine G_callV (pc := 4) (S := [.int 0, .ref (ad 103)]) [.int p1] (fun _ h => h) X (dg dt_L_unit 4 rfl) cb_Q_unit cv_Q_unit w_833 (s_Q_unit htr () ad _ _ hf) rfl ⟨Nat.le_of_ble_eq_true rfl, Nat.le_of_ble_eq_true rfl⟩ sh_0 rfl (Nat.le_of_ble_eq_true rfl) Rc0 ?_
    refine G_i2l (pc := 7) X (dg dt_L_unit 5 rfl) ?_
    refine G_last (pc := 8) X (dg dt_L_unit 6 rfl) sh_103 (by decide) ?_
    refine G_goto (pc := 9) 18 X (dg dt_L_unit 7 rfl) (by decide) ?_
    refine G_iconst (pc := 18) 0 X (dg dt_L_unit 14 rfl) (by decide) ?_
    exact G_wret (pc := 19) (cs := (0, 0)) X hq (dg dt_L_unit 15 rfl) (by decide) rfl
  | some (.error e, σ1), hf, h =>
    match e, hf, h with
    | 1, hf, h =>
      cases h
      refine G_callVC (pc := 4) (S := [.int 0, .ref (ad 103)]) (e := 1) [.int p1] [] (0, 9, 12, 24) [(0, 9, 15, 15)] X hq (dg dt_L_unit 4 rfl) cb_Q_unit cv_Q_unit w_833 (s_Q_unit htr () ad _ _ hf) rfl ⟨Nat.le_of_ble_eq_true rfl, Nat.le_of_ble_eq_true rfl⟩ sh_0 rfl (Nat.le_of_ble_eq_true rfl) rfl (fun _ h => absurd h List.not_mem_nil) (by decide) (by decide) w_457 w_468 (fun q => ?_)
      refine G_astore_n (pc := 12) 3 X (dg dt_L_unit 8 rfl) rfl (Nat.le_of_ble_eq_true rfl) rfl ?_
      refine G_iconst (pc := 13) 1 X (dg dt_L_unit 9 rfl) (by decide) ?_
      exact G_wret (pc := 14) (cs := (1, 6)) X hq (dg dt_L_unit 10 rfl) (by decide) rfl
    | 3, hf, h =>
      cases h
      refine G_callVC (pc := 4) (S := [.int 0, .ref (ad 103)]) (e := 3) [.int p1] [(0, 9, 12, 24)] (0, 9, 15, 15) [] X hq (dg dt_L_unit 4 rfl) cb_Q_unit cv_Q_unit w_833 (s_Q_unit htr () ad _ _ hf) rfl ⟨Nat.le_of_ble_eq_true rfl, Nat.le_of_ble_eq_true rfl⟩ sh_0 rfl (Nat.le_of_ble_eq_true rfl) rfl (List.forall_mem_cons.mpr ⟨⟨_, by decide, w_457, fun U h => h.2.1⟩, (fun _ h => absurd h List.not_mem_nil)⟩) (by decide) (by decide) w_320 w_405 (fun q => ?_)
      refine G_astore_n (pc := 15) 3 X (dg dt_L_unit 11 rfl) rfl (Nat.le_of_ble_eq_true rfl) rfl ?_
      refine G_iconst (pc := 16) 2 X (dg dt_L_unit 12 rfl) (by decide) ?_
      exact G_wret (pc := 17) (cs := (1, 6)) X hq (dg dt_L_unit 13 rfl) (by decide) rfl
    | 0, hf, h => cases h
    | 2, hf, h => cases h
    | n + 4, hf, h => cases h
set_option maxRecDepth 100000 in
set_option maxHeartbeats 4000000 in
theorem s_L_wins {l : Launch} (htr : l.stackTraces = false) (ad : Nat → Nat) (σ : St) (p1 : Int32) {k : Int32} {σe : St} (h : fw_wins σ p1 = some (k, σe)) : RtW l yL_wins cL_wins 4 [(0, 9, 12, 24), (0, 9, 15, 15)] 86 2134 (g_SH, ad) [.ref (ad 0), .int p1, .ref (ad 103)] σ k σe := by
  refine RtW.intro (L := [some (.ref (ad 0)), some (.int p1), some (.ref (ad 103)), none]) (by decide +kernel) (Nat.le_of_ble_eq_true rfl) rfl (fun θ hl X hq => ?_)
  subst hl
  unfold fw_wins wv at h
  refine G_aload_n (pc := 0) 2 X (dg dt_L_wins 0 rfl) rfl rfl ?_
  refine G_iconst (pc := 1) 0 X (dg dt_L_wins 1 rfl) (by decide) ?_
  refine G_aload_n (pc := 2) 0 X (dg dt_L_wins 2 rfl) rfl rfl ?_
  refine G_iload_n (pc := 3) 1 X (dg dt_L_wins 3 rfl) rfl rfl ?_
  generalize hf : f_Q_wins σ p1 = o at h
  match o, hf, h with
  | none, hf, h => cases h
  | some (.ok v, σ1), hf, h =>
    cases h
    refine G_callV (pc := 4) (S := [.int 0, .ref (ad 103)]) [.int p1] (fun _ h => h) X (dg dt_L_wins 4 rfl) cb_Q_wins cv_Q_wins w_1039 (s_Q_wins htr () ad _ _ hf) rfl ⟨Nat.le_of_ble_eq_true rfl, Nat.le_of_ble_eq_true rfl⟩ sh_0 rfl (Nat.le_of_ble_eq_true rfl) Rc0 ?_
    refine G_i2l (pc := 7) X (dg dt_L_wins 5 rfl) ?_
    refine G_last (pc := 8) X (dg dt_L_wins 6 rfl) sh_103 (by decide) ?_
    refine G_goto (pc := 9) 18 X (dg dt_L_wins 7 rfl) (by decide) ?_
    refine G_iconst (pc := 18) 0 X (dg dt_L_wins 14 rfl) (by decide) ?_
    exact G_wret (pc := 19) (cs := (0, 0)) X hq (dg dt_L_wins 15 rfl) (by decide) rfl
  | some (.error e, σ1), hf, h =>
    match e, hf, h with
    | 1, hf, h =>
      cases h
      refine G_callVC (pc := 4) (S := [.int 0, .ref (ad 103)]) (e := 1) [.int p1] [] (0, 9, 12, 24) [(0, 9, 15, 15)] X hq (dg dt_L_wins 4 rfl) cb_Q_wins cv_Q_wins w_1039 (s_Q_wins htr () ad _ _ hf) rfl ⟨Nat.le_of_ble_eq_true rfl, Nat.le_of_ble_eq_true rfl⟩ sh_0 rfl (Nat.le_of_ble_eq_true rfl) rfl (fun _ h => absurd h List.not_mem_nil) (by decide) (by decide) w_457 w_468 (fun q => ?_)
      refine G_astore_n (pc := 12) 3 X (dg dt_L_wins 8 rfl) rfl (Nat.le_of_ble_eq_true rfl) rfl ?_
      refine G_iconst (pc := 13) 1 X (dg dt_L_wins 9 rfl) (by decide) ?_
      exact G_wret (pc := 14) (cs := (1, 6)) X hq (dg dt_L_wins 10 rfl) (by decide) rfl
    | 3, hf, h =>
      cases h
      refine G_callVC (pc := 4) (S := [.int 0, .ref (ad 103)]) (e := 3) [.int p1] [(0, 9, 12, 24)] (0, 9, 15, 15) [] X hq (dg dt_L_wins 4 rfl) cb_Q_wins cv_Q_wins w_1039 (s_Q_wins htr () ad _ _ hf) rfl ⟨Nat.le_of_ble_eq_true rfl, Nat.le_of_ble_eq_true rfl⟩ sh_0 rfl (Nat.le_of_ble_eq_true rfl) rfl (List.forall_mem_cons.mpr ⟨⟨_, by decide, w_457, fun U h => h.2.1⟩, (fun _ h => absurd h List.not_mem_nil)⟩) (by decide) (by decide) w_320 w_405 (fun q => ?_)
      refine G_astore_n (pc := 15) 3 X (dg dt_L_wins 11 rfl) rfl (Nat.le_of_ble_eq_true rfl) rfl ?_
      refine G_iconst (pc := 16) 2 X (dg dt_L_wins 12 rfl) (by decide) ?_
      exact G_wret (pc := 17) (cs := (1, 6)) X hq (dg dt_L_wins 13 rfl) (by decide) rfl
    | 0, hf, h => cases h
    | 2, hf, h => cases h
    | n + 4, hf, h => cases h
