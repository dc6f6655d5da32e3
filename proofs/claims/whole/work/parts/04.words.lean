/-! the words of the tables, by their places -/
theorem wc_1 {j : Nat} {q : Cond} (h : tables_1_1[j]? = some q) : q ∈ lw_tbl := List.mem_append_right _ (List.mem_append_left _ (List.mem_of_getElem? h))
theorem wc_2 {j : Nat} {q : Cond} (h : tables_1_2[j]? = some q) : q ∈ lw_tbl := List.mem_append_right _ (List.mem_append_right _ (List.mem_append_left _ (List.mem_of_getElem? h)))
theorem wc_3 {j : Nat} {q : Cond} (h : tables_1_3[j]? = some q) : q ∈ lw_tbl := List.mem_append_right _ (List.mem_append_right _ (List.mem_append_right _ (List.mem_append_left _ (List.mem_of_getElem? h))))
theorem wc_4 {j : Nat} {q : Cond} (h : tables_1_4[j]? = some q) : q ∈ lw_tbl := List.mem_append_right _ (List.mem_append_right _ (List.mem_append_right _ (List.mem_append_right _ (List.mem_append_left _ (List.mem_of_getElem? h)))))
theorem wc_5 {j : Nat} {q : Cond} (h : tables_1_5[j]? = some q) : q ∈ lw_tbl := List.mem_append_right _ (List.mem_append_right _ (List.mem_append_right _ (List.mem_append_right _ (List.mem_append_right _ (List.mem_append_left _ (List.mem_of_getElem? h))))))
theorem wc_6 {j : Nat} {q : Cond} (h : tables_1_6[j]? = some q) : q ∈ lw_tbl := List.mem_append_right _ (List.mem_append_right _ (List.mem_append_right _ (List.mem_append_right _ (List.mem_append_right _ (List.mem_append_right _ (List.mem_append_left _ (List.mem_of_getElem? h)))))))
theorem wc_7 {j : Nat} {q : Cond} (h : tables_1_7[j]? = some q) : q ∈ lw_tbl := List.mem_append_right _ (List.mem_append_right _ (List.mem_append_right _ (List.mem_append_right _ (List.mem_append_right _ (List.mem_append_right _ (List.mem_append_right _ (List.mem_append_left _ (List.mem_of_getElem? h))))))))
theorem wc_8 {j : Nat} {q : Cond} (h : tables_1_8[j]? = some q) : q ∈ lw_tbl := List.mem_append_right _ (List.mem_append_right _ (List.mem_append_right _ (List.mem_append_right _ (List.mem_append_right _ (List.mem_append_right _ (List.mem_append_right _ (List.mem_append_right _ (List.mem_of_getElem? h))))))))
theorem wp_of {i : Nat} {q : MethodName × Nat} (h : lw_privs[i]? = some q) : Cond.selects q.1.cls q.1 q.1 ∈ lw_tbl := List.mem_append_left _ (List.mem_map.mpr ⟨q, List.mem_of_getElem? h, rfl⟩)
set_option maxRecDepth 20000 in
theorem w_0 : (Cond.initialized "SpellScribeLaw") ∈ lw_tbl := wc_1 (j := 0) rfl
set_option maxRecDepth 20000 in
theorem w_1 : (Cond.initialized "SpellScribe") ∈ lw_tbl := wc_1 (j := 1) rfl
set_option maxRecDepth 20000 in
theorem w_2 : (Cond.initialized "SpellScribe$Lexicon") ∈ lw_tbl := wc_1 (j := 2) rfl
set_option maxRecDepth 20000 in
theorem w_3 : (Cond.initialized "java/util/AbstractCollection") ∈ lw_tbl := wc_1 (j := 3) rfl
set_option maxRecDepth 20000 in
theorem w_4 : (Cond.initialized "java/util/AbstractList") ∈ lw_tbl := wc_1 (j := 4) rfl
set_option maxRecDepth 20000 in
theorem w_5 : (Cond.initialized "java/util/ArrayList") ∈ lw_tbl := wc_1 (j := 5) rfl
set_option maxRecDepth 20000 in
theorem w_6 : (Cond.initialized "SpellScribe$WordBook") ∈ lw_tbl := wc_1 (j := 6) rfl
set_option maxRecDepth 20000 in
theorem w_7 : (Cond.initialized "SpellScribe$Row") ∈ lw_tbl := wc_1 (j := 7) rfl
set_option maxRecDepth 20000 in
theorem w_8 : (Cond.initialized "SpellScribe$Suggester") ∈ lw_tbl := wc_1 (j := 8) rfl
set_option maxRecDepth 20000 in
theorem w_9 : (Cond.initialized "SpellScribe$Grammar") ∈ lw_tbl := wc_1 (j := 9) rfl
set_option maxRecDepth 20000 in
theorem w_10 : (Cond.initialized "SpellScribe$Text") ∈ lw_tbl := wc_1 (j := 10) rfl
set_option maxRecDepth 20000 in
theorem w_11 : (Cond.initialized "SpellScribe$History") ∈ lw_tbl := wc_1 (j := 11) rfl
set_option maxRecDepth 20000 in
theorem w_12 : (Cond.initialized "SpellScribe$Proof") ∈ lw_tbl := wc_1 (j := 12) rfl
set_option maxRecDepth 20000 in
theorem w_13 : (Cond.initialized "SpellScribe$Style") ∈ lw_tbl := wc_1 (j := 13) rfl
set_option maxRecDepth 20000 in
theorem w_14 : (Cond.initialized "SpellScribeModel") ∈ lw_tbl := wc_1 (j := 14) rfl
set_option maxRecDepth 20000 in
theorem w_15 : (Cond.initialized "java/lang/Throwable") ∈ lw_tbl := wc_1 (j := 15) rfl
set_option maxRecDepth 20000 in
theorem w_16 : (Cond.initialized "java/lang/Exception") ∈ lw_tbl := wc_1 (j := 16) rfl
set_option maxRecDepth 20000 in
theorem w_17 : (Cond.initialized "java/lang/RuntimeException") ∈ lw_tbl := wc_1 (j := 17) rfl
set_option maxRecDepth 20000 in
theorem w_18 : (Cond.initialized "java/lang/IllegalArgumentException") ∈ lw_tbl := wc_1 (j := 18) rfl
set_option maxRecDepth 20000 in
theorem w_19 : (Cond.initialized "java/lang/IllegalStateException") ∈ lw_tbl := wc_1 (j := 19) rfl
set_option maxRecDepth 20000 in
theorem w_20 : (Cond.initialized "SpellScribe$Stem") ∈ lw_tbl := wc_1 (j := 20) rfl
set_option maxRecDepth 20000 in
theorem w_21 : (Cond.initialized "jdk/internal/util/ArraysSupport") ∈ lw_tbl := wc_1 (j := 21) rfl
set_option maxRecDepth 20000 in
theorem w_22 : (Cond.initialized "java/lang/Math") ∈ lw_tbl := wc_1 (j := 22) rfl
set_option maxRecDepth 20000 in
theorem w_23 : (Cond.initialized "java/util/Arrays") ∈ lw_tbl := wc_1 (j := 23) rfl
set_option maxRecDepth 20000 in
theorem w_24 : (Cond.initialized "java/lang/System") ∈ lw_tbl := wc_1 (j := 24) rfl
set_option maxRecDepth 20000 in
theorem w_25 : (Cond.initialized "java/util/Objects") ∈ lw_tbl := wc_1 (j := 25) rfl
set_option maxRecDepth 20000 in
theorem w_26 : (Cond.initialized "jdk/internal/util/Preconditions") ∈ lw_tbl := wc_1 (j := 26) rfl
set_option maxRecDepth 20000 in
theorem w_27 : (Cond.initialized "SpellScribe$Rule") ∈ lw_tbl := wc_1 (j := 27) rfl
set_option maxRecDepth 20000 in
theorem w_28 : (Cond.initialized "java/lang/IndexOutOfBoundsException") ∈ lw_tbl := wc_1 (j := 28) rfl
set_option maxRecDepth 20000 in
theorem w_29 : (Cond.classLink "SpellScribeLaw" (8 : Nat) "SpellScribe") ∈ lw_tbl := wc_1 (j := 29) rfl
set_option maxRecDepth 20000 in
theorem w_30 : (Cond.instantiable "SpellScribe" (13 : Nat)) ∈ lw_tbl := wc_1 (j := 30) rfl
set_option maxRecDepth 20000 in
theorem w_31 : (Cond.methodLink "SpellScribeLaw" (102 : Nat) yX11_init) ∈ lw_tbl := wc_1 (j := 31) rfl
set_option maxRecDepth 20000 in
theorem w_32 : (Cond.instanceMethod yX11_init) ∈ lw_tbl := wc_1 (j := 32) rfl
set_option maxRecDepth 20000 in
theorem w_33 : (Cond.code yX11_init prog_1_method_1_code (1 : Nat) none) ∈ lw_tbl := wc_1 (j := 33) rfl
set_option maxRecDepth 20000 in
theorem w_34 : (Cond.methodLink "SpellScribe" (3 : Nat) objectInit) ∈ lw_tbl := wc_1 (j := 34) rfl
set_option maxRecDepth 20000 in
theorem w_35 : (Cond.instanceMethod objectInit) ∈ lw_tbl := wc_1 (j := 35) rfl
set_option maxRecDepth 20000 in
theorem w_36 : (Cond.code objectInit object_method_1_code (1 : Nat) none) ∈ lw_tbl := wc_1 (j := 36) rfl
set_option maxRecDepth 20000 in
theorem w_37 : (Cond.classLink "SpellScribe" (9 : Nat) "SpellScribe$Lexicon") ∈ lw_tbl := wc_1 (j := 37) rfl
set_option maxRecDepth 20000 in
theorem w_38 : (Cond.instantiable "SpellScribe$Lexicon" (6 : Nat)) ∈ lw_tbl := wc_1 (j := 38) rfl
set_option maxRecDepth 20000 in
theorem w_39 : (Cond.methodLinkNest "SpellScribe" (11 : Nat) yX2_init "SpellScribe") ∈ lw_tbl := wc_1 (j := 39) rfl
set_option maxRecDepth 20000 in
theorem w_40 : (Cond.instanceMethod yX2_init) ∈ lw_tbl := wc_1 (j := 40) rfl
set_option maxRecDepth 20000 in
theorem w_41 : (Cond.code yX2_init prog_4_method_1_code (1 : Nat) none) ∈ lw_tbl := wc_1 (j := 41) rfl
set_option maxRecDepth 20000 in
theorem w_42 : (Cond.methodLink "SpellScribe$Lexicon" (3 : Nat) objectInit) ∈ lw_tbl := wc_1 (j := 42) rfl
set_option maxRecDepth 20000 in
theorem w_43 : (Cond.classLink "SpellScribe$Lexicon" (9 : Nat) "java/util/ArrayList") ∈ lw_tbl := wc_1 (j := 43) rfl
set_option maxRecDepth 20000 in
theorem w_44 : (Cond.instantiable "java/util/ArrayList" (3 : Nat)) ∈ lw_tbl := wc_1 (j := 44) rfl
set_option maxRecDepth 20000 in
theorem w_45 : (Cond.methodLink "SpellScribe$Lexicon" (11 : Nat) yJx4a65c_init_da8c8) ∈ lw_tbl := wc_1 (j := 45) rfl
set_option maxRecDepth 20000 in
theorem w_46 : (Cond.instanceMethod yJx4a65c_init_da8c8) ∈ lw_tbl := wc_1 (j := 46) rfl
set_option maxRecDepth 20000 in
theorem w_47 : (Cond.code yJx4a65c_init_da8c8 prog_29_method_2_code (1 : Nat) none) ∈ lw_tbl := wc_1 (j := 47) rfl
set_option maxRecDepth 20000 in
theorem w_48 : (Cond.methodLink "java/util/ArrayList" (1 : Nat) yJxc12de_init_da8c8) ∈ lw_tbl := wc_1 (j := 48) rfl
set_option maxRecDepth 20000 in
theorem w_49 : (Cond.instanceMethod yJxc12de_init_da8c8) ∈ lw_tbl := wc_1 (j := 49) rfl
set_option maxRecDepth 20000 in
theorem w_50 : (Cond.code yJxc12de_init_da8c8 prog_28_method_1_code (1 : Nat) none) ∈ lw_tbl := wc_1 (j := 50) rfl
set_option maxRecDepth 20000 in
theorem w_51 : (Cond.methodLink "java/util/AbstractList" (1 : Nat) yJxa1e45_init_da8c8) ∈ lw_tbl := wc_1 (j := 51) rfl
set_option maxRecDepth 20000 in
theorem w_52 : (Cond.instanceMethod yJxa1e45_init_da8c8) ∈ lw_tbl := wc_1 (j := 52) rfl
set_option maxRecDepth 20000 in
theorem w_53 : (Cond.code yJxa1e45_init_da8c8 prog_27_method_1_code (1 : Nat) none) ∈ lw_tbl := wc_1 (j := 53) rfl
set_option maxRecDepth 20000 in
theorem w_54 : (Cond.methodLink "java/util/AbstractCollection" (1 : Nat) objectInit) ∈ lw_tbl := wc_1 (j := 54) rfl
set_option maxRecDepth 20000 in
theorem w_55 : (Cond.fieldLink "java/util/ArrayList" (39 : Nat) "java/util/ArrayList" "DEFAULTCAPACITY_EMPTY_ELEMENTDATA" "[Ljava/lang/Object;") ∈ lw_tbl := wc_1 (j := 55) rfl
set_option maxRecDepth 20000 in
theorem w_56 : (Cond.laysStatic "java/util/ArrayList" "DEFAULTCAPACITY_EMPTY_ELEMENTDATA" "[Ljava/lang/Object;") ∈ lw_tbl := wc_1 (j := 56) rfl
set_option maxRecDepth 20000 in
theorem w_57 : (Cond.fieldLink "java/util/ArrayList" (9 : Nat) "java/util/ArrayList" "elementData" "[Ljava/lang/Object;") ∈ lw_tbl := wc_1 (j := 57) rfl
set_option maxRecDepth 20000 in
theorem w_58 : (Cond.fieldLink "java/util/ArrayList" (48 : Nat) "java/util/ArrayList" "size" "I") ∈ lw_tbl := wc_1 (j := 58) rfl
set_option maxRecDepth 20000 in
theorem w_59 : (Cond.fieldLink "java/util/AbstractList" (7 : Nat) "java/util/AbstractList" "modCount" "I") ∈ lw_tbl := wc_1 (j := 59) rfl
set_option maxRecDepth 20000 in
theorem w_60 : (Cond.fieldLink "java/util/ArrayList" (63 : Nat) "java/util/ArrayList" "modCount" "I") ∈ lw_tbl := wc_1 (j := 60) rfl
set_option maxRecDepth 20000 in
theorem w_61 : (Cond.sameField "java/util/ArrayList" "java/util/AbstractList" "modCount" "I") ∈ lw_tbl := wc_1 (j := 61) rfl
set_option maxRecDepth 20000 in
theorem w_68 : (Cond.superclass "java/util/ArrayList" "java/util/AbstractList") ∈ lw_tbl := wc_1 (j := 68) rfl
set_option maxRecDepth 20000 in
theorem w_69 : (Cond.classLink "SpellScribe$Lexicon" (21 : Nat) "SpellScribe$WordBook") ∈ lw_tbl := wc_1 (j := 69) rfl
set_option maxRecDepth 20000 in
theorem w_70 : (Cond.instantiable "SpellScribe$WordBook" (4 : Nat)) ∈ lw_tbl := wc_1 (j := 70) rfl
set_option maxRecDepth 20000 in
theorem w_71 : (Cond.methodLink "SpellScribe$Lexicon" (23 : Nat) yX10_init) ∈ lw_tbl := wc_1 (j := 71) rfl
set_option maxRecDepth 20000 in
theorem w_72 : (Cond.instanceMethod yX10_init) ∈ lw_tbl := wc_1 (j := 72) rfl
set_option maxRecDepth 20000 in
theorem w_73 : (Cond.code yX10_init prog_12_method_1_code (2 : Nat) none) ∈ lw_tbl := wc_1 (j := 73) rfl
set_option maxRecDepth 20000 in
theorem w_74 : (Cond.methodLink "SpellScribe$WordBook" (1 : Nat) objectInit) ∈ lw_tbl := wc_1 (j := 74) rfl
set_option maxRecDepth 20000 in
theorem w_75 : (Cond.classLink "SpellScribe$WordBook" (13 : Nat) "SpellScribe$Row") ∈ lw_tbl := wc_1 (j := 75) rfl
set_option maxRecDepth 20000 in
theorem w_76 : (Cond.instantiable "SpellScribe$Row" (1 : Nat)) ∈ lw_tbl := wc_1 (j := 76) rfl
set_option maxRecDepth 20000 in
theorem w_77 : (Cond.methodLink "SpellScribe$WordBook" (15 : Nat) yX4_init) ∈ lw_tbl := wc_1 (j := 77) rfl
set_option maxRecDepth 20000 in
theorem w_78 : (Cond.instanceMethod yX4_init) ∈ lw_tbl := wc_1 (j := 78) rfl
set_option maxRecDepth 20000 in
theorem w_79 : (Cond.code yX4_init prog_6_method_1_code (2 : Nat) none) ∈ lw_tbl := wc_1 (j := 79) rfl
set_option maxRecDepth 20000 in
theorem w_80 : (Cond.methodLink "SpellScribe$Row" (1 : Nat) objectInit) ∈ lw_tbl := wc_1 (j := 80) rfl
set_option maxRecDepth 20000 in
theorem w_81 : (Cond.fieldLink "SpellScribe$Row" (7 : Nat) "SpellScribe$Row" "cells" "[I") ∈ lw_tbl := wc_1 (j := 81) rfl
set_option maxRecDepth 20000 in
theorem w_84 : (Cond.superclass "SpellScribe$Row" "java/lang/Object") ∈ lw_tbl := wc_1 (j := 84) rfl
set_option maxRecDepth 20000 in
theorem w_85 : (Cond.arrayClass FieldType.int) ∈ lw_tbl := wc_1 (j := 85) rfl
set_option maxRecDepth 20000 in
theorem w_86 : (Cond.fieldLink "SpellScribe$WordBook" (18 : Nat) "SpellScribe$WordBook" "spelled" "LSpellScribe$Row;") ∈ lw_tbl := wc_1 (j := 86) rfl
set_option maxRecDepth 20000 in
theorem w_87 : (Cond.fieldLink "SpellScribe$WordBook" (22 : Nat) "SpellScribe$WordBook" "values" "LSpellScribe$Row;") ∈ lw_tbl := wc_1 (j := 87) rfl
set_option maxRecDepth 20000 in
theorem w_88 : (Cond.fieldLink "SpellScribe$WordBook" (7 : Nat) "SpellScribe$WordBook" "most" "I") ∈ lw_tbl := wc_1 (j := 88) rfl
set_option maxRecDepth 20000 in
theorem w_89 : (Cond.fieldLink "SpellScribe$WordBook" (25 : Nat) "SpellScribe$WordBook" "count" "I") ∈ lw_tbl := wc_1 (j := 89) rfl
set_option maxRecDepth 20000 in
theorem w_98 : (Cond.superclass "SpellScribe$WordBook" "java/lang/Object") ∈ lw_tbl := wc_1 (j := 98) rfl
set_option maxRecDepth 20000 in
theorem w_99 : (Cond.fieldLink "SpellScribe$Lexicon" (12 : Nat) "SpellScribe$Lexicon" "stems" "Ljava/util/List;") ∈ lw_tbl := wc_1 (j := 99) rfl
set_option maxRecDepth 20000 in
theorem w_100 : (Cond.fieldLink "SpellScribe$Lexicon" (18 : Nat) "SpellScribe$Lexicon" "rules" "Ljava/util/List;") ∈ lw_tbl := wc_1 (j := 100) rfl
set_option maxRecDepth 20000 in
theorem w_101 : (Cond.fieldLink "SpellScribe$Lexicon" (26 : Nat) "SpellScribe$Lexicon" "madeWords" "LSpellScribe$WordBook;") ∈ lw_tbl := wc_1 (j := 101) rfl
set_option maxRecDepth 20000 in
theorem w_102 : (Cond.fieldLink "SpellScribe$Lexicon" (30 : Nat) "SpellScribe$Lexicon" "ownWords" "LSpellScribe$WordBook;") ∈ lw_tbl := wc_1 (j := 102) rfl
set_option maxRecDepth 20000 in
theorem w_103 : (Cond.fieldLink "SpellScribe$Lexicon" (33 : Nat) "SpellScribe$Lexicon" "barred" "LSpellScribe$WordBook;") ∈ lw_tbl := wc_1 (j := 103) rfl
set_option maxRecDepth 20000 in
theorem w_104 : (Cond.fieldLink "SpellScribe$Lexicon" (36 : Nat) "SpellScribe$Lexicon" "suggestable" "LSpellScribe$WordBook;") ∈ lw_tbl := wc_1 (j := 104) rfl
set_option maxRecDepth 20000 in
theorem w_117 : (Cond.superclass "SpellScribe$Lexicon" "java/lang/Object") ∈ lw_tbl := wc_1 (j := 117) rfl
set_option maxRecDepth 20000 in
theorem w_118 : (Cond.classLink "SpellScribe" (16 : Nat) "SpellScribe$Suggester") ∈ lw_tbl := wc_1 (j := 118) rfl
set_option maxRecDepth 20000 in
theorem w_119 : (Cond.instantiable "SpellScribe$Suggester" (8 : Nat)) ∈ lw_tbl := wc_1 (j := 119) rfl
set_option maxRecDepth 20000 in
theorem w_120 : (Cond.methodLinkNest "SpellScribe" (18 : Nat) yX8_init "SpellScribe") ∈ lw_tbl := wc_1 (j := 120) rfl
set_option maxRecDepth 20000 in
theorem w_121 : (Cond.instanceMethod yX8_init) ∈ lw_tbl := wc_1 (j := 121) rfl
set_option maxRecDepth 20000 in
theorem w_122 : (Cond.code yX8_init prog_10_method_1_code (1 : Nat) none) ∈ lw_tbl := wc_1 (j := 122) rfl
set_option maxRecDepth 20000 in
theorem w_123 : (Cond.methodLink "SpellScribe$Suggester" (3 : Nat) objectInit) ∈ lw_tbl := wc_1 (j := 123) rfl
set_option maxRecDepth 20000 in
theorem w_124 : (Cond.classLink "SpellScribe$Suggester" (9 : Nat) "SpellScribe$Row") ∈ lw_tbl := wc_1 (j := 124) rfl
set_option maxRecDepth 20000 in
theorem w_125 : (Cond.methodLink "SpellScribe$Suggester" (11 : Nat) yX4_init) ∈ lw_tbl := wc_1 (j := 125) rfl
set_option maxRecDepth 20000 in
theorem w_126 : (Cond.fieldLink "SpellScribe$Suggester" (14 : Nat) "SpellScribe$Suggester" "alike" "LSpellScribe$Row;") ∈ lw_tbl := wc_1 (j := 126) rfl
set_option maxRecDepth 20000 in
theorem w_127 : (Cond.fieldLink "SpellScribe$Suggester" (20 : Nat) "SpellScribe$Suggester" "word" "LSpellScribe$Row;") ∈ lw_tbl := wc_1 (j := 127) rfl
set_option maxRecDepth 20000 in
theorem w_128 : (Cond.fieldLink "SpellScribe$Suggester" (23 : Nat) "SpellScribe$Suggester" "other" "LSpellScribe$Row;") ∈ lw_tbl := wc_1 (j := 128) rfl
set_option maxRecDepth 20000 in
theorem w_129 : (Cond.fieldLink "SpellScribe$Suggester" (26 : Nat) "SpellScribe$Suggester" "table" "LSpellScribe$Row;") ∈ lw_tbl := wc_1 (j := 129) rfl
set_option maxRecDepth 20000 in
theorem w_130 : (Cond.fieldLink "SpellScribe$Suggester" (29 : Nat) "SpellScribe$Suggester" "listed" "LSpellScribe$Row;") ∈ lw_tbl := wc_1 (j := 130) rfl
set_option maxRecDepth 20000 in
theorem w_131 : (Cond.fieldLink "SpellScribe$Suggester" (32 : Nat) "SpellScribe$Suggester" "upToCost" "LSpellScribe$Row;") ∈ lw_tbl := wc_1 (j := 131) rfl
set_option maxRecDepth 20000 in
theorem w_132 : (Cond.fieldLink "SpellScribe$Suggester" (52 : Nat) "SpellScribe$Suggester" "wordSize" "I") ∈ lw_tbl := wc_1 (j := 132) rfl
set_option maxRecDepth 20000 in
theorem w_133 : (Cond.fieldLink "SpellScribe$Suggester" (43 : Nat) "SpellScribe$Suggester" "count" "I") ∈ lw_tbl := wc_1 (j := 133) rfl
set_option maxRecDepth 20000 in
theorem w_150 : (Cond.superclass "SpellScribe$Suggester" "java/lang/Object") ∈ lw_tbl := wc_1 (j := 150) rfl
set_option maxRecDepth 20000 in
theorem w_151 : (Cond.classLink "SpellScribe" (23 : Nat) "SpellScribe$Grammar") ∈ lw_tbl := wc_1 (j := 151) rfl
set_option maxRecDepth 20000 in
theorem w_152 : (Cond.instantiable "SpellScribe$Grammar" (2 : Nat)) ∈ lw_tbl := wc_1 (j := 152) rfl
set_option maxRecDepth 20000 in
theorem w_153 : (Cond.methodLinkNest "SpellScribe" (25 : Nat) yX0_init "SpellScribe") ∈ lw_tbl := wc_1 (j := 153) rfl
set_option maxRecDepth 20000 in
theorem w_154 : (Cond.instanceMethod yX0_init) ∈ lw_tbl := wc_1 (j := 154) rfl
set_option maxRecDepth 20000 in
theorem w_155 : (Cond.code yX0_init prog_2_method_1_code (1 : Nat) none) ∈ lw_tbl := wc_1 (j := 155) rfl
set_option maxRecDepth 20000 in
theorem w_156 : (Cond.methodLink "SpellScribe$Grammar" (3 : Nat) objectInit) ∈ lw_tbl := wc_1 (j := 156) rfl
set_option maxRecDepth 20000 in
theorem w_157 : (Cond.classLink "SpellScribe$Grammar" (9 : Nat) "SpellScribe$Row") ∈ lw_tbl := wc_1 (j := 157) rfl
set_option maxRecDepth 20000 in
theorem w_158 : (Cond.methodLink "SpellScribe$Grammar" (11 : Nat) yX4_init) ∈ lw_tbl := wc_1 (j := 158) rfl
set_option maxRecDepth 20000 in
theorem w_159 : (Cond.fieldLink "SpellScribe$Grammar" (14 : Nat) "SpellScribe$Grammar" "told" "LSpellScribe$Row;") ∈ lw_tbl := wc_1 (j := 159) rfl
set_option maxRecDepth 20000 in
theorem w_160 : (Cond.fieldLink "SpellScribe$Grammar" (20 : Nat) "SpellScribe$Grammar" "fewest" "LSpellScribe$Row;") ∈ lw_tbl := wc_1 (j := 160) rfl
set_option maxRecDepth 20000 in
theorem w_165 : (Cond.superclass "SpellScribe$Grammar" "java/lang/Object") ∈ lw_tbl := wc_1 (j := 165) rfl
set_option maxRecDepth 20000 in
theorem w_166 : (Cond.classLink "SpellScribe" (30 : Nat) "java/util/ArrayList") ∈ lw_tbl := wc_1 (j := 166) rfl
set_option maxRecDepth 20000 in
theorem w_167 : (Cond.methodLink "SpellScribe" (32 : Nat) yJx4a65c_init_da8c8) ∈ lw_tbl := wc_1 (j := 167) rfl
set_option maxRecDepth 20000 in
theorem w_168 : (Cond.classLink "SpellScribe" (37 : Nat) "SpellScribe$WordBook") ∈ lw_tbl := wc_1 (j := 168) rfl
set_option maxRecDepth 20000 in
theorem w_169 : (Cond.methodLink "SpellScribe" (39 : Nat) yX10_init) ∈ lw_tbl := wc_1 (j := 169) rfl
set_option maxRecDepth 20000 in
theorem w_170 : (Cond.classLink "SpellScribe" (46 : Nat) "SpellScribe$Text") ∈ lw_tbl := wc_1 (j := 170) rfl
set_option maxRecDepth 20000 in
theorem w_171 : (Cond.instantiable "SpellScribe$Text" (9 : Nat)) ∈ lw_tbl := wc_1 (j := 171) rfl
set_option maxRecDepth 20000 in
theorem w_172 : (Cond.methodLinkNest "SpellScribe" (48 : Nat) yX9_init "SpellScribe") ∈ lw_tbl := wc_1 (j := 172) rfl
set_option maxRecDepth 20000 in
theorem w_173 : (Cond.instanceMethod yX9_init) ∈ lw_tbl := wc_1 (j := 173) rfl
set_option maxRecDepth 20000 in
theorem w_174 : (Cond.code yX9_init prog_11_method_1_code (1 : Nat) none) ∈ lw_tbl := wc_1 (j := 174) rfl
set_option maxRecDepth 20000 in
theorem w_175 : (Cond.methodLink "SpellScribe$Text" (3 : Nat) objectInit) ∈ lw_tbl := wc_1 (j := 175) rfl
set_option maxRecDepth 20000 in
theorem w_176 : (Cond.classLink "SpellScribe$Text" (9 : Nat) "SpellScribe$Row") ∈ lw_tbl := wc_1 (j := 176) rfl
set_option maxRecDepth 20000 in
theorem w_177 : (Cond.methodLink "SpellScribe$Text" (11 : Nat) yX4_init) ∈ lw_tbl := wc_1 (j := 177) rfl
set_option maxRecDepth 20000 in
theorem w_178 : (Cond.fieldLink "SpellScribe$Text" (14 : Nat) "SpellScribe$Text" "signs" "LSpellScribe$Row;") ∈ lw_tbl := wc_1 (j := 178) rfl
set_option maxRecDepth 20000 in
theorem w_179 : (Cond.fieldLink "SpellScribe$Text" (20 : Nat) "SpellScribe$Text" "wordStarts" "LSpellScribe$Row;") ∈ lw_tbl := wc_1 (j := 179) rfl
set_option maxRecDepth 20000 in
theorem w_180 : (Cond.fieldLink "SpellScribe$Text" (23 : Nat) "SpellScribe$Text" "wordSizes" "LSpellScribe$Row;") ∈ lw_tbl := wc_1 (j := 180) rfl
set_option maxRecDepth 20000 in
theorem w_181 : (Cond.fieldLink "SpellScribe$Text" (26 : Nat) "SpellScribe$Text" "spelled" "LSpellScribe$Row;") ∈ lw_tbl := wc_1 (j := 181) rfl
set_option maxRecDepth 20000 in
theorem w_182 : (Cond.fieldLink "SpellScribe$Text" (29 : Nat) "SpellScribe$Text" "sentenceStarts" "LSpellScribe$Row;") ∈ lw_tbl := wc_1 (j := 182) rfl
set_option maxRecDepth 20000 in
theorem w_183 : (Cond.fieldLink "SpellScribe$Text" (32 : Nat) "SpellScribe$Text" "firstWords" "LSpellScribe$Row;") ∈ lw_tbl := wc_1 (j := 183) rfl
set_option maxRecDepth 20000 in
theorem w_184 : (Cond.fieldLink "SpellScribe$Text" (35 : Nat) "SpellScribe$Text" "size" "I") ∈ lw_tbl := wc_1 (j := 184) rfl
set_option maxRecDepth 20000 in
theorem w_185 : (Cond.fieldLink "SpellScribe$Text" (43 : Nat) "SpellScribe$Text" "wordCount" "I") ∈ lw_tbl := wc_1 (j := 185) rfl
set_option maxRecDepth 20000 in
theorem w_186 : (Cond.fieldLink "SpellScribe$Text" (53 : Nat) "SpellScribe$Text" "sentenceCount" "I") ∈ lw_tbl := wc_1 (j := 186) rfl
set_option maxRecDepth 20000 in
theorem w_205 : (Cond.superclass "SpellScribe$Text" "java/lang/Object") ∈ lw_tbl := wc_1 (j := 205) rfl
set_option maxRecDepth 20000 in
theorem w_206 : (Cond.classLink "SpellScribe" (56 : Nat) "SpellScribe$History") ∈ lw_tbl := wc_1 (j := 206) rfl
set_option maxRecDepth 20000 in
theorem w_207 : (Cond.instantiable "SpellScribe$History" (3 : Nat)) ∈ lw_tbl := wc_1 (j := 207) rfl
set_option maxRecDepth 20000 in
theorem w_208 : (Cond.methodLinkNest "SpellScribe" (58 : Nat) yX1_init "SpellScribe") ∈ lw_tbl := wc_1 (j := 208) rfl
set_option maxRecDepth 20000 in
theorem w_209 : (Cond.instanceMethod yX1_init) ∈ lw_tbl := wc_1 (j := 209) rfl
set_option maxRecDepth 20000 in
theorem w_210 : (Cond.code yX1_init prog_3_method_1_code (1 : Nat) none) ∈ lw_tbl := wc_1 (j := 210) rfl
set_option maxRecDepth 20000 in
theorem w_211 : (Cond.methodLink "SpellScribe$History" (3 : Nat) objectInit) ∈ lw_tbl := wc_1 (j := 211) rfl
set_option maxRecDepth 20000 in
theorem w_212 : (Cond.classLink "SpellScribe$History" (9 : Nat) "SpellScribe$Row") ∈ lw_tbl := wc_1 (j := 212) rfl
set_option maxRecDepth 20000 in
theorem w_213 : (Cond.methodLink "SpellScribe$History" (11 : Nat) yX4_init) ∈ lw_tbl := wc_1 (j := 213) rfl
set_option maxRecDepth 20000 in
theorem w_214 : (Cond.fieldLink "SpellScribe$History" (14 : Nat) "SpellScribe$History" "signs" "LSpellScribe$Row;") ∈ lw_tbl := wc_1 (j := 214) rfl
set_option maxRecDepth 20000 in
theorem w_215 : (Cond.fieldLink "SpellScribe$History" (20 : Nat) "SpellScribe$History" "sizes" "LSpellScribe$Row;") ∈ lw_tbl := wc_1 (j := 215) rfl
set_option maxRecDepth 20000 in
theorem w_216 : (Cond.fieldLink "SpellScribe$History" (23 : Nat) "SpellScribe$History" "count" "I") ∈ lw_tbl := wc_1 (j := 216) rfl
set_option maxRecDepth 20000 in
theorem w_223 : (Cond.superclass "SpellScribe$History" "java/lang/Object") ∈ lw_tbl := wc_1 (j := 223) rfl
set_option maxRecDepth 20000 in
theorem w_224 : (Cond.classLink "SpellScribe" (63 : Nat) "SpellScribe$Proof") ∈ lw_tbl := wc_1 (j := 224) rfl
set_option maxRecDepth 20000 in
theorem w_225 : (Cond.instantiable "SpellScribe$Proof" (7 : Nat)) ∈ lw_tbl := wc_1 (j := 225) rfl
set_option maxRecDepth 20000 in
theorem w_226 : (Cond.methodLinkNest "SpellScribe" (65 : Nat) yX3_init "SpellScribe") ∈ lw_tbl := wc_1 (j := 226) rfl
set_option maxRecDepth 20000 in
theorem w_227 : (Cond.instanceMethod yX3_init) ∈ lw_tbl := wc_1 (j := 227) rfl
set_option maxRecDepth 20000 in
theorem w_228 : (Cond.code yX3_init prog_5_method_1_code (1 : Nat) none) ∈ lw_tbl := wc_1 (j := 228) rfl
set_option maxRecDepth 20000 in
theorem w_229 : (Cond.methodLink "SpellScribe$Proof" (3 : Nat) objectInit) ∈ lw_tbl := wc_1 (j := 229) rfl
set_option maxRecDepth 20000 in
theorem w_230 : (Cond.classLink "SpellScribe$Proof" (9 : Nat) "SpellScribe$Row") ∈ lw_tbl := wc_1 (j := 230) rfl
set_option maxRecDepth 20000 in
theorem w_231 : (Cond.methodLink "SpellScribe$Proof" (11 : Nat) yX4_init) ∈ lw_tbl := wc_1 (j := 231) rfl
set_option maxRecDepth 20000 in
theorem w_232 : (Cond.fieldLink "SpellScribe$Proof" (14 : Nat) "SpellScribe$Proof" "readingSets" "LSpellScribe$Row;") ∈ lw_tbl := wc_1 (j := 232) rfl
set_option maxRecDepth 20000 in
theorem w_233 : (Cond.fieldLink "SpellScribe$Proof" (20 : Nat) "SpellScribe$Proof" "chosen" "LSpellScribe$Row;") ∈ lw_tbl := wc_1 (j := 233) rfl
set_option maxRecDepth 20000 in
theorem w_234 : (Cond.fieldLink "SpellScribe$Proof" (23 : Nat) "SpellScribe$Proof" "taken" "LSpellScribe$Row;") ∈ lw_tbl := wc_1 (j := 234) rfl
set_option maxRecDepth 20000 in
theorem w_235 : (Cond.fieldLink "SpellScribe$Proof" (26 : Nat) "SpellScribe$Proof" "broken" "LSpellScribe$Row;") ∈ lw_tbl := wc_1 (j := 235) rfl
set_option maxRecDepth 20000 in
theorem w_236 : (Cond.fieldLink "SpellScribe$Proof" (29 : Nat) "SpellScribe$Proof" "mistakeKinds" "LSpellScribe$Row;") ∈ lw_tbl := wc_1 (j := 236) rfl
set_option maxRecDepth 20000 in
theorem w_237 : (Cond.fieldLink "SpellScribe$Proof" (32 : Nat) "SpellScribe$Proof" "mistakeWords" "LSpellScribe$Row;") ∈ lw_tbl := wc_1 (j := 237) rfl
set_option maxRecDepth 20000 in
theorem w_238 : (Cond.fieldLink "SpellScribe$Proof" (39 : Nat) "SpellScribe$Proof" "mistakeCount" "I") ∈ lw_tbl := wc_1 (j := 238) rfl
set_option maxRecDepth 20000 in
theorem w_253 : (Cond.superclass "SpellScribe$Proof" "java/lang/Object") ∈ lw_tbl := wc_2 (j := 13) rfl
set_option maxRecDepth 20000 in
theorem w_254 : (Cond.classLink "SpellScribe" (70 : Nat) "SpellScribe$Style") ∈ lw_tbl := wc_2 (j := 14) rfl
set_option maxRecDepth 20000 in
theorem w_255 : (Cond.instantiable "SpellScribe$Style" (4 : Nat)) ∈ lw_tbl := wc_2 (j := 15) rfl
set_option maxRecDepth 20000 in
theorem w_256 : (Cond.methodLinkNest "SpellScribe" (72 : Nat) yX7_init "SpellScribe") ∈ lw_tbl := wc_2 (j := 16) rfl
set_option maxRecDepth 20000 in
theorem w_257 : (Cond.instanceMethod yX7_init) ∈ lw_tbl := wc_2 (j := 17) rfl
set_option maxRecDepth 20000 in
theorem w_258 : (Cond.code yX7_init prog_9_method_1_code (1 : Nat) none) ∈ lw_tbl := wc_2 (j := 18) rfl
set_option maxRecDepth 20000 in
theorem w_259 : (Cond.methodLink "SpellScribe$Style" (3 : Nat) objectInit) ∈ lw_tbl := wc_2 (j := 19) rfl
set_option maxRecDepth 20000 in
theorem w_260 : (Cond.classLink "SpellScribe$Style" (9 : Nat) "SpellScribe$Row") ∈ lw_tbl := wc_2 (j := 20) rfl
set_option maxRecDepth 20000 in
theorem w_261 : (Cond.methodLink "SpellScribe$Style" (11 : Nat) yX4_init) ∈ lw_tbl := wc_2 (j := 21) rfl
set_option maxRecDepth 20000 in
theorem w_262 : (Cond.fieldLink "SpellScribe$Style" (14 : Nat) "SpellScribe$Style" "items" "LSpellScribe$Row;") ∈ lw_tbl := wc_2 (j := 22) rfl
set_option maxRecDepth 20000 in
theorem w_263 : (Cond.fieldLink "SpellScribe$Style" (24 : Nat) "SpellScribe$Style" "itemCount" "I") ∈ lw_tbl := wc_2 (j := 23) rfl
set_option maxRecDepth 20000 in
theorem w_264 : (Cond.fieldLinkNest "SpellScribe" (247 : Nat) "SpellScribe$Style" "itemCount" "I" "SpellScribe") ∈ lw_tbl := wc_2 (j := 24) rfl
set_option maxRecDepth 20000 in
theorem w_265 : (Cond.fieldLinkNest "SpellScribe$Proof" (88 : Nat) "SpellScribe$Style" "itemCount" "I" "SpellScribe") ∈ lw_tbl := wc_2 (j := 25) rfl
set_option maxRecDepth 20000 in
theorem w_266 : (Cond.fieldLink "SpellScribe$Style" (31 : Nat) "SpellScribe$Style" "changedItem" "I") ∈ lw_tbl := wc_2 (j := 26) rfl
set_option maxRecDepth 20000 in
theorem w_267 : (Cond.fieldLinkNest "SpellScribe" (408 : Nat) "SpellScribe$Style" "changedItem" "I" "SpellScribe") ∈ lw_tbl := wc_2 (j := 27) rfl
set_option maxRecDepth 20000 in
theorem w_268 : (Cond.fieldLink "SpellScribe$Style" (20 : Nat) "SpellScribe$Style" "change" "I") ∈ lw_tbl := wc_2 (j := 28) rfl
set_option maxRecDepth 20000 in
theorem w_269 : (Cond.fieldLinkNest "SpellScribe" (411 : Nat) "SpellScribe$Style" "change" "I" "SpellScribe") ∈ lw_tbl := wc_2 (j := 29) rfl
set_option maxRecDepth 20000 in
theorem w_278 : (Cond.superclass "SpellScribe$Style" "java/lang/Object") ∈ lw_tbl := wc_2 (j := 38) rfl
set_option maxRecDepth 20000 in
theorem w_279 : (Cond.fieldLink "SpellScribe" (12 : Nat) "SpellScribe" "lexicon" "LSpellScribe$Lexicon;") ∈ lw_tbl := wc_2 (j := 39) rfl
set_option maxRecDepth 20000 in
theorem w_280 : (Cond.fieldLink "SpellScribe" (19 : Nat) "SpellScribe" "suggester" "LSpellScribe$Suggester;") ∈ lw_tbl := wc_2 (j := 40) rfl
set_option maxRecDepth 20000 in
theorem w_281 : (Cond.fieldLink "SpellScribe" (26 : Nat) "SpellScribe" "grammar" "LSpellScribe$Grammar;") ∈ lw_tbl := wc_2 (j := 41) rfl
set_option maxRecDepth 20000 in
theorem w_282 : (Cond.fieldLink "SpellScribe" (33 : Nat) "SpellScribe" "styles" "Ljava/util/List;") ∈ lw_tbl := wc_2 (j := 42) rfl
set_option maxRecDepth 20000 in
theorem w_283 : (Cond.fieldLink "SpellScribe" (42 : Nat) "SpellScribe" "ignored" "LSpellScribe$WordBook;") ∈ lw_tbl := wc_2 (j := 43) rfl
set_option maxRecDepth 20000 in
theorem w_284 : (Cond.fieldLink "SpellScribe" (49 : Nat) "SpellScribe" "text" "LSpellScribe$Text;") ∈ lw_tbl := wc_2 (j := 44) rfl
set_option maxRecDepth 20000 in
theorem w_285 : (Cond.fieldLink "SpellScribe" (53 : Nat) "SpellScribe" "textBefore" "LSpellScribe$Text;") ∈ lw_tbl := wc_2 (j := 45) rfl
set_option maxRecDepth 20000 in
theorem w_286 : (Cond.fieldLink "SpellScribe" (59 : Nat) "SpellScribe" "history" "LSpellScribe$History;") ∈ lw_tbl := wc_2 (j := 46) rfl
set_option maxRecDepth 20000 in
theorem w_287 : (Cond.fieldLink "SpellScribe" (66 : Nat) "SpellScribe" "proof" "LSpellScribe$Proof;") ∈ lw_tbl := wc_2 (j := 47) rfl
set_option maxRecDepth 20000 in
theorem w_288 : (Cond.fieldLink "SpellScribe" (73 : Nat) "SpellScribe" "draftedStyle" "LSpellScribe$Style;") ∈ lw_tbl := wc_2 (j := 48) rfl
set_option maxRecDepth 20000 in
theorem w_289 : (Cond.fieldLink "SpellScribe" (77 : Nat) "SpellScribe" "draft" "I") ∈ lw_tbl := wc_2 (j := 49) rfl
set_option maxRecDepth 20000 in
theorem w_290 : (Cond.fieldLink "SpellScribe" (375 : Nat) "SpellScribe" "isProofread" "Z") ∈ lw_tbl := wc_2 (j := 50) rfl
set_option maxRecDepth 20000 in
theorem w_291 : (Cond.fieldLink "SpellScribe" (81 : Nat) "SpellScribe" "listedFor" "I") ∈ lw_tbl := wc_2 (j := 51) rfl
set_option maxRecDepth 20000 in
theorem w_318 : (Cond.superclass "SpellScribe" "java/lang/Object") ∈ lw_tbl := wc_2 (j := 78) rfl
set_option maxRecDepth 20000 in
theorem w_319 : (Cond.methodLink "SpellScribeLaw" (115 : Nat) yX11_scrap) ∈ lw_tbl := wc_2 (j := 79) rfl
set_option maxRecDepth 20000 in
theorem w_320 : (Cond.instanceMethod yX11_scrap) ∈ lw_tbl := wc_2 (j := 80) rfl
set_option maxRecDepth 20000 in
theorem w_321 : (Cond.selects "SpellScribe" yX11_scrap yX11_scrap) ∈ lw_tbl := wc_2 (j := 81) rfl
set_option maxRecDepth 20000 in
theorem w_322 : (Cond.code yX11_scrap prog_1_method_3_code (1 : Nat) (some FieldType.int)) ∈ lw_tbl := wc_2 (j := 82) rfl
set_option maxRecDepth 20000 in
theorem w_323 : (Cond.methodLink "SpellScribe" (108 : Nat) yX11_takeDraft) ∈ lw_tbl := wc_2 (j := 83) rfl
set_option maxRecDepth 20000 in
theorem w_325 : (Cond.instanceMethod yX11_takeDraft) ∈ lw_tbl := wc_2 (j := 85) rfl
set_option maxRecDepth 20000 in
theorem w_326 : (Cond.code yX11_takeDraft prog_1_method_33_code (2 : Nat) (some FieldType.int)) ∈ lw_tbl := wc_2 (j := 86) rfl
set_option maxRecDepth 20000 in
theorem w_327 : (Cond.methodLink "SpellScribe" (95 : Nat) yX11_sizeOf) ∈ lw_tbl := wc_2 (j := 87) rfl
set_option maxRecDepth 20000 in
theorem w_328 : (Cond.static yX11_sizeOf) ∈ lw_tbl := wc_2 (j := 88) rfl
set_option maxRecDepth 20000 in
theorem w_329 : (Cond.code yX11_sizeOf prog_1_method_49_code (3 : Nat) (some FieldType.int)) ∈ lw_tbl := wc_2 (j := 89) rfl
set_option maxRecDepth 20000 in
theorem w_330 : (Cond.methodLink "SpellScribeLaw" (163 : Nat) yX11_correct) ∈ lw_tbl := wc_2 (j := 90) rfl
set_option maxRecDepth 20000 in
theorem w_331 : (Cond.instanceMethod yX11_correct) ∈ lw_tbl := wc_2 (j := 91) rfl
set_option maxRecDepth 20000 in
theorem w_332 : (Cond.selects "SpellScribe" yX11_correct yX11_correct) ∈ lw_tbl := wc_2 (j := 92) rfl
set_option maxRecDepth 20000 in
theorem w_333 : (Cond.code yX11_correct prog_1_method_16_code (2 : Nat) (some FieldType.int)) ∈ lw_tbl := wc_2 (j := 93) rfl
set_option maxRecDepth 20000 in
theorem w_334 : (Cond.methodLink "SpellScribe" (295 : Nat) yX1_begin) ∈ lw_tbl := wc_2 (j := 94) rfl
set_option maxRecDepth 20000 in
theorem w_335 : (Cond.instanceMethod yX1_begin) ∈ lw_tbl := wc_2 (j := 95) rfl
set_option maxRecDepth 20000 in
theorem w_336 : (Cond.selects "SpellScribe$History" yX1_begin yX1_begin) ∈ lw_tbl := wc_2 (j := 96) rfl
set_option maxRecDepth 20000 in
theorem w_337 : (Cond.code yX1_begin prog_3_method_2_code (2 : Nat) none) ∈ lw_tbl := wc_2 (j := 97) rfl
set_option maxRecDepth 20000 in
theorem w_338 : (Cond.methodLink "SpellScribe$History" (27 : Nat) yX1_keep) ∈ lw_tbl := wc_2 (j := 98) rfl
set_option maxRecDepth 20000 in
theorem w_339 : (Cond.instanceMethod yX1_keep) ∈ lw_tbl := wc_2 (j := 99) rfl
set_option maxRecDepth 20000 in
theorem w_340 : (Cond.selects "SpellScribe$History" yX1_keep yX1_keep) ∈ lw_tbl := wc_2 (j := 100) rfl
set_option maxRecDepth 20000 in
theorem w_341 : (Cond.code yX1_keep prog_3_method_3_code (3 : Nat) none) ∈ lw_tbl := wc_2 (j := 101) rfl
set_option maxRecDepth 20000 in
theorem w_342 : (Cond.methodLink "SpellScribe$History" (31 : Nat) yX9_size) ∈ lw_tbl := wc_2 (j := 102) rfl
set_option maxRecDepth 20000 in
theorem w_343 : (Cond.instanceMethod yX9_size) ∈ lw_tbl := wc_2 (j := 103) rfl
set_option maxRecDepth 20000 in
theorem w_344 : (Cond.selects "SpellScribe$Text" yX9_size yX9_size) ∈ lw_tbl := wc_2 (j := 104) rfl
set_option maxRecDepth 20000 in
theorem w_345 : (Cond.code yX9_size prog_11_method_2_code (1 : Nat) (some FieldType.int)) ∈ lw_tbl := wc_2 (j := 105) rfl
set_option maxRecDepth 20000 in
theorem w_346 : (Cond.methodLink "SpellScribe$History" (37 : Nat) yX4_set) ∈ lw_tbl := wc_2 (j := 106) rfl
set_option maxRecDepth 20000 in
theorem w_347 : (Cond.instanceMethod yX4_set) ∈ lw_tbl := wc_2 (j := 107) rfl
set_option maxRecDepth 20000 in
theorem w_348 : (Cond.selects "SpellScribe$Row" yX4_set yX4_set) ∈ lw_tbl := wc_2 (j := 108) rfl
set_option maxRecDepth 20000 in
theorem w_349 : (Cond.code yX4_set prog_6_method_3_code (3 : Nat) none) ∈ lw_tbl := wc_2 (j := 109) rfl
set_option maxRecDepth 20000 in
theorem w_350 : (Cond.methodLink "SpellScribe$History" (41 : Nat) yX9_signOn) ∈ lw_tbl := wc_2 (j := 110) rfl
set_option maxRecDepth 20000 in
theorem w_351 : (Cond.instanceMethod yX9_signOn) ∈ lw_tbl := wc_2 (j := 111) rfl
set_option maxRecDepth 20000 in
theorem w_352 : (Cond.selects "SpellScribe$Text" yX9_signOn yX9_signOn) ∈ lw_tbl := wc_2 (j := 112) rfl
set_option maxRecDepth 20000 in
theorem w_353 : (Cond.code yX9_signOn prog_11_method_3_code (2 : Nat) (some FieldType.char)) ∈ lw_tbl := wc_2 (j := 113) rfl
set_option maxRecDepth 20000 in
theorem w_354 : (Cond.methodLink "SpellScribe$Text" (39 : Nat) yX4_get) ∈ lw_tbl := wc_2 (j := 114) rfl
set_option maxRecDepth 20000 in
theorem w_355 : (Cond.instanceMethod yX4_get) ∈ lw_tbl := wc_2 (j := 115) rfl
set_option maxRecDepth 20000 in
theorem w_356 : (Cond.selects "SpellScribe$Row" yX4_get yX4_get) ∈ lw_tbl := wc_2 (j := 116) rfl
set_option maxRecDepth 20000 in
theorem w_357 : (Cond.code yX4_get prog_6_method_2_code (2 : Nat) (some FieldType.int)) ∈ lw_tbl := wc_2 (j := 117) rfl
set_option maxRecDepth 20000 in
theorem w_358 : (Cond.methodLink "SpellScribe" (216 : Nat) yX11_proofread) ∈ lw_tbl := wc_2 (j := 118) rfl
set_option maxRecDepth 20000 in
theorem w_360 : (Cond.instanceMethod yX11_proofread) ∈ lw_tbl := wc_2 (j := 120) rfl
set_option maxRecDepth 20000 in
theorem w_361 : (Cond.code yX11_proofread prog_1_method_36_code (2 : Nat) none) ∈ lw_tbl := wc_2 (j := 121) rfl
set_option maxRecDepth 20000 in
theorem w_362 : (Cond.methodLink "SpellScribe" (313 : Nat) yX9_wordCount) ∈ lw_tbl := wc_2 (j := 122) rfl
set_option maxRecDepth 20000 in
theorem w_363 : (Cond.instanceMethod yX9_wordCount) ∈ lw_tbl := wc_2 (j := 123) rfl
set_option maxRecDepth 20000 in
theorem w_364 : (Cond.selects "SpellScribe$Text" yX9_wordCount yX9_wordCount) ∈ lw_tbl := wc_2 (j := 124) rfl
set_option maxRecDepth 20000 in
theorem w_365 : (Cond.code yX9_wordCount prog_11_method_4_code (1 : Nat) (some FieldType.int)) ∈ lw_tbl := wc_2 (j := 125) rfl
set_option maxRecDepth 20000 in
theorem w_366 : (Cond.methodLink "SpellScribe" (219 : Nat) yX9_wordNumbered) ∈ lw_tbl := wc_2 (j := 126) rfl
set_option maxRecDepth 20000 in
theorem w_367 : (Cond.instanceMethod yX9_wordNumbered) ∈ lw_tbl := wc_2 (j := 127) rfl
set_option maxRecDepth 20000 in
theorem w_368 : (Cond.selects "SpellScribe$Text" yX9_wordNumbered yX9_wordNumbered) ∈ lw_tbl := wc_2 (j := 128) rfl
set_option maxRecDepth 20000 in
theorem w_369 : (Cond.code yX9_wordNumbered prog_11_method_7_code (2 : Nat) (some FieldType.int)) ∈ lw_tbl := wc_2 (j := 129) rfl
set_option maxRecDepth 20000 in
theorem w_370 : (Cond.methodLink "SpellScribe" (385 : Nat) yX2_readingsOf) ∈ lw_tbl := wc_2 (j := 130) rfl
set_option maxRecDepth 20000 in
theorem w_371 : (Cond.instanceMethod yX2_readingsOf) ∈ lw_tbl := wc_2 (j := 131) rfl
set_option maxRecDepth 20000 in
theorem w_372 : (Cond.selects "SpellScribe$Lexicon" yX2_readingsOf yX2_readingsOf) ∈ lw_tbl := wc_2 (j := 132) rfl
set_option maxRecDepth 20000 in
theorem w_373 : (Cond.code yX2_readingsOf prog_4_method_21_code (2 : Nat) (some FieldType.int)) ∈ lw_tbl := wc_2 (j := 133) rfl
set_option maxRecDepth 20000 in
theorem w_374 : (Cond.methodLink "SpellScribe$Lexicon" (133 : Nat) yX2_isBarred) ∈ lw_tbl := wc_2 (j := 134) rfl
set_option maxRecDepth 20000 in
theorem w_375 : (Cond.instanceMethod yX2_isBarred) ∈ lw_tbl := wc_2 (j := 135) rfl
set_option maxRecDepth 20000 in
theorem w_376 : (Cond.selects "SpellScribe$Lexicon" yX2_isBarred yX2_isBarred) ∈ lw_tbl := wc_2 (j := 136) rfl
set_option maxRecDepth 20000 in
theorem w_377 : (Cond.code yX2_isBarred prog_4_method_10_code (2 : Nat) (some FieldType.boolean)) ∈ lw_tbl := wc_2 (j := 137) rfl
set_option maxRecDepth 20000 in
theorem w_378 : (Cond.methodLink "SpellScribe$Lexicon" (62 : Nat) yX10_valueOf) ∈ lw_tbl := wc_2 (j := 138) rfl
set_option maxRecDepth 20000 in
theorem w_379 : (Cond.instanceMethod yX10_valueOf) ∈ lw_tbl := wc_2 (j := 139) rfl
set_option maxRecDepth 20000 in
theorem w_380 : (Cond.selects "SpellScribe$WordBook" yX10_valueOf yX10_valueOf) ∈ lw_tbl := wc_2 (j := 140) rfl
set_option maxRecDepth 20000 in
theorem w_381 : (Cond.code yX10_valueOf prog_12_method_5_code (3 : Nat) (some FieldType.int)) ∈ lw_tbl := wc_2 (j := 141) rfl
set_option maxRecDepth 20000 in
theorem w_382 : (Cond.methodLink "SpellScribe$WordBook" (32 : Nat) yX10_placeOf) ∈ lw_tbl := wc_2 (j := 142) rfl
set_option maxRecDepth 20000 in
theorem w_384 : (Cond.instanceMethod yX10_placeOf) ∈ lw_tbl := wc_2 (j := 144) rfl
set_option maxRecDepth 20000 in
theorem w_385 : (Cond.code yX10_placeOf prog_12_method_9_code (6 : Nat) (some FieldType.int)) ∈ lw_tbl := wc_2 (j := 145) rfl
set_option maxRecDepth 20000 in
theorem w_386 : (Cond.methodLink "SpellScribe$WordBook" (28 : Nat) yX4_get) ∈ lw_tbl := wc_2 (j := 146) rfl
set_option maxRecDepth 20000 in
theorem w_387 : (Cond.methodLink "SpellScribe$Lexicon" (137 : Nat) yX2_readingsAsJoin) ∈ lw_tbl := wc_2 (j := 147) rfl
set_option maxRecDepth 20000 in
theorem w_389 : (Cond.instanceMethod yX2_readingsAsJoin) ∈ lw_tbl := wc_2 (j := 149) rfl
set_option maxRecDepth 20000 in
theorem w_390 : (Cond.code yX2_readingsAsJoin prog_4_method_22_code (6 : Nat) (some FieldType.int)) ∈ lw_tbl := wc_2 (j := 150) rfl
set_option maxRecDepth 20000 in
theorem w_391 : (Cond.methodLinkNest "SpellScribe$Lexicon" (140 : Nat) yX11_sizeOf "SpellScribe") ∈ lw_tbl := wc_2 (j := 151) rfl
set_option maxRecDepth 20000 in
theorem w_392 : (Cond.methodLink "SpellScribe$Lexicon" (143 : Nat) yX2_canBeBorder) ∈ lw_tbl := wc_2 (j := 152) rfl
set_option maxRecDepth 20000 in
theorem w_394 : (Cond.instanceMethod yX2_canBeBorder) ∈ lw_tbl := wc_2 (j := 154) rfl
set_option maxRecDepth 20000 in
theorem w_395 : (Cond.code yX2_canBeBorder prog_4_method_23_code (3 : Nat) (some FieldType.boolean)) ∈ lw_tbl := wc_2 (j := 155) rfl
set_option maxRecDepth 20000 in
theorem w_396 : (Cond.methodLinkNest "SpellScribe$Lexicon" (151 : Nat) yX11_letterOf "SpellScribe") ∈ lw_tbl := wc_2 (j := 156) rfl
set_option maxRecDepth 20000 in
theorem w_397 : (Cond.static yX11_letterOf) ∈ lw_tbl := wc_2 (j := 157) rfl
set_option maxRecDepth 20000 in
theorem w_398 : (Cond.code yX11_letterOf prog_1_method_51_code (2 : Nat) (some FieldType.int)) ∈ lw_tbl := wc_2 (j := 158) rfl
set_option maxRecDepth 20000 in
theorem w_399 : (Cond.methodLink "SpellScribe$Lexicon" (147 : Nat) yX2_readingsInJoin) ∈ lw_tbl := wc_2 (j := 159) rfl
set_option maxRecDepth 20000 in
theorem w_401 : (Cond.instanceMethod yX2_readingsInJoin) ∈ lw_tbl := wc_2 (j := 161) rfl
set_option maxRecDepth 20000 in
theorem w_402 : (Cond.code yX2_readingsInJoin prog_4_method_24_code (4 : Nat) (some FieldType.int)) ∈ lw_tbl := wc_2 (j := 162) rfl
set_option maxRecDepth 20000 in
theorem w_403 : (Cond.methodLinkNest "SpellScribe$Lexicon" (154 : Nat) yX11_partOf "SpellScribe") ∈ lw_tbl := wc_2 (j := 163) rfl
set_option maxRecDepth 20000 in
theorem w_404 : (Cond.static yX11_partOf) ∈ lw_tbl := wc_2 (j := 164) rfl
set_option maxRecDepth 20000 in
theorem w_405 : (Cond.code yX11_partOf prog_1_method_52_code (5 : Nat) (some FieldType.int)) ∈ lw_tbl := wc_2 (j := 165) rfl
set_option maxRecDepth 20000 in
theorem w_406 : (Cond.methodLink "SpellScribe" (388 : Nat) yX3_setReadings) ∈ lw_tbl := wc_2 (j := 166) rfl
set_option maxRecDepth 20000 in
theorem w_407 : (Cond.instanceMethod yX3_setReadings) ∈ lw_tbl := wc_2 (j := 167) rfl
set_option maxRecDepth 20000 in
theorem w_408 : (Cond.selects "SpellScribe$Proof" yX3_setReadings yX3_setReadings) ∈ lw_tbl := wc_2 (j := 168) rfl
set_option maxRecDepth 20000 in
theorem w_409 : (Cond.code yX3_setReadings prog_5_method_9_code (3 : Nat) none) ∈ lw_tbl := wc_2 (j := 169) rfl
set_option maxRecDepth 20000 in
theorem w_410 : (Cond.methodLink "SpellScribe$Proof" (43 : Nat) yX4_set) ∈ lw_tbl := wc_2 (j := 170) rfl
set_option maxRecDepth 20000 in
theorem w_411 : (Cond.methodLink "SpellScribe" (391 : Nat) yX3_read) ∈ lw_tbl := wc_2 (j := 171) rfl
set_option maxRecDepth 20000 in
theorem w_412 : (Cond.instanceMethod yX3_read) ∈ lw_tbl := wc_2 (j := 172) rfl
set_option maxRecDepth 20000 in
theorem w_413 : (Cond.selects "SpellScribe$Proof" yX3_read yX3_read) ∈ lw_tbl := wc_2 (j := 173) rfl
set_option maxRecDepth 20000 in
theorem w_414 : (Cond.code yX3_read prog_5_method_10_code (7 : Nat) none) ∈ lw_tbl := wc_2 (j := 174) rfl
set_option maxRecDepth 20000 in
theorem w_415 : (Cond.methodLink "SpellScribe$Proof" (47 : Nat) yX9_sentenceCount) ∈ lw_tbl := wc_2 (j := 175) rfl
set_option maxRecDepth 20000 in
theorem w_416 : (Cond.instanceMethod yX9_sentenceCount) ∈ lw_tbl := wc_2 (j := 176) rfl
set_option maxRecDepth 20000 in
theorem w_417 : (Cond.selects "SpellScribe$Text" yX9_sentenceCount yX9_sentenceCount) ∈ lw_tbl := wc_2 (j := 177) rfl
set_option maxRecDepth 20000 in
theorem w_418 : (Cond.code yX9_sentenceCount prog_11_method_10_code (1 : Nat) (some FieldType.int)) ∈ lw_tbl := wc_2 (j := 178) rfl
set_option maxRecDepth 20000 in
theorem w_419 : (Cond.methodLink "SpellScribe$Proof" (53 : Nat) yX9_firstWordOf) ∈ lw_tbl := wc_2 (j := 179) rfl
set_option maxRecDepth 20000 in
theorem w_420 : (Cond.instanceMethod yX9_firstWordOf) ∈ lw_tbl := wc_2 (j := 180) rfl
set_option maxRecDepth 20000 in
theorem w_421 : (Cond.selects "SpellScribe$Text" yX9_firstWordOf yX9_firstWordOf) ∈ lw_tbl := wc_2 (j := 181) rfl
set_option maxRecDepth 20000 in
theorem w_422 : (Cond.code yX9_firstWordOf prog_11_method_11_code (2 : Nat) (some FieldType.int)) ∈ lw_tbl := wc_2 (j := 182) rfl
set_option maxRecDepth 20000 in
theorem w_423 : (Cond.methodLink "SpellScribe$Proof" (56 : Nat) yX0_choose) ∈ lw_tbl := wc_2 (j := 183) rfl
set_option maxRecDepth 20000 in
theorem w_424 : (Cond.instanceMethod yX0_choose) ∈ lw_tbl := wc_2 (j := 184) rfl
set_option maxRecDepth 20000 in
theorem w_425 : (Cond.selects "SpellScribe$Grammar" yX0_choose yX0_choose) ∈ lw_tbl := wc_2 (j := 185) rfl
set_option maxRecDepth 20000 in
theorem w_426 : (Cond.code yX0_choose prog_2_method_3_code (9 : Nat) none) ∈ lw_tbl := wc_2 (j := 186) rfl
set_option maxRecDepth 20000 in
theorem w_427 : (Cond.methodLink "SpellScribe$Grammar" (23 : Nat) yX4_get) ∈ lw_tbl := wc_2 (j := 187) rfl
set_option maxRecDepth 20000 in
theorem w_428 : (Cond.methodLink "SpellScribe$Grammar" (31 : Nat) yX0_bestReading) ∈ lw_tbl := wc_2 (j := 188) rfl
set_option maxRecDepth 20000 in
theorem w_430 : (Cond.instanceMethod yX0_bestReading) ∈ lw_tbl := wc_2 (j := 190) rfl
set_option maxRecDepth 20000 in
theorem w_431 : (Cond.code yX0_bestReading prog_2_method_5_code (8 : Nat) (some FieldType.int)) ∈ lw_tbl := wc_2 (j := 191) rfl
set_option maxRecDepth 20000 in
theorem w_432 : (Cond.constant "SpellScribe$Grammar" (42 : Nat) (100000 : Int32)) ∈ lw_tbl := wc_2 (j := 192) rfl
set_option maxRecDepth 20000 in
theorem w_433 : (Cond.methodLink "SpellScribe$Grammar" (35 : Nat) yX0_countBroken) ∈ lw_tbl := wc_2 (j := 193) rfl
set_option maxRecDepth 20000 in
theorem w_435 : (Cond.instanceMethod yX0_countBroken) ∈ lw_tbl := wc_2 (j := 195) rfl
set_option maxRecDepth 20000 in
theorem w_436 : (Cond.code yX0_countBroken prog_2_method_6_code (5 : Nat) (some FieldType.int)) ∈ lw_tbl := wc_2 (j := 196) rfl
set_option maxRecDepth 20000 in
theorem w_437 : (Cond.methodLink "SpellScribe$Grammar" (43 : Nat) yX0_isBroken) ∈ lw_tbl := wc_2 (j := 197) rfl
set_option maxRecDepth 20000 in
theorem w_438 : (Cond.instanceMethod yX0_isBroken) ∈ lw_tbl := wc_2 (j := 198) rfl
set_option maxRecDepth 20000 in
theorem w_439 : (Cond.selects "SpellScribe$Grammar" yX0_isBroken yX0_isBroken) ∈ lw_tbl := wc_2 (j := 199) rfl
set_option maxRecDepth 20000 in
theorem w_440 : (Cond.code yX0_isBroken prog_2_method_4_code (4 : Nat) (some FieldType.boolean)) ∈ lw_tbl := wc_2 (j := 200) rfl
set_option maxRecDepth 20000 in
theorem w_441 : (Cond.methodLink "SpellScribe$Grammar" (38 : Nat) yX0_setFewest) ∈ lw_tbl := wc_2 (j := 201) rfl
set_option maxRecDepth 20000 in
theorem w_443 : (Cond.instanceMethod yX0_setFewest) ∈ lw_tbl := wc_2 (j := 203) rfl
set_option maxRecDepth 20000 in
theorem w_444 : (Cond.code yX0_setFewest prog_2_method_7_code (4 : Nat) none) ∈ lw_tbl := wc_2 (j := 204) rfl
set_option maxRecDepth 20000 in
theorem w_445 : (Cond.methodLink "SpellScribe$Grammar" (27 : Nat) yX4_set) ∈ lw_tbl := wc_2 (j := 205) rfl
set_option maxRecDepth 20000 in
theorem w_446 : (Cond.methodLink "SpellScribe$Proof" (62 : Nat) yX3_markBroken) ∈ lw_tbl := wc_2 (j := 206) rfl
set_option maxRecDepth 20000 in
theorem w_448 : (Cond.instanceMethod yX3_markBroken) ∈ lw_tbl := wc_2 (j := 208) rfl
set_option maxRecDepth 20000 in
theorem w_449 : (Cond.code yX3_markBroken prog_5_method_11_code (6 : Nat) none) ∈ lw_tbl := wc_2 (j := 209) rfl
set_option maxRecDepth 20000 in
theorem w_450 : (Cond.methodLink "SpellScribe$Proof" (35 : Nat) yX4_get) ∈ lw_tbl := wc_2 (j := 210) rfl
set_option maxRecDepth 20000 in
theorem w_451 : (Cond.methodLink "SpellScribe$Proof" (76 : Nat) yX0_isBroken) ∈ lw_tbl := wc_2 (j := 211) rfl
set_option maxRecDepth 20000 in
theorem w_452 : (Cond.methodLink "SpellScribe$Proof" (66 : Nat) yX3_takeStyles) ∈ lw_tbl := wc_2 (j := 212) rfl
set_option maxRecDepth 20000 in
theorem w_454 : (Cond.instanceMethod yX3_takeStyles) ∈ lw_tbl := wc_2 (j := 214) rfl
set_option maxRecDepth 20000 in
theorem w_455 : (Cond.code yX3_takeStyles prog_5_method_12_code (9 : Nat) none) ∈ lw_tbl := wc_2 (j := 215) rfl
set_option maxRecDepth 20000 in
theorem w_456 : (Cond.methodLink "SpellScribe$Proof" (80 : Nat) yX3_lowestFit) ∈ lw_tbl := wc_2 (j := 216) rfl
set_option maxRecDepth 20000 in
theorem w_458 : (Cond.instanceMethod yX3_lowestFit) ∈ lw_tbl := wc_2 (j := 218) rfl
set_option maxRecDepth 20000 in
theorem w_459 : (Cond.code yX3_lowestFit prog_5_method_13_code (6 : Nat) (some FieldType.int)) ∈ lw_tbl := wc_2 (j := 219) rfl
set_option maxRecDepth 20000 in
theorem w_460 : (Cond.interfaceEntry "SpellScribe$Proof" (93 : Nat)) ∈ lw_tbl := wc_2 (j := 220) rfl
set_option maxRecDepth 20000 in
theorem w_461 : (Cond.methodLink "SpellScribe$Proof" (93 : Nat) ⟨"java/util/List", "size", "()I"⟩) ∈ lw_tbl := wc_2 (j := 221) rfl
set_option maxRecDepth 20000 in
theorem w_462 : (Cond.interfaceMethod "java/util/List" "java/util/List" "size" "()I") ∈ lw_tbl := wc_2 (j := 222) rfl
set_option maxRecDepth 20000 in
theorem w_463 : (Cond.declares ⟨"java/util/List", "size", "()I"⟩) ∈ lw_tbl := wc_2 (j := 223) rfl
set_option maxRecDepth 20000 in
theorem w_464 : (Cond.castable "java/util/ArrayList" "java/util/List") ∈ lw_tbl := wc_2 (j := 224) rfl
set_option maxRecDepth 20000 in
theorem w_465 : (Cond.selects "java/util/ArrayList" ⟨"java/util/List", "size", "()I"⟩ yJx4a65c_size_8abf5) ∈ lw_tbl := wc_2 (j := 225) rfl
set_option maxRecDepth 20000 in
theorem w_466 : (Cond.unhidden "java/util/ArrayList" "size" "()I") ∈ lw_tbl := wc_2 (j := 226) rfl
set_option maxRecDepth 20000 in
theorem w_467 : (Cond.instanceMethod yJx4a65c_size_8abf5) ∈ lw_tbl := wc_2 (j := 227) rfl
set_option maxRecDepth 20000 in
theorem w_468 : (Cond.publicMethod yJx4a65c_size_8abf5) ∈ lw_tbl := wc_2 (j := 228) rfl
set_option maxRecDepth 20000 in
theorem w_469 : (Cond.code yJx4a65c_size_8abf5 prog_29_method_8_code (1 : Nat) (some FieldType.int)) ∈ lw_tbl := wc_2 (j := 229) rfl
set_option maxRecDepth 20000 in
theorem w_470 : (Cond.interfaceEntry "SpellScribe$Proof" (98 : Nat)) ∈ lw_tbl := wc_2 (j := 230) rfl
set_option maxRecDepth 20000 in
theorem w_471 : (Cond.methodLink "SpellScribe$Proof" (98 : Nat) ⟨"java/util/List", "get", "(I)Ljava/lang/Object;"⟩) ∈ lw_tbl := wc_2 (j := 231) rfl
set_option maxRecDepth 20000 in
theorem w_472 : (Cond.interfaceMethod "java/util/List" "java/util/List" "get" "(I)Ljava/lang/Object;") ∈ lw_tbl := wc_2 (j := 232) rfl
set_option maxRecDepth 20000 in
theorem w_473 : (Cond.declares ⟨"java/util/List", "get", "(I)Ljava/lang/Object;"⟩) ∈ lw_tbl := wc_2 (j := 233) rfl
set_option maxRecDepth 20000 in
theorem w_474 : (Cond.selects "java/util/ArrayList" ⟨"java/util/List", "get", "(I)Ljava/lang/Object;"⟩ yJx4a65c_get_915e3) ∈ lw_tbl := wc_2 (j := 234) rfl
set_option maxRecDepth 20000 in
theorem w_475 : (Cond.unhidden "java/util/ArrayList" "get" "(I)Ljava/lang/Object;") ∈ lw_tbl := wc_2 (j := 235) rfl
set_option maxRecDepth 20000 in
theorem w_476 : (Cond.instanceMethod yJx4a65c_get_915e3) ∈ lw_tbl := wc_2 (j := 236) rfl
set_option maxRecDepth 20000 in
theorem w_477 : (Cond.publicMethod yJx4a65c_get_915e3) ∈ lw_tbl := wc_2 (j := 237) rfl
set_option maxRecDepth 20000 in
theorem w_478 : (Cond.code yJx4a65c_get_915e3 prog_29_method_20_code (2 : Nat) (some (FieldType.object "java/lang/Object"))) ∈ lw_tbl := wc_2 (j := 238) rfl
set_option maxRecDepth 20000 in
theorem w_479 : (Cond.methodLink "java/util/ArrayList" (118 : Nat) yJ15_checkIndex_7cf53) ∈ lw_tbl := wc_2 (j := 239) rfl
set_option maxRecDepth 20000 in
theorem w_480 : (Cond.static yJ15_checkIndex_7cf53) ∈ lw_tbl := wc_3 (j := 0) rfl
set_option maxRecDepth 20000 in
theorem w_481 : (Cond.code yJ15_checkIndex_7cf53 prog_33_method_17_code (2 : Nat) (some FieldType.int)) ∈ lw_tbl := wc_3 (j := 1) rfl
set_option maxRecDepth 20000 in
theorem w_482 : (Cond.methodLink "java/util/Objects" (105 : Nat) yJ3_checkIndex_8e157) ∈ lw_tbl := wc_3 (j := 2) rfl
set_option maxRecDepth 20000 in
theorem w_483 : (Cond.static yJ3_checkIndex_8e157) ∈ lw_tbl := wc_3 (j := 3) rfl
set_option maxRecDepth 20000 in
theorem w_484 : (Cond.code yJ3_checkIndex_8e157 prog_37_method_11_code (3 : Nat) (some FieldType.int)) ∈ lw_tbl := wc_3 (j := 4) rfl
set_option maxRecDepth 20000 in
theorem w_485 : (Cond.methodLink "java/util/ArrayList" (123 : Nat) yJx4a65c_elementData_915e3) ∈ lw_tbl := wc_3 (j := 5) rfl
set_option maxRecDepth 20000 in
theorem w_486 : (Cond.instanceMethod yJx4a65c_elementData_915e3) ∈ lw_tbl := wc_3 (j := 6) rfl
set_option maxRecDepth 20000 in
theorem w_487 : (Cond.selects "java/util/ArrayList" yJx4a65c_elementData_915e3 yJx4a65c_elementData_915e3) ∈ lw_tbl := wc_3 (j := 7) rfl
set_option maxRecDepth 20000 in
theorem w_488 : (Cond.code yJx4a65c_elementData_915e3 prog_29_method_18_code (2 : Nat) (some (FieldType.object "java/lang/Object"))) ∈ lw_tbl := wc_3 (j := 8) rfl
set_option maxRecDepth 20000 in
theorem w_489 : (Cond.classLink "SpellScribe$Proof" (89 : Nat) "SpellScribe$Style") ∈ lw_tbl := wc_3 (j := 9) rfl
set_option maxRecDepth 20000 in
theorem w_490 : (Cond.methodLink "SpellScribe$Proof" (101 : Nat) yX7_fits) ∈ lw_tbl := wc_3 (j := 10) rfl
set_option maxRecDepth 20000 in
theorem w_491 : (Cond.instanceMethod yX7_fits) ∈ lw_tbl := wc_3 (j := 11) rfl
set_option maxRecDepth 20000 in
theorem w_492 : (Cond.selects "SpellScribe$Style" yX7_fits yX7_fits) ∈ lw_tbl := wc_3 (j := 12) rfl
set_option maxRecDepth 20000 in
theorem w_493 : (Cond.code yX7_fits prog_9_method_4_code (6 : Nat) (some FieldType.boolean)) ∈ lw_tbl := wc_3 (j := 13) rfl
set_option maxRecDepth 20000 in
theorem w_494 : (Cond.methodLink "SpellScribe$Style" (34 : Nat) yX4_get) ∈ lw_tbl := wc_3 (j := 14) rfl
set_option maxRecDepth 20000 in
theorem w_495 : (Cond.methodLink "SpellScribe$Style" (38 : Nat) yX9_wordNumbered) ∈ lw_tbl := wc_3 (j := 15) rfl
set_option maxRecDepth 20000 in
theorem w_496 : (Cond.methodLink "SpellScribe$Style" (43 : Nat) yX7_fitsItem) ∈ lw_tbl := wc_3 (j := 16) rfl
set_option maxRecDepth 20000 in
theorem w_497 : (Cond.static yX7_fitsItem) ∈ lw_tbl := wc_3 (j := 17) rfl
set_option maxRecDepth 20000 in
theorem w_498 : (Cond.code yX7_fitsItem prog_9_method_5_code (3 : Nat) (some FieldType.boolean)) ∈ lw_tbl := wc_3 (j := 18) rfl
set_option maxRecDepth 20000 in
theorem w_499 : (Cond.methodLinkNest "SpellScribe$Proof" (84 : Nat) yX11_styleNumbered "SpellScribe") ∈ lw_tbl := wc_3 (j := 19) rfl
set_option maxRecDepth 20000 in
theorem w_500 : (Cond.static yX11_styleNumbered) ∈ lw_tbl := wc_3 (j := 20) rfl
set_option maxRecDepth 20000 in
theorem w_501 : (Cond.code yX11_styleNumbered prog_1_method_43_code (2 : Nat) (some (FieldType.object "SpellScribe$Style"))) ∈ lw_tbl := wc_3 (j := 21) rfl
set_option maxRecDepth 20000 in
theorem w_502 : (Cond.interfaceEntry "SpellScribe" (255 : Nat)) ∈ lw_tbl := wc_3 (j := 22) rfl
set_option maxRecDepth 20000 in
theorem w_503 : (Cond.methodLink "SpellScribe" (255 : Nat) ⟨"java/util/List", "size", "()I"⟩) ∈ lw_tbl := wc_3 (j := 23) rfl
set_option maxRecDepth 20000 in
theorem w_504 : (Cond.methodLink "SpellScribe" (112 : Nat) yX11_isIn) ∈ lw_tbl := wc_3 (j := 24) rfl
set_option maxRecDepth 20000 in
theorem w_505 : (Cond.static yX11_isIn) ∈ lw_tbl := wc_3 (j := 25) rfl
set_option maxRecDepth 20000 in
theorem w_506 : (Cond.code yX11_isIn prog_1_method_44_code (3 : Nat) (some FieldType.boolean)) ∈ lw_tbl := wc_3 (j := 26) rfl
set_option maxRecDepth 20000 in
theorem w_507 : (Cond.interfaceEntry "SpellScribe" (417 : Nat)) ∈ lw_tbl := wc_3 (j := 27) rfl
set_option maxRecDepth 20000 in
theorem w_508 : (Cond.methodLink "SpellScribe" (417 : Nat) ⟨"java/util/List", "get", "(I)Ljava/lang/Object;"⟩) ∈ lw_tbl := wc_3 (j := 28) rfl
set_option maxRecDepth 20000 in
theorem w_509 : (Cond.methodLink "SpellScribe$Proof" (70 : Nat) yX9_wordCount) ∈ lw_tbl := wc_3 (j := 29) rfl
set_option maxRecDepth 20000 in
theorem w_510 : (Cond.methodLink "SpellScribe$Proof" (73 : Nat) yX3_listMistakes) ∈ lw_tbl := wc_3 (j := 30) rfl
set_option maxRecDepth 20000 in
theorem w_512 : (Cond.instanceMethod yX3_listMistakes) ∈ lw_tbl := wc_3 (j := 32) rfl
set_option maxRecDepth 20000 in
theorem w_513 : (Cond.code yX3_listMistakes prog_5_method_14_code (3 : Nat) none) ∈ lw_tbl := wc_3 (j := 33) rfl
set_option maxRecDepth 20000 in
theorem w_514 : (Cond.methodLink "SpellScribe$Proof" (105 : Nat) yX3_isSpelledRight) ∈ lw_tbl := wc_3 (j := 34) rfl
set_option maxRecDepth 20000 in
theorem w_515 : (Cond.instanceMethod yX3_isSpelledRight) ∈ lw_tbl := wc_3 (j := 35) rfl
set_option maxRecDepth 20000 in
theorem w_516 : (Cond.selects "SpellScribe$Proof" yX3_isSpelledRight yX3_isSpelledRight) ∈ lw_tbl := wc_3 (j := 36) rfl
set_option maxRecDepth 20000 in
theorem w_517 : (Cond.code yX3_isSpelledRight prog_5_method_2_code (2 : Nat) (some FieldType.boolean)) ∈ lw_tbl := wc_3 (j := 37) rfl
set_option maxRecDepth 20000 in
theorem w_518 : (Cond.methodLink "SpellScribe$Proof" (109 : Nat) yX3_addMistake) ∈ lw_tbl := wc_3 (j := 38) rfl
set_option maxRecDepth 20000 in
theorem w_520 : (Cond.instanceMethod yX3_addMistake) ∈ lw_tbl := wc_3 (j := 40) rfl
set_option maxRecDepth 20000 in
theorem w_521 : (Cond.code yX3_addMistake prog_5_method_15_code (3 : Nat) none) ∈ lw_tbl := wc_3 (j := 41) rfl
set_option maxRecDepth 20000 in
theorem w_522 : (Cond.methodLink "SpellScribe" (298 : Nat) yX11_changeOnce) ∈ lw_tbl := wc_3 (j := 42) rfl
set_option maxRecDepth 20000 in
theorem w_524 : (Cond.instanceMethod yX11_changeOnce) ∈ lw_tbl := wc_3 (j := 44) rfl
set_option maxRecDepth 20000 in
theorem w_525 : (Cond.code yX11_changeOnce prog_1_method_41_code (3 : Nat) (some FieldType.boolean)) ∈ lw_tbl := wc_3 (j := 45) rfl
set_option maxRecDepth 20000 in
theorem w_526 : (Cond.methodLink "SpellScribe" (222 : Nat) yX3_isSpelledRight) ∈ lw_tbl := wc_3 (j := 46) rfl
set_option maxRecDepth 20000 in
theorem w_527 : (Cond.methodLink "SpellScribe" (342 : Nat) yX11_listSuggestions) ∈ lw_tbl := wc_3 (j := 47) rfl
set_option maxRecDepth 20000 in
theorem w_529 : (Cond.instanceMethod yX11_listSuggestions) ∈ lw_tbl := wc_3 (j := 49) rfl
set_option maxRecDepth 20000 in
theorem w_530 : (Cond.code yX11_listSuggestions prog_1_method_37_code (2 : Nat) none) ∈ lw_tbl := wc_3 (j := 50) rfl
set_option maxRecDepth 20000 in
theorem w_531 : (Cond.methodLink "SpellScribe" (348 : Nat) yX2_suggestable) ∈ lw_tbl := wc_3 (j := 51) rfl
set_option maxRecDepth 20000 in
theorem w_532 : (Cond.instanceMethod yX2_suggestable) ∈ lw_tbl := wc_3 (j := 52) rfl
set_option maxRecDepth 20000 in
theorem w_533 : (Cond.selects "SpellScribe$Lexicon" yX2_suggestable yX2_suggestable) ∈ lw_tbl := wc_3 (j := 53) rfl
set_option maxRecDepth 20000 in
theorem w_534 : (Cond.code yX2_suggestable prog_4_method_15_code (1 : Nat) (some (FieldType.object "SpellScribe$WordBook"))) ∈ lw_tbl := wc_3 (j := 54) rfl
set_option maxRecDepth 20000 in
theorem w_535 : (Cond.methodLink "SpellScribe" (352 : Nat) yX8_list) ∈ lw_tbl := wc_3 (j := 55) rfl
set_option maxRecDepth 20000 in
theorem w_536 : (Cond.instanceMethod yX8_list) ∈ lw_tbl := wc_3 (j := 56) rfl
set_option maxRecDepth 20000 in
theorem w_537 : (Cond.selects "SpellScribe$Suggester" yX8_list yX8_list) ∈ lw_tbl := wc_3 (j := 57) rfl
set_option maxRecDepth 20000 in
theorem w_538 : (Cond.code yX8_list prog_10_method_6_code (8 : Nat) none) ∈ lw_tbl := wc_3 (j := 58) rfl
set_option maxRecDepth 20000 in
theorem w_539 : (Cond.methodLink "SpellScribe$Suggester" (47 : Nat) yX9_wordSize) ∈ lw_tbl := wc_3 (j := 59) rfl
set_option maxRecDepth 20000 in
theorem w_540 : (Cond.instanceMethod yX9_wordSize) ∈ lw_tbl := wc_3 (j := 60) rfl
set_option maxRecDepth 20000 in
theorem w_541 : (Cond.selects "SpellScribe$Text" yX9_wordSize yX9_wordSize) ∈ lw_tbl := wc_3 (j := 61) rfl
set_option maxRecDepth 20000 in
theorem w_542 : (Cond.code yX9_wordSize prog_11_method_6_code (2 : Nat) (some FieldType.int)) ∈ lw_tbl := wc_3 (j := 62) rfl
set_option maxRecDepth 20000 in
theorem w_543 : (Cond.methodLink "SpellScribe$Suggester" (54 : Nat) yX9_letterOfWord) ∈ lw_tbl := wc_3 (j := 63) rfl
set_option maxRecDepth 20000 in
theorem w_544 : (Cond.instanceMethod yX9_letterOfWord) ∈ lw_tbl := wc_3 (j := 64) rfl
set_option maxRecDepth 20000 in
theorem w_545 : (Cond.selects "SpellScribe$Text" yX9_letterOfWord yX9_letterOfWord) ∈ lw_tbl := wc_3 (j := 65) rfl
set_option maxRecDepth 20000 in
theorem w_546 : (Cond.code yX9_letterOfWord prog_11_method_8_code (3 : Nat) (some FieldType.int)) ∈ lw_tbl := wc_3 (j := 66) rfl
set_option maxRecDepth 20000 in
theorem w_547 : (Cond.methodLink "SpellScribe$Suggester" (39 : Nat) yX4_set) ∈ lw_tbl := wc_3 (j := 67) rfl
set_option maxRecDepth 20000 in
theorem w_548 : (Cond.methodLink "SpellScribe$Suggester" (58 : Nat) yX10_count) ∈ lw_tbl := wc_3 (j := 68) rfl
set_option maxRecDepth 20000 in
theorem w_549 : (Cond.instanceMethod yX10_count) ∈ lw_tbl := wc_3 (j := 69) rfl
set_option maxRecDepth 20000 in
theorem w_550 : (Cond.selects "SpellScribe$WordBook" yX10_count yX10_count) ∈ lw_tbl := wc_3 (j := 70) rfl
set_option maxRecDepth 20000 in
theorem w_551 : (Cond.code yX10_count prog_12_method_2_code (1 : Nat) (some FieldType.int)) ∈ lw_tbl := wc_3 (j := 71) rfl
set_option maxRecDepth 20000 in
theorem w_552 : (Cond.methodLink "SpellScribe$Suggester" (63 : Nat) yX10_wordOn) ∈ lw_tbl := wc_3 (j := 72) rfl
set_option maxRecDepth 20000 in
theorem w_553 : (Cond.instanceMethod yX10_wordOn) ∈ lw_tbl := wc_3 (j := 73) rfl
set_option maxRecDepth 20000 in
theorem w_554 : (Cond.selects "SpellScribe$WordBook" yX10_wordOn yX10_wordOn) ∈ lw_tbl := wc_3 (j := 74) rfl
set_option maxRecDepth 20000 in
theorem w_555 : (Cond.code yX10_wordOn prog_12_method_3_code (2 : Nat) (some FieldType.int)) ∈ lw_tbl := wc_3 (j := 75) rfl
set_option maxRecDepth 20000 in
theorem w_556 : (Cond.methodLink "SpellScribe$Suggester" (66 : Nat) yX8_costTo) ∈ lw_tbl := wc_3 (j := 76) rfl
set_option maxRecDepth 20000 in
theorem w_558 : (Cond.instanceMethod yX8_costTo) ∈ lw_tbl := wc_3 (j := 78) rfl
set_option maxRecDepth 20000 in
theorem w_559 : (Cond.code yX8_costTo prog_10_method_8_code (7 : Nat) (some FieldType.int)) ∈ lw_tbl := wc_3 (j := 79) rfl
set_option maxRecDepth 20000 in
theorem w_560 : (Cond.methodLinkNest "SpellScribe$Suggester" (80 : Nat) yX11_sizeOf "SpellScribe") ∈ lw_tbl := wc_3 (j := 80) rfl
set_option maxRecDepth 20000 in
theorem w_561 : (Cond.methodLink "SpellScribe$Suggester" (83 : Nat) Lib.Math.abs.name) ∈ lw_tbl := wc_3 (j := 81) rfl
set_option maxRecDepth 20000 in
theorem w_562 : (Cond.static Lib.Math.abs.name) ∈ lw_tbl := wc_3 (j := 82) rfl
set_option maxRecDepth 20000 in
theorem w_563 : (Cond.code Lib.Math.abs.name prog_22_method_59_code (1 : Nat) (some FieldType.int)) ∈ lw_tbl := wc_3 (j := 83) rfl
set_option maxRecDepth 20000 in
theorem w_564 : (Cond.constant "SpellScribe$Suggester" (88 : Nat) (100000 : Int32)) ∈ lw_tbl := wc_3 (j := 84) rfl
set_option maxRecDepth 20000 in
theorem w_565 : (Cond.methodLinkNest "SpellScribe$Suggester" (89 : Nat) yX11_letterOf "SpellScribe") ∈ lw_tbl := wc_3 (j := 85) rfl
set_option maxRecDepth 20000 in
theorem w_566 : (Cond.methodLink "SpellScribe$Suggester" (92 : Nat) Lib.Math.min.name) ∈ lw_tbl := wc_3 (j := 86) rfl
set_option maxRecDepth 20000 in
theorem w_567 : (Cond.static Lib.Math.min.name) ∈ lw_tbl := wc_3 (j := 87) rfl
set_option maxRecDepth 20000 in
theorem w_568 : (Cond.code Lib.Math.min.name prog_22_method_69_code (2 : Nat) (some FieldType.int)) ∈ lw_tbl := wc_3 (j := 88) rfl
set_option maxRecDepth 20000 in
theorem w_569 : (Cond.methodLink "SpellScribe$Suggester" (95 : Nat) Lib.Math.max.name) ∈ lw_tbl := wc_3 (j := 89) rfl
set_option maxRecDepth 20000 in
theorem w_570 : (Cond.static Lib.Math.max.name) ∈ lw_tbl := wc_3 (j := 90) rfl
set_option maxRecDepth 20000 in
theorem w_571 : (Cond.code Lib.Math.max.name prog_22_method_65_code (2 : Nat) (some FieldType.int)) ∈ lw_tbl := wc_3 (j := 91) rfl
set_option maxRecDepth 20000 in
theorem w_572 : (Cond.methodLink "SpellScribe$Suggester" (98 : Nat) yX8_leastCost) ∈ lw_tbl := wc_3 (j := 92) rfl
set_option maxRecDepth 20000 in
theorem w_574 : (Cond.instanceMethod yX8_leastCost) ∈ lw_tbl := wc_3 (j := 94) rfl
set_option maxRecDepth 20000 in
theorem w_575 : (Cond.code yX8_leastCost prog_10_method_9_code (6 : Nat) (some FieldType.int)) ∈ lw_tbl := wc_3 (j := 95) rfl
set_option maxRecDepth 20000 in
theorem w_576 : (Cond.methodLink "SpellScribe$Suggester" (102 : Nat) yX8_costBefore) ∈ lw_tbl := wc_3 (j := 96) rfl
set_option maxRecDepth 20000 in
theorem w_578 : (Cond.instanceMethod yX8_costBefore) ∈ lw_tbl := wc_3 (j := 98) rfl
set_option maxRecDepth 20000 in
theorem w_579 : (Cond.code yX8_costBefore prog_10_method_11_code (5 : Nat) (some FieldType.int)) ∈ lw_tbl := wc_3 (j := 99) rfl
set_option maxRecDepth 20000 in
theorem w_580 : (Cond.methodLink "SpellScribe$Suggester" (35 : Nat) yX4_get) ∈ lw_tbl := wc_3 (j := 100) rfl
set_option maxRecDepth 20000 in
theorem w_581 : (Cond.methodLink "SpellScribe$Suggester" (105 : Nat) yX8_costToBecome) ∈ lw_tbl := wc_3 (j := 101) rfl
set_option maxRecDepth 20000 in
theorem w_583 : (Cond.instanceMethod yX8_costToBecome) ∈ lw_tbl := wc_3 (j := 103) rfl
set_option maxRecDepth 20000 in
theorem w_584 : (Cond.code yX8_costToBecome prog_10_method_12_code (5 : Nat) (some FieldType.int)) ∈ lw_tbl := wc_3 (j := 104) rfl
set_option maxRecDepth 20000 in
theorem w_585 : (Cond.methodLink "SpellScribe$Suggester" (108 : Nat) yX8_isSwapped) ∈ lw_tbl := wc_3 (j := 105) rfl
set_option maxRecDepth 20000 in
theorem w_587 : (Cond.instanceMethod yX8_isSwapped) ∈ lw_tbl := wc_3 (j := 107) rfl
set_option maxRecDepth 20000 in
theorem w_588 : (Cond.code yX8_isSwapped prog_10_method_10_code (3 : Nat) (some FieldType.boolean)) ∈ lw_tbl := wc_3 (j := 108) rfl
set_option maxRecDepth 20000 in
theorem w_589 : (Cond.methodLinkNest "SpellScribe$Suggester" (69 : Nat) yX11_isIn "SpellScribe") ∈ lw_tbl := wc_3 (j := 109) rfl
set_option maxRecDepth 20000 in
theorem w_590 : (Cond.methodLink "SpellScribe$Suggester" (73 : Nat) yX8_addSuggestion) ∈ lw_tbl := wc_3 (j := 110) rfl
set_option maxRecDepth 20000 in
theorem w_592 : (Cond.instanceMethod yX8_addSuggestion) ∈ lw_tbl := wc_3 (j := 112) rfl
set_option maxRecDepth 20000 in
theorem w_593 : (Cond.code yX8_addSuggestion prog_10_method_7_code (4 : Nat) none) ∈ lw_tbl := wc_3 (j := 113) rfl
set_option maxRecDepth 20000 in
theorem w_594 : (Cond.methodLink "SpellScribe$Suggester" (76 : Nat) yX4_insert) ∈ lw_tbl := wc_3 (j := 114) rfl
set_option maxRecDepth 20000 in
theorem w_595 : (Cond.instanceMethod yX4_insert) ∈ lw_tbl := wc_3 (j := 115) rfl
set_option maxRecDepth 20000 in
theorem w_596 : (Cond.selects "SpellScribe$Row" yX4_insert yX4_insert) ∈ lw_tbl := wc_3 (j := 116) rfl
set_option maxRecDepth 20000 in
theorem w_597 : (Cond.code yX4_insert prog_6_method_4_code (4 : Nat) none) ∈ lw_tbl := wc_3 (j := 117) rfl
set_option maxRecDepth 20000 in
theorem w_598 : (Cond.methodLink "SpellScribe$Row" (13 : Nat) arraycopyName) ∈ lw_tbl := wc_3 (j := 118) rfl
set_option maxRecDepth 20000 in
theorem w_599 : (Cond.static arraycopyName) ∈ lw_tbl := wc_3 (j := 119) rfl
set_option maxRecDepth 20000 in
theorem w_600 : (Cond.native arraycopyName) ∈ lw_tbl := wc_3 (j := 120) rfl
set_option maxRecDepth 20000 in
theorem w_601 : (Cond.methodLink "SpellScribe" (345 : Nat) yX8_count) ∈ lw_tbl := wc_3 (j := 121) rfl
set_option maxRecDepth 20000 in
theorem w_602 : (Cond.instanceMethod yX8_count) ∈ lw_tbl := wc_3 (j := 122) rfl
set_option maxRecDepth 20000 in
theorem w_603 : (Cond.selects "SpellScribe$Suggester" yX8_count yX8_count) ∈ lw_tbl := wc_3 (j := 123) rfl
set_option maxRecDepth 20000 in
theorem w_604 : (Cond.code yX8_count prog_10_method_3_code (1 : Nat) (some FieldType.int)) ∈ lw_tbl := wc_3 (j := 124) rfl
set_option maxRecDepth 20000 in
theorem w_605 : (Cond.methodLink "SpellScribe" (366 : Nat) yX8_listedWord) ∈ lw_tbl := wc_3 (j := 125) rfl
set_option maxRecDepth 20000 in
theorem w_606 : (Cond.instanceMethod yX8_listedWord) ∈ lw_tbl := wc_3 (j := 126) rfl
set_option maxRecDepth 20000 in
theorem w_607 : (Cond.selects "SpellScribe$Suggester" yX8_listedWord yX8_listedWord) ∈ lw_tbl := wc_3 (j := 127) rfl
set_option maxRecDepth 20000 in
theorem w_608 : (Cond.code yX8_listedWord prog_10_method_4_code (2 : Nat) (some FieldType.int)) ∈ lw_tbl := wc_3 (j := 128) rfl
set_option maxRecDepth 20000 in
theorem w_609 : (Cond.methodLink "SpellScribe" (398 : Nat) yX11_changeWord) ∈ lw_tbl := wc_3 (j := 129) rfl
set_option maxRecDepth 20000 in
theorem w_611 : (Cond.instanceMethod yX11_changeWord) ∈ lw_tbl := wc_3 (j := 131) rfl
set_option maxRecDepth 20000 in
theorem w_612 : (Cond.code yX11_changeWord prog_1_method_42_code (3 : Nat) (some FieldType.boolean)) ∈ lw_tbl := wc_3 (j := 132) rfl
set_option maxRecDepth 20000 in
theorem w_613 : (Cond.methodLink "SpellScribe" (271 : Nat) yX9_size) ∈ lw_tbl := wc_3 (j := 133) rfl
set_option maxRecDepth 20000 in
theorem w_614 : (Cond.methodLink "SpellScribe" (325 : Nat) yX9_wordSize) ∈ lw_tbl := wc_3 (j := 134) rfl
set_option maxRecDepth 20000 in
theorem w_615 : (Cond.methodLink "SpellScribe" (414 : Nat) yX9_replaceWord) ∈ lw_tbl := wc_3 (j := 135) rfl
set_option maxRecDepth 20000 in
theorem w_616 : (Cond.instanceMethod yX9_replaceWord) ∈ lw_tbl := wc_3 (j := 136) rfl
set_option maxRecDepth 20000 in
theorem w_617 : (Cond.selects "SpellScribe$Text" yX9_replaceWord yX9_replaceWord) ∈ lw_tbl := wc_3 (j := 137) rfl
set_option maxRecDepth 20000 in
theorem w_618 : (Cond.code yX9_replaceWord prog_11_method_14_code (5 : Nat) none) ∈ lw_tbl := wc_3 (j := 138) rfl
set_option maxRecDepth 20000 in
theorem w_619 : (Cond.methodLink "SpellScribe$Text" (64 : Nat) yX9_wordStart) ∈ lw_tbl := wc_3 (j := 139) rfl
set_option maxRecDepth 20000 in
theorem w_620 : (Cond.instanceMethod yX9_wordStart) ∈ lw_tbl := wc_3 (j := 140) rfl
set_option maxRecDepth 20000 in
theorem w_621 : (Cond.selects "SpellScribe$Text" yX9_wordStart yX9_wordStart) ∈ lw_tbl := wc_3 (j := 141) rfl
set_option maxRecDepth 20000 in
theorem w_622 : (Cond.code yX9_wordStart prog_11_method_5_code (2 : Nat) (some FieldType.int)) ∈ lw_tbl := wc_3 (j := 142) rfl
set_option maxRecDepth 20000 in
theorem w_623 : (Cond.methodLink "SpellScribe$Text" (67 : Nat) yX9_wordSize) ∈ lw_tbl := wc_3 (j := 143) rfl
set_option maxRecDepth 20000 in
theorem w_624 : (Cond.methodLink "SpellScribe$Text" (70 : Nat) yX9_removeSign) ∈ lw_tbl := wc_3 (j := 144) rfl
set_option maxRecDepth 20000 in
theorem w_625 : (Cond.instanceMethod yX9_removeSign) ∈ lw_tbl := wc_3 (j := 145) rfl
set_option maxRecDepth 20000 in
theorem w_626 : (Cond.selects "SpellScribe$Text" yX9_removeSign yX9_removeSign) ∈ lw_tbl := wc_3 (j := 146) rfl
set_option maxRecDepth 20000 in
theorem w_627 : (Cond.code yX9_removeSign prog_11_method_13_code (2 : Nat) none) ∈ lw_tbl := wc_3 (j := 147) rfl
set_option maxRecDepth 20000 in
theorem w_628 : (Cond.methodLink "SpellScribe$Text" (60 : Nat) yX4_remove) ∈ lw_tbl := wc_3 (j := 148) rfl
set_option maxRecDepth 20000 in
theorem w_629 : (Cond.instanceMethod yX4_remove) ∈ lw_tbl := wc_3 (j := 149) rfl
set_option maxRecDepth 20000 in
theorem w_630 : (Cond.selects "SpellScribe$Row" yX4_remove yX4_remove) ∈ lw_tbl := wc_3 (j := 150) rfl
set_option maxRecDepth 20000 in
theorem w_631 : (Cond.code yX4_remove prog_6_method_5_code (3 : Nat) none) ∈ lw_tbl := wc_3 (j := 151) rfl
set_option maxRecDepth 20000 in
theorem w_632 : (Cond.methodLinkNest "SpellScribe$Text" (73 : Nat) yX11_sizeOf "SpellScribe") ∈ lw_tbl := wc_3 (j := 152) rfl
set_option maxRecDepth 20000 in
theorem w_633 : (Cond.methodLinkNest "SpellScribe$Text" (76 : Nat) yX11_letterOf "SpellScribe") ∈ lw_tbl := wc_3 (j := 153) rfl
set_option maxRecDepth 20000 in
theorem w_634 : (Cond.methodLink "SpellScribe$Text" (79 : Nat) yX9_insertSign) ∈ lw_tbl := wc_3 (j := 154) rfl
set_option maxRecDepth 20000 in
theorem w_635 : (Cond.instanceMethod yX9_insertSign) ∈ lw_tbl := wc_3 (j := 155) rfl
set_option maxRecDepth 20000 in
theorem w_636 : (Cond.selects "SpellScribe$Text" yX9_insertSign yX9_insertSign) ∈ lw_tbl := wc_3 (j := 156) rfl
set_option maxRecDepth 20000 in
theorem w_637 : (Cond.code yX9_insertSign prog_11_method_12_code (3 : Nat) none) ∈ lw_tbl := wc_3 (j := 157) rfl
set_option maxRecDepth 20000 in
theorem w_638 : (Cond.methodLink "SpellScribe$Text" (56 : Nat) yX4_insert) ∈ lw_tbl := wc_3 (j := 158) rfl
set_option maxRecDepth 20000 in
theorem w_639 : (Cond.methodLink "SpellScribe" (378 : Nat) yX9_findWords) ∈ lw_tbl := wc_3 (j := 159) rfl
set_option maxRecDepth 20000 in
theorem w_640 : (Cond.instanceMethod yX9_findWords) ∈ lw_tbl := wc_3 (j := 160) rfl
set_option maxRecDepth 20000 in
theorem w_641 : (Cond.selects "SpellScribe$Text" yX9_findWords yX9_findWords) ∈ lw_tbl := wc_3 (j := 161) rfl
set_option maxRecDepth 20000 in
theorem w_642 : (Cond.code yX9_findWords prog_11_method_16_code (6 : Nat) none) ∈ lw_tbl := wc_3 (j := 162) rfl
set_option maxRecDepth 20000 in
theorem w_643 : (Cond.methodLinkNest "SpellScribe$Text" (88 : Nat) yX11_isLetter "SpellScribe") ∈ lw_tbl := wc_3 (j := 163) rfl
set_option maxRecDepth 20000 in
theorem w_644 : (Cond.static yX11_isLetter) ∈ lw_tbl := wc_3 (j := 164) rfl
set_option maxRecDepth 20000 in
theorem w_645 : (Cond.code yX11_isLetter prog_1_method_45_code (1 : Nat) (some FieldType.boolean)) ∈ lw_tbl := wc_3 (j := 165) rfl
set_option maxRecDepth 20000 in
theorem w_646 : (Cond.methodLink "SpellScribe$Text" (92 : Nat) yX9_addLetter) ∈ lw_tbl := wc_3 (j := 166) rfl
set_option maxRecDepth 20000 in
theorem w_648 : (Cond.instanceMethod yX9_addLetter) ∈ lw_tbl := wc_3 (j := 168) rfl
set_option maxRecDepth 20000 in
theorem w_649 : (Cond.code yX9_addLetter prog_11_method_17_code (6 : Nat) none) ∈ lw_tbl := wc_3 (j := 169) rfl
set_option maxRecDepth 20000 in
theorem w_650 : (Cond.methodLink "SpellScribe$Text" (82 : Nat) yX4_set) ∈ lw_tbl := wc_3 (j := 170) rfl
set_option maxRecDepth 20000 in
theorem w_651 : (Cond.methodLinkNest "SpellScribe$Text" (50 : Nat) yX11_withLetter "SpellScribe") ∈ lw_tbl := wc_3 (j := 171) rfl
set_option maxRecDepth 20000 in
theorem w_652 : (Cond.static yX11_withLetter) ∈ lw_tbl := wc_3 (j := 172) rfl
set_option maxRecDepth 20000 in
theorem w_653 : (Cond.code yX11_withLetter prog_1_method_50_code (2 : Nat) (some FieldType.int)) ∈ lw_tbl := wc_3 (j := 173) rfl
set_option maxRecDepth 20000 in
theorem w_654 : (Cond.methodLink "SpellScribe$Text" (96 : Nat) yX9_endSentence) ∈ lw_tbl := wc_3 (j := 174) rfl
set_option maxRecDepth 20000 in
theorem w_656 : (Cond.instanceMethod yX9_endSentence) ∈ lw_tbl := wc_3 (j := 176) rfl
set_option maxRecDepth 20000 in
theorem w_657 : (Cond.code yX9_endSentence prog_11_method_18_code (2 : Nat) none) ∈ lw_tbl := wc_3 (j := 177) rfl
set_option maxRecDepth 20000 in
theorem w_658 : (Cond.methodLink "SpellScribe" (139 : Nat) yX11_forgetAnswers) ∈ lw_tbl := wc_3 (j := 178) rfl
set_option maxRecDepth 20000 in
theorem w_660 : (Cond.instanceMethod yX11_forgetAnswers) ∈ lw_tbl := wc_3 (j := 180) rfl
set_option maxRecDepth 20000 in
theorem w_661 : (Cond.code yX11_forgetAnswers prog_1_method_34_code (1 : Nat) none) ∈ lw_tbl := wc_3 (j := 181) rfl
set_option maxRecDepth 20000 in
theorem w_662 : (Cond.methodLink "SpellScribe" (401 : Nat) yX3_takenStyle) ∈ lw_tbl := wc_3 (j := 182) rfl
set_option maxRecDepth 20000 in
theorem w_663 : (Cond.instanceMethod yX3_takenStyle) ∈ lw_tbl := wc_3 (j := 183) rfl
set_option maxRecDepth 20000 in
theorem w_664 : (Cond.selects "SpellScribe$Proof" yX3_takenStyle yX3_takenStyle) ∈ lw_tbl := wc_3 (j := 184) rfl
set_option maxRecDepth 20000 in
theorem w_665 : (Cond.code yX3_takenStyle prog_5_method_5_code (2 : Nat) (some FieldType.int)) ∈ lw_tbl := wc_3 (j := 185) rfl
set_option maxRecDepth 20000 in
theorem w_666 : (Cond.methodLink "SpellScribe" (404 : Nat) yX11_styleNumbered) ∈ lw_tbl := wc_3 (j := 186) rfl
set_option maxRecDepth 20000 in
theorem w_667 : (Cond.methodLink "SpellScribe" (302 : Nat) yX1_holds) ∈ lw_tbl := wc_3 (j := 187) rfl
set_option maxRecDepth 20000 in
theorem w_668 : (Cond.instanceMethod yX1_holds) ∈ lw_tbl := wc_3 (j := 188) rfl
set_option maxRecDepth 20000 in
theorem w_669 : (Cond.selects "SpellScribe$History" yX1_holds yX1_holds) ∈ lw_tbl := wc_3 (j := 189) rfl
set_option maxRecDepth 20000 in
theorem w_670 : (Cond.code yX1_holds prog_3_method_4_code (3 : Nat) (some FieldType.boolean)) ∈ lw_tbl := wc_3 (j := 190) rfl
set_option maxRecDepth 20000 in
theorem w_671 : (Cond.methodLink "SpellScribe$History" (45 : Nat) yX4_get) ∈ lw_tbl := wc_3 (j := 191) rfl
set_option maxRecDepth 20000 in
theorem w_672 : (Cond.methodLink "SpellScribe$History" (49 : Nat) yX1_isLike) ∈ lw_tbl := wc_3 (j := 192) rfl
set_option maxRecDepth 20000 in
theorem w_674 : (Cond.instanceMethod yX1_isLike) ∈ lw_tbl := wc_3 (j := 194) rfl
set_option maxRecDepth 20000 in
theorem w_675 : (Cond.code yX1_isLike prog_3_method_5_code (4 : Nat) (some FieldType.boolean)) ∈ lw_tbl := wc_3 (j := 195) rfl
set_option maxRecDepth 20000 in
theorem w_676 : (Cond.methodLink "SpellScribe" (306 : Nat) yX1_keep) ∈ lw_tbl := wc_3 (j := 196) rfl
set_option maxRecDepth 20000 in
theorem w_677 : (Cond.methodLink "SpellScribeLaw" (167 : Nat) yX11_length) ∈ lw_tbl := wc_3 (j := 197) rfl
set_option maxRecDepth 20000 in
theorem w_678 : (Cond.instanceMethod yX11_length) ∈ lw_tbl := wc_3 (j := 198) rfl
set_option maxRecDepth 20000 in
theorem w_679 : (Cond.selects "SpellScribe" yX11_length yX11_length) ∈ lw_tbl := wc_3 (j := 199) rfl
set_option maxRecDepth 20000 in
theorem w_680 : (Cond.code yX11_length prog_1_method_17_code (1 : Nat) (some FieldType.int)) ∈ lw_tbl := wc_3 (j := 200) rfl
set_option maxRecDepth 20000 in
theorem w_681 : (Cond.methodLink "SpellScribeLaw" (174 : Nat) yX11_words) ∈ lw_tbl := wc_3 (j := 201) rfl
set_option maxRecDepth 20000 in
theorem w_682 : (Cond.instanceMethod yX11_words) ∈ lw_tbl := wc_3 (j := 202) rfl
set_option maxRecDepth 20000 in
theorem w_683 : (Cond.selects "SpellScribe" yX11_words yX11_words) ∈ lw_tbl := wc_3 (j := 203) rfl
set_option maxRecDepth 20000 in
theorem w_684 : (Cond.code yX11_words prog_1_method_19_code (1 : Nat) (some FieldType.int)) ∈ lw_tbl := wc_3 (j := 204) rfl
set_option maxRecDepth 20000 in
theorem w_685 : (Cond.methodLink "SpellScribeLaw" (193 : Nat) yX11_mistakes) ∈ lw_tbl := wc_3 (j := 205) rfl
set_option maxRecDepth 20000 in
theorem w_686 : (Cond.instanceMethod yX11_mistakes) ∈ lw_tbl := wc_3 (j := 206) rfl
set_option maxRecDepth 20000 in
theorem w_687 : (Cond.selects "SpellScribe" yX11_mistakes yX11_mistakes) ∈ lw_tbl := wc_3 (j := 207) rfl
set_option maxRecDepth 20000 in
theorem w_688 : (Cond.code yX11_mistakes prog_1_method_25_code (1 : Nat) (some FieldType.int)) ∈ lw_tbl := wc_3 (j := 208) rfl
set_option maxRecDepth 20000 in
theorem w_689 : (Cond.methodLink "SpellScribe" (331 : Nat) yX3_mistakeCount) ∈ lw_tbl := wc_3 (j := 209) rfl
set_option maxRecDepth 20000 in
theorem w_690 : (Cond.instanceMethod yX3_mistakeCount) ∈ lw_tbl := wc_3 (j := 210) rfl
set_option maxRecDepth 20000 in
theorem w_691 : (Cond.selects "SpellScribe$Proof" yX3_mistakeCount yX3_mistakeCount) ∈ lw_tbl := wc_3 (j := 211) rfl
set_option maxRecDepth 20000 in
theorem w_692 : (Cond.code yX3_mistakeCount prog_5_method_6_code (1 : Nat) (some FieldType.int)) ∈ lw_tbl := wc_3 (j := 212) rfl
set_option maxRecDepth 20000 in
theorem w_693 : (Cond.methodLink "SpellScribeLaw" (215 : Nat) yX11_made) ∈ lw_tbl := wc_3 (j := 213) rfl
set_option maxRecDepth 20000 in
theorem w_694 : (Cond.instanceMethod yX11_made) ∈ lw_tbl := wc_3 (j := 214) rfl
set_option maxRecDepth 20000 in
theorem w_695 : (Cond.selects "SpellScribe" yX11_made yX11_made) ∈ lw_tbl := wc_3 (j := 215) rfl
set_option maxRecDepth 20000 in
theorem w_696 : (Cond.code yX11_made prog_1_method_32_code (1 : Nat) (some FieldType.int)) ∈ lw_tbl := wc_3 (j := 216) rfl
set_option maxRecDepth 20000 in
theorem w_697 : (Cond.methodLink "SpellScribe" (372 : Nat) yX2_madeCount) ∈ lw_tbl := wc_3 (j := 217) rfl
set_option maxRecDepth 20000 in
theorem w_698 : (Cond.instanceMethod yX2_madeCount) ∈ lw_tbl := wc_3 (j := 218) rfl
set_option maxRecDepth 20000 in
theorem w_699 : (Cond.selects "SpellScribe$Lexicon" yX2_madeCount yX2_madeCount) ∈ lw_tbl := wc_3 (j := 219) rfl
set_option maxRecDepth 20000 in
theorem w_700 : (Cond.code yX2_madeCount prog_4_method_7_code (1 : Nat) (some FieldType.int)) ∈ lw_tbl := wc_3 (j := 220) rfl
set_option maxRecDepth 20000 in
theorem w_701 : (Cond.methodLink "SpellScribe$Lexicon" (59 : Nat) yX10_count) ∈ lw_tbl := wc_3 (j := 221) rfl
set_option maxRecDepth 20000 in
theorem w_702 : (Cond.methodLink "SpellScribeLaw" (106 : Nat) yL_letter) ∈ lw_tbl := wc_3 (j := 222) rfl
set_option maxRecDepth 20000 in
theorem w_703 : (Cond.static yL_letter) ∈ lw_tbl := wc_3 (j := 223) rfl
set_option maxRecDepth 20000 in
theorem w_704 : (Cond.codeWith yL_letter method_3_code (4 : Nat) (some FieldType.int) [((0 : Nat), (9 : Nat), (12 : Nat), (13 : Nat)), ((0 : Nat), (9 : Nat), (15 : Nat), (15 : Nat))]) ∈ lw_tbl := wc_3 (j := 224) rfl
set_option maxRecDepth 20000 in
theorem w_705 : (Cond.classLink "SpellScribeLaw" (13 : Nat) "java/lang/IllegalArgumentException") ∈ lw_tbl := wc_3 (j := 225) rfl
set_option maxRecDepth 20000 in
theorem w_706 : (Cond.classLink "SpellScribeLaw" (15 : Nat) "java/lang/IllegalStateException") ∈ lw_tbl := wc_3 (j := 226) rfl
set_option maxRecDepth 20000 in
theorem w_707 : (Cond.methodLink "SpellScribeLaw" (7 : Nat) yX11_letter) ∈ lw_tbl := wc_3 (j := 227) rfl
set_option maxRecDepth 20000 in
theorem w_708 : (Cond.instanceMethod yX11_letter) ∈ lw_tbl := wc_3 (j := 228) rfl
set_option maxRecDepth 20000 in
theorem w_709 : (Cond.selects "SpellScribe" yX11_letter yX11_letter) ∈ lw_tbl := wc_3 (j := 229) rfl
set_option maxRecDepth 20000 in
theorem w_710 : (Cond.code yX11_letter prog_1_method_2_code (2 : Nat) (some FieldType.int)) ∈ lw_tbl := wc_3 (j := 230) rfl
set_option maxRecDepth 20000 in
theorem w_711 : (Cond.methodLink "SpellScribe" (84 : Nat) yX11_isLetter) ∈ lw_tbl := wc_3 (j := 231) rfl
set_option maxRecDepth 20000 in
theorem w_712 : (Cond.classLink "SpellScribe" (88 : Nat) "java/lang/IllegalArgumentException") ∈ lw_tbl := wc_3 (j := 232) rfl
set_option maxRecDepth 20000 in
theorem w_713 : (Cond.instantiable "java/lang/IllegalArgumentException" (6 : Nat)) ∈ lw_tbl := wc_3 (j := 233) rfl
set_option maxRecDepth 20000 in
theorem w_714 : (Cond.castable "java/lang/IllegalArgumentException" "java/lang/IllegalArgumentException") ∈ lw_tbl := wc_3 (j := 234) rfl
set_option maxRecDepth 20000 in
theorem w_715 : (Cond.declares ⟨"java/lang/RuntimeException", "<init>", "()V"⟩) ∈ lw_tbl := wc_3 (j := 235) rfl
set_option maxRecDepth 20000 in
theorem w_716 : (Cond.declares ⟨"java/lang/RuntimeException", "<init>", "(Ljava/lang/String;)V"⟩) ∈ lw_tbl := wc_3 (j := 236) rfl
set_option maxRecDepth 20000 in
theorem w_717 : (Cond.declares ⟨"java/lang/Exception", "<init>", "()V"⟩) ∈ lw_tbl := wc_3 (j := 237) rfl
set_option maxRecDepth 20000 in
theorem w_718 : (Cond.declares ⟨"java/lang/Exception", "<init>", "(Ljava/lang/String;)V"⟩) ∈ lw_tbl := wc_3 (j := 238) rfl
set_option maxRecDepth 20000 in
theorem w_719 : (Cond.declares ⟨"java/lang/Throwable", "<init>", "()V"⟩) ∈ lw_tbl := wc_3 (j := 239) rfl
set_option maxRecDepth 20000 in
theorem w_720 : (Cond.declares ⟨"java/lang/Throwable", "<init>", "(Ljava/lang/String;)V"⟩) ∈ lw_tbl := wc_4 (j := 0) rfl
set_option maxRecDepth 20000 in
theorem w_721 : (Cond.selects "java/lang/IllegalArgumentException" ⟨"java/lang/Throwable", "fillInStackTrace", "(I)Ljava/lang/Throwable;"⟩ ⟨"java/lang/Throwable", "fillInStackTrace", "(I)Ljava/lang/Throwable;"⟩) ∈ lw_tbl := wc_4 (j := 1) rfl
set_option maxRecDepth 20000 in
theorem w_722 : (Cond.selects "java/lang/IllegalArgumentException" ⟨"java/lang/Throwable", "fillInStackTrace", "()Ljava/lang/Throwable;"⟩ ⟨"java/lang/Throwable", "fillInStackTrace", "()Ljava/lang/Throwable;"⟩) ∈ lw_tbl := wc_4 (j := 2) rfl
set_option maxRecDepth 20000 in
theorem w_733 : (Cond.fieldLink "java/lang/Throwable" (198 : Nat) "java/lang/Throwable" "backtrace" "Ljava/lang/Object;") ∈ lw_tbl := wc_4 (j := 13) rfl
set_option maxRecDepth 20000 in
theorem w_734 : (Cond.superclass "java/lang/Throwable" "java/lang/Object") ∈ lw_tbl := wc_4 (j := 14) rfl
set_option maxRecDepth 20000 in
theorem w_735 : (Cond.instanceMethod ⟨"java/lang/Throwable", "<init>", "()V"⟩) ∈ lw_tbl := wc_4 (j := 15) rfl
set_option maxRecDepth 20000 in
theorem w_736 : (Cond.code ⟨"java/lang/Throwable", "<init>", "()V"⟩ prog_26_method_1_code (1 : Nat) none) ∈ lw_tbl := wc_4 (j := 16) rfl
set_option maxRecDepth 20000 in
theorem w_737 : (Cond.methodLink "java/lang/Throwable" (1 : Nat) objectInit) ∈ lw_tbl := wc_4 (j := 17) rfl
set_option maxRecDepth 20000 in
theorem w_738 : (Cond.fieldLink "java/lang/Throwable" (13 : Nat) "java/lang/Throwable" "UNASSIGNED_STACK" "[Ljava/lang/StackTraceElement;") ∈ lw_tbl := wc_4 (j := 18) rfl
set_option maxRecDepth 20000 in
theorem w_739 : (Cond.laysStatic "java/lang/Throwable" "UNASSIGNED_STACK" "[Ljava/lang/StackTraceElement;") ∈ lw_tbl := wc_4 (j := 19) rfl
set_option maxRecDepth 20000 in
theorem w_740 : (Cond.fieldLink "java/lang/Throwable" (20 : Nat) "java/lang/Throwable" "SUPPRESSED_SENTINEL" "Ljava/util/List;") ∈ lw_tbl := wc_4 (j := 20) rfl
set_option maxRecDepth 20000 in
theorem w_741 : (Cond.laysStatic "java/lang/Throwable" "SUPPRESSED_SENTINEL" "Ljava/util/List;") ∈ lw_tbl := wc_4 (j := 21) rfl
set_option maxRecDepth 20000 in
theorem w_742 : (Cond.methodLink "java/lang/Throwable" (27 : Nat) ⟨"java/lang/Throwable", "fillInStackTrace", "()Ljava/lang/Throwable;"⟩) ∈ lw_tbl := wc_4 (j := 22) rfl
set_option maxRecDepth 20000 in
theorem w_743 : (Cond.instanceMethod ⟨"java/lang/Throwable", "fillInStackTrace", "()Ljava/lang/Throwable;"⟩) ∈ lw_tbl := wc_4 (j := 23) rfl
set_option maxRecDepth 20000 in
theorem w_744 : (Cond.sameMethod "java/lang/Throwable" "java/lang/Throwable" "fillInStackTrace" "()Ljava/lang/Throwable;") ∈ lw_tbl := wc_4 (j := 24) rfl
set_option maxRecDepth 20000 in
theorem w_745 : (Cond.selects "java/lang/IllegalStateException" ⟨"java/lang/Throwable", "fillInStackTrace", "()Ljava/lang/Throwable;"⟩ ⟨"java/lang/Throwable", "fillInStackTrace", "()Ljava/lang/Throwable;"⟩) ∈ lw_tbl := wc_4 (j := 25) rfl
set_option maxRecDepth 20000 in
theorem w_746 : (Cond.selects "java/lang/IndexOutOfBoundsException" ⟨"java/lang/Throwable", "fillInStackTrace", "()Ljava/lang/Throwable;"⟩ ⟨"java/lang/Throwable", "fillInStackTrace", "()Ljava/lang/Throwable;"⟩) ∈ lw_tbl := wc_4 (j := 26) rfl
set_option maxRecDepth 20000 in
theorem w_747 : (Cond.codeSync ⟨"java/lang/Throwable", "fillInStackTrace", "()Ljava/lang/Throwable;"⟩ prog_26_method_18_code (1 : Nat) (some (FieldType.object "java/lang/Throwable"))) ∈ lw_tbl := wc_4 (j := 27) rfl
set_option maxRecDepth 20000 in
theorem w_748 : (Cond.methodLink "java/lang/Throwable" (202 : Nat) ⟨"java/lang/Throwable", "fillInStackTrace", "(I)Ljava/lang/Throwable;"⟩) ∈ lw_tbl := wc_4 (j := 28) rfl
set_option maxRecDepth 20000 in
theorem w_750 : (Cond.instanceMethod ⟨"java/lang/Throwable", "fillInStackTrace", "(I)Ljava/lang/Throwable;"⟩) ∈ lw_tbl := wc_4 (j := 30) rfl
set_option maxRecDepth 20000 in
theorem w_751 : (Cond.instantiable "java/lang/Throwable" (6 : Nat)) ∈ lw_tbl := wc_4 (j := 31) rfl
set_option maxRecDepth 20000 in
theorem w_752 : (Cond.native ⟨"java/lang/Throwable", "fillInStackTrace", "(I)Ljava/lang/Throwable;"⟩) ∈ lw_tbl := wc_4 (j := 32) rfl
set_option maxRecDepth 20000 in
theorem w_753 : (Cond.stringRef "SpellScribe" (90 : Nat) "a letter is one of a to h") ∈ lw_tbl := wc_4 (j := 33) rfl
set_option maxRecDepth 20000 in
theorem w_754 : (Cond.methodLink "SpellScribe" (92 : Nat) ⟨"java/lang/IllegalArgumentException", "<init>", "(Ljava/lang/String;)V"⟩) ∈ lw_tbl := wc_4 (j := 34) rfl
set_option maxRecDepth 20000 in
theorem w_755 : (Cond.instanceMethod ⟨"java/lang/IllegalArgumentException", "<init>", "(Ljava/lang/String;)V"⟩) ∈ lw_tbl := wc_4 (j := 35) rfl
set_option maxRecDepth 20000 in
theorem w_756 : (Cond.code ⟨"java/lang/IllegalArgumentException", "<init>", "(Ljava/lang/String;)V"⟩ prog_18_method_2_code (2 : Nat) none) ∈ lw_tbl := wc_4 (j := 36) rfl
set_option maxRecDepth 20000 in
theorem w_757 : (Cond.methodLink "java/lang/IllegalArgumentException" (7 : Nat) ⟨"java/lang/RuntimeException", "<init>", "(Ljava/lang/String;)V"⟩) ∈ lw_tbl := wc_4 (j := 37) rfl
set_option maxRecDepth 20000 in
theorem w_758 : (Cond.instanceMethod ⟨"java/lang/RuntimeException", "<init>", "(Ljava/lang/String;)V"⟩) ∈ lw_tbl := wc_4 (j := 38) rfl
set_option maxRecDepth 20000 in
theorem w_759 : (Cond.code ⟨"java/lang/RuntimeException", "<init>", "(Ljava/lang/String;)V"⟩ prog_23_method_2_code (2 : Nat) none) ∈ lw_tbl := wc_4 (j := 39) rfl
set_option maxRecDepth 20000 in
theorem w_760 : (Cond.methodLink "java/lang/RuntimeException" (7 : Nat) ⟨"java/lang/Exception", "<init>", "(Ljava/lang/String;)V"⟩) ∈ lw_tbl := wc_4 (j := 40) rfl
set_option maxRecDepth 20000 in
theorem w_761 : (Cond.instanceMethod ⟨"java/lang/Exception", "<init>", "(Ljava/lang/String;)V"⟩) ∈ lw_tbl := wc_4 (j := 41) rfl
set_option maxRecDepth 20000 in
theorem w_762 : (Cond.code ⟨"java/lang/Exception", "<init>", "(Ljava/lang/String;)V"⟩ prog_17_method_2_code (2 : Nat) none) ∈ lw_tbl := wc_4 (j := 42) rfl
set_option maxRecDepth 20000 in
theorem w_763 : (Cond.methodLink "java/lang/Exception" (7 : Nat) ⟨"java/lang/Throwable", "<init>", "(Ljava/lang/String;)V"⟩) ∈ lw_tbl := wc_4 (j := 43) rfl
set_option maxRecDepth 20000 in
theorem w_764 : (Cond.instanceMethod ⟨"java/lang/Throwable", "<init>", "(Ljava/lang/String;)V"⟩) ∈ lw_tbl := wc_4 (j := 44) rfl
set_option maxRecDepth 20000 in
theorem w_765 : (Cond.code ⟨"java/lang/Throwable", "<init>", "(Ljava/lang/String;)V"⟩ prog_26_method_2_code (2 : Nat) none) ∈ lw_tbl := wc_4 (j := 45) rfl
set_option maxRecDepth 20000 in
theorem w_766 : (Cond.fieldLink "java/lang/Throwable" (198 : Nat) "java/lang/Throwable" "backtrace" "Ljava/lang/Object;") ∈ lw_tbl := wc_4 (j := 46) rfl
set_option maxRecDepth 20000 in
theorem w_767 : (Cond.fieldLink "java/lang/Throwable" (31 : Nat) "java/lang/Throwable" "detailMessage" "Ljava/lang/String;") ∈ lw_tbl := wc_4 (j := 47) rfl
set_option maxRecDepth 20000 in
theorem w_768 : (Cond.fieldLink "java/lang/Throwable" (7 : Nat) "java/lang/Throwable" "cause" "Ljava/lang/Throwable;") ∈ lw_tbl := wc_4 (j := 48) rfl
set_option maxRecDepth 20000 in
theorem w_769 : (Cond.fieldLink "java/lang/Throwable" (17 : Nat) "java/lang/Throwable" "stackTrace" "[Ljava/lang/StackTraceElement;") ∈ lw_tbl := wc_4 (j := 49) rfl
set_option maxRecDepth 20000 in
theorem w_770 : (Cond.fieldLink "java/lang/Throwable" (24 : Nat) "java/lang/Throwable" "suppressedExceptions" "Ljava/util/List;") ∈ lw_tbl := wc_4 (j := 50) rfl
set_option maxRecDepth 20000 in
theorem w_778 : (Cond.superclass "java/lang/IllegalArgumentException" "java/lang/RuntimeException") ∈ lw_tbl := wc_4 (j := 58) rfl
set_option maxRecDepth 20000 in
theorem w_779 : (Cond.arrayClass FieldType.byte) ∈ lw_tbl := wc_4 (j := 59) rfl
set_option maxRecDepth 20000 in
theorem w_780 : (Cond.classLink "SpellScribe" (99 : Nat) "java/lang/IllegalStateException") ∈ lw_tbl := wc_4 (j := 60) rfl
set_option maxRecDepth 20000 in
theorem w_781 : (Cond.instantiable "java/lang/IllegalStateException" (6 : Nat)) ∈ lw_tbl := wc_4 (j := 61) rfl
set_option maxRecDepth 20000 in
theorem w_782 : (Cond.castable "java/lang/IllegalStateException" "java/lang/IllegalStateException") ∈ lw_tbl := wc_4 (j := 62) rfl
set_option maxRecDepth 20000 in
theorem w_783 : (Cond.selects "java/lang/IllegalStateException" ⟨"java/lang/Throwable", "fillInStackTrace", "(I)Ljava/lang/Throwable;"⟩ ⟨"java/lang/Throwable", "fillInStackTrace", "(I)Ljava/lang/Throwable;"⟩) ∈ lw_tbl := wc_4 (j := 63) rfl
set_option maxRecDepth 20000 in
theorem w_789 : (Cond.stringRef "SpellScribe" (101 : Nat) "10 letters are drafted") ∈ lw_tbl := wc_4 (j := 69) rfl
set_option maxRecDepth 20000 in
theorem w_790 : (Cond.methodLink "SpellScribe" (103 : Nat) ⟨"java/lang/IllegalStateException", "<init>", "(Ljava/lang/String;)V"⟩) ∈ lw_tbl := wc_4 (j := 70) rfl
set_option maxRecDepth 20000 in
theorem w_791 : (Cond.instanceMethod ⟨"java/lang/IllegalStateException", "<init>", "(Ljava/lang/String;)V"⟩) ∈ lw_tbl := wc_4 (j := 71) rfl
set_option maxRecDepth 20000 in
theorem w_792 : (Cond.code ⟨"java/lang/IllegalStateException", "<init>", "(Ljava/lang/String;)V"⟩ prog_19_method_2_code (2 : Nat) none) ∈ lw_tbl := wc_4 (j := 72) rfl
set_option maxRecDepth 20000 in
theorem w_793 : (Cond.methodLink "java/lang/IllegalStateException" (7 : Nat) ⟨"java/lang/RuntimeException", "<init>", "(Ljava/lang/String;)V"⟩) ∈ lw_tbl := wc_4 (j := 73) rfl
set_option maxRecDepth 20000 in
theorem w_795 : (Cond.superclass "java/lang/IllegalStateException" "java/lang/RuntimeException") ∈ lw_tbl := wc_4 (j := 75) rfl
set_option maxRecDepth 20000 in
theorem w_796 : (Cond.methodLink "SpellScribe" (104 : Nat) yX11_withLetter) ∈ lw_tbl := wc_4 (j := 76) rfl
set_option maxRecDepth 20000 in
theorem w_797 : (Cond.methodLink "SpellScribeLaw" (119 : Nat) yL_stem) ∈ lw_tbl := wc_4 (j := 77) rfl
set_option maxRecDepth 20000 in
theorem w_798 : (Cond.static yL_stem) ∈ lw_tbl := wc_4 (j := 78) rfl
set_option maxRecDepth 20000 in
theorem w_799 : (Cond.codeWith yL_stem method_4_code (7 : Nat) (some FieldType.int) [((0 : Nat), (14 : Nat), (17 : Nat), (13 : Nat)), ((0 : Nat), (14 : Nat), (21 : Nat), (15 : Nat))]) ∈ lw_tbl := wc_4 (j := 79) rfl
set_option maxRecDepth 20000 in
theorem w_800 : (Cond.methodLink "SpellScribeLaw" (17 : Nat) yX11_stem) ∈ lw_tbl := wc_4 (j := 80) rfl
set_option maxRecDepth 20000 in
theorem w_801 : (Cond.instanceMethod yX11_stem) ∈ lw_tbl := wc_4 (j := 81) rfl
set_option maxRecDepth 20000 in
theorem w_802 : (Cond.selects "SpellScribe" yX11_stem yX11_stem) ∈ lw_tbl := wc_4 (j := 82) rfl
set_option maxRecDepth 20000 in
theorem w_803 : (Cond.code yX11_stem prog_1_method_4_code (6 : Nat) (some FieldType.int)) ∈ lw_tbl := wc_4 (j := 83) rfl
set_option maxRecDepth 20000 in
theorem w_804 : (Cond.methodLink "SpellScribe" (116 : Nat) yX11_isReading) ∈ lw_tbl := wc_4 (j := 84) rfl
set_option maxRecDepth 20000 in
theorem w_805 : (Cond.static yX11_isReading) ∈ lw_tbl := wc_4 (j := 85) rfl
set_option maxRecDepth 20000 in
theorem w_806 : (Cond.code yX11_isReading prog_1_method_47_code (2 : Nat) (some FieldType.boolean)) ∈ lw_tbl := wc_4 (j := 86) rfl
set_option maxRecDepth 20000 in
theorem w_807 : (Cond.stringRef "SpellScribe" (120 : Nat) "flags, kind, form or is is out of range") ∈ lw_tbl := wc_4 (j := 87) rfl
set_option maxRecDepth 20000 in
theorem w_808 : (Cond.methodLink "SpellScribe" (122 : Nat) yX2_stemCount) ∈ lw_tbl := wc_4 (j := 88) rfl
set_option maxRecDepth 20000 in
theorem w_809 : (Cond.instanceMethod yX2_stemCount) ∈ lw_tbl := wc_4 (j := 89) rfl
set_option maxRecDepth 20000 in
theorem w_810 : (Cond.selects "SpellScribe$Lexicon" yX2_stemCount yX2_stemCount) ∈ lw_tbl := wc_4 (j := 90) rfl
set_option maxRecDepth 20000 in
theorem w_811 : (Cond.code yX2_stemCount prog_4_method_2_code (1 : Nat) (some FieldType.int)) ∈ lw_tbl := wc_4 (j := 91) rfl
set_option maxRecDepth 20000 in
theorem w_812 : (Cond.interfaceEntry "SpellScribe$Lexicon" (39 : Nat)) ∈ lw_tbl := wc_4 (j := 92) rfl
set_option maxRecDepth 20000 in
theorem w_813 : (Cond.methodLink "SpellScribe$Lexicon" (39 : Nat) ⟨"java/util/List", "size", "()I"⟩) ∈ lw_tbl := wc_4 (j := 93) rfl
set_option maxRecDepth 20000 in
theorem w_814 : (Cond.stringRef "SpellScribe" (125 : Nat) "nothing is drafted, or there are 12 stems") ∈ lw_tbl := wc_4 (j := 94) rfl
set_option maxRecDepth 20000 in
theorem w_815 : (Cond.classLink "SpellScribe" (127 : Nat) "SpellScribe$Stem") ∈ lw_tbl := wc_4 (j := 95) rfl
set_option maxRecDepth 20000 in
theorem w_816 : (Cond.instantiable "SpellScribe$Stem" (5 : Nat)) ∈ lw_tbl := wc_4 (j := 96) rfl
set_option maxRecDepth 20000 in
theorem w_817 : (Cond.methodLink "SpellScribe" (129 : Nat) yX6_init) ∈ lw_tbl := wc_4 (j := 97) rfl
set_option maxRecDepth 20000 in
theorem w_818 : (Cond.instanceMethod yX6_init) ∈ lw_tbl := wc_4 (j := 98) rfl
set_option maxRecDepth 20000 in
theorem w_819 : (Cond.code yX6_init prog_8_method_1_code (6 : Nat) none) ∈ lw_tbl := wc_4 (j := 99) rfl
set_option maxRecDepth 20000 in
theorem w_820 : (Cond.methodLink "SpellScribe$Stem" (3 : Nat) objectInit) ∈ lw_tbl := wc_4 (j := 100) rfl
set_option maxRecDepth 20000 in
theorem w_821 : (Cond.fieldLink "SpellScribe$Stem" (9 : Nat) "SpellScribe$Stem" "word" "I") ∈ lw_tbl := wc_4 (j := 101) rfl
set_option maxRecDepth 20000 in
theorem w_822 : (Cond.fieldLinkNest "SpellScribe$Lexicon" (85 : Nat) "SpellScribe$Stem" "word" "I" "SpellScribe") ∈ lw_tbl := wc_4 (j := 102) rfl
set_option maxRecDepth 20000 in
theorem w_823 : (Cond.fieldLink "SpellScribe$Stem" (15 : Nat) "SpellScribe$Stem" "flags" "I") ∈ lw_tbl := wc_4 (j := 103) rfl
set_option maxRecDepth 20000 in
theorem w_824 : (Cond.fieldLinkNest "SpellScribe$Lexicon" (99 : Nat) "SpellScribe$Stem" "flags" "I" "SpellScribe") ∈ lw_tbl := wc_4 (j := 104) rfl
set_option maxRecDepth 20000 in
theorem w_825 : (Cond.fieldLink "SpellScribe$Stem" (18 : Nat) "SpellScribe$Stem" "kind" "I") ∈ lw_tbl := wc_4 (j := 105) rfl
set_option maxRecDepth 20000 in
theorem w_826 : (Cond.fieldLinkNest "SpellScribe$Lexicon" (89 : Nat) "SpellScribe$Stem" "kind" "I" "SpellScribe") ∈ lw_tbl := wc_4 (j := 106) rfl
set_option maxRecDepth 20000 in
theorem w_827 : (Cond.fieldLink "SpellScribe$Stem" (21 : Nat) "SpellScribe$Stem" "form" "I") ∈ lw_tbl := wc_4 (j := 107) rfl
set_option maxRecDepth 20000 in
theorem w_828 : (Cond.fieldLinkNest "SpellScribe$Lexicon" (92 : Nat) "SpellScribe$Stem" "form" "I" "SpellScribe") ∈ lw_tbl := wc_4 (j := 108) rfl
set_option maxRecDepth 20000 in
theorem w_829 : (Cond.fieldLink "SpellScribe$Stem" (24 : Nat) "SpellScribe$Stem" "is" "I") ∈ lw_tbl := wc_4 (j := 109) rfl
set_option maxRecDepth 20000 in
theorem w_840 : (Cond.superclass "SpellScribe$Stem" "java/lang/Object") ∈ lw_tbl := wc_4 (j := 120) rfl
set_option maxRecDepth 20000 in
theorem w_841 : (Cond.methodLink "SpellScribe" (132 : Nat) yX2_addStem) ∈ lw_tbl := wc_4 (j := 121) rfl
set_option maxRecDepth 20000 in
theorem w_842 : (Cond.instanceMethod yX2_addStem) ∈ lw_tbl := wc_4 (j := 122) rfl
set_option maxRecDepth 20000 in
theorem w_843 : (Cond.selects "SpellScribe$Lexicon" yX2_addStem yX2_addStem) ∈ lw_tbl := wc_4 (j := 123) rfl
set_option maxRecDepth 20000 in
theorem w_844 : (Cond.code yX2_addStem prog_4_method_3_code (2 : Nat) (some FieldType.int)) ∈ lw_tbl := wc_4 (j := 124) rfl
set_option maxRecDepth 20000 in
theorem w_845 : (Cond.interfaceEntry "SpellScribe$Lexicon" (45 : Nat)) ∈ lw_tbl := wc_4 (j := 125) rfl
set_option maxRecDepth 20000 in
theorem w_846 : (Cond.methodLink "SpellScribe$Lexicon" (45 : Nat) ⟨"java/util/List", "add", "(Ljava/lang/Object;)Z"⟩) ∈ lw_tbl := wc_4 (j := 126) rfl
set_option maxRecDepth 20000 in
theorem w_847 : (Cond.interfaceMethod "java/util/List" "java/util/List" "add" "(Ljava/lang/Object;)Z") ∈ lw_tbl := wc_4 (j := 127) rfl
set_option maxRecDepth 20000 in
theorem w_848 : (Cond.declares ⟨"java/util/List", "add", "(Ljava/lang/Object;)Z"⟩) ∈ lw_tbl := wc_4 (j := 128) rfl
set_option maxRecDepth 20000 in
theorem w_849 : (Cond.selects "java/util/ArrayList" ⟨"java/util/List", "add", "(Ljava/lang/Object;)Z"⟩ yJx4a65c_add_9ea2d) ∈ lw_tbl := wc_4 (j := 129) rfl
set_option maxRecDepth 20000 in
theorem w_850 : (Cond.unhidden "java/util/ArrayList" "add" "(Ljava/lang/Object;)Z") ∈ lw_tbl := wc_4 (j := 130) rfl
set_option maxRecDepth 20000 in
theorem w_851 : (Cond.instanceMethod yJx4a65c_add_9ea2d) ∈ lw_tbl := wc_4 (j := 131) rfl
set_option maxRecDepth 20000 in
theorem w_852 : (Cond.publicMethod yJx4a65c_add_9ea2d) ∈ lw_tbl := wc_4 (j := 132) rfl
set_option maxRecDepth 20000 in
theorem w_853 : (Cond.code yJx4a65c_add_9ea2d prog_29_method_25_code (2 : Nat) (some FieldType.boolean)) ∈ lw_tbl := wc_4 (j := 133) rfl
set_option maxRecDepth 20000 in
theorem w_854 : (Cond.methodLink "java/util/ArrayList" (131 : Nat) yJx4a65c_add_72be8) ∈ lw_tbl := wc_4 (j := 134) rfl
set_option maxRecDepth 20000 in
theorem w_856 : (Cond.instanceMethod yJx4a65c_add_72be8) ∈ lw_tbl := wc_4 (j := 136) rfl
set_option maxRecDepth 20000 in
theorem w_857 : (Cond.code yJx4a65c_add_72be8 prog_29_method_24_code (4 : Nat) none) ∈ lw_tbl := wc_4 (j := 137) rfl
set_option maxRecDepth 20000 in
theorem w_858 : (Cond.methodLink "java/util/ArrayList" (129 : Nat) yJx4a65c_grow_d5877) ∈ lw_tbl := wc_4 (j := 138) rfl
set_option maxRecDepth 20000 in
theorem w_860 : (Cond.instanceMethod yJx4a65c_grow_d5877) ∈ lw_tbl := wc_4 (j := 140) rfl
set_option maxRecDepth 20000 in
theorem w_861 : (Cond.code yJx4a65c_grow_d5877 prog_29_method_7_code (1 : Nat) (some (FieldType.array (FieldType.object "java/lang/Object")))) ∈ lw_tbl := wc_4 (j := 141) rfl
set_option maxRecDepth 20000 in
theorem w_862 : (Cond.methodLink "java/util/ArrayList" (69 : Nat) yJx4a65c_grow_92f84) ∈ lw_tbl := wc_4 (j := 142) rfl
set_option maxRecDepth 20000 in
theorem w_864 : (Cond.instanceMethod yJx4a65c_grow_92f84) ∈ lw_tbl := wc_4 (j := 144) rfl
set_option maxRecDepth 20000 in
theorem w_865 : (Cond.code yJx4a65c_grow_92f84 prog_29_method_6_code (4 : Nat) (some (FieldType.array (FieldType.object "java/lang/Object")))) ∈ lw_tbl := wc_4 (j := 145) rfl
set_option maxRecDepth 20000 in
theorem w_866 : (Cond.methodLink "java/util/ArrayList" (73 : Nat) yJ8_newLength_cabcc) ∈ lw_tbl := wc_4 (j := 146) rfl
set_option maxRecDepth 20000 in
theorem w_867 : (Cond.static yJ8_newLength_cabcc) ∈ lw_tbl := wc_4 (j := 147) rfl
set_option maxRecDepth 20000 in
theorem w_868 : (Cond.code yJ8_newLength_cabcc prog_36_method_27_code (4 : Nat) (some FieldType.int)) ∈ lw_tbl := wc_4 (j := 148) rfl
set_option maxRecDepth 20000 in
theorem w_869 : (Cond.methodLink "jdk/internal/util/ArraysSupport" (194 : Nat) Lib.Math.max.name) ∈ lw_tbl := wc_4 (j := 149) rfl
set_option maxRecDepth 20000 in
theorem w_870 : (Cond.constant "jdk/internal/util/ArraysSupport" (200 : Nat) (2147483639 : Int32)) ∈ lw_tbl := wc_4 (j := 150) rfl
set_option maxRecDepth 20000 in
theorem w_871 : (Cond.methodLink "jdk/internal/util/ArraysSupport" (201 : Nat) yJ8_hugeLength_7cf53) ∈ lw_tbl := wc_4 (j := 151) rfl
set_option maxRecDepth 20000 in
theorem w_872 : (Cond.static yJ8_hugeLength_7cf53) ∈ lw_tbl := wc_4 (j := 152) rfl
set_option maxRecDepth 20000 in
theorem w_873 : (Cond.code yJ8_hugeLength_7cf53 prog_36_method_28_code (3 : Nat) (some FieldType.int)) ∈ lw_tbl := wc_4 (j := 153) rfl
set_option maxRecDepth 20000 in
theorem w_874 : (Cond.methodLink "java/util/ArrayList" (66 : Nat) yJ7_copyOf_1904c) ∈ lw_tbl := wc_4 (j := 154) rfl
set_option maxRecDepth 20000 in
theorem w_875 : (Cond.static yJ7_copyOf_1904c) ∈ lw_tbl := wc_4 (j := 155) rfl
set_option maxRecDepth 20000 in
theorem w_876 : (Cond.code yJ7_copyOf_1904c prog_30_method_119_code (2 : Nat) (some (FieldType.array (FieldType.object "java/lang/Object")))) ∈ lw_tbl := wc_4 (j := 156) rfl
set_option maxRecDepth 20000 in
theorem w_877 : (Cond.methodLink "java/util/Arrays" (86 : Nat) ⟨"java/lang/Object", "getClass", "()Ljava/lang/Class;"⟩) ∈ lw_tbl := wc_4 (j := 157) rfl
set_option maxRecDepth 20000 in
theorem w_878 : (Cond.instanceMethod ⟨"java/lang/Object", "getClass", "()Ljava/lang/Class;"⟩) ∈ lw_tbl := wc_4 (j := 158) rfl
set_option maxRecDepth 20000 in
theorem w_879 : (Cond.sameMethod "java/lang/Object" "java/lang/Object" "getClass" "()Ljava/lang/Class;") ∈ lw_tbl := wc_4 (j := 159) rfl
set_option maxRecDepth 20000 in
theorem w_880 : (Cond.selects "SpellScribe" ⟨"java/lang/Object", "getClass", "()Ljava/lang/Class;"⟩ ⟨"java/lang/Object", "getClass", "()Ljava/lang/Class;"⟩) ∈ lw_tbl := wc_4 (j := 160) rfl
set_option maxRecDepth 20000 in
theorem w_881 : (Cond.selects "SpellScribe$Grammar" ⟨"java/lang/Object", "getClass", "()Ljava/lang/Class;"⟩ ⟨"java/lang/Object", "getClass", "()Ljava/lang/Class;"⟩) ∈ lw_tbl := wc_4 (j := 161) rfl
set_option maxRecDepth 20000 in
theorem w_882 : (Cond.selects "SpellScribe$History" ⟨"java/lang/Object", "getClass", "()Ljava/lang/Class;"⟩ ⟨"java/lang/Object", "getClass", "()Ljava/lang/Class;"⟩) ∈ lw_tbl := wc_4 (j := 162) rfl
set_option maxRecDepth 20000 in
theorem w_883 : (Cond.selects "SpellScribe$Lexicon" ⟨"java/lang/Object", "getClass", "()Ljava/lang/Class;"⟩ ⟨"java/lang/Object", "getClass", "()Ljava/lang/Class;"⟩) ∈ lw_tbl := wc_4 (j := 163) rfl
set_option maxRecDepth 20000 in
theorem w_884 : (Cond.selects "SpellScribe$Proof" ⟨"java/lang/Object", "getClass", "()Ljava/lang/Class;"⟩ ⟨"java/lang/Object", "getClass", "()Ljava/lang/Class;"⟩) ∈ lw_tbl := wc_4 (j := 164) rfl
set_option maxRecDepth 20000 in
theorem w_885 : (Cond.selects "SpellScribe$Row" ⟨"java/lang/Object", "getClass", "()Ljava/lang/Class;"⟩ ⟨"java/lang/Object", "getClass", "()Ljava/lang/Class;"⟩) ∈ lw_tbl := wc_4 (j := 165) rfl
set_option maxRecDepth 20000 in
theorem w_886 : (Cond.selects "SpellScribe$Rule" ⟨"java/lang/Object", "getClass", "()Ljava/lang/Class;"⟩ ⟨"java/lang/Object", "getClass", "()Ljava/lang/Class;"⟩) ∈ lw_tbl := wc_4 (j := 166) rfl
set_option maxRecDepth 20000 in
theorem w_887 : (Cond.selects "SpellScribe$Stem" ⟨"java/lang/Object", "getClass", "()Ljava/lang/Class;"⟩ ⟨"java/lang/Object", "getClass", "()Ljava/lang/Class;"⟩) ∈ lw_tbl := wc_4 (j := 167) rfl
set_option maxRecDepth 20000 in
theorem w_888 : (Cond.selects "SpellScribe$Style" ⟨"java/lang/Object", "getClass", "()Ljava/lang/Class;"⟩ ⟨"java/lang/Object", "getClass", "()Ljava/lang/Class;"⟩) ∈ lw_tbl := wc_4 (j := 168) rfl
set_option maxRecDepth 20000 in
theorem w_889 : (Cond.selects "SpellScribe$Suggester" ⟨"java/lang/Object", "getClass", "()Ljava/lang/Class;"⟩ ⟨"java/lang/Object", "getClass", "()Ljava/lang/Class;"⟩) ∈ lw_tbl := wc_4 (j := 169) rfl
set_option maxRecDepth 20000 in
theorem w_890 : (Cond.selects "SpellScribe$Text" ⟨"java/lang/Object", "getClass", "()Ljava/lang/Class;"⟩ ⟨"java/lang/Object", "getClass", "()Ljava/lang/Class;"⟩) ∈ lw_tbl := wc_4 (j := 170) rfl
set_option maxRecDepth 20000 in
theorem w_891 : (Cond.selects "SpellScribe$WordBook" ⟨"java/lang/Object", "getClass", "()Ljava/lang/Class;"⟩ ⟨"java/lang/Object", "getClass", "()Ljava/lang/Class;"⟩) ∈ lw_tbl := wc_4 (j := 171) rfl
set_option maxRecDepth 20000 in
theorem w_892 : (Cond.selects "SpellScribeModel" ⟨"java/lang/Object", "getClass", "()Ljava/lang/Class;"⟩ ⟨"java/lang/Object", "getClass", "()Ljava/lang/Class;"⟩) ∈ lw_tbl := wc_4 (j := 172) rfl
set_option maxRecDepth 20000 in
theorem w_893 : (Cond.selects "java/lang/IllegalArgumentException" ⟨"java/lang/Object", "getClass", "()Ljava/lang/Class;"⟩ ⟨"java/lang/Object", "getClass", "()Ljava/lang/Class;"⟩) ∈ lw_tbl := wc_4 (j := 173) rfl
set_option maxRecDepth 20000 in
theorem w_894 : (Cond.selects "java/lang/IllegalStateException" ⟨"java/lang/Object", "getClass", "()Ljava/lang/Class;"⟩ ⟨"java/lang/Object", "getClass", "()Ljava/lang/Class;"⟩) ∈ lw_tbl := wc_4 (j := 174) rfl
set_option maxRecDepth 20000 in
theorem w_895 : (Cond.selects "java/lang/IndexOutOfBoundsException" ⟨"java/lang/Object", "getClass", "()Ljava/lang/Class;"⟩ ⟨"java/lang/Object", "getClass", "()Ljava/lang/Class;"⟩) ∈ lw_tbl := wc_4 (j := 175) rfl
set_option maxRecDepth 20000 in
theorem w_896 : (Cond.selects "java/util/ArrayList" ⟨"java/lang/Object", "getClass", "()Ljava/lang/Class;"⟩ ⟨"java/lang/Object", "getClass", "()Ljava/lang/Class;"⟩) ∈ lw_tbl := wc_4 (j := 176) rfl
set_option maxRecDepth 20000 in
theorem w_897 : (Cond.native ⟨"java/lang/Object", "getClass", "()Ljava/lang/Class;"⟩) ∈ lw_tbl := wc_4 (j := 177) rfl
set_option maxRecDepth 20000 in
theorem w_898 : (Cond.methodLink "java/util/Arrays" (300 : Nat) yJ7_copyOf_6403c) ∈ lw_tbl := wc_4 (j := 178) rfl
set_option maxRecDepth 20000 in
theorem w_899 : (Cond.static yJ7_copyOf_6403c) ∈ lw_tbl := wc_4 (j := 179) rfl
set_option maxRecDepth 20000 in
theorem w_900 : (Cond.code yJ7_copyOf_6403c prog_30_method_120_code (4 : Nat) (some (FieldType.array (FieldType.object "java/lang/Object")))) ∈ lw_tbl := wc_4 (j := 180) rfl
set_option maxRecDepth 20000 in
theorem w_901 : (Cond.classLink "java/util/Arrays" (110 : Nat) "[Ljava/lang/Object;") ∈ lw_tbl := wc_4 (j := 181) rfl
set_option maxRecDepth 20000 in
theorem w_902 : (Cond.arrayOver (FieldType.object "java/lang/Object")) ∈ lw_tbl := wc_4 (j := 182) rfl
set_option maxRecDepth 20000 in
theorem w_903 : (Cond.classLink "java/util/Arrays" (2 : Nat) "java/lang/Object") ∈ lw_tbl := wc_4 (j := 183) rfl
set_option maxRecDepth 20000 in
theorem w_904 : (Cond.methodLink "java/util/Arrays" (304 : Nat) Lib.Math.min.name) ∈ lw_tbl := wc_4 (j := 184) rfl
set_option maxRecDepth 20000 in
theorem w_905 : (Cond.methodLink "java/util/Arrays" (150 : Nat) arraycopyName) ∈ lw_tbl := wc_4 (j := 185) rfl
set_option maxRecDepth 20000 in
theorem w_906 : (Cond.methodLink "java/util/ArrayList" (79 : Nat) Lib.Math.max.name) ∈ lw_tbl := wc_4 (j := 186) rfl
set_option maxRecDepth 20000 in
theorem w_907 : (Cond.classLink "java/util/ArrayList" (7 : Nat) "java/lang/Object") ∈ lw_tbl := wc_4 (j := 187) rfl
set_option maxRecDepth 20000 in
theorem w_908 : (Cond.methodLink "SpellScribe" (136 : Nat) yX2_remake) ∈ lw_tbl := wc_4 (j := 188) rfl
set_option maxRecDepth 20000 in
theorem w_909 : (Cond.instanceMethod yX2_remake) ∈ lw_tbl := wc_4 (j := 189) rfl
set_option maxRecDepth 20000 in
theorem w_910 : (Cond.selects "SpellScribe$Lexicon" yX2_remake yX2_remake) ∈ lw_tbl := wc_4 (j := 190) rfl
set_option maxRecDepth 20000 in
theorem w_911 : (Cond.code yX2_remake prog_4_method_16_code (2 : Nat) none) ∈ lw_tbl := wc_4 (j := 191) rfl
set_option maxRecDepth 20000 in
theorem w_912 : (Cond.methodLink "SpellScribe$Lexicon" (76 : Nat) yX10_clear) ∈ lw_tbl := wc_4 (j := 192) rfl
set_option maxRecDepth 20000 in
theorem w_913 : (Cond.instanceMethod yX10_clear) ∈ lw_tbl := wc_4 (j := 193) rfl
set_option maxRecDepth 20000 in
theorem w_914 : (Cond.selects "SpellScribe$WordBook" yX10_clear yX10_clear) ∈ lw_tbl := wc_4 (j := 194) rfl
set_option maxRecDepth 20000 in
theorem w_915 : (Cond.code yX10_clear prog_12_method_8_code (1 : Nat) none) ∈ lw_tbl := wc_4 (j := 195) rfl
set_option maxRecDepth 20000 in
theorem w_916 : (Cond.interfaceEntry "SpellScribe$Lexicon" (53 : Nat)) ∈ lw_tbl := wc_4 (j := 196) rfl
set_option maxRecDepth 20000 in
theorem w_917 : (Cond.methodLink "SpellScribe$Lexicon" (53 : Nat) ⟨"java/util/List", "get", "(I)Ljava/lang/Object;"⟩) ∈ lw_tbl := wc_4 (j := 197) rfl
set_option maxRecDepth 20000 in
theorem w_918 : (Cond.classLink "SpellScribe$Lexicon" (79 : Nat) "SpellScribe$Stem") ∈ lw_tbl := wc_4 (j := 198) rfl
set_option maxRecDepth 20000 in
theorem w_919 : (Cond.methodLink "SpellScribe$Lexicon" (81 : Nat) yX2_makeOf) ∈ lw_tbl := wc_4 (j := 199) rfl
set_option maxRecDepth 20000 in
theorem w_921 : (Cond.instanceMethod yX2_makeOf) ∈ lw_tbl := wc_4 (j := 201) rfl
set_option maxRecDepth 20000 in
theorem w_922 : (Cond.code yX2_makeOf prog_4_method_17_code (7 : Nat) none) ∈ lw_tbl := wc_4 (j := 202) rfl
set_option maxRecDepth 20000 in
theorem w_923 : (Cond.methodLink "SpellScribe$Lexicon" (95 : Nat) yX2_makeWithBeginnings) ∈ lw_tbl := wc_4 (j := 203) rfl
set_option maxRecDepth 20000 in
theorem w_925 : (Cond.instanceMethod yX2_makeWithBeginnings) ∈ lw_tbl := wc_4 (j := 205) rfl
set_option maxRecDepth 20000 in
theorem w_926 : (Cond.code yX2_makeWithBeginnings prog_4_method_19_code (9 : Nat) none) ∈ lw_tbl := wc_4 (j := 206) rfl
set_option maxRecDepth 20000 in
theorem w_927 : (Cond.methodLink "SpellScribe$Lexicon" (122 : Nat) yX6_knownWith) ∈ lw_tbl := wc_4 (j := 207) rfl
set_option maxRecDepth 20000 in
theorem w_928 : (Cond.instanceMethod yX6_knownWith) ∈ lw_tbl := wc_4 (j := 208) rfl
set_option maxRecDepth 20000 in
theorem w_929 : (Cond.selects "SpellScribe$Stem" yX6_knownWith yX6_knownWith) ∈ lw_tbl := wc_4 (j := 209) rfl
set_option maxRecDepth 20000 in
theorem w_930 : (Cond.code yX6_knownWith prog_8_method_2_code (6 : Nat) (some FieldType.int)) ∈ lw_tbl := wc_4 (j := 210) rfl
set_option maxRecDepth 20000 in
theorem w_931 : (Cond.methodLinkNest "SpellScribe$Stem" (27 : Nat) yX11_readingOf "SpellScribe") ∈ lw_tbl := wc_4 (j := 211) rfl
set_option maxRecDepth 20000 in
theorem w_932 : (Cond.static yX11_readingOf) ∈ lw_tbl := wc_4 (j := 212) rfl
set_option maxRecDepth 20000 in
theorem w_933 : (Cond.code yX11_readingOf prog_1_method_48_code (2 : Nat) (some FieldType.int)) ∈ lw_tbl := wc_4 (j := 213) rfl
set_option maxRecDepth 20000 in
theorem w_934 : (Cond.constant "SpellScribe$Stem" (31 : Nat) (65536 : Int32)) ∈ lw_tbl := wc_4 (j := 214) rfl
set_option maxRecDepth 20000 in
theorem w_935 : (Cond.methodLink "SpellScribe$Lexicon" (69 : Nat) yX10_store) ∈ lw_tbl := wc_4 (j := 215) rfl
set_option maxRecDepth 20000 in
theorem w_936 : (Cond.instanceMethod yX10_store) ∈ lw_tbl := wc_4 (j := 216) rfl
set_option maxRecDepth 20000 in
theorem w_937 : (Cond.selects "SpellScribe$WordBook" yX10_store yX10_store) ∈ lw_tbl := wc_4 (j := 217) rfl
set_option maxRecDepth 20000 in
theorem w_938 : (Cond.code yX10_store prog_12_method_6_code (4 : Nat) none) ∈ lw_tbl := wc_4 (j := 218) rfl
set_option maxRecDepth 20000 in
theorem w_939 : (Cond.methodLink "SpellScribe$WordBook" (35 : Nat) yX4_set) ∈ lw_tbl := wc_4 (j := 219) rfl
set_option maxRecDepth 20000 in
theorem w_940 : (Cond.methodLink "SpellScribe$WordBook" (39 : Nat) yX4_insert) ∈ lw_tbl := wc_4 (j := 220) rfl
set_option maxRecDepth 20000 in
theorem w_941 : (Cond.classLink "SpellScribe$Lexicon" (57 : Nat) "SpellScribe$Rule") ∈ lw_tbl := wc_4 (j := 221) rfl
set_option maxRecDepth 20000 in
theorem w_942 : (Cond.methodLink "SpellScribe$Lexicon" (102 : Nat) yX5_isAmong) ∈ lw_tbl := wc_4 (j := 222) rfl
set_option maxRecDepth 20000 in
theorem w_943 : (Cond.instanceMethod yX5_isAmong) ∈ lw_tbl := wc_4 (j := 223) rfl
set_option maxRecDepth 20000 in
theorem w_944 : (Cond.selects "SpellScribe$Rule" yX5_isAmong yX5_isAmong) ∈ lw_tbl := wc_4 (j := 224) rfl
set_option maxRecDepth 20000 in
theorem w_945 : (Cond.code yX5_isAmong prog_7_method_2_code (3 : Nat) (some FieldType.boolean)) ∈ lw_tbl := wc_4 (j := 225) rfl
set_option maxRecDepth 20000 in
theorem w_946 : (Cond.methodLink "SpellScribe$Lexicon" (106 : Nat) yX5_usedOn) ∈ lw_tbl := wc_4 (j := 226) rfl
set_option maxRecDepth 20000 in
theorem w_947 : (Cond.instanceMethod yX5_usedOn) ∈ lw_tbl := wc_4 (j := 227) rfl
set_option maxRecDepth 20000 in
theorem w_948 : (Cond.selects "SpellScribe$Rule" yX5_usedOn yX5_usedOn) ∈ lw_tbl := wc_4 (j := 228) rfl
set_option maxRecDepth 20000 in
theorem w_949 : (Cond.code yX5_usedOn prog_7_method_3_code (3 : Nat) (some FieldType.int)) ∈ lw_tbl := wc_4 (j := 229) rfl
set_option maxRecDepth 20000 in
theorem w_950 : (Cond.methodLinkNest "SpellScribe$Rule" (34 : Nat) yX11_sizeOf "SpellScribe") ∈ lw_tbl := wc_4 (j := 230) rfl
set_option maxRecDepth 20000 in
theorem w_951 : (Cond.methodLinkNest "SpellScribe$Rule" (38 : Nat) yX11_letterOf "SpellScribe") ∈ lw_tbl := wc_4 (j := 231) rfl
set_option maxRecDepth 20000 in
theorem w_952 : (Cond.methodLinkNest "SpellScribe$Rule" (42 : Nat) yX11_partOf "SpellScribe") ∈ lw_tbl := wc_4 (j := 232) rfl
set_option maxRecDepth 20000 in
theorem w_953 : (Cond.methodLinkNest "SpellScribe$Rule" (46 : Nat) yX11_joined "SpellScribe") ∈ lw_tbl := wc_4 (j := 233) rfl
set_option maxRecDepth 20000 in
theorem w_954 : (Cond.static yX11_joined) ∈ lw_tbl := wc_4 (j := 234) rfl
set_option maxRecDepth 20000 in
theorem w_955 : (Cond.code yX11_joined prog_1_method_53_code (3 : Nat) (some FieldType.int)) ∈ lw_tbl := wc_4 (j := 235) rfl
set_option maxRecDepth 20000 in
theorem w_956 : (Cond.methodLink "SpellScribe$Lexicon" (109 : Nat) yX5_kindAfter) ∈ lw_tbl := wc_4 (j := 236) rfl
set_option maxRecDepth 20000 in
theorem w_957 : (Cond.instanceMethod yX5_kindAfter) ∈ lw_tbl := wc_4 (j := 237) rfl
set_option maxRecDepth 20000 in
theorem w_958 : (Cond.selects "SpellScribe$Rule" yX5_kindAfter yX5_kindAfter) ∈ lw_tbl := wc_4 (j := 238) rfl
set_option maxRecDepth 20000 in
theorem w_959 : (Cond.code yX5_kindAfter prog_7_method_4_code (2 : Nat) (some FieldType.int)) ∈ lw_tbl := wc_4 (j := 239) rfl
set_option maxRecDepth 20000 in
theorem w_960 : (Cond.methodLink "SpellScribe$Lexicon" (112 : Nat) yX5_formAfter) ∈ lw_tbl := wc_5 (j := 0) rfl
set_option maxRecDepth 20000 in
theorem w_961 : (Cond.instanceMethod yX5_formAfter) ∈ lw_tbl := wc_5 (j := 1) rfl
set_option maxRecDepth 20000 in
theorem w_962 : (Cond.selects "SpellScribe$Rule" yX5_formAfter yX5_formAfter) ∈ lw_tbl := wc_5 (j := 2) rfl
set_option maxRecDepth 20000 in
theorem w_963 : (Cond.code yX5_formAfter prog_7_method_5_code (2 : Nat) (some FieldType.int)) ∈ lw_tbl := wc_5 (j := 3) rfl
set_option maxRecDepth 20000 in
theorem w_964 : (Cond.methodLink "SpellScribe$Lexicon" (118 : Nat) yX2_makeSecondEndings) ∈ lw_tbl := wc_5 (j := 4) rfl
set_option maxRecDepth 20000 in
theorem w_966 : (Cond.instanceMethod yX2_makeSecondEndings) ∈ lw_tbl := wc_5 (j := 6) rfl
set_option maxRecDepth 20000 in
theorem w_967 : (Cond.code yX2_makeSecondEndings prog_4_method_18_code (9 : Nat) none) ∈ lw_tbl := wc_5 (j := 7) rfl
set_option maxRecDepth 20000 in
theorem w_968 : (Cond.methodLink "SpellScribe$Lexicon" (73 : Nat) yX2_listSuggestable) ∈ lw_tbl := wc_5 (j := 8) rfl
set_option maxRecDepth 20000 in
theorem w_970 : (Cond.instanceMethod yX2_listSuggestable) ∈ lw_tbl := wc_5 (j := 10) rfl
set_option maxRecDepth 20000 in
theorem w_971 : (Cond.code yX2_listSuggestable prog_4_method_20_code (3 : Nat) none) ∈ lw_tbl := wc_5 (j := 11) rfl
set_option maxRecDepth 20000 in
theorem w_972 : (Cond.methodLink "SpellScribe$Lexicon" (126 : Nat) yX10_wordOn) ∈ lw_tbl := wc_5 (j := 12) rfl
set_option maxRecDepth 20000 in
theorem w_973 : (Cond.methodLink "SpellScribe$Lexicon" (129 : Nat) yX10_valueOn) ∈ lw_tbl := wc_5 (j := 13) rfl
set_option maxRecDepth 20000 in
theorem w_974 : (Cond.instanceMethod yX10_valueOn) ∈ lw_tbl := wc_5 (j := 14) rfl
set_option maxRecDepth 20000 in
theorem w_975 : (Cond.selects "SpellScribe$WordBook" yX10_valueOn yX10_valueOn) ∈ lw_tbl := wc_5 (j := 15) rfl
set_option maxRecDepth 20000 in
theorem w_976 : (Cond.code yX10_valueOn prog_12_method_4_code (2 : Nat) (some FieldType.int)) ∈ lw_tbl := wc_5 (j := 16) rfl
set_option maxRecDepth 20000 in
theorem w_977 : (Cond.constant "SpellScribe$Lexicon" (132 : Nat) (65536 : Int32)) ∈ lw_tbl := wc_5 (j := 17) rfl
set_option maxRecDepth 20000 in
theorem w_978 : (Cond.methodLink "SpellScribeLaw" (123 : Nat) yL_rule) ∈ lw_tbl := wc_5 (j := 18) rfl
set_option maxRecDepth 20000 in
theorem w_979 : (Cond.static yL_rule) ∈ lw_tbl := wc_5 (j := 19) rfl
set_option maxRecDepth 20000 in
theorem w_980 : (Cond.codeWith yL_rule method_5_code (9 : Nat) (some FieldType.int) [((0 : Nat), (18 : Nat), (21 : Nat), (13 : Nat)), ((0 : Nat), (18 : Nat), (25 : Nat), (15 : Nat))]) ∈ lw_tbl := wc_5 (j := 20) rfl
set_option maxRecDepth 20000 in
theorem w_981 : (Cond.methodLink "SpellScribeLaw" (21 : Nat) yX11_rule) ∈ lw_tbl := wc_5 (j := 21) rfl
set_option maxRecDepth 20000 in
theorem w_982 : (Cond.instanceMethod yX11_rule) ∈ lw_tbl := wc_5 (j := 22) rfl
set_option maxRecDepth 20000 in
theorem w_983 : (Cond.selects "SpellScribe" yX11_rule yX11_rule) ∈ lw_tbl := wc_5 (j := 23) rfl
set_option maxRecDepth 20000 in
theorem w_984 : (Cond.code yX11_rule prog_1_method_5_code (11 : Nat) (some FieldType.int)) ∈ lw_tbl := wc_5 (j := 24) rfl
set_option maxRecDepth 20000 in
theorem w_985 : (Cond.stringRef "SpellScribe" (142 : Nat) "flag, strip, with, kind or form is out of range") ∈ lw_tbl := wc_5 (j := 25) rfl
set_option maxRecDepth 20000 in
theorem w_986 : (Cond.methodLink "SpellScribe" (144 : Nat) yX2_ruleCount) ∈ lw_tbl := wc_5 (j := 26) rfl
set_option maxRecDepth 20000 in
theorem w_987 : (Cond.instanceMethod yX2_ruleCount) ∈ lw_tbl := wc_5 (j := 27) rfl
set_option maxRecDepth 20000 in
theorem w_988 : (Cond.selects "SpellScribe$Lexicon" yX2_ruleCount yX2_ruleCount) ∈ lw_tbl := wc_5 (j := 28) rfl
set_option maxRecDepth 20000 in
theorem w_989 : (Cond.code yX2_ruleCount prog_4_method_4_code (1 : Nat) (some FieldType.int)) ∈ lw_tbl := wc_5 (j := 29) rfl
set_option maxRecDepth 20000 in
theorem w_990 : (Cond.stringRef "SpellScribe" (147 : Nat) "the draft is no addition, or there are 8 rules") ∈ lw_tbl := wc_5 (j := 30) rfl
set_option maxRecDepth 20000 in
theorem w_991 : (Cond.classLink "SpellScribe" (149 : Nat) "SpellScribe$Rule") ∈ lw_tbl := wc_5 (j := 31) rfl
set_option maxRecDepth 20000 in
theorem w_992 : (Cond.instantiable "SpellScribe$Rule" (8 : Nat)) ∈ lw_tbl := wc_5 (j := 32) rfl
set_option maxRecDepth 20000 in
theorem w_993 : (Cond.methodLink "SpellScribe" (151 : Nat) yX5_init) ∈ lw_tbl := wc_5 (j := 33) rfl
set_option maxRecDepth 20000 in
theorem w_994 : (Cond.instanceMethod yX5_init) ∈ lw_tbl := wc_5 (j := 34) rfl
set_option maxRecDepth 20000 in
theorem w_995 : (Cond.code yX5_init prog_7_method_1_code (8 : Nat) none) ∈ lw_tbl := wc_5 (j := 35) rfl
set_option maxRecDepth 20000 in
theorem w_996 : (Cond.methodLink "SpellScribe$Rule" (3 : Nat) objectInit) ∈ lw_tbl := wc_5 (j := 36) rfl
set_option maxRecDepth 20000 in
theorem w_997 : (Cond.fieldLink "SpellScribe$Rule" (9 : Nat) "SpellScribe$Rule" "flag" "I") ∈ lw_tbl := wc_5 (j := 37) rfl
set_option maxRecDepth 20000 in
theorem w_998 : (Cond.fieldLink "SpellScribe$Rule" (15 : Nat) "SpellScribe$Rule" "isEnd" "Z") ∈ lw_tbl := wc_5 (j := 38) rfl
set_option maxRecDepth 20000 in
theorem w_999 : (Cond.fieldLinkNest "SpellScribe" (169 : Nat) "SpellScribe$Rule" "isEnd" "Z" "SpellScribe") ∈ lw_tbl := wc_5 (j := 39) rfl
set_option maxRecDepth 20000 in
theorem w_1000 : (Cond.fieldLink "SpellScribe$Rule" (19 : Nat) "SpellScribe$Rule" "strip" "I") ∈ lw_tbl := wc_5 (j := 40) rfl
set_option maxRecDepth 20000 in
theorem w_1001 : (Cond.fieldLink "SpellScribe$Rule" (22 : Nat) "SpellScribe$Rule" "border" "I") ∈ lw_tbl := wc_5 (j := 41) rfl
set_option maxRecDepth 20000 in
theorem w_1002 : (Cond.fieldLink "SpellScribe$Rule" (25 : Nat) "SpellScribe$Rule" "added" "I") ∈ lw_tbl := wc_5 (j := 42) rfl
set_option maxRecDepth 20000 in
theorem w_1003 : (Cond.fieldLink "SpellScribe$Rule" (28 : Nat) "SpellScribe$Rule" "kind" "I") ∈ lw_tbl := wc_5 (j := 43) rfl
set_option maxRecDepth 20000 in
theorem w_1004 : (Cond.fieldLink "SpellScribe$Rule" (31 : Nat) "SpellScribe$Rule" "form" "I") ∈ lw_tbl := wc_5 (j := 44) rfl
set_option maxRecDepth 20000 in
theorem w_1005 : (Cond.fieldLinkNest "SpellScribe" (175 : Nat) "SpellScribe$Rule" "moreFlags" "I" "SpellScribe") ∈ lw_tbl := wc_5 (j := 45) rfl
set_option maxRecDepth 20000 in
theorem w_1006 : (Cond.fieldLinkNest "SpellScribe$Lexicon" (115 : Nat) "SpellScribe$Rule" "moreFlags" "I" "SpellScribe") ∈ lw_tbl := wc_5 (j := 46) rfl
set_option maxRecDepth 20000 in
theorem w_1023 : (Cond.superclass "SpellScribe$Rule" "java/lang/Object") ∈ lw_tbl := wc_5 (j := 63) rfl
set_option maxRecDepth 20000 in
theorem w_1024 : (Cond.methodLink "SpellScribe" (154 : Nat) yX2_addRule) ∈ lw_tbl := wc_5 (j := 64) rfl
set_option maxRecDepth 20000 in
theorem w_1025 : (Cond.instanceMethod yX2_addRule) ∈ lw_tbl := wc_5 (j := 65) rfl
set_option maxRecDepth 20000 in
theorem w_1026 : (Cond.selects "SpellScribe$Lexicon" yX2_addRule yX2_addRule) ∈ lw_tbl := wc_5 (j := 66) rfl
set_option maxRecDepth 20000 in
theorem w_1027 : (Cond.code yX2_addRule prog_4_method_5_code (2 : Nat) (some FieldType.int)) ∈ lw_tbl := wc_5 (j := 67) rfl
set_option maxRecDepth 20000 in
theorem w_1028 : (Cond.methodLink "SpellScribeLaw" (127 : Nat) yL_more) ∈ lw_tbl := wc_5 (j := 68) rfl
set_option maxRecDepth 20000 in
theorem w_1029 : (Cond.static yL_more) ∈ lw_tbl := wc_5 (j := 69) rfl
set_option maxRecDepth 20000 in
theorem w_1030 : (Cond.codeWith yL_more method_6_code (5 : Nat) (some FieldType.int) [((0 : Nat), (10 : Nat), (13 : Nat), (29 : Nat)), ((0 : Nat), (10 : Nat), (17 : Nat), (13 : Nat)), ((0 : Nat), (10 : Nat), (21 : Nat), (15 : Nat))]) ∈ lw_tbl := wc_5 (j := 70) rfl
set_option maxRecDepth 20000 in
theorem w_1031 : (Cond.classLink "SpellScribeLaw" (29 : Nat) "java/lang/IndexOutOfBoundsException") ∈ lw_tbl := wc_5 (j := 71) rfl
set_option maxRecDepth 20000 in
theorem w_1032 : (Cond.methodLink "SpellScribeLaw" (25 : Nat) yX11_more) ∈ lw_tbl := wc_5 (j := 72) rfl
set_option maxRecDepth 20000 in
theorem w_1033 : (Cond.instanceMethod yX11_more) ∈ lw_tbl := wc_5 (j := 73) rfl
set_option maxRecDepth 20000 in
theorem w_1034 : (Cond.selects "SpellScribe" yX11_more yX11_more) ∈ lw_tbl := wc_5 (j := 74) rfl
set_option maxRecDepth 20000 in
theorem w_1035 : (Cond.code yX11_more prog_1_method_6_code (5 : Nat) (some FieldType.int)) ∈ lw_tbl := wc_5 (j := 75) rfl
set_option maxRecDepth 20000 in
theorem w_1036 : (Cond.methodLink "SpellScribe" (158 : Nat) yX2_ruleAt) ∈ lw_tbl := wc_5 (j := 76) rfl
set_option maxRecDepth 20000 in
theorem w_1037 : (Cond.instanceMethod yX2_ruleAt) ∈ lw_tbl := wc_5 (j := 77) rfl
set_option maxRecDepth 20000 in
theorem w_1038 : (Cond.selects "SpellScribe$Lexicon" yX2_ruleAt yX2_ruleAt) ∈ lw_tbl := wc_5 (j := 78) rfl
set_option maxRecDepth 20000 in
theorem w_1039 : (Cond.code yX2_ruleAt prog_4_method_6_code (2 : Nat) (some (FieldType.object "SpellScribe$Rule"))) ∈ lw_tbl := wc_5 (j := 79) rfl
set_option maxRecDepth 20000 in
theorem w_1040 : (Cond.methodLinkNest "SpellScribe$Lexicon" (49 : Nat) yX11_isIn "SpellScribe") ∈ lw_tbl := wc_5 (j := 80) rfl
set_option maxRecDepth 20000 in
theorem w_1041 : (Cond.classLink "SpellScribe" (162 : Nat) "java/lang/IndexOutOfBoundsException") ∈ lw_tbl := wc_5 (j := 81) rfl
set_option maxRecDepth 20000 in
theorem w_1042 : (Cond.instantiable "java/lang/IndexOutOfBoundsException" (6 : Nat)) ∈ lw_tbl := wc_5 (j := 82) rfl
set_option maxRecDepth 20000 in
theorem w_1043 : (Cond.castable "java/lang/IndexOutOfBoundsException" "java/lang/IndexOutOfBoundsException") ∈ lw_tbl := wc_5 (j := 83) rfl
set_option maxRecDepth 20000 in
theorem w_1044 : (Cond.selects "java/lang/IndexOutOfBoundsException" ⟨"java/lang/Throwable", "fillInStackTrace", "(I)Ljava/lang/Throwable;"⟩ ⟨"java/lang/Throwable", "fillInStackTrace", "(I)Ljava/lang/Throwable;"⟩) ∈ lw_tbl := wc_5 (j := 84) rfl
set_option maxRecDepth 20000 in
theorem w_1050 : (Cond.stringRef "SpellScribe" (164 : Nat) "there is no such rule") ∈ lw_tbl := wc_5 (j := 90) rfl
set_option maxRecDepth 20000 in
theorem w_1051 : (Cond.methodLink "SpellScribe" (166 : Nat) ⟨"java/lang/IndexOutOfBoundsException", "<init>", "(Ljava/lang/String;)V"⟩) ∈ lw_tbl := wc_5 (j := 91) rfl
set_option maxRecDepth 20000 in
theorem w_1052 : (Cond.instanceMethod ⟨"java/lang/IndexOutOfBoundsException", "<init>", "(Ljava/lang/String;)V"⟩) ∈ lw_tbl := wc_5 (j := 92) rfl
set_option maxRecDepth 20000 in
theorem w_1053 : (Cond.code ⟨"java/lang/IndexOutOfBoundsException", "<init>", "(Ljava/lang/String;)V"⟩ prog_20_method_2_code (2 : Nat) none) ∈ lw_tbl := wc_5 (j := 93) rfl
set_option maxRecDepth 20000 in
theorem w_1054 : (Cond.methodLink "java/lang/IndexOutOfBoundsException" (7 : Nat) ⟨"java/lang/RuntimeException", "<init>", "(Ljava/lang/String;)V"⟩) ∈ lw_tbl := wc_5 (j := 94) rfl
set_option maxRecDepth 20000 in
theorem w_1056 : (Cond.superclass "java/lang/IndexOutOfBoundsException" "java/lang/RuntimeException") ∈ lw_tbl := wc_5 (j := 96) rfl
set_option maxRecDepth 20000 in
theorem w_1057 : (Cond.stringRef "SpellScribe" (167 : Nat) "flags is out of range") ∈ lw_tbl := wc_5 (j := 97) rfl
set_option maxRecDepth 20000 in
theorem w_1058 : (Cond.stringRef "SpellScribe" (173 : Nat) "the rule is not for endings") ∈ lw_tbl := wc_5 (j := 98) rfl
set_option maxRecDepth 20000 in
theorem w_1059 : (Cond.methodLink "SpellScribeLaw" (131 : Nat) yL_sound) ∈ lw_tbl := wc_5 (j := 99) rfl
set_option maxRecDepth 20000 in
theorem w_1060 : (Cond.static yL_sound) ∈ lw_tbl := wc_5 (j := 100) rfl
set_option maxRecDepth 20000 in
theorem w_1061 : (Cond.codeWith yL_sound method_7_code (5 : Nat) (some FieldType.int) [((0 : Nat), (17 : Nat), (20 : Nat), (13 : Nat))]) ∈ lw_tbl := wc_5 (j := 101) rfl
set_option maxRecDepth 20000 in
theorem w_1062 : (Cond.methodLink "SpellScribeLaw" (31 : Nat) yX11_sound) ∈ lw_tbl := wc_5 (j := 102) rfl
set_option maxRecDepth 20000 in
theorem w_1063 : (Cond.instanceMethod yX11_sound) ∈ lw_tbl := wc_5 (j := 103) rfl
set_option maxRecDepth 20000 in
theorem w_1064 : (Cond.selects "SpellScribe" yX11_sound yX11_sound) ∈ lw_tbl := wc_5 (j := 104) rfl
set_option maxRecDepth 20000 in
theorem w_1065 : (Cond.code yX11_sound prog_1_method_7_code (4 : Nat) (some FieldType.boolean)) ∈ lw_tbl := wc_5 (j := 105) rfl
set_option maxRecDepth 20000 in
theorem w_1066 : (Cond.stringRef "SpellScribe" (178 : Nat) "these are not two letters of a to h") ∈ lw_tbl := wc_5 (j := 106) rfl
set_option maxRecDepth 20000 in
theorem w_1067 : (Cond.methodLink "SpellScribe" (180 : Nat) yX8_addSound) ∈ lw_tbl := wc_5 (j := 107) rfl
set_option maxRecDepth 20000 in
theorem w_1068 : (Cond.instanceMethod yX8_addSound) ∈ lw_tbl := wc_5 (j := 108) rfl
set_option maxRecDepth 20000 in
theorem w_1069 : (Cond.selects "SpellScribe$Suggester" yX8_addSound yX8_addSound) ∈ lw_tbl := wc_5 (j := 109) rfl
set_option maxRecDepth 20000 in
theorem w_1070 : (Cond.code yX8_addSound prog_10_method_2_code (4 : Nat) (some FieldType.boolean)) ∈ lw_tbl := wc_5 (j := 110) rfl
set_option maxRecDepth 20000 in
theorem w_1071 : (Cond.methodLink "SpellScribeLaw" (135 : Nat) yL_own) ∈ lw_tbl := wc_5 (j := 111) rfl
set_option maxRecDepth 20000 in
theorem w_1072 : (Cond.static yL_own) ∈ lw_tbl := wc_5 (j := 112) rfl
set_option maxRecDepth 20000 in
theorem w_1073 : (Cond.codeWith yL_own method_8_code (5 : Nat) (some FieldType.int) [((0 : Nat), (10 : Nat), (13 : Nat), (13 : Nat)), ((0 : Nat), (10 : Nat), (17 : Nat), (15 : Nat))]) ∈ lw_tbl := wc_5 (j := 113) rfl
set_option maxRecDepth 20000 in
theorem w_1074 : (Cond.methodLink "SpellScribeLaw" (35 : Nat) yX11_own) ∈ lw_tbl := wc_5 (j := 114) rfl
set_option maxRecDepth 20000 in
theorem w_1075 : (Cond.instanceMethod yX11_own) ∈ lw_tbl := wc_5 (j := 115) rfl
set_option maxRecDepth 20000 in
theorem w_1076 : (Cond.selects "SpellScribe" yX11_own yX11_own) ∈ lw_tbl := wc_5 (j := 116) rfl
set_option maxRecDepth 20000 in
theorem w_1077 : (Cond.code yX11_own prog_1_method_8_code (3 : Nat) (some FieldType.int)) ∈ lw_tbl := wc_5 (j := 117) rfl
set_option maxRecDepth 20000 in
theorem w_1078 : (Cond.stringRef "SpellScribe" (183 : Nat) "kind or form is out of range") ∈ lw_tbl := wc_5 (j := 118) rfl
set_option maxRecDepth 20000 in
theorem w_1079 : (Cond.methodLink "SpellScribe" (185 : Nat) yX2_hasRoomForOwn) ∈ lw_tbl := wc_5 (j := 119) rfl
set_option maxRecDepth 20000 in
theorem w_1080 : (Cond.instanceMethod yX2_hasRoomForOwn) ∈ lw_tbl := wc_5 (j := 120) rfl
set_option maxRecDepth 20000 in
theorem w_1081 : (Cond.selects "SpellScribe$Lexicon" yX2_hasRoomForOwn yX2_hasRoomForOwn) ∈ lw_tbl := wc_5 (j := 121) rfl
set_option maxRecDepth 20000 in
theorem w_1082 : (Cond.code yX2_hasRoomForOwn prog_4_method_11_code (2 : Nat) (some FieldType.boolean)) ∈ lw_tbl := wc_5 (j := 122) rfl
set_option maxRecDepth 20000 in
theorem w_1083 : (Cond.stringRef "SpellScribe" (188 : Nat) "nothing is drafted, or there are 10 other own words") ∈ lw_tbl := wc_5 (j := 123) rfl
set_option maxRecDepth 20000 in
theorem w_1084 : (Cond.methodLink "SpellScribe" (190 : Nat) yX11_readingOf) ∈ lw_tbl := wc_5 (j := 124) rfl
set_option maxRecDepth 20000 in
theorem w_1085 : (Cond.methodLink "SpellScribe" (193 : Nat) yX2_addOwn) ∈ lw_tbl := wc_5 (j := 125) rfl
set_option maxRecDepth 20000 in
theorem w_1086 : (Cond.instanceMethod yX2_addOwn) ∈ lw_tbl := wc_5 (j := 126) rfl
set_option maxRecDepth 20000 in
theorem w_1087 : (Cond.selects "SpellScribe$Lexicon" yX2_addOwn yX2_addOwn) ∈ lw_tbl := wc_5 (j := 127) rfl
set_option maxRecDepth 20000 in
theorem w_1088 : (Cond.code yX2_addOwn prog_4_method_13_code (3 : Nat) none) ∈ lw_tbl := wc_5 (j := 128) rfl
set_option maxRecDepth 20000 in
theorem w_1089 : (Cond.methodLink "SpellScribe$Lexicon" (66 : Nat) yX10_drop) ∈ lw_tbl := wc_5 (j := 129) rfl
set_option maxRecDepth 20000 in
theorem w_1090 : (Cond.instanceMethod yX10_drop) ∈ lw_tbl := wc_5 (j := 130) rfl
set_option maxRecDepth 20000 in
theorem w_1091 : (Cond.selects "SpellScribe$WordBook" yX10_drop yX10_drop) ∈ lw_tbl := wc_5 (j := 131) rfl
set_option maxRecDepth 20000 in
theorem w_1092 : (Cond.code yX10_drop prog_12_method_7_code (3 : Nat) none) ∈ lw_tbl := wc_5 (j := 132) rfl
set_option maxRecDepth 20000 in
theorem w_1093 : (Cond.methodLink "SpellScribe$WordBook" (43 : Nat) yX4_remove) ∈ lw_tbl := wc_5 (j := 133) rfl
set_option maxRecDepth 20000 in
theorem w_1094 : (Cond.methodLink "SpellScribe" (197 : Nat) yX2_ownCount) ∈ lw_tbl := wc_5 (j := 134) rfl
set_option maxRecDepth 20000 in
theorem w_1095 : (Cond.instanceMethod yX2_ownCount) ∈ lw_tbl := wc_5 (j := 135) rfl
set_option maxRecDepth 20000 in
theorem w_1096 : (Cond.selects "SpellScribe$Lexicon" yX2_ownCount yX2_ownCount) ∈ lw_tbl := wc_5 (j := 136) rfl
set_option maxRecDepth 20000 in
theorem w_1097 : (Cond.code yX2_ownCount prog_4_method_8_code (1 : Nat) (some FieldType.int)) ∈ lw_tbl := wc_5 (j := 137) rfl
set_option maxRecDepth 20000 in
theorem w_1098 : (Cond.methodLink "SpellScribeLaw" (138 : Nat) yL_bar) ∈ lw_tbl := wc_5 (j := 138) rfl
set_option maxRecDepth 20000 in
theorem w_1099 : (Cond.static yL_bar) ∈ lw_tbl := wc_5 (j := 139) rfl
set_option maxRecDepth 20000 in
theorem w_1100 : (Cond.codeWith yL_bar method_9_code (3 : Nat) (some FieldType.int) [((0 : Nat), (8 : Nat), (11 : Nat), (15 : Nat))]) ∈ lw_tbl := wc_5 (j := 140) rfl
set_option maxRecDepth 20000 in
theorem w_1101 : (Cond.methodLink "SpellScribeLaw" (38 : Nat) yX11_bar) ∈ lw_tbl := wc_5 (j := 141) rfl
set_option maxRecDepth 20000 in
theorem w_1102 : (Cond.instanceMethod yX11_bar) ∈ lw_tbl := wc_5 (j := 142) rfl
set_option maxRecDepth 20000 in
theorem w_1103 : (Cond.selects "SpellScribe" yX11_bar yX11_bar) ∈ lw_tbl := wc_5 (j := 143) rfl
set_option maxRecDepth 20000 in
theorem w_1104 : (Cond.code yX11_bar prog_1_method_9_code (1 : Nat) (some FieldType.int)) ∈ lw_tbl := wc_5 (j := 144) rfl
set_option maxRecDepth 20000 in
theorem w_1105 : (Cond.methodLink "SpellScribe" (200 : Nat) yX2_hasRoomForBarred) ∈ lw_tbl := wc_5 (j := 145) rfl
set_option maxRecDepth 20000 in
theorem w_1106 : (Cond.instanceMethod yX2_hasRoomForBarred) ∈ lw_tbl := wc_5 (j := 146) rfl
set_option maxRecDepth 20000 in
theorem w_1107 : (Cond.selects "SpellScribe$Lexicon" yX2_hasRoomForBarred yX2_hasRoomForBarred) ∈ lw_tbl := wc_5 (j := 147) rfl
set_option maxRecDepth 20000 in
theorem w_1108 : (Cond.code yX2_hasRoomForBarred prog_4_method_12_code (2 : Nat) (some FieldType.boolean)) ∈ lw_tbl := wc_5 (j := 148) rfl
set_option maxRecDepth 20000 in
theorem w_1109 : (Cond.stringRef "SpellScribe" (203 : Nat) "nothing is drafted, or 10 other words are barred") ∈ lw_tbl := wc_5 (j := 149) rfl
set_option maxRecDepth 20000 in
theorem w_1110 : (Cond.methodLink "SpellScribe" (205 : Nat) yX2_addBarred) ∈ lw_tbl := wc_5 (j := 150) rfl
set_option maxRecDepth 20000 in
theorem w_1111 : (Cond.instanceMethod yX2_addBarred) ∈ lw_tbl := wc_5 (j := 151) rfl
set_option maxRecDepth 20000 in
theorem w_1112 : (Cond.selects "SpellScribe$Lexicon" yX2_addBarred yX2_addBarred) ∈ lw_tbl := wc_5 (j := 152) rfl
set_option maxRecDepth 20000 in
theorem w_1113 : (Cond.code yX2_addBarred prog_4_method_14_code (2 : Nat) none) ∈ lw_tbl := wc_5 (j := 153) rfl
set_option maxRecDepth 20000 in
theorem w_1114 : (Cond.methodLink "SpellScribe" (208 : Nat) yX2_barredCount) ∈ lw_tbl := wc_5 (j := 154) rfl
set_option maxRecDepth 20000 in
theorem w_1115 : (Cond.instanceMethod yX2_barredCount) ∈ lw_tbl := wc_5 (j := 155) rfl
set_option maxRecDepth 20000 in
theorem w_1116 : (Cond.selects "SpellScribe$Lexicon" yX2_barredCount yX2_barredCount) ∈ lw_tbl := wc_5 (j := 156) rfl
set_option maxRecDepth 20000 in
theorem w_1117 : (Cond.code yX2_barredCount prog_4_method_9_code (1 : Nat) (some FieldType.int)) ∈ lw_tbl := wc_5 (j := 157) rfl
set_option maxRecDepth 20000 in
theorem w_1118 : (Cond.methodLink "SpellScribeLaw" (142 : Nat) yL_ignore) ∈ lw_tbl := wc_5 (j := 158) rfl
set_option maxRecDepth 20000 in
theorem w_1119 : (Cond.static yL_ignore) ∈ lw_tbl := wc_5 (j := 159) rfl
set_option maxRecDepth 20000 in
theorem w_1120 : (Cond.codeWith yL_ignore method_10_code (4 : Nat) (some FieldType.int) [((0 : Nat), (9 : Nat), (12 : Nat), (29 : Nat)), ((0 : Nat), (9 : Nat), (15 : Nat), (15 : Nat))]) ∈ lw_tbl := wc_5 (j := 160) rfl
set_option maxRecDepth 20000 in
theorem w_1121 : (Cond.methodLink "SpellScribeLaw" (42 : Nat) yX11_ignore) ∈ lw_tbl := wc_5 (j := 161) rfl
set_option maxRecDepth 20000 in
theorem w_1122 : (Cond.instanceMethod yX11_ignore) ∈ lw_tbl := wc_5 (j := 162) rfl
set_option maxRecDepth 20000 in
theorem w_1123 : (Cond.selects "SpellScribe" yX11_ignore yX11_ignore) ∈ lw_tbl := wc_5 (j := 163) rfl
set_option maxRecDepth 20000 in
theorem w_1124 : (Cond.code yX11_ignore prog_1_method_10_code (4 : Nat) (some FieldType.int)) ∈ lw_tbl := wc_5 (j := 164) rfl
set_option maxRecDepth 20000 in
theorem w_1125 : (Cond.methodLink "SpellScribe" (211 : Nat) yX11_hasWord) ∈ lw_tbl := wc_5 (j := 165) rfl
set_option maxRecDepth 20000 in
theorem w_1127 : (Cond.instanceMethod yX11_hasWord) ∈ lw_tbl := wc_5 (j := 167) rfl
set_option maxRecDepth 20000 in
theorem w_1128 : (Cond.code yX11_hasWord prog_1_method_38_code (2 : Nat) (some FieldType.boolean)) ∈ lw_tbl := wc_5 (j := 168) rfl
set_option maxRecDepth 20000 in
theorem w_1129 : (Cond.stringRef "SpellScribe" (214 : Nat) "there is no such word") ∈ lw_tbl := wc_5 (j := 169) rfl
set_option maxRecDepth 20000 in
theorem w_1130 : (Cond.methodLink "SpellScribe" (225 : Nat) yX2_isBarred) ∈ lw_tbl := wc_5 (j := 170) rfl
set_option maxRecDepth 20000 in
theorem w_1131 : (Cond.stringRef "SpellScribe" (228 : Nat) "the word is right, has more than 10 letters, or is barred") ∈ lw_tbl := wc_5 (j := 171) rfl
set_option maxRecDepth 20000 in
theorem w_1132 : (Cond.methodLink "SpellScribe" (230 : Nat) yX10_valueOf) ∈ lw_tbl := wc_5 (j := 172) rfl
set_option maxRecDepth 20000 in
theorem w_1133 : (Cond.methodLink "SpellScribe" (233 : Nat) yX10_store) ∈ lw_tbl := wc_5 (j := 173) rfl
set_option maxRecDepth 20000 in
theorem w_1134 : (Cond.methodLink "SpellScribe" (236 : Nat) yX10_drop) ∈ lw_tbl := wc_5 (j := 174) rfl
set_option maxRecDepth 20000 in
theorem w_1135 : (Cond.methodLink "SpellScribeLaw" (146 : Nat) yL_tell) ∈ lw_tbl := wc_5 (j := 175) rfl
set_option maxRecDepth 20000 in
theorem w_1136 : (Cond.static yL_tell) ∈ lw_tbl := wc_5 (j := 176) rfl
set_option maxRecDepth 20000 in
theorem w_1137 : (Cond.codeWith yL_tell method_11_code (6 : Nat) (some FieldType.int) [((0 : Nat), (12 : Nat), (15 : Nat), (13 : Nat))]) ∈ lw_tbl := wc_5 (j := 177) rfl
set_option maxRecDepth 20000 in
theorem w_1138 : (Cond.methodLink "SpellScribeLaw" (46 : Nat) yX11_tell) ∈ lw_tbl := wc_5 (j := 178) rfl
set_option maxRecDepth 20000 in
theorem w_1139 : (Cond.instanceMethod yX11_tell) ∈ lw_tbl := wc_5 (j := 179) rfl
set_option maxRecDepth 20000 in
theorem w_1140 : (Cond.selects "SpellScribe" yX11_tell yX11_tell) ∈ lw_tbl := wc_5 (j := 180) rfl
set_option maxRecDepth 20000 in
theorem w_1141 : (Cond.code yX11_tell prog_1_method_11_code (4 : Nat) (some FieldType.int)) ∈ lw_tbl := wc_5 (j := 181) rfl
set_option maxRecDepth 20000 in
theorem w_1142 : (Cond.stringRef "SpellScribe" (239 : Nat) "first, second or what is out of range") ∈ lw_tbl := wc_5 (j := 182) rfl
set_option maxRecDepth 20000 in
theorem w_1143 : (Cond.methodLink "SpellScribe" (241 : Nat) yX0_changeTold) ∈ lw_tbl := wc_5 (j := 183) rfl
set_option maxRecDepth 20000 in
theorem w_1144 : (Cond.instanceMethod yX0_changeTold) ∈ lw_tbl := wc_5 (j := 184) rfl
set_option maxRecDepth 20000 in
theorem w_1145 : (Cond.selects "SpellScribe$Grammar" yX0_changeTold yX0_changeTold) ∈ lw_tbl := wc_5 (j := 185) rfl
set_option maxRecDepth 20000 in
theorem w_1146 : (Cond.code yX0_changeTold prog_2_method_2_code (5 : Nat) (some FieldType.int)) ∈ lw_tbl := wc_5 (j := 186) rfl
set_option maxRecDepth 20000 in
theorem w_1147 : (Cond.methodLink "SpellScribeLaw" (150 : Nat) yL_item) ∈ lw_tbl := wc_5 (j := 187) rfl
set_option maxRecDepth 20000 in
theorem w_1148 : (Cond.static yL_item) ∈ lw_tbl := wc_5 (j := 188) rfl
set_option maxRecDepth 20000 in
theorem w_1149 : (Cond.codeWith yL_item method_12_code (4 : Nat) (some FieldType.int) [((0 : Nat), (9 : Nat), (12 : Nat), (13 : Nat)), ((0 : Nat), (9 : Nat), (15 : Nat), (15 : Nat))]) ∈ lw_tbl := wc_5 (j := 189) rfl
set_option maxRecDepth 20000 in
theorem w_1150 : (Cond.methodLink "SpellScribeLaw" (50 : Nat) yX11_item) ∈ lw_tbl := wc_5 (j := 190) rfl
set_option maxRecDepth 20000 in
theorem w_1151 : (Cond.instanceMethod yX11_item) ∈ lw_tbl := wc_5 (j := 191) rfl
set_option maxRecDepth 20000 in
theorem w_1152 : (Cond.selects "SpellScribe" yX11_item yX11_item) ∈ lw_tbl := wc_5 (j := 192) rfl
set_option maxRecDepth 20000 in
theorem w_1153 : (Cond.code yX11_item prog_1_method_12_code (2 : Nat) (some FieldType.int)) ∈ lw_tbl := wc_5 (j := 193) rfl
set_option maxRecDepth 20000 in
theorem w_1154 : (Cond.stringRef "SpellScribe" (245 : Nat) "kind is out of range") ∈ lw_tbl := wc_5 (j := 194) rfl
set_option maxRecDepth 20000 in
theorem w_1155 : (Cond.stringRef "SpellScribe" (250 : Nat) "the style has 3 items, or nothing is drafted") ∈ lw_tbl := wc_5 (j := 195) rfl
set_option maxRecDepth 20000 in
theorem w_1156 : (Cond.methodLink "SpellScribe" (252 : Nat) yX7_addItem) ∈ lw_tbl := wc_5 (j := 196) rfl
set_option maxRecDepth 20000 in
theorem w_1157 : (Cond.instanceMethod yX7_addItem) ∈ lw_tbl := wc_5 (j := 197) rfl
set_option maxRecDepth 20000 in
theorem w_1158 : (Cond.selects "SpellScribe$Style" yX7_addItem yX7_addItem) ∈ lw_tbl := wc_5 (j := 198) rfl
set_option maxRecDepth 20000 in
theorem w_1159 : (Cond.code yX7_addItem prog_9_method_2_code (2 : Nat) none) ∈ lw_tbl := wc_5 (j := 199) rfl
set_option maxRecDepth 20000 in
theorem w_1160 : (Cond.methodLink "SpellScribe$Style" (27 : Nat) yX4_set) ∈ lw_tbl := wc_5 (j := 200) rfl
set_option maxRecDepth 20000 in
theorem w_1161 : (Cond.methodLink "SpellScribeLaw" (153 : Nat) yL_style) ∈ lw_tbl := wc_5 (j := 201) rfl
set_option maxRecDepth 20000 in
theorem w_1162 : (Cond.static yL_style) ∈ lw_tbl := wc_5 (j := 202) rfl
set_option maxRecDepth 20000 in
theorem w_1163 : (Cond.codeWith yL_style method_13_code (4 : Nat) (some FieldType.int) [((0 : Nat), (9 : Nat), (12 : Nat), (15 : Nat)), ((0 : Nat), (9 : Nat), (15 : Nat), (29 : Nat))]) ∈ lw_tbl := wc_5 (j := 203) rfl
set_option maxRecDepth 20000 in
theorem w_1164 : (Cond.methodLink "SpellScribeLaw" (53 : Nat) yX11_style) ∈ lw_tbl := wc_5 (j := 204) rfl
set_option maxRecDepth 20000 in
theorem w_1165 : (Cond.instanceMethod yX11_style) ∈ lw_tbl := wc_5 (j := 205) rfl
set_option maxRecDepth 20000 in
theorem w_1166 : (Cond.selects "SpellScribe" yX11_style yX11_style) ∈ lw_tbl := wc_5 (j := 206) rfl
set_option maxRecDepth 20000 in
theorem w_1167 : (Cond.code yX11_style prog_1_method_13_code (2 : Nat) (some FieldType.int)) ∈ lw_tbl := wc_5 (j := 207) rfl
set_option maxRecDepth 20000 in
theorem w_1168 : (Cond.stringRef "SpellScribe" (260 : Nat) "the style has no items, nothing is drafted, or there are 8 styles") ∈ lw_tbl := wc_5 (j := 208) rfl
set_option maxRecDepth 20000 in
theorem w_1169 : (Cond.stringRef "SpellScribe" (262 : Nat) "there is no such item") ∈ lw_tbl := wc_5 (j := 209) rfl
set_option maxRecDepth 20000 in
theorem w_1170 : (Cond.methodLink "SpellScribe" (264 : Nat) yX7_setChange) ∈ lw_tbl := wc_5 (j := 210) rfl
set_option maxRecDepth 20000 in
theorem w_1171 : (Cond.instanceMethod yX7_setChange) ∈ lw_tbl := wc_5 (j := 211) rfl
set_option maxRecDepth 20000 in
theorem w_1172 : (Cond.selects "SpellScribe$Style" yX7_setChange yX7_setChange) ∈ lw_tbl := wc_5 (j := 212) rfl
set_option maxRecDepth 20000 in
theorem w_1173 : (Cond.code yX7_setChange prog_9_method_3_code (3 : Nat) none) ∈ lw_tbl := wc_5 (j := 213) rfl
set_option maxRecDepth 20000 in
theorem w_1174 : (Cond.interfaceEntry "SpellScribe" (267 : Nat)) ∈ lw_tbl := wc_5 (j := 214) rfl
set_option maxRecDepth 20000 in
theorem w_1175 : (Cond.methodLink "SpellScribe" (267 : Nat) ⟨"java/util/List", "add", "(Ljava/lang/Object;)Z"⟩) ∈ lw_tbl := wc_5 (j := 215) rfl
set_option maxRecDepth 20000 in
theorem w_1176 : (Cond.methodLink "SpellScribeLaw" (156 : Nat) yL_put) ∈ lw_tbl := wc_5 (j := 216) rfl
set_option maxRecDepth 20000 in
theorem w_1177 : (Cond.static yL_put) ∈ lw_tbl := wc_5 (j := 217) rfl
set_option maxRecDepth 20000 in
theorem w_1178 : (Cond.codeWith yL_put method_14_code (5 : Nat) (some FieldType.int) [((0 : Nat), (10 : Nat), (13 : Nat), (29 : Nat)), ((0 : Nat), (10 : Nat), (17 : Nat), (13 : Nat)), ((0 : Nat), (10 : Nat), (21 : Nat), (15 : Nat))]) ∈ lw_tbl := wc_5 (j := 218) rfl
set_option maxRecDepth 20000 in
theorem w_1179 : (Cond.methodLink "SpellScribeLaw" (56 : Nat) yX11_put) ∈ lw_tbl := wc_5 (j := 219) rfl
set_option maxRecDepth 20000 in
theorem w_1180 : (Cond.instanceMethod yX11_put) ∈ lw_tbl := wc_5 (j := 220) rfl
set_option maxRecDepth 20000 in
theorem w_1181 : (Cond.selects "SpellScribe" yX11_put yX11_put) ∈ lw_tbl := wc_5 (j := 221) rfl
set_option maxRecDepth 20000 in
theorem w_1182 : (Cond.code yX11_put prog_1_method_14_code (3 : Nat) (some FieldType.int)) ∈ lw_tbl := wc_5 (j := 222) rfl
set_option maxRecDepth 20000 in
theorem w_1183 : (Cond.stringRef "SpellScribe" (272 : Nat) "there is no such place") ∈ lw_tbl := wc_5 (j := 223) rfl
set_option maxRecDepth 20000 in
theorem w_1184 : (Cond.methodLink "SpellScribe" (274 : Nat) yX11_isSign) ∈ lw_tbl := wc_5 (j := 224) rfl
set_option maxRecDepth 20000 in
theorem w_1185 : (Cond.static yX11_isSign) ∈ lw_tbl := wc_5 (j := 225) rfl
set_option maxRecDepth 20000 in
theorem w_1186 : (Cond.code yX11_isSign prog_1_method_46_code (1 : Nat) (some FieldType.boolean)) ∈ lw_tbl := wc_5 (j := 226) rfl
set_option maxRecDepth 20000 in
theorem w_1187 : (Cond.stringRef "SpellScribe" (278 : Nat) "this is no sign of a text") ∈ lw_tbl := wc_5 (j := 227) rfl
set_option maxRecDepth 20000 in
theorem w_1188 : (Cond.stringRef "SpellScribe" (280 : Nat) "the text has 100 signs") ∈ lw_tbl := wc_5 (j := 228) rfl
set_option maxRecDepth 20000 in
theorem w_1189 : (Cond.methodLink "SpellScribe" (282 : Nat) yX9_becomeLike) ∈ lw_tbl := wc_5 (j := 229) rfl
set_option maxRecDepth 20000 in
theorem w_1190 : (Cond.instanceMethod yX9_becomeLike) ∈ lw_tbl := wc_5 (j := 230) rfl
set_option maxRecDepth 20000 in
theorem w_1191 : (Cond.selects "SpellScribe$Text" yX9_becomeLike yX9_becomeLike) ∈ lw_tbl := wc_5 (j := 231) rfl
set_option maxRecDepth 20000 in
theorem w_1192 : (Cond.code yX9_becomeLike prog_11_method_15_code (3 : Nat) none) ∈ lw_tbl := wc_5 (j := 232) rfl
set_option maxRecDepth 20000 in
theorem w_1193 : (Cond.methodLink "SpellScribe$Text" (85 : Nat) yX9_findWords) ∈ lw_tbl := wc_5 (j := 233) rfl
set_option maxRecDepth 20000 in
theorem w_1194 : (Cond.methodLink "SpellScribe" (286 : Nat) yX9_insertSign) ∈ lw_tbl := wc_5 (j := 234) rfl
set_option maxRecDepth 20000 in
theorem w_1195 : (Cond.methodLink "SpellScribe" (289 : Nat) yX11_checkEdit) ∈ lw_tbl := wc_5 (j := 235) rfl
set_option maxRecDepth 20000 in
theorem w_1197 : (Cond.instanceMethod yX11_checkEdit) ∈ lw_tbl := wc_5 (j := 237) rfl
set_option maxRecDepth 20000 in
theorem w_1198 : (Cond.code yX11_checkEdit prog_1_method_35_code (1 : Nat) (some FieldType.int)) ∈ lw_tbl := wc_5 (j := 238) rfl
set_option maxRecDepth 20000 in
theorem w_1199 : (Cond.methodLink "SpellScribe" (381 : Nat) yX9_wordsCheckedSince) ∈ lw_tbl := wc_5 (j := 239) rfl
set_option maxRecDepth 20000 in
theorem w_1200 : (Cond.instanceMethod yX9_wordsCheckedSince) ∈ lw_tbl := wc_6 (j := 0) rfl
set_option maxRecDepth 20000 in
theorem w_1201 : (Cond.selects "SpellScribe$Text" yX9_wordsCheckedSince yX9_wordsCheckedSince) ∈ lw_tbl := wc_6 (j := 1) rfl
set_option maxRecDepth 20000 in
theorem w_1202 : (Cond.code yX9_wordsCheckedSince prog_11_method_19_code (5 : Nat) (some FieldType.int)) ∈ lw_tbl := wc_6 (j := 2) rfl
set_option maxRecDepth 20000 in
theorem w_1203 : (Cond.methodLink "SpellScribe$Text" (99 : Nat) yX9_countLike) ∈ lw_tbl := wc_6 (j := 3) rfl
set_option maxRecDepth 20000 in
theorem w_1205 : (Cond.instanceMethod yX9_countLike) ∈ lw_tbl := wc_6 (j := 5) rfl
set_option maxRecDepth 20000 in
theorem w_1206 : (Cond.code yX9_countLike prog_11_method_20_code (6 : Nat) (some FieldType.int)) ∈ lw_tbl := wc_6 (j := 6) rfl
set_option maxRecDepth 20000 in
theorem w_1207 : (Cond.methodLink "SpellScribe$Text" (103 : Nat) yX9_isLike) ∈ lw_tbl := wc_6 (j := 7) rfl
set_option maxRecDepth 20000 in
theorem w_1209 : (Cond.instanceMethod yX9_isLike) ∈ lw_tbl := wc_6 (j := 9) rfl
set_option maxRecDepth 20000 in
theorem w_1210 : (Cond.code yX9_isLike prog_11_method_21_code (8 : Nat) (some FieldType.boolean)) ∈ lw_tbl := wc_6 (j := 10) rfl
set_option maxRecDepth 20000 in
theorem w_1211 : (Cond.methodLink "SpellScribeLaw" (160 : Nat) yL_take) ∈ lw_tbl := wc_6 (j := 11) rfl
set_option maxRecDepth 20000 in
theorem w_1212 : (Cond.static yL_take) ∈ lw_tbl := wc_6 (j := 12) rfl
set_option maxRecDepth 20000 in
theorem w_1213 : (Cond.codeWith yL_take method_15_code (4 : Nat) (some FieldType.int) [((0 : Nat), (9 : Nat), (12 : Nat), (29 : Nat))]) ∈ lw_tbl := wc_6 (j := 13) rfl
set_option maxRecDepth 20000 in
theorem w_1214 : (Cond.methodLink "SpellScribeLaw" (60 : Nat) yX11_take) ∈ lw_tbl := wc_6 (j := 14) rfl
set_option maxRecDepth 20000 in
theorem w_1215 : (Cond.instanceMethod yX11_take) ∈ lw_tbl := wc_6 (j := 15) rfl
set_option maxRecDepth 20000 in
theorem w_1216 : (Cond.selects "SpellScribe" yX11_take yX11_take) ∈ lw_tbl := wc_6 (j := 16) rfl
set_option maxRecDepth 20000 in
theorem w_1217 : (Cond.code yX11_take prog_1_method_15_code (2 : Nat) (some FieldType.int)) ∈ lw_tbl := wc_6 (j := 17) rfl
set_option maxRecDepth 20000 in
theorem w_1218 : (Cond.methodLink "SpellScribe" (292 : Nat) yX9_removeSign) ∈ lw_tbl := wc_6 (j := 18) rfl
set_option maxRecDepth 20000 in
theorem w_1219 : (Cond.methodLink "SpellScribeLaw" (171 : Nat) yL_signAt) ∈ lw_tbl := wc_6 (j := 19) rfl
set_option maxRecDepth 20000 in
theorem w_1220 : (Cond.static yL_signAt) ∈ lw_tbl := wc_6 (j := 20) rfl
set_option maxRecDepth 20000 in
theorem w_1221 : (Cond.codeWith yL_signAt method_16_code (4 : Nat) (some FieldType.int) [((0 : Nat), (9 : Nat), (12 : Nat), (29 : Nat))]) ∈ lw_tbl := wc_6 (j := 21) rfl
set_option maxRecDepth 20000 in
theorem w_1222 : (Cond.methodLink "SpellScribeLaw" (63 : Nat) yX11_signAt) ∈ lw_tbl := wc_6 (j := 22) rfl
set_option maxRecDepth 20000 in
theorem w_1223 : (Cond.instanceMethod yX11_signAt) ∈ lw_tbl := wc_6 (j := 23) rfl
set_option maxRecDepth 20000 in
theorem w_1224 : (Cond.selects "SpellScribe" yX11_signAt yX11_signAt) ∈ lw_tbl := wc_6 (j := 24) rfl
set_option maxRecDepth 20000 in
theorem w_1225 : (Cond.code yX11_signAt prog_1_method_18_code (2 : Nat) (some FieldType.char)) ∈ lw_tbl := wc_6 (j := 25) rfl
set_option maxRecDepth 20000 in
theorem w_1226 : (Cond.methodLink "SpellScribe" (309 : Nat) yX9_signOn) ∈ lw_tbl := wc_6 (j := 26) rfl
set_option maxRecDepth 20000 in
theorem w_1227 : (Cond.methodLink "SpellScribeLaw" (178 : Nat) yL_wordAt) ∈ lw_tbl := wc_6 (j := 27) rfl
set_option maxRecDepth 20000 in
theorem w_1228 : (Cond.static yL_wordAt) ∈ lw_tbl := wc_6 (j := 28) rfl
set_option maxRecDepth 20000 in
theorem w_1229 : (Cond.codeWith yL_wordAt method_17_code (4 : Nat) (some FieldType.int) [((0 : Nat), (9 : Nat), (12 : Nat), (29 : Nat))]) ∈ lw_tbl := wc_6 (j := 29) rfl
set_option maxRecDepth 20000 in
theorem w_1230 : (Cond.methodLink "SpellScribeLaw" (67 : Nat) yX11_wordAt) ∈ lw_tbl := wc_6 (j := 30) rfl
set_option maxRecDepth 20000 in
theorem w_1231 : (Cond.instanceMethod yX11_wordAt) ∈ lw_tbl := wc_6 (j := 31) rfl
set_option maxRecDepth 20000 in
theorem w_1232 : (Cond.selects "SpellScribe" yX11_wordAt yX11_wordAt) ∈ lw_tbl := wc_6 (j := 32) rfl
set_option maxRecDepth 20000 in
theorem w_1233 : (Cond.code yX11_wordAt prog_1_method_20_code (2 : Nat) (some FieldType.int)) ∈ lw_tbl := wc_6 (j := 33) rfl
set_option maxRecDepth 20000 in
theorem w_1234 : (Cond.methodLink "SpellScribe" (316 : Nat) yX9_wordStart) ∈ lw_tbl := wc_6 (j := 34) rfl
set_option maxRecDepth 20000 in
theorem w_1235 : (Cond.methodLink "SpellScribeLaw" (181 : Nat) yL_isRight) ∈ lw_tbl := wc_6 (j := 35) rfl
set_option maxRecDepth 20000 in
theorem w_1236 : (Cond.static yL_isRight) ∈ lw_tbl := wc_6 (j := 36) rfl
set_option maxRecDepth 20000 in
theorem w_1237 : (Cond.codeWith yL_isRight method_18_code (4 : Nat) (some FieldType.int) [((0 : Nat), (16 : Nat), (19 : Nat), (29 : Nat))]) ∈ lw_tbl := wc_6 (j := 37) rfl
set_option maxRecDepth 20000 in
theorem w_1238 : (Cond.methodLink "SpellScribeLaw" (70 : Nat) yX11_isRight) ∈ lw_tbl := wc_6 (j := 38) rfl
set_option maxRecDepth 20000 in
theorem w_1239 : (Cond.instanceMethod yX11_isRight) ∈ lw_tbl := wc_6 (j := 39) rfl
set_option maxRecDepth 20000 in
theorem w_1240 : (Cond.selects "SpellScribe" yX11_isRight yX11_isRight) ∈ lw_tbl := wc_6 (j := 40) rfl
set_option maxRecDepth 20000 in
theorem w_1241 : (Cond.code yX11_isRight prog_1_method_21_code (2 : Nat) (some FieldType.boolean)) ∈ lw_tbl := wc_6 (j := 41) rfl
set_option maxRecDepth 20000 in
theorem w_1242 : (Cond.methodLink "SpellScribeLaw" (184 : Nat) yL_readings) ∈ lw_tbl := wc_6 (j := 42) rfl
set_option maxRecDepth 20000 in
theorem w_1243 : (Cond.static yL_readings) ∈ lw_tbl := wc_6 (j := 43) rfl
set_option maxRecDepth 20000 in
theorem w_1244 : (Cond.codeWith yL_readings method_19_code (4 : Nat) (some FieldType.int) [((0 : Nat), (9 : Nat), (12 : Nat), (29 : Nat))]) ∈ lw_tbl := wc_6 (j := 44) rfl
set_option maxRecDepth 20000 in
theorem w_1245 : (Cond.methodLink "SpellScribeLaw" (74 : Nat) yX11_readings) ∈ lw_tbl := wc_6 (j := 45) rfl
set_option maxRecDepth 20000 in
theorem w_1246 : (Cond.instanceMethod yX11_readings) ∈ lw_tbl := wc_6 (j := 46) rfl
set_option maxRecDepth 20000 in
theorem w_1247 : (Cond.selects "SpellScribe" yX11_readings yX11_readings) ∈ lw_tbl := wc_6 (j := 47) rfl
set_option maxRecDepth 20000 in
theorem w_1248 : (Cond.code yX11_readings prog_1_method_22_code (2 : Nat) (some FieldType.int)) ∈ lw_tbl := wc_6 (j := 48) rfl
set_option maxRecDepth 20000 in
theorem w_1249 : (Cond.methodLink "SpellScribe" (319 : Nat) yX3_readingSet) ∈ lw_tbl := wc_6 (j := 49) rfl
set_option maxRecDepth 20000 in
theorem w_1250 : (Cond.instanceMethod yX3_readingSet) ∈ lw_tbl := wc_6 (j := 50) rfl
set_option maxRecDepth 20000 in
theorem w_1251 : (Cond.selects "SpellScribe$Proof" yX3_readingSet yX3_readingSet) ∈ lw_tbl := wc_6 (j := 51) rfl
set_option maxRecDepth 20000 in
theorem w_1252 : (Cond.code yX3_readingSet prog_5_method_3_code (2 : Nat) (some FieldType.int)) ∈ lw_tbl := wc_6 (j := 52) rfl
set_option maxRecDepth 20000 in
theorem w_1253 : (Cond.methodLink "SpellScribeLaw" (187 : Nat) yL_reading) ∈ lw_tbl := wc_6 (j := 53) rfl
set_option maxRecDepth 20000 in
theorem w_1254 : (Cond.static yL_reading) ∈ lw_tbl := wc_6 (j := 54) rfl
set_option maxRecDepth 20000 in
theorem w_1255 : (Cond.codeWith yL_reading method_20_code (4 : Nat) (some FieldType.int) [((0 : Nat), (9 : Nat), (12 : Nat), (29 : Nat))]) ∈ lw_tbl := wc_6 (j := 55) rfl
set_option maxRecDepth 20000 in
theorem w_1256 : (Cond.methodLink "SpellScribeLaw" (77 : Nat) yX11_reading) ∈ lw_tbl := wc_6 (j := 56) rfl
set_option maxRecDepth 20000 in
theorem w_1257 : (Cond.instanceMethod yX11_reading) ∈ lw_tbl := wc_6 (j := 57) rfl
set_option maxRecDepth 20000 in
theorem w_1258 : (Cond.selects "SpellScribe" yX11_reading yX11_reading) ∈ lw_tbl := wc_6 (j := 58) rfl
set_option maxRecDepth 20000 in
theorem w_1259 : (Cond.code yX11_reading prog_1_method_23_code (2 : Nat) (some FieldType.int)) ∈ lw_tbl := wc_6 (j := 59) rfl
set_option maxRecDepth 20000 in
theorem w_1260 : (Cond.methodLink "SpellScribe" (322 : Nat) yX3_chosenReading) ∈ lw_tbl := wc_6 (j := 60) rfl
set_option maxRecDepth 20000 in
theorem w_1261 : (Cond.instanceMethod yX3_chosenReading) ∈ lw_tbl := wc_6 (j := 61) rfl
set_option maxRecDepth 20000 in
theorem w_1262 : (Cond.selects "SpellScribe$Proof" yX3_chosenReading yX3_chosenReading) ∈ lw_tbl := wc_6 (j := 62) rfl
set_option maxRecDepth 20000 in
theorem w_1263 : (Cond.code yX3_chosenReading prog_5_method_4_code (2 : Nat) (some FieldType.int)) ∈ lw_tbl := wc_6 (j := 63) rfl
set_option maxRecDepth 20000 in
theorem w_1264 : (Cond.methodLink "SpellScribeLaw" (190 : Nat) yL_split) ∈ lw_tbl := wc_6 (j := 64) rfl
set_option maxRecDepth 20000 in
theorem w_1265 : (Cond.static yL_split) ∈ lw_tbl := wc_6 (j := 65) rfl
set_option maxRecDepth 20000 in
theorem w_1266 : (Cond.codeWith yL_split method_21_code (4 : Nat) (some FieldType.int) [((0 : Nat), (9 : Nat), (12 : Nat), (29 : Nat))]) ∈ lw_tbl := wc_6 (j := 66) rfl
set_option maxRecDepth 20000 in
theorem w_1267 : (Cond.methodLink "SpellScribeLaw" (80 : Nat) yX11_split) ∈ lw_tbl := wc_6 (j := 67) rfl
set_option maxRecDepth 20000 in
theorem w_1268 : (Cond.instanceMethod yX11_split) ∈ lw_tbl := wc_6 (j := 68) rfl
set_option maxRecDepth 20000 in
theorem w_1269 : (Cond.selects "SpellScribe" yX11_split yX11_split) ∈ lw_tbl := wc_6 (j := 69) rfl
set_option maxRecDepth 20000 in
theorem w_1270 : (Cond.code yX11_split prog_1_method_24_code (4 : Nat) (some FieldType.int)) ∈ lw_tbl := wc_6 (j := 70) rfl
set_option maxRecDepth 20000 in
theorem w_1271 : (Cond.methodLink "SpellScribe" (328 : Nat) yX11_isRightPart) ∈ lw_tbl := wc_6 (j := 71) rfl
set_option maxRecDepth 20000 in
theorem w_1273 : (Cond.instanceMethod yX11_isRightPart) ∈ lw_tbl := wc_6 (j := 73) rfl
set_option maxRecDepth 20000 in
theorem w_1274 : (Cond.code yX11_isRightPart prog_1_method_40_code (4 : Nat) (some FieldType.boolean)) ∈ lw_tbl := wc_6 (j := 74) rfl
set_option maxRecDepth 20000 in
theorem w_1275 : (Cond.methodLink "SpellScribe" (395 : Nat) yX9_partOfWord) ∈ lw_tbl := wc_6 (j := 75) rfl
set_option maxRecDepth 20000 in
theorem w_1276 : (Cond.instanceMethod yX9_partOfWord) ∈ lw_tbl := wc_6 (j := 76) rfl
set_option maxRecDepth 20000 in
theorem w_1277 : (Cond.selects "SpellScribe$Text" yX9_partOfWord yX9_partOfWord) ∈ lw_tbl := wc_6 (j := 77) rfl
set_option maxRecDepth 20000 in
theorem w_1278 : (Cond.code yX9_partOfWord prog_11_method_9_code (6 : Nat) (some FieldType.int)) ∈ lw_tbl := wc_6 (j := 78) rfl
set_option maxRecDepth 20000 in
theorem w_1279 : (Cond.methodLink "SpellScribe$Text" (46 : Nat) yX9_letterOfWord) ∈ lw_tbl := wc_6 (j := 79) rfl
set_option maxRecDepth 20000 in
theorem w_1280 : (Cond.methodLink "SpellScribeLaw" (197 : Nat) yL_mistakeKind) ∈ lw_tbl := wc_6 (j := 80) rfl
set_option maxRecDepth 20000 in
theorem w_1281 : (Cond.static yL_mistakeKind) ∈ lw_tbl := wc_6 (j := 81) rfl
set_option maxRecDepth 20000 in
theorem w_1282 : (Cond.codeWith yL_mistakeKind method_22_code (4 : Nat) (some FieldType.int) [((0 : Nat), (9 : Nat), (12 : Nat), (29 : Nat))]) ∈ lw_tbl := wc_6 (j := 82) rfl
set_option maxRecDepth 20000 in
theorem w_1283 : (Cond.methodLink "SpellScribeLaw" (83 : Nat) yX11_mistakeKind) ∈ lw_tbl := wc_6 (j := 83) rfl
set_option maxRecDepth 20000 in
theorem w_1284 : (Cond.instanceMethod yX11_mistakeKind) ∈ lw_tbl := wc_6 (j := 84) rfl
set_option maxRecDepth 20000 in
theorem w_1285 : (Cond.selects "SpellScribe" yX11_mistakeKind yX11_mistakeKind) ∈ lw_tbl := wc_6 (j := 85) rfl
set_option maxRecDepth 20000 in
theorem w_1286 : (Cond.code yX11_mistakeKind prog_1_method_26_code (2 : Nat) (some FieldType.int)) ∈ lw_tbl := wc_6 (j := 86) rfl
set_option maxRecDepth 20000 in
theorem w_1287 : (Cond.stringRef "SpellScribe" (334 : Nat) "there are not so many mistakes") ∈ lw_tbl := wc_6 (j := 87) rfl
set_option maxRecDepth 20000 in
theorem w_1288 : (Cond.methodLink "SpellScribe" (336 : Nat) yX3_kindOfMistake) ∈ lw_tbl := wc_6 (j := 88) rfl
set_option maxRecDepth 20000 in
theorem w_1289 : (Cond.instanceMethod yX3_kindOfMistake) ∈ lw_tbl := wc_6 (j := 89) rfl
set_option maxRecDepth 20000 in
theorem w_1290 : (Cond.selects "SpellScribe$Proof" yX3_kindOfMistake yX3_kindOfMistake) ∈ lw_tbl := wc_6 (j := 90) rfl
set_option maxRecDepth 20000 in
theorem w_1291 : (Cond.code yX3_kindOfMistake prog_5_method_7_code (2 : Nat) (some FieldType.int)) ∈ lw_tbl := wc_6 (j := 91) rfl
set_option maxRecDepth 20000 in
theorem w_1292 : (Cond.methodLink "SpellScribeLaw" (200 : Nat) yL_mistakeAt) ∈ lw_tbl := wc_6 (j := 92) rfl
set_option maxRecDepth 20000 in
theorem w_1293 : (Cond.static yL_mistakeAt) ∈ lw_tbl := wc_6 (j := 93) rfl
set_option maxRecDepth 20000 in
theorem w_1294 : (Cond.codeWith yL_mistakeAt method_23_code (4 : Nat) (some FieldType.int) [((0 : Nat), (9 : Nat), (12 : Nat), (29 : Nat))]) ∈ lw_tbl := wc_6 (j := 94) rfl
set_option maxRecDepth 20000 in
theorem w_1295 : (Cond.methodLink "SpellScribeLaw" (86 : Nat) yX11_mistakeAt) ∈ lw_tbl := wc_6 (j := 95) rfl
set_option maxRecDepth 20000 in
theorem w_1296 : (Cond.instanceMethod yX11_mistakeAt) ∈ lw_tbl := wc_6 (j := 96) rfl
set_option maxRecDepth 20000 in
theorem w_1297 : (Cond.selects "SpellScribe" yX11_mistakeAt yX11_mistakeAt) ∈ lw_tbl := wc_6 (j := 97) rfl
set_option maxRecDepth 20000 in
theorem w_1298 : (Cond.code yX11_mistakeAt prog_1_method_27_code (2 : Nat) (some FieldType.int)) ∈ lw_tbl := wc_6 (j := 98) rfl
set_option maxRecDepth 20000 in
theorem w_1299 : (Cond.methodLink "SpellScribe" (339 : Nat) yX3_wordOfMistake) ∈ lw_tbl := wc_6 (j := 99) rfl
set_option maxRecDepth 20000 in
theorem w_1300 : (Cond.instanceMethod yX3_wordOfMistake) ∈ lw_tbl := wc_6 (j := 100) rfl
set_option maxRecDepth 20000 in
theorem w_1301 : (Cond.selects "SpellScribe$Proof" yX3_wordOfMistake yX3_wordOfMistake) ∈ lw_tbl := wc_6 (j := 101) rfl
set_option maxRecDepth 20000 in
theorem w_1302 : (Cond.code yX3_wordOfMistake prog_5_method_8_code (2 : Nat) (some FieldType.int)) ∈ lw_tbl := wc_6 (j := 102) rfl
set_option maxRecDepth 20000 in
theorem w_1303 : (Cond.methodLink "SpellScribeLaw" (203 : Nat) yL_suggestions) ∈ lw_tbl := wc_6 (j := 103) rfl
set_option maxRecDepth 20000 in
theorem w_1304 : (Cond.static yL_suggestions) ∈ lw_tbl := wc_6 (j := 104) rfl
set_option maxRecDepth 20000 in
theorem w_1305 : (Cond.codeWith yL_suggestions method_24_code (4 : Nat) (some FieldType.int) [((0 : Nat), (9 : Nat), (12 : Nat), (29 : Nat))]) ∈ lw_tbl := wc_6 (j := 105) rfl
set_option maxRecDepth 20000 in
theorem w_1306 : (Cond.methodLink "SpellScribeLaw" (89 : Nat) yX11_suggestions) ∈ lw_tbl := wc_6 (j := 106) rfl
set_option maxRecDepth 20000 in
theorem w_1307 : (Cond.instanceMethod yX11_suggestions) ∈ lw_tbl := wc_6 (j := 107) rfl
set_option maxRecDepth 20000 in
theorem w_1308 : (Cond.selects "SpellScribe" yX11_suggestions yX11_suggestions) ∈ lw_tbl := wc_6 (j := 108) rfl
set_option maxRecDepth 20000 in
theorem w_1309 : (Cond.code yX11_suggestions prog_1_method_28_code (2 : Nat) (some FieldType.int)) ∈ lw_tbl := wc_6 (j := 109) rfl
set_option maxRecDepth 20000 in
theorem w_1310 : (Cond.methodLink "SpellScribeLaw" (206 : Nat) yL_suggestionsByAll) ∈ lw_tbl := wc_6 (j := 110) rfl
set_option maxRecDepth 20000 in
theorem w_1311 : (Cond.static yL_suggestionsByAll) ∈ lw_tbl := wc_6 (j := 111) rfl
set_option maxRecDepth 20000 in
theorem w_1312 : (Cond.codeWith yL_suggestionsByAll method_25_code (4 : Nat) (some FieldType.int) [((0 : Nat), (9 : Nat), (12 : Nat), (29 : Nat))]) ∈ lw_tbl := wc_6 (j := 112) rfl
set_option maxRecDepth 20000 in
theorem w_1313 : (Cond.methodLink "SpellScribeLaw" (92 : Nat) yX11_suggestionsByAll) ∈ lw_tbl := wc_6 (j := 113) rfl
set_option maxRecDepth 20000 in
theorem w_1314 : (Cond.instanceMethod yX11_suggestionsByAll) ∈ lw_tbl := wc_6 (j := 114) rfl
set_option maxRecDepth 20000 in
theorem w_1315 : (Cond.selects "SpellScribe" yX11_suggestionsByAll yX11_suggestionsByAll) ∈ lw_tbl := wc_6 (j := 115) rfl
set_option maxRecDepth 20000 in
theorem w_1316 : (Cond.code yX11_suggestionsByAll prog_1_method_29_code (2 : Nat) (some FieldType.int)) ∈ lw_tbl := wc_6 (j := 116) rfl
set_option maxRecDepth 20000 in
theorem w_1317 : (Cond.methodLink "SpellScribeLaw" (209 : Nat) yL_cost) ∈ lw_tbl := wc_6 (j := 117) rfl
set_option maxRecDepth 20000 in
theorem w_1318 : (Cond.static yL_cost) ∈ lw_tbl := wc_6 (j := 118) rfl
set_option maxRecDepth 20000 in
theorem w_1319 : (Cond.codeWith yL_cost method_26_code (5 : Nat) (some FieldType.int) [((0 : Nat), (10 : Nat), (13 : Nat), (29 : Nat))]) ∈ lw_tbl := wc_6 (j := 119) rfl
set_option maxRecDepth 20000 in
theorem w_1320 : (Cond.methodLink "SpellScribeLaw" (95 : Nat) yX11_cost) ∈ lw_tbl := wc_6 (j := 120) rfl
set_option maxRecDepth 20000 in
theorem w_1321 : (Cond.instanceMethod yX11_cost) ∈ lw_tbl := wc_6 (j := 121) rfl
set_option maxRecDepth 20000 in
theorem w_1322 : (Cond.selects "SpellScribe" yX11_cost yX11_cost) ∈ lw_tbl := wc_6 (j := 122) rfl
set_option maxRecDepth 20000 in
theorem w_1323 : (Cond.code yX11_cost prog_1_method_30_code (3 : Nat) (some FieldType.int)) ∈ lw_tbl := wc_6 (j := 123) rfl
set_option maxRecDepth 20000 in
theorem w_1324 : (Cond.methodLink "SpellScribe" (356 : Nat) yX11_hasSuggestion) ∈ lw_tbl := wc_6 (j := 124) rfl
set_option maxRecDepth 20000 in
theorem w_1326 : (Cond.instanceMethod yX11_hasSuggestion) ∈ lw_tbl := wc_6 (j := 126) rfl
set_option maxRecDepth 20000 in
theorem w_1327 : (Cond.code yX11_hasSuggestion prog_1_method_39_code (3 : Nat) (some FieldType.boolean)) ∈ lw_tbl := wc_6 (j := 127) rfl
set_option maxRecDepth 20000 in
theorem w_1328 : (Cond.stringRef "SpellScribe" (359 : Nat) "there is no such word or suggestion") ∈ lw_tbl := wc_6 (j := 128) rfl
set_option maxRecDepth 20000 in
theorem w_1329 : (Cond.methodLink "SpellScribe" (361 : Nat) yX8_costOfListed) ∈ lw_tbl := wc_6 (j := 129) rfl
set_option maxRecDepth 20000 in
theorem w_1330 : (Cond.instanceMethod yX8_costOfListed) ∈ lw_tbl := wc_6 (j := 130) rfl
set_option maxRecDepth 20000 in
theorem w_1331 : (Cond.selects "SpellScribe$Suggester" yX8_costOfListed yX8_costOfListed) ∈ lw_tbl := wc_6 (j := 131) rfl
set_option maxRecDepth 20000 in
theorem w_1332 : (Cond.code yX8_costOfListed prog_10_method_5_code (3 : Nat) (some FieldType.int)) ∈ lw_tbl := wc_6 (j := 132) rfl
set_option maxRecDepth 20000 in
theorem w_1333 : (Cond.methodLink "SpellScribeLaw" (212 : Nat) yL_suggested) ∈ lw_tbl := wc_6 (j := 133) rfl
set_option maxRecDepth 20000 in
theorem w_1334 : (Cond.static yL_suggested) ∈ lw_tbl := wc_6 (j := 134) rfl
set_option maxRecDepth 20000 in
theorem w_1335 : (Cond.codeWith yL_suggested method_27_code (6 : Nat) (some FieldType.int) [((0 : Nat), (12 : Nat), (15 : Nat), (29 : Nat))]) ∈ lw_tbl := wc_6 (j := 135) rfl
set_option maxRecDepth 20000 in
theorem w_1336 : (Cond.methodLink "SpellScribeLaw" (98 : Nat) yX11_suggested) ∈ lw_tbl := wc_6 (j := 136) rfl
set_option maxRecDepth 20000 in
theorem w_1337 : (Cond.instanceMethod yX11_suggested) ∈ lw_tbl := wc_6 (j := 137) rfl
set_option maxRecDepth 20000 in
theorem w_1338 : (Cond.selects "SpellScribe" yX11_suggested yX11_suggested) ∈ lw_tbl := wc_6 (j := 138) rfl
set_option maxRecDepth 20000 in
theorem w_1339 : (Cond.code yX11_suggested prog_1_method_31_code (5 : Nat) (some FieldType.char)) ∈ lw_tbl := wc_6 (j := 139) rfl
set_option maxRecDepth 20000 in
theorem w_1340 : (Cond.stringRef "SpellScribe" (364 : Nat) "there is no such word, suggestion or place") ∈ lw_tbl := wc_6 (j := 140) rfl
set_option maxRecDepth 20000 in
theorem w_1341 : (Cond.methodLink "SpellScribe" (369 : Nat) yX11_letterOf) ∈ lw_tbl := wc_6 (j := 141) rfl
set_option maxRecDepth 20000 in
theorem w_1342 : (Cond.classLink "SpellScribeLaw" (103 : Nat) "SpellScribeModel") ∈ lw_tbl := wc_6 (j := 142) rfl
set_option maxRecDepth 20000 in
theorem w_1343 : (Cond.instantiable "SpellScribeModel" (59 : Nat)) ∈ lw_tbl := wc_6 (j := 143) rfl
set_option maxRecDepth 20000 in
theorem w_1344 : (Cond.methodLink "SpellScribeLaw" (105 : Nat) yX12_init) ∈ lw_tbl := wc_6 (j := 144) rfl
set_option maxRecDepth 20000 in
theorem w_1345 : (Cond.instanceMethod yX12_init) ∈ lw_tbl := wc_6 (j := 145) rfl
set_option maxRecDepth 20000 in
theorem w_1346 : (Cond.code yX12_init prog_14_method_1_code (1 : Nat) none) ∈ lw_tbl := wc_6 (j := 146) rfl
set_option maxRecDepth 20000 in
theorem w_1347 : (Cond.methodLink "SpellScribeModel" (1 : Nat) objectInit) ∈ lw_tbl := wc_6 (j := 147) rfl
set_option maxRecDepth 20000 in
theorem w_1348 : (Cond.fieldLink "SpellScribeModel" (160 : Nat) "SpellScribeModel" "draft" "J") ∈ lw_tbl := wc_6 (j := 148) rfl
set_option maxRecDepth 20000 in
theorem w_1349 : (Cond.fieldLink "SpellScribeModel" (164 : Nat) "SpellScribeModel" "stems" "I") ∈ lw_tbl := wc_6 (j := 149) rfl
set_option maxRecDepth 20000 in
theorem w_1350 : (Cond.fieldLink "SpellScribeModel" (7 : Nat) "SpellScribeModel" "stemWords" "[J") ∈ lw_tbl := wc_6 (j := 150) rfl
set_option maxRecDepth 20000 in
theorem w_1351 : (Cond.fieldLink "SpellScribeModel" (13 : Nat) "SpellScribeModel" "stemFlags" "[I") ∈ lw_tbl := wc_6 (j := 151) rfl
set_option maxRecDepth 20000 in
theorem w_1352 : (Cond.fieldLink "SpellScribeModel" (17 : Nat) "SpellScribeModel" "stemKinds" "[I") ∈ lw_tbl := wc_6 (j := 152) rfl
set_option maxRecDepth 20000 in
theorem w_1353 : (Cond.fieldLink "SpellScribeModel" (20 : Nat) "SpellScribeModel" "stemForms" "[I") ∈ lw_tbl := wc_6 (j := 153) rfl
set_option maxRecDepth 20000 in
theorem w_1354 : (Cond.fieldLink "SpellScribeModel" (23 : Nat) "SpellScribeModel" "stemIs" "[I") ∈ lw_tbl := wc_6 (j := 154) rfl
set_option maxRecDepth 20000 in
theorem w_1355 : (Cond.fieldLink "SpellScribeModel" (171 : Nat) "SpellScribeModel" "rules" "I") ∈ lw_tbl := wc_6 (j := 155) rfl
set_option maxRecDepth 20000 in
theorem w_1356 : (Cond.fieldLink "SpellScribeModel" (26 : Nat) "SpellScribeModel" "ruleFlags" "[I") ∈ lw_tbl := wc_6 (j := 156) rfl
set_option maxRecDepth 20000 in
theorem w_1357 : (Cond.fieldLink "SpellScribeModel" (29 : Nat) "SpellScribeModel" "isEnd" "[I") ∈ lw_tbl := wc_6 (j := 157) rfl
set_option maxRecDepth 20000 in
theorem w_1358 : (Cond.fieldLink "SpellScribeModel" (32 : Nat) "SpellScribeModel" "strips" "[I") ∈ lw_tbl := wc_6 (j := 158) rfl
set_option maxRecDepth 20000 in
theorem w_1359 : (Cond.fieldLink "SpellScribeModel" (35 : Nat) "SpellScribeModel" "adds" "[J") ∈ lw_tbl := wc_6 (j := 159) rfl
set_option maxRecDepth 20000 in
theorem w_1360 : (Cond.fieldLink "SpellScribeModel" (38 : Nat) "SpellScribeModel" "withs" "[I") ∈ lw_tbl := wc_6 (j := 160) rfl
set_option maxRecDepth 20000 in
theorem w_1361 : (Cond.fieldLink "SpellScribeModel" (41 : Nat) "SpellScribeModel" "ruleKinds" "[I") ∈ lw_tbl := wc_6 (j := 161) rfl
set_option maxRecDepth 20000 in
theorem w_1362 : (Cond.fieldLink "SpellScribeModel" (44 : Nat) "SpellScribeModel" "ruleForms" "[I") ∈ lw_tbl := wc_6 (j := 162) rfl
set_option maxRecDepth 20000 in
theorem w_1363 : (Cond.fieldLink "SpellScribeModel" (47 : Nat) "SpellScribeModel" "mores" "[I") ∈ lw_tbl := wc_6 (j := 163) rfl
set_option maxRecDepth 20000 in
theorem w_1364 : (Cond.fieldLink "SpellScribeModel" (50 : Nat) "SpellScribeModel" "alike" "[I") ∈ lw_tbl := wc_6 (j := 164) rfl
set_option maxRecDepth 20000 in
theorem w_1365 : (Cond.fieldLink "SpellScribeModel" (212 : Nat) "SpellScribeModel" "owned" "I") ∈ lw_tbl := wc_6 (j := 165) rfl
set_option maxRecDepth 20000 in
theorem w_1366 : (Cond.fieldLink "SpellScribeModel" (53 : Nat) "SpellScribeModel" "ownWords" "[J") ∈ lw_tbl := wc_6 (j := 166) rfl
set_option maxRecDepth 20000 in
theorem w_1367 : (Cond.fieldLink "SpellScribeModel" (56 : Nat) "SpellScribeModel" "ownReadings" "[I") ∈ lw_tbl := wc_6 (j := 167) rfl
set_option maxRecDepth 20000 in
theorem w_1368 : (Cond.fieldLink "SpellScribeModel" (215 : Nat) "SpellScribeModel" "barred" "I") ∈ lw_tbl := wc_6 (j := 168) rfl
set_option maxRecDepth 20000 in
theorem w_1369 : (Cond.fieldLink "SpellScribeModel" (59 : Nat) "SpellScribeModel" "barredWords" "[J") ∈ lw_tbl := wc_6 (j := 169) rfl
set_option maxRecDepth 20000 in
theorem w_1370 : (Cond.fieldLink "SpellScribeModel" (242 : Nat) "SpellScribeModel" "ignored" "I") ∈ lw_tbl := wc_6 (j := 170) rfl
set_option maxRecDepth 20000 in
theorem w_1371 : (Cond.fieldLink "SpellScribeModel" (62 : Nat) "SpellScribeModel" "ignoredWords" "[J") ∈ lw_tbl := wc_6 (j := 171) rfl
set_option maxRecDepth 20000 in
theorem w_1372 : (Cond.fieldLink "SpellScribeModel" (65 : Nat) "SpellScribeModel" "ignoredTimes" "[I") ∈ lw_tbl := wc_6 (j := 172) rfl
set_option maxRecDepth 20000 in
theorem w_1373 : (Cond.fieldLink "SpellScribeModel" (68 : Nat) "SpellScribeModel" "told" "[I") ∈ lw_tbl := wc_6 (j := 173) rfl
set_option maxRecDepth 20000 in
theorem w_1374 : (Cond.fieldLink "SpellScribeModel" (245 : Nat) "SpellScribeModel" "styles" "I") ∈ lw_tbl := wc_6 (j := 174) rfl
set_option maxRecDepth 20000 in
theorem w_1375 : (Cond.fieldLink "SpellScribeModel" (71 : Nat) "SpellScribeModel" "itemKinds" "[I") ∈ lw_tbl := wc_6 (j := 175) rfl
set_option maxRecDepth 20000 in
theorem w_1376 : (Cond.fieldLink "SpellScribeModel" (74 : Nat) "SpellScribeModel" "itemWords" "[J") ∈ lw_tbl := wc_6 (j := 176) rfl
set_option maxRecDepth 20000 in
theorem w_1377 : (Cond.fieldLink "SpellScribeModel" (77 : Nat) "SpellScribeModel" "items" "[I") ∈ lw_tbl := wc_6 (j := 177) rfl
set_option maxRecDepth 20000 in
theorem w_1378 : (Cond.fieldLink "SpellScribeModel" (80 : Nat) "SpellScribeModel" "places" "[I") ∈ lw_tbl := wc_6 (j := 178) rfl
set_option maxRecDepth 20000 in
theorem w_1379 : (Cond.fieldLink "SpellScribeModel" (83 : Nat) "SpellScribeModel" "changes" "[J") ∈ lw_tbl := wc_6 (j := 179) rfl
set_option maxRecDepth 20000 in
theorem w_1380 : (Cond.fieldLink "SpellScribeModel" (251 : Nat) "SpellScribeModel" "length" "I") ∈ lw_tbl := wc_6 (j := 180) rfl
set_option maxRecDepth 20000 in
theorem w_1381 : (Cond.fieldLink "SpellScribeModel" (86 : Nat) "SpellScribeModel" "text" "[I") ∈ lw_tbl := wc_6 (j := 181) rfl
set_option maxRecDepth 20000 in
theorem w_1382 : (Cond.fieldLink "SpellScribeModel" (167 : Nat) "SpellScribeModel" "isMade" "Z") ∈ lw_tbl := wc_6 (j := 182) rfl
set_option maxRecDepth 20000 in
theorem w_1383 : (Cond.fieldLink "SpellScribeModel" (195 : Nat) "SpellScribeModel" "many" "I") ∈ lw_tbl := wc_6 (j := 183) rfl
set_option maxRecDepth 20000 in
theorem w_1384 : (Cond.fieldLink "SpellScribeModel" (89 : Nat) "SpellScribeModel" "keys" "[J") ∈ lw_tbl := wc_6 (j := 184) rfl
set_option maxRecDepth 20000 in
theorem w_1385 : (Cond.fieldLink "SpellScribeModel" (92 : Nat) "SpellScribeModel" "plain" "[I") ∈ lw_tbl := wc_6 (j := 185) rfl
set_option maxRecDepth 20000 in
theorem w_1386 : (Cond.fieldLink "SpellScribeModel" (95 : Nat) "SpellScribeModel" "joined" "[I") ∈ lw_tbl := wc_6 (j := 186) rfl
set_option maxRecDepth 20000 in
theorem w_1387 : (Cond.fieldLink "SpellScribeModel" (98 : Nat) "SpellScribeModel" "offered" "[I") ∈ lw_tbl := wc_6 (j := 187) rfl
set_option maxRecDepth 20000 in
theorem w_1388 : (Cond.fieldLink "SpellScribeModel" (248 : Nat) "SpellScribeModel" "words" "I") ∈ lw_tbl := wc_6 (j := 188) rfl
set_option maxRecDepth 20000 in
theorem w_1389 : (Cond.fieldLink "SpellScribeModel" (101 : Nat) "SpellScribeModel" "begins" "[I") ∈ lw_tbl := wc_6 (j := 189) rfl
set_option maxRecDepth 20000 in
theorem w_1390 : (Cond.fieldLink "SpellScribeModel" (104 : Nat) "SpellScribeModel" "lengths" "[I") ∈ lw_tbl := wc_6 (j := 190) rfl
set_option maxRecDepth 20000 in
theorem w_1391 : (Cond.fieldLink "SpellScribeModel" (107 : Nat) "SpellScribeModel" "sentences" "[I") ∈ lw_tbl := wc_6 (j := 191) rfl
set_option maxRecDepth 20000 in
theorem w_1392 : (Cond.fieldLink "SpellScribeModel" (110 : Nat) "SpellScribeModel" "numbers" "[J") ∈ lw_tbl := wc_6 (j := 192) rfl
set_option maxRecDepth 20000 in
theorem w_1393 : (Cond.fieldLink "SpellScribeModel" (113 : Nat) "SpellScribeModel" "readings" "[I") ∈ lw_tbl := wc_6 (j := 193) rfl
set_option maxRecDepth 20000 in
theorem w_1394 : (Cond.fieldLink "SpellScribeModel" (116 : Nat) "SpellScribeModel" "chosen" "[I") ∈ lw_tbl := wc_6 (j := 194) rfl
set_option maxRecDepth 20000 in
theorem w_1395 : (Cond.fieldLink "SpellScribeModel" (119 : Nat) "SpellScribeModel" "broken" "[I") ∈ lw_tbl := wc_6 (j := 195) rfl
set_option maxRecDepth 20000 in
theorem w_1396 : (Cond.fieldLink "SpellScribeModel" (122 : Nat) "SpellScribeModel" "styled" "[I") ∈ lw_tbl := wc_6 (j := 196) rfl
set_option maxRecDepth 20000 in
theorem w_1397 : (Cond.fieldLink "SpellScribeModel" (125 : Nat) "SpellScribeModel" "fewest" "[I") ∈ lw_tbl := wc_6 (j := 197) rfl
set_option maxRecDepth 20000 in
theorem w_1398 : (Cond.fieldLink "SpellScribeModel" (128 : Nat) "SpellScribeModel" "table" "[I") ∈ lw_tbl := wc_6 (j := 198) rfl
set_option maxRecDepth 20000 in
theorem w_1399 : (Cond.fieldLink "SpellScribeModel" (131 : Nat) "SpellScribeModel" "letters" "[I") ∈ lw_tbl := wc_6 (j := 199) rfl
set_option maxRecDepth 20000 in
theorem w_1400 : (Cond.fieldLink "SpellScribeModel" (321 : Nat) "SpellScribeModel" "found" "I") ∈ lw_tbl := wc_6 (j := 200) rfl
set_option maxRecDepth 20000 in
theorem w_1401 : (Cond.fieldLink "SpellScribeModel" (134 : Nat) "SpellScribeModel" "foundWords" "[J") ∈ lw_tbl := wc_6 (j := 201) rfl
set_option maxRecDepth 20000 in
theorem w_1402 : (Cond.fieldLink "SpellScribeModel" (137 : Nat) "SpellScribeModel" "foundCosts" "[I") ∈ lw_tbl := wc_6 (j := 202) rfl
set_option maxRecDepth 20000 in
theorem w_1403 : (Cond.fieldLink "SpellScribeModel" (140 : Nat) "SpellScribeModel" "old" "[I") ∈ lw_tbl := wc_6 (j := 203) rfl
set_option maxRecDepth 20000 in
theorem w_1404 : (Cond.fieldLink "SpellScribeModel" (292 : Nat) "SpellScribeModel" "oldLength" "I") ∈ lw_tbl := wc_6 (j := 204) rfl
set_option maxRecDepth 20000 in
theorem w_1405 : (Cond.fieldLink "SpellScribeModel" (143 : Nat) "SpellScribeModel" "states" "[I") ∈ lw_tbl := wc_6 (j := 205) rfl
set_option maxRecDepth 20000 in
theorem w_1406 : (Cond.fieldLink "SpellScribeModel" (146 : Nat) "SpellScribeModel" "thrown" "I") ∈ lw_tbl := wc_6 (j := 206) rfl
set_option maxRecDepth 20000 in
theorem w_1525 : (Cond.superclass "SpellScribeModel" "java/lang/Object") ∈ lw_tbl := wc_7 (j := 85) rfl
set_option maxRecDepth 20000 in
theorem w_1526 : (Cond.arrayClass FieldType.long) ∈ lw_tbl := wc_7 (j := 86) rfl
set_option maxRecDepth 20000 in
theorem w_1527 : (Cond.methodLink "SpellScribeLaw" (112 : Nat) yX12_thrown) ∈ lw_tbl := wc_7 (j := 87) rfl
set_option maxRecDepth 20000 in
theorem w_1528 : (Cond.instanceMethod yX12_thrown) ∈ lw_tbl := wc_7 (j := 88) rfl
set_option maxRecDepth 20000 in
theorem w_1529 : (Cond.selects "SpellScribeModel" yX12_thrown yX12_thrown) ∈ lw_tbl := wc_7 (j := 89) rfl
set_option maxRecDepth 20000 in
theorem w_1530 : (Cond.code yX12_thrown prog_14_method_2_code (1 : Nat) (some FieldType.int)) ∈ lw_tbl := wc_7 (j := 90) rfl
set_option maxRecDepth 20000 in
theorem w_1531 : (Cond.methodLink "SpellScribeLaw" (111 : Nat) yX12_letter) ∈ lw_tbl := wc_7 (j := 91) rfl
set_option maxRecDepth 20000 in
theorem w_1532 : (Cond.instanceMethod yX12_letter) ∈ lw_tbl := wc_7 (j := 92) rfl
set_option maxRecDepth 20000 in
theorem w_1533 : (Cond.selects "SpellScribeModel" yX12_letter yX12_letter) ∈ lw_tbl := wc_7 (j := 93) rfl
set_option maxRecDepth 20000 in
theorem w_1534 : (Cond.code yX12_letter prog_14_method_9_code (2 : Nat) (some FieldType.int)) ∈ lw_tbl := wc_7 (j := 94) rfl
set_option maxRecDepth 20000 in
theorem w_1535 : (Cond.methodLink "SpellScribeModel" (156 : Nat) yX12_in) ∈ lw_tbl := wc_7 (j := 95) rfl
set_option maxRecDepth 20000 in
theorem w_1536 : (Cond.static yX12_in) ∈ lw_tbl := wc_7 (j := 96) rfl
set_option maxRecDepth 20000 in
theorem w_1537 : (Cond.code yX12_in prog_14_method_3_code (3 : Nat) (some FieldType.boolean)) ∈ lw_tbl := wc_7 (j := 97) rfl
set_option maxRecDepth 20000 in
theorem w_1538 : (Cond.methodLink "SpellScribeModel" (152 : Nat) yX12_lengthOf) ∈ lw_tbl := wc_7 (j := 98) rfl
set_option maxRecDepth 20000 in
theorem w_1539 : (Cond.static yX12_lengthOf) ∈ lw_tbl := wc_7 (j := 99) rfl
set_option maxRecDepth 20000 in
theorem w_1540 : (Cond.code yX12_lengthOf prog_14_method_4_code (5 : Nat) (some FieldType.int)) ∈ lw_tbl := wc_7 (j := 100) rfl
set_option maxRecDepth 20000 in
theorem w_1541 : (Cond.methodLink "SpellScribeLaw" (118 : Nat) yX12_scrap) ∈ lw_tbl := wc_7 (j := 101) rfl
set_option maxRecDepth 20000 in
theorem w_1542 : (Cond.instanceMethod yX12_scrap) ∈ lw_tbl := wc_7 (j := 102) rfl
set_option maxRecDepth 20000 in
theorem w_1543 : (Cond.selects "SpellScribeModel" yX12_scrap yX12_scrap) ∈ lw_tbl := wc_7 (j := 103) rfl
set_option maxRecDepth 20000 in
theorem w_1544 : (Cond.code yX12_scrap prog_14_method_10_code (2 : Nat) (some FieldType.int)) ∈ lw_tbl := wc_7 (j := 104) rfl
set_option maxRecDepth 20000 in
theorem w_1545 : (Cond.methodLink "SpellScribeLaw" (122 : Nat) yX12_stem) ∈ lw_tbl := wc_7 (j := 105) rfl
set_option maxRecDepth 20000 in
theorem w_1546 : (Cond.instanceMethod yX12_stem) ∈ lw_tbl := wc_7 (j := 106) rfl
set_option maxRecDepth 20000 in
theorem w_1547 : (Cond.selects "SpellScribeModel" yX12_stem yX12_stem) ∈ lw_tbl := wc_7 (j := 107) rfl
set_option maxRecDepth 20000 in
theorem w_1548 : (Cond.code yX12_stem prog_14_method_11_code (5 : Nat) (some FieldType.int)) ∈ lw_tbl := wc_7 (j := 108) rfl
set_option maxRecDepth 20000 in
theorem w_1549 : (Cond.methodLink "SpellScribeLaw" (126 : Nat) yX12_rule) ∈ lw_tbl := wc_7 (j := 109) rfl
set_option maxRecDepth 20000 in
theorem w_1550 : (Cond.instanceMethod yX12_rule) ∈ lw_tbl := wc_7 (j := 110) rfl
set_option maxRecDepth 20000 in
theorem w_1551 : (Cond.selects "SpellScribeModel" yX12_rule yX12_rule) ∈ lw_tbl := wc_7 (j := 111) rfl
set_option maxRecDepth 20000 in
theorem w_1552 : (Cond.code yX12_rule prog_14_method_12_code (8 : Nat) (some FieldType.int)) ∈ lw_tbl := wc_7 (j := 112) rfl
set_option maxRecDepth 20000 in
theorem w_1553 : (Cond.methodLink "SpellScribeLaw" (130 : Nat) yX12_more) ∈ lw_tbl := wc_7 (j := 113) rfl
set_option maxRecDepth 20000 in
theorem w_1554 : (Cond.instanceMethod yX12_more) ∈ lw_tbl := wc_7 (j := 114) rfl
set_option maxRecDepth 20000 in
theorem w_1555 : (Cond.selects "SpellScribeModel" yX12_more yX12_more) ∈ lw_tbl := wc_7 (j := 115) rfl
set_option maxRecDepth 20000 in
theorem w_1556 : (Cond.code yX12_more prog_14_method_13_code (4 : Nat) (some FieldType.int)) ∈ lw_tbl := wc_7 (j := 116) rfl
set_option maxRecDepth 20000 in
theorem w_1557 : (Cond.methodLink "SpellScribeLaw" (134 : Nat) yX12_sound) ∈ lw_tbl := wc_7 (j := 117) rfl
set_option maxRecDepth 20000 in
theorem w_1558 : (Cond.instanceMethod yX12_sound) ∈ lw_tbl := wc_7 (j := 118) rfl
set_option maxRecDepth 20000 in
theorem w_1559 : (Cond.selects "SpellScribeModel" yX12_sound yX12_sound) ∈ lw_tbl := wc_7 (j := 119) rfl
set_option maxRecDepth 20000 in
theorem w_1560 : (Cond.code yX12_sound prog_14_method_14_code (6 : Nat) (some FieldType.boolean)) ∈ lw_tbl := wc_7 (j := 120) rfl
set_option maxRecDepth 20000 in
theorem w_1561 : (Cond.methodLink "SpellScribeLaw" (137 : Nat) yX12_own) ∈ lw_tbl := wc_7 (j := 121) rfl
set_option maxRecDepth 20000 in
theorem w_1562 : (Cond.instanceMethod yX12_own) ∈ lw_tbl := wc_7 (j := 122) rfl
set_option maxRecDepth 20000 in
theorem w_1563 : (Cond.selects "SpellScribeModel" yX12_own yX12_own) ∈ lw_tbl := wc_7 (j := 123) rfl
set_option maxRecDepth 20000 in
theorem w_1564 : (Cond.code yX12_own prog_14_method_27_code (4 : Nat) (some FieldType.int)) ∈ lw_tbl := wc_7 (j := 124) rfl
set_option maxRecDepth 20000 in
theorem w_1565 : (Cond.methodLink "SpellScribeModel" (228 : Nat) yX12_ownOf) ∈ lw_tbl := wc_7 (j := 125) rfl
set_option maxRecDepth 20000 in
theorem w_1567 : (Cond.instanceMethod yX12_ownOf) ∈ lw_tbl := wc_7 (j := 127) rfl
set_option maxRecDepth 20000 in
theorem w_1568 : (Cond.code yX12_ownOf prog_14_method_21_code (4 : Nat) (some FieldType.int)) ∈ lw_tbl := wc_7 (j := 128) rfl
set_option maxRecDepth 20000 in
theorem w_1569 : (Cond.methodLink "SpellScribeModel" (234 : Nat) yX12_owns) ∈ lw_tbl := wc_7 (j := 129) rfl
set_option maxRecDepth 20000 in
theorem w_1571 : (Cond.instanceMethod yX12_owns) ∈ lw_tbl := wc_7 (j := 131) rfl
set_option maxRecDepth 20000 in
theorem w_1572 : (Cond.code yX12_owns prog_14_method_28_code (5 : Nat) none) ∈ lw_tbl := wc_7 (j := 132) rfl
set_option maxRecDepth 20000 in
theorem w_1573 : (Cond.methodLink "SpellScribeModel" (225 : Nat) yX12_barOf) ∈ lw_tbl := wc_7 (j := 133) rfl
set_option maxRecDepth 20000 in
theorem w_1575 : (Cond.instanceMethod yX12_barOf) ∈ lw_tbl := wc_7 (j := 135) rfl
set_option maxRecDepth 20000 in
theorem w_1576 : (Cond.code yX12_barOf prog_14_method_22_code (4 : Nat) (some FieldType.int)) ∈ lw_tbl := wc_7 (j := 136) rfl
set_option maxRecDepth 20000 in
theorem w_1577 : (Cond.methodLink "SpellScribeLaw" (141 : Nat) yX12_bar) ∈ lw_tbl := wc_7 (j := 137) rfl
set_option maxRecDepth 20000 in
theorem w_1578 : (Cond.instanceMethod yX12_bar) ∈ lw_tbl := wc_7 (j := 138) rfl
set_option maxRecDepth 20000 in
theorem w_1579 : (Cond.selects "SpellScribeModel" yX12_bar yX12_bar) ∈ lw_tbl := wc_7 (j := 139) rfl
set_option maxRecDepth 20000 in
theorem w_1580 : (Cond.code yX12_bar prog_14_method_29_code (2 : Nat) (some FieldType.int)) ∈ lw_tbl := wc_7 (j := 140) rfl
set_option maxRecDepth 20000 in
theorem w_1581 : (Cond.methodLink "SpellScribeLaw" (145 : Nat) yX12_ignore) ∈ lw_tbl := wc_7 (j := 141) rfl
set_option maxRecDepth 20000 in
theorem w_1582 : (Cond.instanceMethod yX12_ignore) ∈ lw_tbl := wc_7 (j := 142) rfl
set_option maxRecDepth 20000 in
theorem w_1583 : (Cond.selects "SpellScribeModel" yX12_ignore yX12_ignore) ∈ lw_tbl := wc_7 (j := 143) rfl
set_option maxRecDepth 20000 in
theorem w_1584 : (Cond.code yX12_ignore prog_14_method_30_code (3 : Nat) (some FieldType.int)) ∈ lw_tbl := wc_7 (j := 144) rfl
set_option maxRecDepth 20000 in
theorem w_1585 : (Cond.methodLink "SpellScribeModel" (238 : Nat) yX12_hasWord) ∈ lw_tbl := wc_7 (j := 145) rfl
set_option maxRecDepth 20000 in
theorem w_1587 : (Cond.instanceMethod yX12_hasWord) ∈ lw_tbl := wc_7 (j := 147) rfl
set_option maxRecDepth 20000 in
theorem w_1588 : (Cond.code yX12_hasWord prog_14_method_44_code (2 : Nat) (some FieldType.boolean)) ∈ lw_tbl := wc_7 (j := 148) rfl
set_option maxRecDepth 20000 in
theorem w_1589 : (Cond.methodLink "SpellScribeModel" (289 : Nat) yX12_reads) ∈ lw_tbl := wc_7 (j := 149) rfl
set_option maxRecDepth 20000 in
theorem w_1591 : (Cond.instanceMethod yX12_reads) ∈ lw_tbl := wc_7 (j := 151) rfl
set_option maxRecDepth 20000 in
theorem w_1592 : (Cond.code yX12_reads prog_14_method_43_code (2 : Nat) none) ∈ lw_tbl := wc_7 (j := 152) rfl
set_option maxRecDepth 20000 in
theorem w_1593 : (Cond.methodLink "SpellScribeModel" (274 : Nat) yX12_makes) ∈ lw_tbl := wc_7 (j := 153) rfl
set_option maxRecDepth 20000 in
theorem w_1595 : (Cond.instanceMethod yX12_makes) ∈ lw_tbl := wc_7 (j := 155) rfl
set_option maxRecDepth 20000 in
theorem w_1596 : (Cond.code yX12_makes prog_14_method_20_code (2 : Nat) none) ∈ lw_tbl := wc_7 (j := 156) rfl
set_option maxRecDepth 20000 in
theorem w_1597 : (Cond.methodLink "SpellScribeModel" (206 : Nat) yX12_begins) ∈ lw_tbl := wc_7 (j := 157) rfl
set_option maxRecDepth 20000 in
theorem w_1599 : (Cond.instanceMethod yX12_begins) ∈ lw_tbl := wc_7 (j := 159) rfl
set_option maxRecDepth 20000 in
theorem w_1600 : (Cond.code yX12_begins prog_14_method_18_code (9 : Nat) none) ∈ lw_tbl := wc_7 (j := 160) rfl
set_option maxRecDepth 20000 in
theorem w_1601 : (Cond.methodLink "SpellScribeModel" (198 : Nat) yX12_keeps) ∈ lw_tbl := wc_7 (j := 161) rfl
set_option maxRecDepth 20000 in
theorem w_1603 : (Cond.instanceMethod yX12_keeps) ∈ lw_tbl := wc_7 (j := 163) rfl
set_option maxRecDepth 20000 in
theorem w_1604 : (Cond.code yX12_keeps prog_14_method_17_code (8 : Nat) none) ∈ lw_tbl := wc_7 (j := 164) rfl
set_option maxRecDepth 20000 in
theorem w_1605 : (Cond.methodLink "SpellScribeModel" (192 : Nat) yX12_slotOf) ∈ lw_tbl := wc_7 (j := 165) rfl
set_option maxRecDepth 20000 in
theorem w_1607 : (Cond.instanceMethod yX12_slotOf) ∈ lw_tbl := wc_7 (j := 167) rfl
set_option maxRecDepth 20000 in
theorem w_1608 : (Cond.code yX12_slotOf prog_14_method_16_code (4 : Nat) (some FieldType.int)) ∈ lw_tbl := wc_7 (j := 168) rfl
set_option maxRecDepth 20000 in
theorem w_1609 : (Cond.constantLong "SpellScribeModel" (188 : Nat) (31 : Int64)) ∈ lw_tbl := wc_7 (j := 169) rfl
set_option maxRecDepth 20000 in
theorem w_1610 : (Cond.constantLong "SpellScribeModel" (190 : Nat) (16383 : Int64)) ∈ lw_tbl := wc_7 (j := 170) rfl
set_option maxRecDepth 20000 in
theorem w_1611 : (Cond.methodLink "SpellScribeModel" (202 : Nat) yX12_uses) ∈ lw_tbl := wc_7 (j := 171) rfl
set_option maxRecDepth 20000 in
theorem w_1613 : (Cond.instanceMethod yX12_uses) ∈ lw_tbl := wc_7 (j := 173) rfl
set_option maxRecDepth 20000 in
theorem w_1614 : (Cond.code yX12_uses prog_14_method_15_code (7 : Nat) (some FieldType.long)) ∈ lw_tbl := wc_7 (j := 174) rfl
set_option maxRecDepth 20000 in
theorem w_1615 : (Cond.methodLink "SpellScribeModel" (174 : Nat) yX12_lastOf) ∈ lw_tbl := wc_7 (j := 175) rfl
set_option maxRecDepth 20000 in
theorem w_1616 : (Cond.static yX12_lastOf) ∈ lw_tbl := wc_7 (j := 176) rfl
set_option maxRecDepth 20000 in
theorem w_1617 : (Cond.code yX12_lastOf prog_14_method_5_code (2 : Nat) (some FieldType.int)) ∈ lw_tbl := wc_7 (j := 177) rfl
set_option maxRecDepth 20000 in
theorem w_1618 : (Cond.constantLong "SpellScribeModel" (150 : Nat) (15 : Int64)) ∈ lw_tbl := wc_7 (j := 178) rfl
set_option maxRecDepth 20000 in
theorem w_1619 : (Cond.methodLink "SpellScribeModel" (177 : Nat) yX12_firstOf) ∈ lw_tbl := wc_7 (j := 179) rfl
set_option maxRecDepth 20000 in
theorem w_1620 : (Cond.static yX12_firstOf) ∈ lw_tbl := wc_7 (j := 180) rfl
set_option maxRecDepth 20000 in
theorem w_1621 : (Cond.code yX12_firstOf prog_14_method_6_code (2 : Nat) (some FieldType.int)) ∈ lw_tbl := wc_7 (j := 181) rfl
set_option maxRecDepth 20000 in
theorem w_1622 : (Cond.methodLink "SpellScribeModel" (180 : Nat) yX12_both) ∈ lw_tbl := wc_7 (j := 182) rfl
set_option maxRecDepth 20000 in
theorem w_1623 : (Cond.static yX12_both) ∈ lw_tbl := wc_7 (j := 183) rfl
set_option maxRecDepth 20000 in
theorem w_1624 : (Cond.code yX12_both prog_14_method_7_code (4 : Nat) (some FieldType.long)) ∈ lw_tbl := wc_7 (j := 184) rfl
set_option maxRecDepth 20000 in
theorem w_1625 : (Cond.methodLink "SpellScribeModel" (184 : Nat) yX12_part) ∈ lw_tbl := wc_7 (j := 185) rfl
set_option maxRecDepth 20000 in
theorem w_1626 : (Cond.static yX12_part) ∈ lw_tbl := wc_7 (j := 186) rfl
set_option maxRecDepth 20000 in
theorem w_1627 : (Cond.code yX12_part prog_14_method_8_code (6 : Nat) (some FieldType.long)) ∈ lw_tbl := wc_7 (j := 187) rfl
set_option maxRecDepth 20000 in
theorem w_1628 : (Cond.methodLink "SpellScribeModel" (208 : Nat) yX12_endings) ∈ lw_tbl := wc_7 (j := 188) rfl
set_option maxRecDepth 20000 in
theorem w_1630 : (Cond.instanceMethod yX12_endings) ∈ lw_tbl := wc_7 (j := 190) rfl
set_option maxRecDepth 20000 in
theorem w_1631 : (Cond.code yX12_endings prog_14_method_19_code (16 : Nat) none) ∈ lw_tbl := wc_7 (j := 191) rfl
set_option maxRecDepth 20000 in
theorem w_1632 : (Cond.methodLink "SpellScribeModel" (277 : Nat) yX12_finds) ∈ lw_tbl := wc_7 (j := 192) rfl
set_option maxRecDepth 20000 in
theorem w_1634 : (Cond.instanceMethod yX12_finds) ∈ lw_tbl := wc_7 (j := 194) rfl
set_option maxRecDepth 20000 in
theorem w_1635 : (Cond.code yX12_finds prog_14_method_35_code (8 : Nat) none) ∈ lw_tbl := wc_7 (j := 195) rfl
set_option maxRecDepth 20000 in
theorem w_1636 : (Cond.methodLink "SpellScribeModel" (254 : Nat) yX12_isLetter) ∈ lw_tbl := wc_7 (j := 196) rfl
set_option maxRecDepth 20000 in
theorem w_1637 : (Cond.static yX12_isLetter) ∈ lw_tbl := wc_7 (j := 197) rfl
set_option maxRecDepth 20000 in
theorem w_1638 : (Cond.code yX12_isLetter prog_14_method_34_code (1 : Nat) (some FieldType.boolean)) ∈ lw_tbl := wc_7 (j := 198) rfl
set_option maxRecDepth 20000 in
theorem w_1639 : (Cond.methodLink "SpellScribeModel" (280 : Nat) yX12_readingsOf) ∈ lw_tbl := wc_7 (j := 199) rfl
set_option maxRecDepth 20000 in
theorem w_1641 : (Cond.instanceMethod yX12_readingsOf) ∈ lw_tbl := wc_7 (j := 201) rfl
set_option maxRecDepth 20000 in
theorem w_1642 : (Cond.code yX12_readingsOf prog_14_method_26_code (4 : Nat) (some FieldType.int)) ∈ lw_tbl := wc_7 (j := 202) rfl
set_option maxRecDepth 20000 in
theorem w_1643 : (Cond.methodLink "SpellScribeModel" (231 : Nat) yX12_joinsOf) ∈ lw_tbl := wc_7 (j := 203) rfl
set_option maxRecDepth 20000 in
theorem w_1645 : (Cond.instanceMethod yX12_joinsOf) ∈ lw_tbl := wc_7 (j := 205) rfl
set_option maxRecDepth 20000 in
theorem w_1646 : (Cond.code yX12_joinsOf prog_14_method_25_code (16 : Nat) (some FieldType.int)) ∈ lw_tbl := wc_7 (j := 206) rfl
set_option maxRecDepth 20000 in
theorem w_1647 : (Cond.methodLink "SpellScribeModel" (218 : Nat) yX12_inJoins) ∈ lw_tbl := wc_7 (j := 207) rfl
set_option maxRecDepth 20000 in
theorem w_1649 : (Cond.instanceMethod yX12_inJoins) ∈ lw_tbl := wc_7 (j := 209) rfl
set_option maxRecDepth 20000 in
theorem w_1650 : (Cond.code yX12_inJoins prog_14_method_23_code (3 : Nat) (some FieldType.int)) ∈ lw_tbl := wc_7 (j := 210) rfl
set_option maxRecDepth 20000 in
theorem w_1651 : (Cond.methodLink "SpellScribeModel" (221 : Nat) yX12_meets) ∈ lw_tbl := wc_7 (j := 211) rfl
set_option maxRecDepth 20000 in
theorem w_1652 : (Cond.static yX12_meets) ∈ lw_tbl := wc_7 (j := 212) rfl
set_option maxRecDepth 20000 in
theorem w_1653 : (Cond.code yX12_meets prog_14_method_24_code (4 : Nat) (some FieldType.boolean)) ∈ lw_tbl := wc_7 (j := 213) rfl
set_option maxRecDepth 20000 in
theorem w_1654 : (Cond.methodLink "SpellScribeModel" (283 : Nat) yX12_chooses) ∈ lw_tbl := wc_7 (j := 214) rfl
set_option maxRecDepth 20000 in
theorem w_1656 : (Cond.instanceMethod yX12_chooses) ∈ lw_tbl := wc_7 (j := 216) rfl
set_option maxRecDepth 20000 in
theorem w_1657 : (Cond.code yX12_chooses prog_14_method_40_code (7 : Nat) none) ∈ lw_tbl := wc_7 (j := 217) rfl
set_option maxRecDepth 20000 in
theorem w_1658 : (Cond.methodLink "SpellScribeModel" (267 : Nat) yX12_fewestFrom) ∈ lw_tbl := wc_7 (j := 218) rfl
set_option maxRecDepth 20000 in
theorem w_1660 : (Cond.instanceMethod yX12_fewestFrom) ∈ lw_tbl := wc_7 (j := 220) rfl
set_option maxRecDepth 20000 in
theorem w_1661 : (Cond.code yX12_fewestFrom prog_14_method_39_code (6 : Nat) (some FieldType.int)) ∈ lw_tbl := wc_7 (j := 221) rfl
set_option maxRecDepth 20000 in
theorem w_1662 : (Cond.methodLink "SpellScribeModel" (257 : Nat) yX12_isNext) ∈ lw_tbl := wc_7 (j := 222) rfl
set_option maxRecDepth 20000 in
theorem w_1664 : (Cond.instanceMethod yX12_isNext) ∈ lw_tbl := wc_7 (j := 224) rfl
set_option maxRecDepth 20000 in
theorem w_1665 : (Cond.code yX12_isNext prog_14_method_38_code (2 : Nat) (some FieldType.boolean)) ∈ lw_tbl := wc_7 (j := 225) rfl
set_option maxRecDepth 20000 in
theorem w_1666 : (Cond.methodLink "SpellScribeModel" (260 : Nat) yX12_has) ∈ lw_tbl := wc_7 (j := 226) rfl
set_option maxRecDepth 20000 in
theorem w_1668 : (Cond.instanceMethod yX12_has) ∈ lw_tbl := wc_7 (j := 228) rfl
set_option maxRecDepth 20000 in
theorem w_1669 : (Cond.code yX12_has prog_14_method_37_code (3 : Nat) (some FieldType.boolean)) ∈ lw_tbl := wc_7 (j := 229) rfl
set_option maxRecDepth 20000 in
theorem w_1670 : (Cond.methodLink "SpellScribeModel" (264 : Nat) yX12_breaks) ∈ lw_tbl := wc_7 (j := 230) rfl
set_option maxRecDepth 20000 in
theorem w_1672 : (Cond.instanceMethod yX12_breaks) ∈ lw_tbl := wc_7 (j := 232) rfl
set_option maxRecDepth 20000 in
theorem w_1673 : (Cond.code yX12_breaks prog_14_method_36_code (4 : Nat) (some FieldType.boolean)) ∈ lw_tbl := wc_7 (j := 233) rfl
set_option maxRecDepth 20000 in
theorem w_1674 : (Cond.methodLink "SpellScribeModel" (286 : Nat) yX12_takesStyles) ∈ lw_tbl := wc_7 (j := 234) rfl
set_option maxRecDepth 20000 in
theorem w_1676 : (Cond.instanceMethod yX12_takesStyles) ∈ lw_tbl := wc_7 (j := 236) rfl
set_option maxRecDepth 20000 in
theorem w_1677 : (Cond.code yX12_takesStyles prog_14_method_42_code (3 : Nat) none) ∈ lw_tbl := wc_7 (j := 237) rfl
set_option maxRecDepth 20000 in
theorem w_1678 : (Cond.methodLink "SpellScribeModel" (271 : Nat) yX12_fits) ∈ lw_tbl := wc_7 (j := 238) rfl
set_option maxRecDepth 20000 in
theorem w_1680 : (Cond.instanceMethod yX12_fits) ∈ lw_tbl := wc_8 (j := 0) rfl
set_option maxRecDepth 20000 in
theorem w_1681 : (Cond.code yX12_fits prog_14_method_41_code (6 : Nat) (some FieldType.boolean)) ∈ lw_tbl := wc_8 (j := 1) rfl
set_option maxRecDepth 20000 in
theorem w_1682 : (Cond.methodLink "SpellScribeLaw" (149 : Nat) yX12_tell) ∈ lw_tbl := wc_8 (j := 2) rfl
set_option maxRecDepth 20000 in
theorem w_1683 : (Cond.instanceMethod yX12_tell) ∈ lw_tbl := wc_8 (j := 3) rfl
set_option maxRecDepth 20000 in
theorem w_1684 : (Cond.selects "SpellScribeModel" yX12_tell yX12_tell) ∈ lw_tbl := wc_8 (j := 4) rfl
set_option maxRecDepth 20000 in
theorem w_1685 : (Cond.code yX12_tell prog_14_method_31_code (5 : Nat) (some FieldType.int)) ∈ lw_tbl := wc_8 (j := 5) rfl
set_option maxRecDepth 20000 in
theorem w_1686 : (Cond.methodLink "SpellScribeLaw" (152 : Nat) yX12_item) ∈ lw_tbl := wc_8 (j := 6) rfl
set_option maxRecDepth 20000 in
theorem w_1687 : (Cond.instanceMethod yX12_item) ∈ lw_tbl := wc_8 (j := 7) rfl
set_option maxRecDepth 20000 in
theorem w_1688 : (Cond.selects "SpellScribeModel" yX12_item yX12_item) ∈ lw_tbl := wc_8 (j := 8) rfl
set_option maxRecDepth 20000 in
theorem w_1689 : (Cond.code yX12_item prog_14_method_32_code (2 : Nat) (some FieldType.int)) ∈ lw_tbl := wc_8 (j := 9) rfl
set_option maxRecDepth 20000 in
theorem w_1690 : (Cond.methodLink "SpellScribeLaw" (155 : Nat) yX12_style) ∈ lw_tbl := wc_8 (j := 10) rfl
set_option maxRecDepth 20000 in
theorem w_1691 : (Cond.instanceMethod yX12_style) ∈ lw_tbl := wc_8 (j := 11) rfl
set_option maxRecDepth 20000 in
theorem w_1692 : (Cond.selects "SpellScribeModel" yX12_style yX12_style) ∈ lw_tbl := wc_8 (j := 12) rfl
set_option maxRecDepth 20000 in
theorem w_1693 : (Cond.code yX12_style prog_14_method_33_code (3 : Nat) (some FieldType.int)) ∈ lw_tbl := wc_8 (j := 13) rfl
set_option maxRecDepth 20000 in
theorem w_1694 : (Cond.methodLink "SpellScribeLaw" (159 : Nat) yX12_put) ∈ lw_tbl := wc_8 (j := 14) rfl
set_option maxRecDepth 20000 in
theorem w_1695 : (Cond.instanceMethod yX12_put) ∈ lw_tbl := wc_8 (j := 15) rfl
set_option maxRecDepth 20000 in
theorem w_1696 : (Cond.selects "SpellScribeModel" yX12_put yX12_put) ∈ lw_tbl := wc_8 (j := 16) rfl
set_option maxRecDepth 20000 in
theorem w_1697 : (Cond.code yX12_put prog_14_method_49_code (5 : Nat) (some FieldType.int)) ∈ lw_tbl := wc_8 (j := 17) rfl
set_option maxRecDepth 20000 in
theorem w_1698 : (Cond.methodLink "SpellScribeModel" (303 : Nat) yX12_remembers) ∈ lw_tbl := wc_8 (j := 18) rfl
set_option maxRecDepth 20000 in
theorem w_1700 : (Cond.instanceMethod yX12_remembers) ∈ lw_tbl := wc_8 (j := 20) rfl
set_option maxRecDepth 20000 in
theorem w_1701 : (Cond.code yX12_remembers prog_14_method_45_code (2 : Nat) none) ∈ lw_tbl := wc_8 (j := 21) rfl
set_option maxRecDepth 20000 in
theorem w_1702 : (Cond.methodLink "SpellScribeModel" (306 : Nat) yX12_checks) ∈ lw_tbl := wc_8 (j := 22) rfl
set_option maxRecDepth 20000 in
theorem w_1704 : (Cond.instanceMethod yX12_checks) ∈ lw_tbl := wc_8 (j := 24) rfl
set_option maxRecDepth 20000 in
theorem w_1705 : (Cond.code yX12_checks prog_14_method_48_code (6 : Nat) (some FieldType.int)) ∈ lw_tbl := wc_8 (j := 25) rfl
set_option maxRecDepth 20000 in
theorem w_1706 : (Cond.methodLink "SpellScribeModel" (295 : Nat) yX12_endOf) ∈ lw_tbl := wc_8 (j := 26) rfl
set_option maxRecDepth 20000 in
theorem w_1707 : (Cond.static yX12_endOf) ∈ lw_tbl := wc_8 (j := 27) rfl
set_option maxRecDepth 20000 in
theorem w_1708 : (Cond.code yX12_endOf prog_14_method_46_code (6 : Nat) (some FieldType.int)) ∈ lw_tbl := wc_8 (j := 28) rfl
set_option maxRecDepth 20000 in
theorem w_1709 : (Cond.methodLink "SpellScribeModel" (299 : Nat) yX12_like) ∈ lw_tbl := wc_8 (j := 29) rfl
set_option maxRecDepth 20000 in
theorem w_1711 : (Cond.instanceMethod yX12_like) ∈ lw_tbl := wc_8 (j := 31) rfl
set_option maxRecDepth 20000 in
theorem w_1712 : (Cond.code yX12_like prog_14_method_47_code (11 : Nat) (some FieldType.int)) ∈ lw_tbl := wc_8 (j := 32) rfl
set_option maxRecDepth 20000 in
theorem w_1713 : (Cond.methodLink "SpellScribeLaw" (162 : Nat) yX12_take) ∈ lw_tbl := wc_8 (j := 33) rfl
set_option maxRecDepth 20000 in
theorem w_1714 : (Cond.instanceMethod yX12_take) ∈ lw_tbl := wc_8 (j := 34) rfl
set_option maxRecDepth 20000 in
theorem w_1715 : (Cond.selects "SpellScribeModel" yX12_take yX12_take) ∈ lw_tbl := wc_8 (j := 35) rfl
set_option maxRecDepth 20000 in
theorem w_1716 : (Cond.code yX12_take prog_14_method_50_code (3 : Nat) (some FieldType.int)) ∈ lw_tbl := wc_8 (j := 36) rfl
set_option maxRecDepth 20000 in
theorem w_1717 : (Cond.methodLink "SpellScribeLaw" (166 : Nat) yX12_correct) ∈ lw_tbl := wc_8 (j := 37) rfl
set_option maxRecDepth 20000 in
theorem w_1718 : (Cond.instanceMethod yX12_correct) ∈ lw_tbl := wc_8 (j := 38) rfl
set_option maxRecDepth 20000 in
theorem w_1719 : (Cond.selects "SpellScribeModel" yX12_correct yX12_correct) ∈ lw_tbl := wc_8 (j := 39) rfl
set_option maxRecDepth 20000 in
theorem w_1720 : (Cond.code yX12_correct prog_14_method_61_code (3 : Nat) (some FieldType.int)) ∈ lw_tbl := wc_8 (j := 40) rfl
set_option maxRecDepth 20000 in
theorem w_1721 : (Cond.methodLink "SpellScribeModel" (339 : Nat) yX12_keepsState) ∈ lw_tbl := wc_8 (j := 41) rfl
set_option maxRecDepth 20000 in
theorem w_1723 : (Cond.instanceMethod yX12_keepsState) ∈ lw_tbl := wc_8 (j := 43) rfl
set_option maxRecDepth 20000 in
theorem w_1724 : (Cond.code yX12_keepsState prog_14_method_59_code (3 : Nat) none) ∈ lw_tbl := wc_8 (j := 44) rfl
set_option maxRecDepth 20000 in
theorem w_1725 : (Cond.methodLink "SpellScribeModel" (342 : Nat) yX12_correctsOnce) ∈ lw_tbl := wc_8 (j := 45) rfl
set_option maxRecDepth 20000 in
theorem w_1727 : (Cond.instanceMethod yX12_correctsOnce) ∈ lw_tbl := wc_8 (j := 47) rfl
set_option maxRecDepth 20000 in
theorem w_1728 : (Cond.code yX12_correctsOnce prog_14_method_58_code (2 : Nat) (some FieldType.boolean)) ∈ lw_tbl := wc_8 (j := 48) rfl
set_option maxRecDepth 20000 in
theorem w_1729 : (Cond.methodLink "SpellScribeModel" (332 : Nat) yX12_suggests) ∈ lw_tbl := wc_8 (j := 49) rfl
set_option maxRecDepth 20000 in
theorem w_1731 : (Cond.instanceMethod yX12_suggests) ∈ lw_tbl := wc_8 (j := 51) rfl
set_option maxRecDepth 20000 in
theorem w_1732 : (Cond.code yX12_suggests prog_14_method_56_code (8 : Nat) none) ∈ lw_tbl := wc_8 (j := 52) rfl
set_option maxRecDepth 20000 in
theorem w_1733 : (Cond.methodLink "SpellScribeModel" (324 : Nat) yX12_offers) ∈ lw_tbl := wc_8 (j := 53) rfl
set_option maxRecDepth 20000 in
theorem w_1735 : (Cond.instanceMethod yX12_offers) ∈ lw_tbl := wc_8 (j := 55) rfl
set_option maxRecDepth 20000 in
theorem w_1736 : (Cond.code yX12_offers prog_14_method_53_code (6 : Nat) none) ∈ lw_tbl := wc_8 (j := 56) rfl
set_option maxRecDepth 20000 in
theorem w_1737 : (Cond.methodLink "SpellScribeModel" (313 : Nat) yX12_away) ∈ lw_tbl := wc_8 (j := 57) rfl
set_option maxRecDepth 20000 in
theorem w_1738 : (Cond.static yX12_away) ∈ lw_tbl := wc_8 (j := 58) rfl
set_option maxRecDepth 20000 in
theorem w_1739 : (Cond.code yX12_away prog_14_method_54_code (1 : Nat) (some FieldType.int)) ∈ lw_tbl := wc_8 (j := 59) rfl
set_option maxRecDepth 20000 in
theorem w_1740 : (Cond.methodLink "SpellScribeModel" (317 : Nat) yX12_costOf) ∈ lw_tbl := wc_8 (j := 60) rfl
set_option maxRecDepth 20000 in
theorem w_1742 : (Cond.instanceMethod yX12_costOf) ∈ lw_tbl := wc_8 (j := 62) rfl
set_option maxRecDepth 20000 in
theorem w_1743 : (Cond.code yX12_costOf prog_14_method_52_code (12 : Nat) (some FieldType.int)) ∈ lw_tbl := wc_8 (j := 63) rfl
set_option maxRecDepth 20000 in
theorem w_1744 : (Cond.methodLink "SpellScribeModel" (310 : Nat) yX12_least) ∈ lw_tbl := wc_8 (j := 64) rfl
set_option maxRecDepth 20000 in
theorem w_1745 : (Cond.static yX12_least) ∈ lw_tbl := wc_8 (j := 65) rfl
set_option maxRecDepth 20000 in
theorem w_1746 : (Cond.code yX12_least prog_14_method_51_code (2 : Nat) (some FieldType.int)) ∈ lw_tbl := wc_8 (j := 66) rfl
set_option maxRecDepth 20000 in
theorem w_1747 : (Cond.methodLink "SpellScribeModel" (328 : Nat) yX12_isAhead) ∈ lw_tbl := wc_8 (j := 67) rfl
set_option maxRecDepth 20000 in
theorem w_1749 : (Cond.instanceMethod yX12_isAhead) ∈ lw_tbl := wc_8 (j := 69) rfl
set_option maxRecDepth 20000 in
theorem w_1750 : (Cond.code yX12_isAhead prog_14_method_55_code (5 : Nat) (some FieldType.boolean)) ∈ lw_tbl := wc_8 (j := 70) rfl
set_option maxRecDepth 20000 in
theorem w_1751 : (Cond.methodLink "SpellScribeModel" (336 : Nat) yX12_changes) ∈ lw_tbl := wc_8 (j := 71) rfl
set_option maxRecDepth 20000 in
theorem w_1753 : (Cond.instanceMethod yX12_changes) ∈ lw_tbl := wc_8 (j := 73) rfl
set_option maxRecDepth 20000 in
theorem w_1754 : (Cond.code yX12_changes prog_14_method_57_code (7 : Nat) (some FieldType.boolean)) ∈ lw_tbl := wc_8 (j := 74) rfl
set_option maxRecDepth 20000 in
theorem w_1755 : (Cond.methodLink "SpellScribeModel" (346 : Nat) yX12_isState) ∈ lw_tbl := wc_8 (j := 75) rfl
set_option maxRecDepth 20000 in
theorem w_1757 : (Cond.instanceMethod yX12_isState) ∈ lw_tbl := wc_8 (j := 77) rfl
set_option maxRecDepth 20000 in
theorem w_1758 : (Cond.code yX12_isState prog_14_method_60_code (4 : Nat) (some FieldType.boolean)) ∈ lw_tbl := wc_8 (j := 78) rfl
set_option maxRecDepth 20000 in
theorem w_1759 : (Cond.methodLink "SpellScribeLaw" (170 : Nat) yX12_length) ∈ lw_tbl := wc_8 (j := 79) rfl
set_option maxRecDepth 20000 in
theorem w_1760 : (Cond.instanceMethod yX12_length) ∈ lw_tbl := wc_8 (j := 80) rfl
set_option maxRecDepth 20000 in
theorem w_1761 : (Cond.selects "SpellScribeModel" yX12_length yX12_length) ∈ lw_tbl := wc_8 (j := 81) rfl
set_option maxRecDepth 20000 in
theorem w_1762 : (Cond.code yX12_length prog_14_method_62_code (1 : Nat) (some FieldType.int)) ∈ lw_tbl := wc_8 (j := 82) rfl
set_option maxRecDepth 20000 in
theorem w_1763 : (Cond.methodLink "SpellScribeLaw" (173 : Nat) yX12_signAt) ∈ lw_tbl := wc_8 (j := 83) rfl
set_option maxRecDepth 20000 in
theorem w_1764 : (Cond.instanceMethod yX12_signAt) ∈ lw_tbl := wc_8 (j := 84) rfl
set_option maxRecDepth 20000 in
theorem w_1765 : (Cond.selects "SpellScribeModel" yX12_signAt yX12_signAt) ∈ lw_tbl := wc_8 (j := 85) rfl
set_option maxRecDepth 20000 in
theorem w_1766 : (Cond.code yX12_signAt prog_14_method_63_code (2 : Nat) (some FieldType.char)) ∈ lw_tbl := wc_8 (j := 86) rfl
set_option maxRecDepth 20000 in
theorem w_1767 : (Cond.methodLink "SpellScribeLaw" (177 : Nat) yX12_words) ∈ lw_tbl := wc_8 (j := 87) rfl
set_option maxRecDepth 20000 in
theorem w_1768 : (Cond.instanceMethod yX12_words) ∈ lw_tbl := wc_8 (j := 88) rfl
set_option maxRecDepth 20000 in
theorem w_1769 : (Cond.selects "SpellScribeModel" yX12_words yX12_words) ∈ lw_tbl := wc_8 (j := 89) rfl
set_option maxRecDepth 20000 in
theorem w_1770 : (Cond.code yX12_words prog_14_method_64_code (1 : Nat) (some FieldType.int)) ∈ lw_tbl := wc_8 (j := 90) rfl
set_option maxRecDepth 20000 in
theorem w_1771 : (Cond.methodLink "SpellScribeLaw" (180 : Nat) yX12_wordAt) ∈ lw_tbl := wc_8 (j := 91) rfl
set_option maxRecDepth 20000 in
theorem w_1772 : (Cond.instanceMethod yX12_wordAt) ∈ lw_tbl := wc_8 (j := 92) rfl
set_option maxRecDepth 20000 in
theorem w_1773 : (Cond.selects "SpellScribeModel" yX12_wordAt yX12_wordAt) ∈ lw_tbl := wc_8 (j := 93) rfl
set_option maxRecDepth 20000 in
theorem w_1774 : (Cond.code yX12_wordAt prog_14_method_65_code (2 : Nat) (some FieldType.int)) ∈ lw_tbl := wc_8 (j := 94) rfl
set_option maxRecDepth 20000 in
theorem w_1775 : (Cond.methodLink "SpellScribeLaw" (183 : Nat) yX12_isRight) ∈ lw_tbl := wc_8 (j := 95) rfl
set_option maxRecDepth 20000 in
theorem w_1776 : (Cond.instanceMethod yX12_isRight) ∈ lw_tbl := wc_8 (j := 96) rfl
set_option maxRecDepth 20000 in
theorem w_1777 : (Cond.selects "SpellScribeModel" yX12_isRight yX12_isRight) ∈ lw_tbl := wc_8 (j := 97) rfl
set_option maxRecDepth 20000 in
theorem w_1778 : (Cond.code yX12_isRight prog_14_method_66_code (2 : Nat) (some FieldType.boolean)) ∈ lw_tbl := wc_8 (j := 98) rfl
set_option maxRecDepth 20000 in
theorem w_1779 : (Cond.methodLink "SpellScribeLaw" (186 : Nat) yX12_readings) ∈ lw_tbl := wc_8 (j := 99) rfl
set_option maxRecDepth 20000 in
theorem w_1780 : (Cond.instanceMethod yX12_readings) ∈ lw_tbl := wc_8 (j := 100) rfl
set_option maxRecDepth 20000 in
theorem w_1781 : (Cond.selects "SpellScribeModel" yX12_readings yX12_readings) ∈ lw_tbl := wc_8 (j := 101) rfl
set_option maxRecDepth 20000 in
theorem w_1782 : (Cond.code yX12_readings prog_14_method_67_code (2 : Nat) (some FieldType.int)) ∈ lw_tbl := wc_8 (j := 102) rfl
set_option maxRecDepth 20000 in
theorem w_1783 : (Cond.methodLink "SpellScribeLaw" (189 : Nat) yX12_reading) ∈ lw_tbl := wc_8 (j := 103) rfl
set_option maxRecDepth 20000 in
theorem w_1784 : (Cond.instanceMethod yX12_reading) ∈ lw_tbl := wc_8 (j := 104) rfl
set_option maxRecDepth 20000 in
theorem w_1785 : (Cond.selects "SpellScribeModel" yX12_reading yX12_reading) ∈ lw_tbl := wc_8 (j := 105) rfl
set_option maxRecDepth 20000 in
theorem w_1786 : (Cond.code yX12_reading prog_14_method_68_code (2 : Nat) (some FieldType.int)) ∈ lw_tbl := wc_8 (j := 106) rfl
set_option maxRecDepth 20000 in
theorem w_1787 : (Cond.methodLink "SpellScribeLaw" (192 : Nat) yX12_split) ∈ lw_tbl := wc_8 (j := 107) rfl
set_option maxRecDepth 20000 in
theorem w_1788 : (Cond.instanceMethod yX12_split) ∈ lw_tbl := wc_8 (j := 108) rfl
set_option maxRecDepth 20000 in
theorem w_1789 : (Cond.selects "SpellScribeModel" yX12_split yX12_split) ∈ lw_tbl := wc_8 (j := 109) rfl
set_option maxRecDepth 20000 in
theorem w_1790 : (Cond.code yX12_split prog_14_method_70_code (4 : Nat) (some FieldType.int)) ∈ lw_tbl := wc_8 (j := 110) rfl
set_option maxRecDepth 20000 in
theorem w_1791 : (Cond.methodLink "SpellScribeModel" (349 : Nat) yX12_numberOf) ∈ lw_tbl := wc_8 (j := 111) rfl
set_option maxRecDepth 20000 in
theorem w_1793 : (Cond.instanceMethod yX12_numberOf) ∈ lw_tbl := wc_8 (j := 113) rfl
set_option maxRecDepth 20000 in
theorem w_1794 : (Cond.code yX12_numberOf prog_14_method_69_code (6 : Nat) (some FieldType.long)) ∈ lw_tbl := wc_8 (j := 114) rfl
set_option maxRecDepth 20000 in
theorem w_1795 : (Cond.methodLink "SpellScribeLaw" (196 : Nat) yX12_mistakes) ∈ lw_tbl := wc_8 (j := 115) rfl
set_option maxRecDepth 20000 in
theorem w_1796 : (Cond.instanceMethod yX12_mistakes) ∈ lw_tbl := wc_8 (j := 116) rfl
set_option maxRecDepth 20000 in
theorem w_1797 : (Cond.selects "SpellScribeModel" yX12_mistakes yX12_mistakes) ∈ lw_tbl := wc_8 (j := 117) rfl
set_option maxRecDepth 20000 in
theorem w_1798 : (Cond.code yX12_mistakes prog_14_method_72_code (3 : Nat) (some FieldType.int)) ∈ lw_tbl := wc_8 (j := 118) rfl
set_option maxRecDepth 20000 in
theorem w_1799 : (Cond.methodLink "SpellScribeModel" (353 : Nat) yX12_mistakesOf) ∈ lw_tbl := wc_8 (j := 119) rfl
set_option maxRecDepth 20000 in
theorem w_1801 : (Cond.instanceMethod yX12_mistakesOf) ∈ lw_tbl := wc_8 (j := 121) rfl
set_option maxRecDepth 20000 in
theorem w_1802 : (Cond.code yX12_mistakesOf prog_14_method_71_code (2 : Nat) (some FieldType.int)) ∈ lw_tbl := wc_8 (j := 122) rfl
set_option maxRecDepth 20000 in
theorem w_1803 : (Cond.methodLink "SpellScribeLaw" (199 : Nat) yX12_mistakeKind) ∈ lw_tbl := wc_8 (j := 123) rfl
set_option maxRecDepth 20000 in
theorem w_1804 : (Cond.instanceMethod yX12_mistakeKind) ∈ lw_tbl := wc_8 (j := 124) rfl
set_option maxRecDepth 20000 in
theorem w_1805 : (Cond.selects "SpellScribeModel" yX12_mistakeKind yX12_mistakeKind) ∈ lw_tbl := wc_8 (j := 125) rfl
set_option maxRecDepth 20000 in
theorem w_1806 : (Cond.code yX12_mistakeKind prog_14_method_74_code (4 : Nat) (some FieldType.int)) ∈ lw_tbl := wc_8 (j := 126) rfl
set_option maxRecDepth 20000 in
theorem w_1807 : (Cond.methodLink "SpellScribeModel" (356 : Nat) yX12_wordOf) ∈ lw_tbl := wc_8 (j := 127) rfl
set_option maxRecDepth 20000 in
theorem w_1809 : (Cond.instanceMethod yX12_wordOf) ∈ lw_tbl := wc_8 (j := 129) rfl
set_option maxRecDepth 20000 in
theorem w_1810 : (Cond.code yX12_wordOf prog_14_method_73_code (3 : Nat) (some FieldType.int)) ∈ lw_tbl := wc_8 (j := 130) rfl
set_option maxRecDepth 20000 in
theorem w_1811 : (Cond.methodLink "SpellScribeLaw" (202 : Nat) yX12_mistakeAt) ∈ lw_tbl := wc_8 (j := 131) rfl
set_option maxRecDepth 20000 in
theorem w_1812 : (Cond.instanceMethod yX12_mistakeAt) ∈ lw_tbl := wc_8 (j := 132) rfl
set_option maxRecDepth 20000 in
theorem w_1813 : (Cond.selects "SpellScribeModel" yX12_mistakeAt yX12_mistakeAt) ∈ lw_tbl := wc_8 (j := 133) rfl
set_option maxRecDepth 20000 in
theorem w_1814 : (Cond.code yX12_mistakeAt prog_14_method_75_code (3 : Nat) (some FieldType.int)) ∈ lw_tbl := wc_8 (j := 134) rfl
set_option maxRecDepth 20000 in
theorem w_1815 : (Cond.methodLink "SpellScribeLaw" (205 : Nat) yX12_suggestions) ∈ lw_tbl := wc_8 (j := 135) rfl
set_option maxRecDepth 20000 in
theorem w_1816 : (Cond.instanceMethod yX12_suggestions) ∈ lw_tbl := wc_8 (j := 136) rfl
set_option maxRecDepth 20000 in
theorem w_1817 : (Cond.selects "SpellScribeModel" yX12_suggestions yX12_suggestions) ∈ lw_tbl := wc_8 (j := 137) rfl
set_option maxRecDepth 20000 in
theorem w_1818 : (Cond.code yX12_suggestions prog_14_method_76_code (2 : Nat) (some FieldType.int)) ∈ lw_tbl := wc_8 (j := 138) rfl
set_option maxRecDepth 20000 in
theorem w_1819 : (Cond.methodLink "SpellScribeLaw" (208 : Nat) yX12_suggestionsByAll) ∈ lw_tbl := wc_8 (j := 139) rfl
set_option maxRecDepth 20000 in
theorem w_1820 : (Cond.instanceMethod yX12_suggestionsByAll) ∈ lw_tbl := wc_8 (j := 140) rfl
set_option maxRecDepth 20000 in
theorem w_1821 : (Cond.selects "SpellScribeModel" yX12_suggestionsByAll yX12_suggestionsByAll) ∈ lw_tbl := wc_8 (j := 141) rfl
set_option maxRecDepth 20000 in
theorem w_1822 : (Cond.code yX12_suggestionsByAll prog_14_method_77_code (2 : Nat) (some FieldType.int)) ∈ lw_tbl := wc_8 (j := 142) rfl
set_option maxRecDepth 20000 in
theorem w_1823 : (Cond.methodLink "SpellScribeModel" (359 : Nat) yX12_suggestions) ∈ lw_tbl := wc_8 (j := 143) rfl
set_option maxRecDepth 20000 in
theorem w_1824 : (Cond.methodLink "SpellScribeLaw" (211 : Nat) yX12_cost) ∈ lw_tbl := wc_8 (j := 144) rfl
set_option maxRecDepth 20000 in
theorem w_1825 : (Cond.instanceMethod yX12_cost) ∈ lw_tbl := wc_8 (j := 145) rfl
set_option maxRecDepth 20000 in
theorem w_1826 : (Cond.selects "SpellScribeModel" yX12_cost yX12_cost) ∈ lw_tbl := wc_8 (j := 146) rfl
set_option maxRecDepth 20000 in
theorem w_1827 : (Cond.code yX12_cost prog_14_method_79_code (3 : Nat) (some FieldType.int)) ∈ lw_tbl := wc_8 (j := 147) rfl
set_option maxRecDepth 20000 in
theorem w_1828 : (Cond.methodLink "SpellScribeModel" (362 : Nat) yX12_hasSuggestion) ∈ lw_tbl := wc_8 (j := 148) rfl
set_option maxRecDepth 20000 in
theorem w_1830 : (Cond.instanceMethod yX12_hasSuggestion) ∈ lw_tbl := wc_8 (j := 150) rfl
set_option maxRecDepth 20000 in
theorem w_1831 : (Cond.code yX12_hasSuggestion prog_14_method_78_code (3 : Nat) (some FieldType.boolean)) ∈ lw_tbl := wc_8 (j := 151) rfl
set_option maxRecDepth 20000 in
theorem w_1832 : (Cond.methodLink "SpellScribeLaw" (214 : Nat) yX12_suggested) ∈ lw_tbl := wc_8 (j := 152) rfl
set_option maxRecDepth 20000 in
theorem w_1833 : (Cond.instanceMethod yX12_suggested) ∈ lw_tbl := wc_8 (j := 153) rfl
set_option maxRecDepth 20000 in
theorem w_1834 : (Cond.selects "SpellScribeModel" yX12_suggested yX12_suggested) ∈ lw_tbl := wc_8 (j := 154) rfl
set_option maxRecDepth 20000 in
theorem w_1835 : (Cond.code yX12_suggested prog_14_method_80_code (5 : Nat) (some FieldType.char)) ∈ lw_tbl := wc_8 (j := 155) rfl
set_option maxRecDepth 20000 in
theorem w_1836 : (Cond.methodLink "SpellScribeLaw" (218 : Nat) yX12_made) ∈ lw_tbl := wc_8 (j := 156) rfl
set_option maxRecDepth 20000 in
theorem w_1837 : (Cond.instanceMethod yX12_made) ∈ lw_tbl := wc_8 (j := 157) rfl
set_option maxRecDepth 20000 in
theorem w_1838 : (Cond.selects "SpellScribeModel" yX12_made yX12_made) ∈ lw_tbl := wc_8 (j := 158) rfl
set_option maxRecDepth 20000 in
theorem w_1839 : (Cond.code yX12_made prog_14_method_81_code (1 : Nat) (some FieldType.int)) ∈ lw_tbl := wc_8 (j := 159) rfl
set_option maxRecDepth 20000 in
theorem w_1840 : (Cond.sameMethod "java/lang/Throwable" "java/lang/Throwable" "fillInStackTrace" "(I)Ljava/lang/Throwable;") ∈ lw_tbl := wc_8 (j := 160) rfl
set_option maxRecDepth 20000 in
theorem w_1841 : (Cond.castable "SpellScribe" "java/lang/Object") ∈ lw_tbl := wc_8 (j := 161) rfl
set_option maxRecDepth 20000 in
theorem w_1842 : (Cond.castable "SpellScribe$Lexicon" "java/lang/Object") ∈ lw_tbl := wc_8 (j := 162) rfl
set_option maxRecDepth 20000 in
theorem w_1843 : (Cond.castable "java/util/ArrayList" "java/lang/Object") ∈ lw_tbl := wc_8 (j := 163) rfl
set_option maxRecDepth 20000 in
theorem w_1844 : (Cond.castable "SpellScribe$WordBook" "java/lang/Object") ∈ lw_tbl := wc_8 (j := 164) rfl
set_option maxRecDepth 20000 in
theorem w_1845 : (Cond.castable "SpellScribe$Row" "java/lang/Object") ∈ lw_tbl := wc_8 (j := 165) rfl
set_option maxRecDepth 20000 in
theorem w_1846 : (Cond.castable "SpellScribe$Suggester" "java/lang/Object") ∈ lw_tbl := wc_8 (j := 166) rfl
set_option maxRecDepth 20000 in
theorem w_1847 : (Cond.castable "SpellScribe$Grammar" "java/lang/Object") ∈ lw_tbl := wc_8 (j := 167) rfl
set_option maxRecDepth 20000 in
theorem w_1848 : (Cond.castable "SpellScribe$Text" "java/lang/Object") ∈ lw_tbl := wc_8 (j := 168) rfl
set_option maxRecDepth 20000 in
theorem w_1849 : (Cond.castable "SpellScribe$History" "java/lang/Object") ∈ lw_tbl := wc_8 (j := 169) rfl
set_option maxRecDepth 20000 in
theorem w_1850 : (Cond.castable "SpellScribe$Proof" "java/lang/Object") ∈ lw_tbl := wc_8 (j := 170) rfl
set_option maxRecDepth 20000 in
theorem w_1851 : (Cond.castable "SpellScribe$Style" "java/lang/Object") ∈ lw_tbl := wc_8 (j := 171) rfl
set_option maxRecDepth 20000 in
theorem w_1852 : (Cond.castable "SpellScribeModel" "java/lang/Object") ∈ lw_tbl := wc_8 (j := 172) rfl
set_option maxRecDepth 20000 in
theorem w_1853 : (Cond.castable "java/lang/IllegalArgumentException" "java/lang/Object") ∈ lw_tbl := wc_8 (j := 173) rfl
set_option maxRecDepth 20000 in
theorem w_1854 : (Cond.castable "java/lang/IllegalStateException" "java/lang/Object") ∈ lw_tbl := wc_8 (j := 174) rfl
set_option maxRecDepth 20000 in
theorem w_1855 : (Cond.castable "SpellScribe$Stem" "java/lang/Object") ∈ lw_tbl := wc_8 (j := 175) rfl
set_option maxRecDepth 20000 in
theorem w_1856 : (Cond.castable "SpellScribe$Rule" "java/lang/Object") ∈ lw_tbl := wc_8 (j := 176) rfl
set_option maxRecDepth 20000 in
theorem w_1857 : (Cond.castable "java/lang/IndexOutOfBoundsException" "java/lang/Object") ∈ lw_tbl := wc_8 (j := 177) rfl
set_option maxRecDepth 20000 in
theorem w_1858 : (Cond.castable "java/lang/Throwable" "java/lang/Object") ∈ lw_tbl := wc_8 (j := 178) rfl
set_option maxRecDepth 20000 in
theorem w_1859 : (Cond.castable "java/lang/String" "java/lang/Object") ∈ lw_tbl := wc_8 (j := 179) rfl
set_option maxRecDepth 20000 in
theorem w_1860 : (Cond.sameMethod "[Ljava/lang/Object;" "java/lang/Object" "getClass" "()Ljava/lang/Class;") ∈ lw_tbl := wc_8 (j := 180) rfl
set_option maxRecDepth 20000 in
theorem w_1861 : (Cond.selects "[Ljava/lang/Object;" ⟨"java/lang/Object", "getClass", "()Ljava/lang/Class;"⟩ ⟨"java/lang/Object", "getClass", "()Ljava/lang/Class;"⟩) ∈ lw_tbl := wc_8 (j := 181) rfl
set_option maxRecDepth 20000 in
theorem w_1862 : (Cond.declares ⟨"java/lang/Object", "getClass", "()Ljava/lang/Class;"⟩) ∈ lw_tbl := wc_8 (j := 182) rfl
set_option maxRecDepth 20000 in
theorem w_1863 : (Cond.castable "[I" "java/lang/Object") ∈ lw_tbl := wc_8 (j := 183) rfl
set_option maxRecDepth 20000 in
theorem w_1864 : (Cond.castable "[B" "java/lang/Object") ∈ lw_tbl := wc_8 (j := 184) rfl
set_option maxRecDepth 20000 in
theorem w_1865 : (Cond.castable "[Ljava/lang/Object;" "java/lang/Object") ∈ lw_tbl := wc_8 (j := 185) rfl
set_option maxRecDepth 20000 in
theorem w_1866 : (Cond.castable "[J" "java/lang/Object") ∈ lw_tbl := wc_8 (j := 186) rfl
theorem wp_0 : Cond.selects "SpellScribe" yX11_takeDraft yX11_takeDraft ∈ lw_tbl := wp_of (i := 0) (q := (yX11_takeDraft, 13)) (by decide +kernel)
theorem wp_1 : Cond.selects "SpellScribe" yX11_proofread yX11_proofread ∈ lw_tbl := wp_of (i := 1) (q := (yX11_proofread, 13)) (by decide +kernel)
theorem wp_2 : Cond.selects "SpellScribe$WordBook" yX10_placeOf yX10_placeOf ∈ lw_tbl := wp_of (i := 2) (q := (yX10_placeOf, 4)) (by decide +kernel)
theorem wp_3 : Cond.selects "SpellScribe$Lexicon" yX2_readingsAsJoin yX2_readingsAsJoin ∈ lw_tbl := wp_of (i := 3) (q := (yX2_readingsAsJoin, 6)) (by decide +kernel)
theorem wp_4 : Cond.selects "SpellScribe$Lexicon" yX2_canBeBorder yX2_canBeBorder ∈ lw_tbl := wp_of (i := 4) (q := (yX2_canBeBorder, 6)) (by decide +kernel)
theorem wp_5 : Cond.selects "SpellScribe$Lexicon" yX2_readingsInJoin yX2_readingsInJoin ∈ lw_tbl := wp_of (i := 5) (q := (yX2_readingsInJoin, 6)) (by decide +kernel)
theorem wp_6 : Cond.selects "SpellScribe$Grammar" yX0_bestReading yX0_bestReading ∈ lw_tbl := wp_of (i := 6) (q := (yX0_bestReading, 2)) (by decide +kernel)
theorem wp_7 : Cond.selects "SpellScribe$Grammar" yX0_countBroken yX0_countBroken ∈ lw_tbl := wp_of (i := 7) (q := (yX0_countBroken, 2)) (by decide +kernel)
theorem wp_8 : Cond.selects "SpellScribe$Grammar" yX0_setFewest yX0_setFewest ∈ lw_tbl := wp_of (i := 8) (q := (yX0_setFewest, 2)) (by decide +kernel)
theorem wp_9 : Cond.selects "SpellScribe$Proof" yX3_markBroken yX3_markBroken ∈ lw_tbl := wp_of (i := 9) (q := (yX3_markBroken, 7)) (by decide +kernel)
theorem wp_10 : Cond.selects "SpellScribe$Proof" yX3_takeStyles yX3_takeStyles ∈ lw_tbl := wp_of (i := 10) (q := (yX3_takeStyles, 7)) (by decide +kernel)
theorem wp_11 : Cond.selects "SpellScribe$Proof" yX3_lowestFit yX3_lowestFit ∈ lw_tbl := wp_of (i := 11) (q := (yX3_lowestFit, 7)) (by decide +kernel)
theorem wp_12 : Cond.selects "SpellScribe$Proof" yX3_listMistakes yX3_listMistakes ∈ lw_tbl := wp_of (i := 12) (q := (yX3_listMistakes, 7)) (by decide +kernel)
theorem wp_13 : Cond.selects "SpellScribe$Proof" yX3_addMistake yX3_addMistake ∈ lw_tbl := wp_of (i := 13) (q := (yX3_addMistake, 7)) (by decide +kernel)
theorem wp_14 : Cond.selects "SpellScribe" yX11_changeOnce yX11_changeOnce ∈ lw_tbl := wp_of (i := 14) (q := (yX11_changeOnce, 13)) (by decide +kernel)
theorem wp_15 : Cond.selects "SpellScribe" yX11_listSuggestions yX11_listSuggestions ∈ lw_tbl := wp_of (i := 15) (q := (yX11_listSuggestions, 13)) (by decide +kernel)
theorem wp_16 : Cond.selects "SpellScribe$Suggester" yX8_costTo yX8_costTo ∈ lw_tbl := wp_of (i := 16) (q := (yX8_costTo, 8)) (by decide +kernel)
theorem wp_17 : Cond.selects "SpellScribe$Suggester" yX8_leastCost yX8_leastCost ∈ lw_tbl := wp_of (i := 17) (q := (yX8_leastCost, 8)) (by decide +kernel)
theorem wp_18 : Cond.selects "SpellScribe$Suggester" yX8_costBefore yX8_costBefore ∈ lw_tbl := wp_of (i := 18) (q := (yX8_costBefore, 8)) (by decide +kernel)
theorem wp_19 : Cond.selects "SpellScribe$Suggester" yX8_costToBecome yX8_costToBecome ∈ lw_tbl := wp_of (i := 19) (q := (yX8_costToBecome, 8)) (by decide +kernel)
theorem wp_20 : Cond.selects "SpellScribe$Suggester" yX8_isSwapped yX8_isSwapped ∈ lw_tbl := wp_of (i := 20) (q := (yX8_isSwapped, 8)) (by decide +kernel)
theorem wp_21 : Cond.selects "SpellScribe$Suggester" yX8_addSuggestion yX8_addSuggestion ∈ lw_tbl := wp_of (i := 21) (q := (yX8_addSuggestion, 8)) (by decide +kernel)
theorem wp_22 : Cond.selects "SpellScribe" yX11_changeWord yX11_changeWord ∈ lw_tbl := wp_of (i := 22) (q := (yX11_changeWord, 13)) (by decide +kernel)
theorem wp_23 : Cond.selects "SpellScribe$Text" yX9_addLetter yX9_addLetter ∈ lw_tbl := wp_of (i := 23) (q := (yX9_addLetter, 9)) (by decide +kernel)
theorem wp_24 : Cond.selects "SpellScribe$Text" yX9_endSentence yX9_endSentence ∈ lw_tbl := wp_of (i := 24) (q := (yX9_endSentence, 9)) (by decide +kernel)
theorem wp_25 : Cond.selects "SpellScribe" yX11_forgetAnswers yX11_forgetAnswers ∈ lw_tbl := wp_of (i := 25) (q := (yX11_forgetAnswers, 13)) (by decide +kernel)
theorem wp_26 : Cond.selects "SpellScribe$History" yX1_isLike yX1_isLike ∈ lw_tbl := wp_of (i := 26) (q := (yX1_isLike, 3)) (by decide +kernel)
theorem wp_27 : Cond.selects "java/lang/Throwable" ⟨"java/lang/Throwable", "fillInStackTrace", "(I)Ljava/lang/Throwable;"⟩ ⟨"java/lang/Throwable", "fillInStackTrace", "(I)Ljava/lang/Throwable;"⟩ ∈ lw_tbl := wp_of (i := 27) (q := (⟨"java/lang/Throwable", "fillInStackTrace", "(I)Ljava/lang/Throwable;"⟩, 6)) (by decide +kernel)
theorem wp_28 : Cond.selects "java/util/ArrayList" yJx4a65c_add_72be8 yJx4a65c_add_72be8 ∈ lw_tbl := wp_of (i := 28) (q := (yJx4a65c_add_72be8, 3)) (by decide +kernel)
theorem wp_29 : Cond.selects "java/util/ArrayList" yJx4a65c_grow_d5877 yJx4a65c_grow_d5877 ∈ lw_tbl := wp_of (i := 29) (q := (yJx4a65c_grow_d5877, 3)) (by decide +kernel)
theorem wp_30 : Cond.selects "java/util/ArrayList" yJx4a65c_grow_92f84 yJx4a65c_grow_92f84 ∈ lw_tbl := wp_of (i := 30) (q := (yJx4a65c_grow_92f84, 3)) (by decide +kernel)
theorem wp_31 : Cond.selects "SpellScribe$Lexicon" yX2_makeOf yX2_makeOf ∈ lw_tbl := wp_of (i := 31) (q := (yX2_makeOf, 6)) (by decide +kernel)
theorem wp_32 : Cond.selects "SpellScribe$Lexicon" yX2_makeWithBeginnings yX2_makeWithBeginnings ∈ lw_tbl := wp_of (i := 32) (q := (yX2_makeWithBeginnings, 6)) (by decide +kernel)
theorem wp_33 : Cond.selects "SpellScribe$Lexicon" yX2_makeSecondEndings yX2_makeSecondEndings ∈ lw_tbl := wp_of (i := 33) (q := (yX2_makeSecondEndings, 6)) (by decide +kernel)
theorem wp_34 : Cond.selects "SpellScribe$Lexicon" yX2_listSuggestable yX2_listSuggestable ∈ lw_tbl := wp_of (i := 34) (q := (yX2_listSuggestable, 6)) (by decide +kernel)
theorem wp_35 : Cond.selects "SpellScribe" yX11_hasWord yX11_hasWord ∈ lw_tbl := wp_of (i := 35) (q := (yX11_hasWord, 13)) (by decide +kernel)
theorem wp_36 : Cond.selects "SpellScribe" yX11_checkEdit yX11_checkEdit ∈ lw_tbl := wp_of (i := 36) (q := (yX11_checkEdit, 13)) (by decide +kernel)
theorem wp_37 : Cond.selects "SpellScribe$Text" yX9_countLike yX9_countLike ∈ lw_tbl := wp_of (i := 37) (q := (yX9_countLike, 9)) (by decide +kernel)
theorem wp_38 : Cond.selects "SpellScribe$Text" yX9_isLike yX9_isLike ∈ lw_tbl := wp_of (i := 38) (q := (yX9_isLike, 9)) (by decide +kernel)
theorem wp_39 : Cond.selects "SpellScribe" yX11_isRightPart yX11_isRightPart ∈ lw_tbl := wp_of (i := 39) (q := (yX11_isRightPart, 13)) (by decide +kernel)
theorem wp_40 : Cond.selects "SpellScribe" yX11_hasSuggestion yX11_hasSuggestion ∈ lw_tbl := wp_of (i := 40) (q := (yX11_hasSuggestion, 13)) (by decide +kernel)
theorem wp_41 : Cond.selects "SpellScribeModel" yX12_ownOf yX12_ownOf ∈ lw_tbl := wp_of (i := 41) (q := (yX12_ownOf, 59)) (by decide +kernel)
theorem wp_42 : Cond.selects "SpellScribeModel" yX12_owns yX12_owns ∈ lw_tbl := wp_of (i := 42) (q := (yX12_owns, 59)) (by decide +kernel)
theorem wp_43 : Cond.selects "SpellScribeModel" yX12_barOf yX12_barOf ∈ lw_tbl := wp_of (i := 43) (q := (yX12_barOf, 59)) (by decide +kernel)
theorem wp_44 : Cond.selects "SpellScribeModel" yX12_hasWord yX12_hasWord ∈ lw_tbl := wp_of (i := 44) (q := (yX12_hasWord, 59)) (by decide +kernel)
theorem wp_45 : Cond.selects "SpellScribeModel" yX12_reads yX12_reads ∈ lw_tbl := wp_of (i := 45) (q := (yX12_reads, 59)) (by decide +kernel)
theorem wp_46 : Cond.selects "SpellScribeModel" yX12_makes yX12_makes ∈ lw_tbl := wp_of (i := 46) (q := (yX12_makes, 59)) (by decide +kernel)
theorem wp_47 : Cond.selects "SpellScribeModel" yX12_begins yX12_begins ∈ lw_tbl := wp_of (i := 47) (q := (yX12_begins, 59)) (by decide +kernel)
theorem wp_48 : Cond.selects "SpellScribeModel" yX12_keeps yX12_keeps ∈ lw_tbl := wp_of (i := 48) (q := (yX12_keeps, 59)) (by decide +kernel)
theorem wp_49 : Cond.selects "SpellScribeModel" yX12_slotOf yX12_slotOf ∈ lw_tbl := wp_of (i := 49) (q := (yX12_slotOf, 59)) (by decide +kernel)
theorem wp_50 : Cond.selects "SpellScribeModel" yX12_uses yX12_uses ∈ lw_tbl := wp_of (i := 50) (q := (yX12_uses, 59)) (by decide +kernel)
theorem wp_51 : Cond.selects "SpellScribeModel" yX12_endings yX12_endings ∈ lw_tbl := wp_of (i := 51) (q := (yX12_endings, 59)) (by decide +kernel)
theorem wp_52 : Cond.selects "SpellScribeModel" yX12_finds yX12_finds ∈ lw_tbl := wp_of (i := 52) (q := (yX12_finds, 59)) (by decide +kernel)
theorem wp_53 : Cond.selects "SpellScribeModel" yX12_readingsOf yX12_readingsOf ∈ lw_tbl := wp_of (i := 53) (q := (yX12_readingsOf, 59)) (by decide +kernel)
theorem wp_54 : Cond.selects "SpellScribeModel" yX12_joinsOf yX12_joinsOf ∈ lw_tbl := wp_of (i := 54) (q := (yX12_joinsOf, 59)) (by decide +kernel)
theorem wp_55 : Cond.selects "SpellScribeModel" yX12_inJoins yX12_inJoins ∈ lw_tbl := wp_of (i := 55) (q := (yX12_inJoins, 59)) (by decide +kernel)
theorem wp_56 : Cond.selects "SpellScribeModel" yX12_chooses yX12_chooses ∈ lw_tbl := wp_of (i := 56) (q := (yX12_chooses, 59)) (by decide +kernel)
theorem wp_57 : Cond.selects "SpellScribeModel" yX12_fewestFrom yX12_fewestFrom ∈ lw_tbl := wp_of (i := 57) (q := (yX12_fewestFrom, 59)) (by decide +kernel)
theorem wp_58 : Cond.selects "SpellScribeModel" yX12_isNext yX12_isNext ∈ lw_tbl := wp_of (i := 58) (q := (yX12_isNext, 59)) (by decide +kernel)
theorem wp_59 : Cond.selects "SpellScribeModel" yX12_has yX12_has ∈ lw_tbl := wp_of (i := 59) (q := (yX12_has, 59)) (by decide +kernel)
theorem wp_60 : Cond.selects "SpellScribeModel" yX12_breaks yX12_breaks ∈ lw_tbl := wp_of (i := 60) (q := (yX12_breaks, 59)) (by decide +kernel)
theorem wp_61 : Cond.selects "SpellScribeModel" yX12_takesStyles yX12_takesStyles ∈ lw_tbl := wp_of (i := 61) (q := (yX12_takesStyles, 59)) (by decide +kernel)
theorem wp_62 : Cond.selects "SpellScribeModel" yX12_fits yX12_fits ∈ lw_tbl := wp_of (i := 62) (q := (yX12_fits, 59)) (by decide +kernel)
theorem wp_63 : Cond.selects "SpellScribeModel" yX12_remembers yX12_remembers ∈ lw_tbl := wp_of (i := 63) (q := (yX12_remembers, 59)) (by decide +kernel)
theorem wp_64 : Cond.selects "SpellScribeModel" yX12_checks yX12_checks ∈ lw_tbl := wp_of (i := 64) (q := (yX12_checks, 59)) (by decide +kernel)
theorem wp_65 : Cond.selects "SpellScribeModel" yX12_like yX12_like ∈ lw_tbl := wp_of (i := 65) (q := (yX12_like, 59)) (by decide +kernel)
theorem wp_66 : Cond.selects "SpellScribeModel" yX12_keepsState yX12_keepsState ∈ lw_tbl := wp_of (i := 66) (q := (yX12_keepsState, 59)) (by decide +kernel)
theorem wp_67 : Cond.selects "SpellScribeModel" yX12_correctsOnce yX12_correctsOnce ∈ lw_tbl := wp_of (i := 67) (q := (yX12_correctsOnce, 59)) (by decide +kernel)
theorem wp_68 : Cond.selects "SpellScribeModel" yX12_suggests yX12_suggests ∈ lw_tbl := wp_of (i := 68) (q := (yX12_suggests, 59)) (by decide +kernel)
theorem wp_69 : Cond.selects "SpellScribeModel" yX12_offers yX12_offers ∈ lw_tbl := wp_of (i := 69) (q := (yX12_offers, 59)) (by decide +kernel)
theorem wp_70 : Cond.selects "SpellScribeModel" yX12_costOf yX12_costOf ∈ lw_tbl := wp_of (i := 70) (q := (yX12_costOf, 59)) (by decide +kernel)
theorem wp_71 : Cond.selects "SpellScribeModel" yX12_isAhead yX12_isAhead ∈ lw_tbl := wp_of (i := 71) (q := (yX12_isAhead, 59)) (by decide +kernel)
theorem wp_72 : Cond.selects "SpellScribeModel" yX12_changes yX12_changes ∈ lw_tbl := wp_of (i := 72) (q := (yX12_changes, 59)) (by decide +kernel)
theorem wp_73 : Cond.selects "SpellScribeModel" yX12_isState yX12_isState ∈ lw_tbl := wp_of (i := 73) (q := (yX12_isState, 59)) (by decide +kernel)
theorem wp_74 : Cond.selects "SpellScribeModel" yX12_numberOf yX12_numberOf ∈ lw_tbl := wp_of (i := 74) (q := (yX12_numberOf, 59)) (by decide +kernel)
theorem wp_75 : Cond.selects "SpellScribeModel" yX12_mistakesOf yX12_mistakesOf ∈ lw_tbl := wp_of (i := 75) (q := (yX12_mistakesOf, 59)) (by decide +kernel)
theorem wp_76 : Cond.selects "SpellScribeModel" yX12_wordOf yX12_wordOf ∈ lw_tbl := wp_of (i := 76) (q := (yX12_wordOf, 59)) (by decide +kernel)
theorem wp_77 : Cond.selects "SpellScribeModel" yX12_hasSuggestion yX12_hasSuggestion ∈ lw_tbl := wp_of (i := 77) (q := (yX12_hasSuggestion, 59)) (by decide +kernel)
