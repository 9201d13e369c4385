/-- the words that go along with a call -/
def lw_tb : List Cond := lw_tbl.filter goodWord
theorem kt1 {n : Nat} {w : Cond} (h : tables_1_1[n]? = some w) (hg : goodWord w = true) : w ∈ lw_tb := by
  have h2 := List.mem_of_getElem? h
  exact List.mem_filter.mpr ⟨List.mem_append_right _ (List.mem_append_left _ h2), hg⟩
theorem kt2 {n : Nat} {w : Cond} (h : tables_1_2[n]? = some w) (hg : goodWord w = true) : w ∈ lw_tb := by
  have h2 := List.mem_of_getElem? h
  exact List.mem_filter.mpr ⟨List.mem_append_right _ (List.mem_append_right _ (List.mem_append_left _ h2)), hg⟩
theorem kt3 {n : Nat} {w : Cond} (h : tables_1_3[n]? = some w) (hg : goodWord w = true) : w ∈ lw_tb := by
  have h2 := List.mem_of_getElem? h
  exact List.mem_filter.mpr ⟨List.mem_append_right _ (List.mem_append_right _ (List.mem_append_right _ (List.mem_append_left _ h2))), hg⟩
theorem kt4 {n : Nat} {w : Cond} (h : tables_1_4[n]? = some w) (hg : goodWord w = true) : w ∈ lw_tb := by
  have h2 := List.mem_of_getElem? h
  exact List.mem_filter.mpr ⟨List.mem_append_right _ (List.mem_append_right _ (List.mem_append_right _ (List.mem_append_right _ (List.mem_append_left _ h2)))), hg⟩
theorem kt5 {n : Nat} {w : Cond} (h : tables_1_5[n]? = some w) (hg : goodWord w = true) : w ∈ lw_tb := by
  have h2 := List.mem_of_getElem? h
  exact List.mem_filter.mpr ⟨List.mem_append_right _ (List.mem_append_right _ (List.mem_append_right _ (List.mem_append_right _ (List.mem_append_right _ (List.mem_append_left _ h2))))), hg⟩
theorem kt6 {n : Nat} {w : Cond} (h : tables_1_6[n]? = some w) (hg : goodWord w = true) : w ∈ lw_tb := by
  have h2 := List.mem_of_getElem? h
  exact List.mem_filter.mpr ⟨List.mem_append_right _ (List.mem_append_right _ (List.mem_append_right _ (List.mem_append_right _ (List.mem_append_right _ (List.mem_append_right _ (List.mem_append_left _ h2)))))), hg⟩
theorem kt7 {n : Nat} {w : Cond} (h : tables_1_7[n]? = some w) (hg : goodWord w = true) : w ∈ lw_tb := by
  have h2 := List.mem_of_getElem? h
  exact List.mem_filter.mpr ⟨List.mem_append_right _ (List.mem_append_right _ (List.mem_append_right _ (List.mem_append_right _ (List.mem_append_right _ (List.mem_append_right _ (List.mem_append_right _ (h2))))))), hg⟩
theorem kp {n : Nat} {q : MethodName × Nat} (h : lw_privs[n]? = some q) : Cond.selects q.1.cls q.1 q.1 ∈ lw_tb := List.mem_filter.mpr ⟨List.mem_append_left _ (List.mem_map.mpr ⟨q, List.mem_of_getElem? h, rfl⟩), rfl⟩
theorem k_0 : (Jvm.Cond.initialized "NineKeysRoundLaw") ∈ lw_tb := kt1 (n := 0) (by decide +kernel) rfl
theorem k_1 : (Jvm.Cond.initialized "NineKeysRound") ∈ lw_tb := kt1 (n := 1) (by decide +kernel) rfl
theorem k_2 : (Jvm.Cond.initialized "NineKeysRound$Yard") ∈ lw_tb := kt1 (n := 2) (by decide +kernel) rfl
theorem k_3 : (Jvm.Cond.initialized "NineKeysRound$Changes") ∈ lw_tb := kt1 (n := 3) (by decide +kernel) rfl
theorem k_4 : (Jvm.Cond.initialized "NineKeysRound$Law") ∈ lw_tb := kt1 (n := 4) (by decide +kernel) rfl
theorem k_5 : (Jvm.Cond.initialized "NineKeysRound$Course") ∈ lw_tb := kt1 (n := 5) (by decide +kernel) rfl
theorem k_6 : (Jvm.Cond.initialized "NineKeysRound$Sightings") ∈ lw_tb := kt1 (n := 6) (by decide +kernel) rfl
theorem k_7 : (Jvm.Cond.initialized "NineKeysRound$Tour") ∈ lw_tb := kt1 (n := 7) (by decide +kernel) rfl
theorem k_8 : (Jvm.Cond.initialized "NineKeysRound$Deed") ∈ lw_tb := kt1 (n := 8) (by decide +kernel) rfl
theorem k_9 : (Jvm.Cond.initialized "NineKeysRound$Keys") ∈ lw_tb := kt1 (n := 9) (by decide +kernel) rfl
theorem k_10 : (Jvm.Cond.initialized "NineKeysRound$Shelf") ∈ lw_tb := kt1 (n := 10) (by decide +kernel) rfl
theorem k_11 : (Jvm.Cond.initialized "NineKeysRoundModel") ∈ lw_tb := kt1 (n := 11) (by decide +kernel) rfl
theorem k_12 : (Jvm.Cond.initialized "java/lang/System") ∈ lw_tb := kt1 (n := 12) (by decide +kernel) rfl
theorem k_13 : (Jvm.Cond.initialized "java/lang/String") ∈ lw_tb := kt1 (n := 13) (by decide +kernel) rfl
theorem k_14 : (Jvm.Cond.initialized "java/lang/StringLatin1") ∈ lw_tb := kt1 (n := 14) (by decide +kernel) rfl
theorem k_15 : (Jvm.Cond.initialized "java/lang/Math") ∈ lw_tb := kt1 (n := 15) (by decide +kernel) rfl
theorem k_16 : (Jvm.Cond.initialized "java/lang/StringUTF16") ∈ lw_tb := kt1 (n := 16) (by decide +kernel) rfl
theorem k_17 : (Jvm.Cond.initialized "jdk/internal/util/Preconditions") ∈ lw_tb := kt1 (n := 17) (by decide +kernel) rfl
theorem k_18 : (Jvm.Cond.initialized "java/lang/Character") ∈ lw_tb := kt1 (n := 18) (by decide +kernel) rfl
theorem k_19 : (Jvm.Cond.initialized "java/lang/Integer") ∈ lw_tb := kt1 (n := 19) (by decide +kernel) rfl
theorem k_20 : (Jvm.Cond.classLink "NineKeysRoundLaw" (7 : Nat) "NineKeysRound") ∈ lw_tb := kt1 (n := 20) (by decide +kernel) rfl
theorem k_21 : (Jvm.Cond.instantiable "NineKeysRound" (15 : Nat)) ∈ lw_tb := kt1 (n := 21) (by decide +kernel) rfl
theorem k_22 : (Jvm.Cond.methodLink "NineKeysRoundLaw" (9 : Nat) ({ cls := "NineKeysRound", name := "<init>", desc := "()V" } : Jvm.MethodName)) ∈ lw_tb := kt1 (n := 22) (by decide +kernel) rfl
theorem k_23 : (Jvm.Cond.instanceMethod ({ cls := "NineKeysRound", name := "<init>", desc := "()V" } : Jvm.MethodName)) ∈ lw_tb := kt1 (n := 23) (by decide +kernel) rfl
theorem k_24 : (Jvm.Cond.code ({ cls := "NineKeysRound", name := "<init>", desc := "()V" } : Jvm.MethodName) prog_1_method_1_code (2 : Nat) (Option.none : Option Jvm.ClassFile.FieldType)) ∈ lw_tb := kt1 (n := 24) (by decide +kernel) rfl
theorem k_25 : (Jvm.Cond.methodLink "NineKeysRound" (1 : Nat) ({ cls := "java/lang/Object", name := "<init>", desc := "()V" } : Jvm.MethodName)) ∈ lw_tb := kt1 (n := 25) (by decide +kernel) rfl
theorem k_26 : (Jvm.Cond.instanceMethod ({ cls := "java/lang/Object", name := "<init>", desc := "()V" } : Jvm.MethodName)) ∈ lw_tb := kt1 (n := 26) (by decide +kernel) rfl
theorem k_27 : (Jvm.Cond.code ({ cls := "java/lang/Object", name := "<init>", desc := "()V" } : Jvm.MethodName) object_method_1_code (1 : Nat) (Option.none : Option Jvm.ClassFile.FieldType)) ∈ lw_tb := kt1 (n := 27) (by decide +kernel) rfl
theorem k_28 : (Jvm.Cond.classLink "NineKeysRound" (7 : Nat) "NineKeysRound$Yard") ∈ lw_tb := kt1 (n := 28) (by decide +kernel) rfl
theorem k_29 : (Jvm.Cond.instantiable "NineKeysRound$Yard" (2 : Nat)) ∈ lw_tb := kt1 (n := 29) (by decide +kernel) rfl
theorem k_30 : (Jvm.Cond.methodLink "NineKeysRound" (9 : Nat) ({ cls := "NineKeysRound$Yard", name := "<init>", desc := "()V" } : Jvm.MethodName)) ∈ lw_tb := kt1 (n := 30) (by decide +kernel) rfl
theorem k_31 : (Jvm.Cond.instanceMethod ({ cls := "NineKeysRound$Yard", name := "<init>", desc := "()V" } : Jvm.MethodName)) ∈ lw_tb := kt1 (n := 31) (by decide +kernel) rfl
theorem k_32 : (Jvm.Cond.code ({ cls := "NineKeysRound$Yard", name := "<init>", desc := "()V" } : Jvm.MethodName) prog_10_method_1_code (1 : Nat) (Option.none : Option Jvm.ClassFile.FieldType)) ∈ lw_tb := kt1 (n := 32) (by decide +kernel) rfl
theorem k_33 : (Jvm.Cond.methodLink "NineKeysRound$Yard" (3 : Nat) ({ cls := "java/lang/Object", name := "<init>", desc := "()V" } : Jvm.MethodName)) ∈ lw_tb := kt1 (n := 33) (by decide +kernel) rfl
theorem k_34 : (Jvm.Cond.fieldLink "NineKeysRound$Yard" (9 : Nat) "NineKeysRound$Yard" "told" "[I") ∈ lw_tb := kt1 (n := 34) (by decide +kernel) rfl
theorem k_35 : (Jvm.Cond.fieldLink "NineKeysRound" (127 : Nat) "NineKeysRound$Yard" "told" "[I") ∈ lw_tb := kt1 (n := 35) (by decide +kernel) rfl
theorem k_36 : (Jvm.Cond.fieldLink "NineKeysRound$Tour" (26 : Nat) "NineKeysRound$Yard" "size" "I") ∈ lw_tb := kt1 (n := 36) (by decide +kernel) rfl
theorem k_37 : (Jvm.Cond.fieldLink "NineKeysRound" (94 : Nat) "NineKeysRound$Yard" "size" "I") ∈ lw_tb := kt1 (n := 37) (by decide +kernel) rfl
theorem k_38 : (Jvm.Cond.fieldLink "NineKeysRound$Yard" (21 : Nat) "NineKeysRound$Yard" "size" "I") ∈ lw_tb := kt1 (n := 38) (by decide +kernel) rfl
theorem k_39 : (Jvm.Cond.laysFinal "NineKeysRound$Yard" "NineKeysRound$Yard" "told" "[I") ∈ lw_tb := kt1 (n := 39) (by decide +kernel) rfl
theorem k_41 : (Jvm.Cond.lays "NineKeysRound$Yard" "NineKeysRound$Yard" "size" "I") ∈ lw_tb := kt1 (n := 41) (by decide +kernel) rfl
theorem k_44 : (Jvm.Cond.arrayClass Jvm.ClassFile.FieldType.int) ∈ lw_tb := kt1 (n := 44) (by decide +kernel) rfl
theorem k_45 : (Jvm.Cond.classLink "NineKeysRound" (16 : Nat) "NineKeysRound$Changes") ∈ lw_tb := kt1 (n := 45) (by decide +kernel) rfl
theorem k_46 : (Jvm.Cond.instantiable "NineKeysRound$Changes" (5 : Nat)) ∈ lw_tb := kt1 (n := 46) (by decide +kernel) rfl
theorem k_48 : (Jvm.Cond.instanceMethod ({ cls := "NineKeysRound$Changes", name := "<init>", desc := "()V" } : Jvm.MethodName)) ∈ lw_tb := kt1 (n := 48) (by decide +kernel) rfl
theorem k_49 : (Jvm.Cond.code ({ cls := "NineKeysRound$Changes", name := "<init>", desc := "()V" } : Jvm.MethodName) prog_2_method_1_code (1 : Nat) (Option.none : Option Jvm.ClassFile.FieldType)) ∈ lw_tb := kt1 (n := 49) (by decide +kernel) rfl
theorem k_50 : (Jvm.Cond.methodLink "NineKeysRound$Changes" (1 : Nat) ({ cls := "java/lang/Object", name := "<init>", desc := "()V" } : Jvm.MethodName)) ∈ lw_tb := kt1 (n := 50) (by decide +kernel) rfl
theorem k_51 : (Jvm.Cond.fieldLink "NineKeysRound$Changes" (9 : Nat) "NineKeysRound$Changes" "place" "[I") ∈ lw_tb := kt1 (n := 51) (by decide +kernel) rfl
theorem k_52 : (Jvm.Cond.fieldLink "NineKeysRound$Changes" (13 : Nat) "NineKeysRound$Changes" "was" "[I") ∈ lw_tb := kt1 (n := 52) (by decide +kernel) rfl
theorem k_53 : (Jvm.Cond.fieldLink "NineKeysRound$Changes" (16 : Nat) "NineKeysRound$Changes" "became" "[I") ∈ lw_tb := kt1 (n := 53) (by decide +kernel) rfl
theorem k_54 : (Jvm.Cond.fieldLink "NineKeysRound$Changes" (19 : Nat) "NineKeysRound$Changes" "done" "I") ∈ lw_tb := kt1 (n := 54) (by decide +kernel) rfl
theorem k_55 : (Jvm.Cond.fieldLink "NineKeysRound" (371 : Nat) "NineKeysRound$Changes" "done" "I") ∈ lw_tb := kt1 (n := 55) (by decide +kernel) rfl
theorem k_56 : (Jvm.Cond.fieldLink "NineKeysRound$Changes" (26 : Nat) "NineKeysRound$Changes" "size" "I") ∈ lw_tb := kt1 (n := 56) (by decide +kernel) rfl
theorem k_57 : (Jvm.Cond.fieldLink "NineKeysRound" (377 : Nat) "NineKeysRound$Changes" "size" "I") ∈ lw_tb := kt1 (n := 57) (by decide +kernel) rfl
theorem k_58 : (Jvm.Cond.laysFinal "NineKeysRound$Changes" "NineKeysRound$Changes" "place" "[I") ∈ lw_tb := kt1 (n := 58) (by decide +kernel) rfl
theorem k_60 : (Jvm.Cond.laysFinal "NineKeysRound$Changes" "NineKeysRound$Changes" "was" "[I") ∈ lw_tb := kt1 (n := 60) (by decide +kernel) rfl
theorem k_62 : (Jvm.Cond.laysFinal "NineKeysRound$Changes" "NineKeysRound$Changes" "became" "[I") ∈ lw_tb := kt1 (n := 62) (by decide +kernel) rfl
theorem k_64 : (Jvm.Cond.lays "NineKeysRound$Changes" "NineKeysRound$Changes" "done" "I") ∈ lw_tb := kt1 (n := 64) (by decide +kernel) rfl
theorem k_66 : (Jvm.Cond.lays "NineKeysRound$Changes" "NineKeysRound$Changes" "size" "I") ∈ lw_tb := kt1 (n := 66) (by decide +kernel) rfl
theorem k_69 : (Jvm.Cond.classLink "NineKeysRound" (23 : Nat) "NineKeysRound$Law") ∈ lw_tb := kt1 (n := 69) (by decide +kernel) rfl
theorem k_70 : (Jvm.Cond.instantiable "NineKeysRound$Law" (10 : Nat)) ∈ lw_tb := kt1 (n := 70) (by decide +kernel) rfl
theorem k_72 : (Jvm.Cond.instanceMethod ({ cls := "NineKeysRound$Law", name := "<init>", desc := "()V" } : Jvm.MethodName)) ∈ lw_tb := kt1 (n := 72) (by decide +kernel) rfl
theorem k_73 : (Jvm.Cond.code ({ cls := "NineKeysRound$Law", name := "<init>", desc := "()V" } : Jvm.MethodName) prog_6_method_1_code (1 : Nat) (Option.none : Option Jvm.ClassFile.FieldType)) ∈ lw_tb := kt1 (n := 73) (by decide +kernel) rfl
theorem k_74 : (Jvm.Cond.methodLink "NineKeysRound$Law" (1 : Nat) ({ cls := "java/lang/Object", name := "<init>", desc := "()V" } : Jvm.MethodName)) ∈ lw_tb := kt1 (n := 74) (by decide +kernel) rfl
theorem k_75 : (Jvm.Cond.fieldLink "NineKeysRound$Law" (9 : Nat) "NineKeysRound$Law" "tape" "[I") ∈ lw_tb := kt1 (n := 75) (by decide +kernel) rfl
theorem k_76 : (Jvm.Cond.fieldLink "NineKeysRound$Law" (13 : Nat) "NineKeysRound$Law" "draft" "[I") ∈ lw_tb := kt1 (n := 76) (by decide +kernel) rfl
theorem k_77 : (Jvm.Cond.fieldLink "NineKeysRound$Law" (16 : Nat) "NineKeysRound$Law" "code" "[I") ∈ lw_tb := kt1 (n := 77) (by decide +kernel) rfl
theorem k_78 : (Jvm.Cond.fieldLink "NineKeysRound$Law" (19 : Nat) "NineKeysRound$Law" "stack" "[I") ∈ lw_tb := kt1 (n := 78) (by decide +kernel) rfl
theorem k_79 : (Jvm.Cond.fieldLink "NineKeysRound$Law" (22 : Nat) "NineKeysRound$Law" "named" "[I") ∈ lw_tb := kt1 (n := 79) (by decide +kernel) rfl
theorem k_80 : (Jvm.Cond.fieldLink "NineKeysRound$Law" (39 : Nat) "NineKeysRound$Law" "drafted" "I") ∈ lw_tb := kt1 (n := 80) (by decide +kernel) rfl
theorem k_81 : (Jvm.Cond.fieldLink "NineKeysRound$Law" (42 : Nat) "NineKeysRound$Law" "size" "I") ∈ lw_tb := kt1 (n := 81) (by decide +kernel) rfl
theorem k_82 : (Jvm.Cond.fieldLink "NineKeysRound$Law" (45 : Nat) "NineKeysRound$Law" "at" "I") ∈ lw_tb := kt1 (n := 82) (by decide +kernel) rfl
theorem k_83 : (Jvm.Cond.fieldLink "NineKeysRound$Law" (48 : Nat) "NineKeysRound$Law" "broken" "Z") ∈ lw_tb := kt1 (n := 83) (by decide +kernel) rfl
theorem k_84 : (Jvm.Cond.fieldLink "NineKeysRound$Law" (25 : Nat) "NineKeysRound$Law" "fed" "I") ∈ lw_tb := kt1 (n := 84) (by decide +kernel) rfl
theorem k_85 : (Jvm.Cond.fieldLink "NineKeysRound" (143 : Nat) "NineKeysRound$Law" "fed" "I") ∈ lw_tb := kt1 (n := 85) (by decide +kernel) rfl
theorem k_86 : (Jvm.Cond.laysFinal "NineKeysRound$Law" "NineKeysRound$Law" "tape" "[I") ∈ lw_tb := kt1 (n := 86) (by decide +kernel) rfl
theorem k_88 : (Jvm.Cond.laysFinal "NineKeysRound$Law" "NineKeysRound$Law" "draft" "[I") ∈ lw_tb := kt1 (n := 88) (by decide +kernel) rfl
theorem k_90 : (Jvm.Cond.laysFinal "NineKeysRound$Law" "NineKeysRound$Law" "code" "[I") ∈ lw_tb := kt1 (n := 90) (by decide +kernel) rfl
theorem k_92 : (Jvm.Cond.laysFinal "NineKeysRound$Law" "NineKeysRound$Law" "stack" "[I") ∈ lw_tb := kt1 (n := 92) (by decide +kernel) rfl
theorem k_94 : (Jvm.Cond.laysFinal "NineKeysRound$Law" "NineKeysRound$Law" "named" "[I") ∈ lw_tb := kt1 (n := 94) (by decide +kernel) rfl
theorem k_96 : (Jvm.Cond.lays "NineKeysRound$Law" "NineKeysRound$Law" "drafted" "I") ∈ lw_tb := kt1 (n := 96) (by decide +kernel) rfl
theorem k_98 : (Jvm.Cond.lays "NineKeysRound$Law" "NineKeysRound$Law" "size" "I") ∈ lw_tb := kt1 (n := 98) (by decide +kernel) rfl
theorem k_100 : (Jvm.Cond.lays "NineKeysRound$Law" "NineKeysRound$Law" "at" "I") ∈ lw_tb := kt1 (n := 100) (by decide +kernel) rfl
theorem k_102 : (Jvm.Cond.lays "NineKeysRound$Law" "NineKeysRound$Law" "broken" "Z") ∈ lw_tb := kt1 (n := 102) (by decide +kernel) rfl
theorem k_104 : (Jvm.Cond.lays "NineKeysRound$Law" "NineKeysRound$Law" "fed" "I") ∈ lw_tb := kt1 (n := 104) (by decide +kernel) rfl
theorem k_107 : (Jvm.Cond.classLink "NineKeysRound" (30 : Nat) "NineKeysRound$Shelf") ∈ lw_tb := kt1 (n := 107) (by decide +kernel) rfl
theorem k_109 : (Jvm.Cond.classLink "NineKeysRound" (36 : Nat) "NineKeysRound$Course") ∈ lw_tb := kt1 (n := 109) (by decide +kernel) rfl
theorem k_110 : (Jvm.Cond.instantiable "NineKeysRound$Course" (6 : Nat)) ∈ lw_tb := kt1 (n := 110) (by decide +kernel) rfl
theorem k_111 : (Jvm.Cond.methodLink "NineKeysRound" (38 : Nat) ({ cls := "NineKeysRound$Course", name := "<init>", desc := "(LNineKeysRound$Yard;)V" } : Jvm.MethodName)) ∈ lw_tb := kt1 (n := 111) (by decide +kernel) rfl
theorem k_112 : (Jvm.Cond.instanceMethod ({ cls := "NineKeysRound$Course", name := "<init>", desc := "(LNineKeysRound$Yard;)V" } : Jvm.MethodName)) ∈ lw_tb := kt1 (n := 112) (by decide +kernel) rfl
theorem k_113 : (Jvm.Cond.code ({ cls := "NineKeysRound$Course", name := "<init>", desc := "(LNineKeysRound$Yard;)V" } : Jvm.MethodName) prog_3_method_1_code (2 : Nat) (Option.none : Option Jvm.ClassFile.FieldType)) ∈ lw_tb := kt1 (n := 113) (by decide +kernel) rfl
theorem k_114 : (Jvm.Cond.methodLink "NineKeysRound$Course" (3 : Nat) ({ cls := "java/lang/Object", name := "<init>", desc := "()V" } : Jvm.MethodName)) ∈ lw_tb := kt1 (n := 114) (by decide +kernel) rfl
theorem k_115 : (Jvm.Cond.fieldLink "NineKeysRound$Course" (18 : Nat) "NineKeysRound$Course" "yard" "LNineKeysRound$Yard;") ∈ lw_tb := kt1 (n := 115) (by decide +kernel) rfl
theorem k_116 : (Jvm.Cond.fieldLink "NineKeysRound$Course" (11 : Nat) "NineKeysRound$Course" "stops" "[I") ∈ lw_tb := kt1 (n := 116) (by decide +kernel) rfl
theorem k_117 : (Jvm.Cond.fieldLink "NineKeysRound$Course" (15 : Nat) "NineKeysRound$Course" "offsets" "[I") ∈ lw_tb := kt1 (n := 117) (by decide +kernel) rfl
theorem k_118 : (Jvm.Cond.fieldLink "NineKeysRound$Course" (48 : Nat) "NineKeysRound$Course" "lead" "I") ∈ lw_tb := kt1 (n := 118) (by decide +kernel) rfl
theorem k_119 : (Jvm.Cond.fieldLink "NineKeysRound$Course" (22 : Nat) "NineKeysRound$Course" "size" "I") ∈ lw_tb := kt1 (n := 119) (by decide +kernel) rfl
theorem k_120 : (Jvm.Cond.fieldLink "NineKeysRound" (156 : Nat) "NineKeysRound$Course" "size" "I") ∈ lw_tb := kt1 (n := 120) (by decide +kernel) rfl
theorem k_121 : (Jvm.Cond.fieldLink "NineKeysRound$Course" (51 : Nat) "NineKeysRound$Course" "period" "I") ∈ lw_tb := kt1 (n := 121) (by decide +kernel) rfl
theorem k_122 : (Jvm.Cond.fieldLink "NineKeysRound" (157 : Nat) "NineKeysRound$Course" "period" "I") ∈ lw_tb := kt1 (n := 122) (by decide +kernel) rfl
theorem k_123 : (Jvm.Cond.laysFinal "NineKeysRound$Course" "NineKeysRound$Course" "yard" "LNineKeysRound$Yard;") ∈ lw_tb := kt1 (n := 123) (by decide +kernel) rfl
theorem k_125 : (Jvm.Cond.laysFinal "NineKeysRound$Course" "NineKeysRound$Course" "stops" "[I") ∈ lw_tb := kt1 (n := 125) (by decide +kernel) rfl
theorem k_127 : (Jvm.Cond.laysFinal "NineKeysRound$Course" "NineKeysRound$Course" "offsets" "[I") ∈ lw_tb := kt1 (n := 127) (by decide +kernel) rfl
theorem k_129 : (Jvm.Cond.lays "NineKeysRound$Course" "NineKeysRound$Course" "lead" "I") ∈ lw_tb := kt1 (n := 129) (by decide +kernel) rfl
theorem k_131 : (Jvm.Cond.lays "NineKeysRound$Course" "NineKeysRound$Course" "size" "I") ∈ lw_tb := kt1 (n := 131) (by decide +kernel) rfl
theorem k_133 : (Jvm.Cond.lays "NineKeysRound$Course" "NineKeysRound$Course" "period" "I") ∈ lw_tb := kt1 (n := 133) (by decide +kernel) rfl
theorem k_136 : (Jvm.Cond.classLink "NineKeysRound" (48 : Nat) "NineKeysRound$Sightings") ∈ lw_tb := kt1 (n := 136) (by decide +kernel) rfl
theorem k_137 : (Jvm.Cond.instantiable "NineKeysRound$Sightings" (3 : Nat)) ∈ lw_tb := kt1 (n := 137) (by decide +kernel) rfl
theorem k_139 : (Jvm.Cond.instanceMethod ({ cls := "NineKeysRound$Sightings", name := "<init>", desc := "()V" } : Jvm.MethodName)) ∈ lw_tb := kt1 (n := 139) (by decide +kernel) rfl
theorem k_140 : (Jvm.Cond.code ({ cls := "NineKeysRound$Sightings", name := "<init>", desc := "()V" } : Jvm.MethodName) prog_8_method_1_code (1 : Nat) (Option.none : Option Jvm.ClassFile.FieldType)) ∈ lw_tb := kt1 (n := 140) (by decide +kernel) rfl
theorem k_141 : (Jvm.Cond.methodLink "NineKeysRound$Sightings" (3 : Nat) ({ cls := "java/lang/Object", name := "<init>", desc := "()V" } : Jvm.MethodName)) ∈ lw_tb := kt1 (n := 141) (by decide +kernel) rfl
theorem k_142 : (Jvm.Cond.fieldLink "NineKeysRound$Sightings" (11 : Nat) "NineKeysRound$Sightings" "minutes" "[I") ∈ lw_tb := kt1 (n := 142) (by decide +kernel) rfl
theorem k_143 : (Jvm.Cond.fieldLink "NineKeysRound$Sightings" (15 : Nat) "NineKeysRound$Sightings" "size" "I") ∈ lw_tb := kt1 (n := 143) (by decide +kernel) rfl
theorem k_144 : (Jvm.Cond.fieldLink "NineKeysRound$Sightings" (25 : Nat) "NineKeysRound$Sightings" "width" "I") ∈ lw_tb := kt1 (n := 144) (by decide +kernel) rfl
theorem k_145 : (Jvm.Cond.laysFinal "NineKeysRound$Sightings" "NineKeysRound$Sightings" "minutes" "[I") ∈ lw_tb := kt1 (n := 145) (by decide +kernel) rfl
theorem k_147 : (Jvm.Cond.lays "NineKeysRound$Sightings" "NineKeysRound$Sightings" "size" "I") ∈ lw_tb := kt1 (n := 147) (by decide +kernel) rfl
theorem k_149 : (Jvm.Cond.lays "NineKeysRound$Sightings" "NineKeysRound$Sightings" "width" "I") ∈ lw_tb := kt1 (n := 149) (by decide +kernel) rfl
theorem k_152 : (Jvm.Cond.classLink "NineKeysRound" (55 : Nat) "NineKeysRound$Tour") ∈ lw_tb := kt1 (n := 152) (by decide +kernel) rfl
theorem k_153 : (Jvm.Cond.instantiable "NineKeysRound$Tour" (4 : Nat)) ∈ lw_tb := kt1 (n := 153) (by decide +kernel) rfl
theorem k_154 : (Jvm.Cond.methodLink "NineKeysRound" (57 : Nat) ({ cls := "NineKeysRound$Tour", name := "<init>", desc := "(LNineKeysRound$Yard;)V" } : Jvm.MethodName)) ∈ lw_tb := kt1 (n := 154) (by decide +kernel) rfl
theorem k_155 : (Jvm.Cond.instanceMethod ({ cls := "NineKeysRound$Tour", name := "<init>", desc := "(LNineKeysRound$Yard;)V" } : Jvm.MethodName)) ∈ lw_tb := kt1 (n := 155) (by decide +kernel) rfl
theorem k_156 : (Jvm.Cond.code ({ cls := "NineKeysRound$Tour", name := "<init>", desc := "(LNineKeysRound$Yard;)V" } : Jvm.MethodName) prog_9_method_1_code (2 : Nat) (Option.none : Option Jvm.ClassFile.FieldType)) ∈ lw_tb := kt1 (n := 156) (by decide +kernel) rfl
theorem k_157 : (Jvm.Cond.methodLink "NineKeysRound$Tour" (3 : Nat) ({ cls := "java/lang/Object", name := "<init>", desc := "()V" } : Jvm.MethodName)) ∈ lw_tb := kt1 (n := 157) (by decide +kernel) rfl
theorem k_158 : (Jvm.Cond.fieldLink "NineKeysRound$Tour" (18 : Nat) "NineKeysRound$Tour" "yard" "LNineKeysRound$Yard;") ∈ lw_tb := kt1 (n := 158) (by decide +kernel) rfl
theorem k_159 : (Jvm.Cond.fieldLink "NineKeysRound$Tour" (9 : Nat) "NineKeysRound$Tour" "member" "[I") ∈ lw_tb := kt1 (n := 159) (by decide +kernel) rfl
theorem k_160 : (Jvm.Cond.fieldLink "NineKeysRound" (231 : Nat) "NineKeysRound$Tour" "member" "[I") ∈ lw_tb := kt1 (n := 160) (by decide +kernel) rfl
theorem k_161 : (Jvm.Cond.fieldLink "NineKeysRound$Tour" (15 : Nat) "NineKeysRound$Tour" "rest" "[I") ∈ lw_tb := kt1 (n := 161) (by decide +kernel) rfl
theorem k_162 : (Jvm.Cond.fieldLink "NineKeysRound$Tour" (22 : Nat) "NineKeysRound$Tour" "size" "I") ∈ lw_tb := kt1 (n := 162) (by decide +kernel) rfl
theorem k_163 : (Jvm.Cond.fieldLink "NineKeysRound" (224 : Nat) "NineKeysRound$Tour" "size" "I") ∈ lw_tb := kt1 (n := 163) (by decide +kernel) rfl
theorem k_164 : (Jvm.Cond.laysFinal "NineKeysRound$Tour" "NineKeysRound$Tour" "yard" "LNineKeysRound$Yard;") ∈ lw_tb := kt1 (n := 164) (by decide +kernel) rfl
theorem k_166 : (Jvm.Cond.laysFinal "NineKeysRound$Tour" "NineKeysRound$Tour" "member" "[I") ∈ lw_tb := kt1 (n := 166) (by decide +kernel) rfl
theorem k_168 : (Jvm.Cond.laysFinal "NineKeysRound$Tour" "NineKeysRound$Tour" "rest" "[I") ∈ lw_tb := kt1 (n := 168) (by decide +kernel) rfl
theorem k_170 : (Jvm.Cond.lays "NineKeysRound$Tour" "NineKeysRound$Tour" "size" "I") ∈ lw_tb := kt1 (n := 170) (by decide +kernel) rfl
theorem k_173 : (Jvm.Cond.classLink "NineKeysRound" (62 : Nat) "NineKeysRound$Deed") ∈ lw_tb := kt1 (n := 173) (by decide +kernel) rfl
theorem k_174 : (Jvm.Cond.instantiable "NineKeysRound$Deed" (7 : Nat)) ∈ lw_tb := kt1 (n := 174) (by decide +kernel) rfl
theorem k_176 : (Jvm.Cond.instanceMethod ({ cls := "NineKeysRound$Deed", name := "<init>", desc := "()V" } : Jvm.MethodName)) ∈ lw_tb := kt1 (n := 176) (by decide +kernel) rfl
theorem k_177 : (Jvm.Cond.code ({ cls := "NineKeysRound$Deed", name := "<init>", desc := "()V" } : Jvm.MethodName) prog_4_method_1_code (1 : Nat) (Option.none : Option Jvm.ClassFile.FieldType)) ∈ lw_tb := kt1 (n := 177) (by decide +kernel) rfl
theorem k_178 : (Jvm.Cond.methodLink "NineKeysRound$Deed" (3 : Nat) ({ cls := "java/lang/Object", name := "<init>", desc := "()V" } : Jvm.MethodName)) ∈ lw_tb := kt1 (n := 178) (by decide +kernel) rfl
theorem k_179 : (Jvm.Cond.fieldLink "NineKeysRound$Deed" (9 : Nat) "NineKeysRound$Deed" "dented" "[I") ∈ lw_tb := kt1 (n := 179) (by decide +kernel) rfl
theorem k_180 : (Jvm.Cond.fieldLink "NineKeysRound" (137 : Nat) "NineKeysRound$Deed" "dented" "[I") ∈ lw_tb := kt1 (n := 180) (by decide +kernel) rfl
theorem k_181 : (Jvm.Cond.fieldLink "NineKeysRound$Deed" (17 : Nat) "NineKeysRound$Deed" "at" "I") ∈ lw_tb := kt1 (n := 181) (by decide +kernel) rfl
theorem k_182 : (Jvm.Cond.fieldLink "NineKeysRound" (331 : Nat) "NineKeysRound$Deed" "at" "I") ∈ lw_tb := kt1 (n := 182) (by decide +kernel) rfl
theorem k_183 : (Jvm.Cond.fieldLink "NineKeysRound$Deed" (21 : Nat) "NineKeysRound$Deed" "now" "I") ∈ lw_tb := kt1 (n := 183) (by decide +kernel) rfl
theorem k_184 : (Jvm.Cond.fieldLink "NineKeysRound" (338 : Nat) "NineKeysRound$Deed" "now" "I") ∈ lw_tb := kt1 (n := 184) (by decide +kernel) rfl
theorem k_185 : (Jvm.Cond.fieldLink "NineKeysRound$Deed" (24 : Nat) "NineKeysRound$Deed" "walked" "I") ∈ lw_tb := kt1 (n := 185) (by decide +kernel) rfl
theorem k_186 : (Jvm.Cond.fieldLink "NineKeysRound" (347 : Nat) "NineKeysRound$Deed" "walked" "I") ∈ lw_tb := kt1 (n := 186) (by decide +kernel) rfl
theorem k_187 : (Jvm.Cond.fieldLink "NineKeysRound$Deed" (30 : Nat) "NineKeysRound$Deed" "dents" "I") ∈ lw_tb := kt1 (n := 187) (by decide +kernel) rfl
theorem k_188 : (Jvm.Cond.fieldLink "NineKeysRound" (350 : Nat) "NineKeysRound$Deed" "dents" "I") ∈ lw_tb := kt1 (n := 188) (by decide +kernel) rfl
theorem k_189 : (Jvm.Cond.fieldLink "NineKeysRound$Deed" (27 : Nat) "NineKeysRound$Deed" "stood" "I") ∈ lw_tb := kt1 (n := 189) (by decide +kernel) rfl
theorem k_190 : (Jvm.Cond.fieldLink "NineKeysRound" (353 : Nat) "NineKeysRound$Deed" "stood" "I") ∈ lw_tb := kt1 (n := 190) (by decide +kernel) rfl
theorem k_191 : (Jvm.Cond.fieldLink "NineKeysRound$Deed" (33 : Nat) "NineKeysRound$Deed" "waited" "I") ∈ lw_tb := kt1 (n := 191) (by decide +kernel) rfl
theorem k_192 : (Jvm.Cond.fieldLink "NineKeysRound" (356 : Nat) "NineKeysRound$Deed" "waited" "I") ∈ lw_tb := kt1 (n := 192) (by decide +kernel) rfl
theorem k_193 : (Jvm.Cond.laysFinal "NineKeysRound$Deed" "NineKeysRound$Deed" "dented" "[I") ∈ lw_tb := kt1 (n := 193) (by decide +kernel) rfl
theorem k_195 : (Jvm.Cond.lays "NineKeysRound$Deed" "NineKeysRound$Deed" "at" "I") ∈ lw_tb := kt1 (n := 195) (by decide +kernel) rfl
theorem k_197 : (Jvm.Cond.lays "NineKeysRound$Deed" "NineKeysRound$Deed" "now" "I") ∈ lw_tb := kt1 (n := 197) (by decide +kernel) rfl
theorem k_199 : (Jvm.Cond.lays "NineKeysRound$Deed" "NineKeysRound$Deed" "walked" "I") ∈ lw_tb := kt1 (n := 199) (by decide +kernel) rfl
theorem k_201 : (Jvm.Cond.lays "NineKeysRound$Deed" "NineKeysRound$Deed" "dents" "I") ∈ lw_tb := kt1 (n := 201) (by decide +kernel) rfl
theorem k_203 : (Jvm.Cond.lays "NineKeysRound$Deed" "NineKeysRound$Deed" "stood" "I") ∈ lw_tb := kt1 (n := 203) (by decide +kernel) rfl
theorem k_205 : (Jvm.Cond.lays "NineKeysRound$Deed" "NineKeysRound$Deed" "waited" "I") ∈ lw_tb := kt1 (n := 205) (by decide +kernel) rfl
theorem k_208 : (Jvm.Cond.classLink "NineKeysRound" (72 : Nat) "NineKeysRound$Keys") ∈ lw_tb := kt1 (n := 208) (by decide +kernel) rfl
theorem k_209 : (Jvm.Cond.instantiable "NineKeysRound$Keys" (5 : Nat)) ∈ lw_tb := kt1 (n := 209) (by decide +kernel) rfl
theorem k_211 : (Jvm.Cond.instanceMethod ({ cls := "NineKeysRound$Keys", name := "<init>", desc := "()V" } : Jvm.MethodName)) ∈ lw_tb := kt1 (n := 211) (by decide +kernel) rfl
theorem k_212 : (Jvm.Cond.code ({ cls := "NineKeysRound$Keys", name := "<init>", desc := "()V" } : Jvm.MethodName) prog_5_method_1_code (1 : Nat) (Option.none : Option Jvm.ClassFile.FieldType)) ∈ lw_tb := kt1 (n := 212) (by decide +kernel) rfl
theorem k_213 : (Jvm.Cond.methodLink "NineKeysRound$Keys" (3 : Nat) ({ cls := "java/lang/Object", name := "<init>", desc := "()V" } : Jvm.MethodName)) ∈ lw_tb := kt1 (n := 213) (by decide +kernel) rfl
theorem k_214 : (Jvm.Cond.fieldLink "NineKeysRound$Keys" (11 : Nat) "NineKeysRound$Keys" "kinds" "[I") ∈ lw_tb := kt1 (n := 214) (by decide +kernel) rfl
theorem k_215 : (Jvm.Cond.fieldLink "NineKeysRound$Keys" (15 : Nat) "NineKeysRound$Keys" "ranAs" "[I") ∈ lw_tb := kt1 (n := 215) (by decide +kernel) rfl
theorem k_216 : (Jvm.Cond.fieldLink "NineKeysRound" (389 : Nat) "NineKeysRound$Keys" "ranAs" "[I") ∈ lw_tb := kt1 (n := 216) (by decide +kernel) rfl
theorem k_217 : (Jvm.Cond.fieldLink "NineKeysRound$Keys" (25 : Nat) "NineKeysRound$Keys" "size" "I") ∈ lw_tb := kt1 (n := 217) (by decide +kernel) rfl
theorem k_218 : (Jvm.Cond.fieldLink "NineKeysRound" (436 : Nat) "NineKeysRound$Keys" "size" "I") ∈ lw_tb := kt1 (n := 218) (by decide +kernel) rfl
theorem k_219 : (Jvm.Cond.fieldLink "NineKeysRound$Keys" (32 : Nat) "NineKeysRound$Keys" "ran" "I") ∈ lw_tb := kt1 (n := 219) (by decide +kernel) rfl
theorem k_220 : (Jvm.Cond.fieldLink "NineKeysRound" (437 : Nat) "NineKeysRound$Keys" "ran" "I") ∈ lw_tb := kt1 (n := 220) (by decide +kernel) rfl
theorem k_221 : (Jvm.Cond.fieldLink "NineKeysRound$Keys" (41 : Nat) "NineKeysRound$Keys" "number" "I") ∈ lw_tb := kt1 (n := 221) (by decide +kernel) rfl
theorem k_222 : (Jvm.Cond.laysFinal "NineKeysRound$Keys" "NineKeysRound$Keys" "kinds" "[I") ∈ lw_tb := kt1 (n := 222) (by decide +kernel) rfl
theorem k_224 : (Jvm.Cond.laysFinal "NineKeysRound$Keys" "NineKeysRound$Keys" "ranAs" "[I") ∈ lw_tb := kt1 (n := 224) (by decide +kernel) rfl
theorem k_226 : (Jvm.Cond.lays "NineKeysRound$Keys" "NineKeysRound$Keys" "size" "I") ∈ lw_tb := kt1 (n := 226) (by decide +kernel) rfl
theorem k_228 : (Jvm.Cond.lays "NineKeysRound$Keys" "NineKeysRound$Keys" "ran" "I") ∈ lw_tb := kt1 (n := 228) (by decide +kernel) rfl
theorem k_230 : (Jvm.Cond.lays "NineKeysRound$Keys" "NineKeysRound$Keys" "number" "I") ∈ lw_tb := kt1 (n := 230) (by decide +kernel) rfl
theorem k_233 : (Jvm.Cond.instantiable "NineKeysRound$Shelf" (5 : Nat)) ∈ lw_tb := kt1 (n := 233) (by decide +kernel) rfl
theorem k_235 : (Jvm.Cond.instanceMethod ({ cls := "NineKeysRound$Shelf", name := "<init>", desc := "()V" } : Jvm.MethodName)) ∈ lw_tb := kt1 (n := 235) (by decide +kernel) rfl
theorem k_236 : (Jvm.Cond.code ({ cls := "NineKeysRound$Shelf", name := "<init>", desc := "()V" } : Jvm.MethodName) prog_7_method_1_code (1 : Nat) (Option.none : Option Jvm.ClassFile.FieldType)) ∈ lw_tb := kt1 (n := 236) (by decide +kernel) rfl
theorem k_237 : (Jvm.Cond.methodLink "NineKeysRound$Shelf" (3 : Nat) ({ cls := "java/lang/Object", name := "<init>", desc := "()V" } : Jvm.MethodName)) ∈ lw_tb := kt1 (n := 237) (by decide +kernel) rfl
theorem k_238 : (Jvm.Cond.fieldLink "NineKeysRound$Shelf" (11 : Nat) "NineKeysRound$Shelf" "cells" "[J") ∈ lw_tb := kt1 (n := 238) (by decide +kernel) rfl
theorem k_239 : (Jvm.Cond.fieldLink "NineKeysRound" (417 : Nat) "NineKeysRound$Shelf" "cells" "[J") ∈ lw_tb := kt1 (n := 239) (by decide +kernel) rfl
theorem k_240 : (Jvm.Cond.fieldLink "NineKeysRound$Shelf" (15 : Nat) "NineKeysRound$Shelf" "holds" "I") ∈ lw_tb := kt2 (n := 0) (by decide +kernel) rfl
theorem k_241 : (Jvm.Cond.fieldLink "NineKeysRound" (304 : Nat) "NineKeysRound$Shelf" "holds" "I") ∈ lw_tb := kt2 (n := 1) (by decide +kernel) rfl
theorem k_242 : (Jvm.Cond.fieldLink "NineKeysRound$Shelf" (19 : Nat) "NineKeysRound$Shelf" "key" "I") ∈ lw_tb := kt2 (n := 2) (by decide +kernel) rfl
theorem k_243 : (Jvm.Cond.fieldLink "NineKeysRound" (427 : Nat) "NineKeysRound$Shelf" "key" "I") ∈ lw_tb := kt2 (n := 3) (by decide +kernel) rfl
theorem k_244 : (Jvm.Cond.fieldLink "NineKeysRound$Shelf" (25 : Nat) "NineKeysRound$Shelf" "sort" "I") ∈ lw_tb := kt2 (n := 4) (by decide +kernel) rfl
theorem k_245 : (Jvm.Cond.fieldLink "NineKeysRound" (411 : Nat) "NineKeysRound$Shelf" "sort" "I") ∈ lw_tb := kt2 (n := 5) (by decide +kernel) rfl
theorem k_246 : (Jvm.Cond.fieldLink "NineKeysRound$Course" (26 : Nat) "NineKeysRound$Shelf" "size" "I") ∈ lw_tb := kt2 (n := 6) (by decide +kernel) rfl
theorem k_247 : (Jvm.Cond.fieldLink "NineKeysRound$Shelf" (22 : Nat) "NineKeysRound$Shelf" "size" "I") ∈ lw_tb := kt2 (n := 7) (by decide +kernel) rfl
theorem k_248 : (Jvm.Cond.fieldLink "NineKeysRound" (118 : Nat) "NineKeysRound$Shelf" "size" "I") ∈ lw_tb := kt2 (n := 8) (by decide +kernel) rfl
theorem k_249 : (Jvm.Cond.laysFinal "NineKeysRound$Shelf" "NineKeysRound$Shelf" "cells" "[J") ∈ lw_tb := kt2 (n := 9) (by decide +kernel) rfl
theorem k_251 : (Jvm.Cond.lays "NineKeysRound$Shelf" "NineKeysRound$Shelf" "holds" "I") ∈ lw_tb := kt2 (n := 11) (by decide +kernel) rfl
theorem k_253 : (Jvm.Cond.lays "NineKeysRound$Shelf" "NineKeysRound$Shelf" "key" "I") ∈ lw_tb := kt2 (n := 13) (by decide +kernel) rfl
theorem k_255 : (Jvm.Cond.lays "NineKeysRound$Shelf" "NineKeysRound$Shelf" "sort" "I") ∈ lw_tb := kt2 (n := 15) (by decide +kernel) rfl
theorem k_257 : (Jvm.Cond.lays "NineKeysRound$Shelf" "NineKeysRound$Shelf" "size" "I") ∈ lw_tb := kt2 (n := 17) (by decide +kernel) rfl
theorem k_260 : (Jvm.Cond.arrayClass Jvm.ClassFile.FieldType.long) ∈ lw_tb := kt2 (n := 20) (by decide +kernel) rfl
theorem k_261 : (Jvm.Cond.fieldLink "NineKeysRound" (10 : Nat) "NineKeysRound" "yard" "LNineKeysRound$Yard;") ∈ lw_tb := kt2 (n := 21) (by decide +kernel) rfl
theorem k_262 : (Jvm.Cond.fieldLink "NineKeysRound" (19 : Nat) "NineKeysRound" "changes" "LNineKeysRound$Changes;") ∈ lw_tb := kt2 (n := 22) (by decide +kernel) rfl
theorem k_263 : (Jvm.Cond.fieldLink "NineKeysRound" (26 : Nat) "NineKeysRound" "theLaw" "LNineKeysRound$Law;") ∈ lw_tb := kt2 (n := 23) (by decide +kernel) rfl
theorem k_264 : (Jvm.Cond.fieldLink "NineKeysRound" (32 : Nat) "NineKeysRound" "shelves" "[LNineKeysRound$Shelf;") ∈ lw_tb := kt2 (n := 24) (by decide +kernel) rfl
theorem k_265 : (Jvm.Cond.fieldLink "NineKeysRound" (41 : Nat) "NineKeysRound" "forth" "LNineKeysRound$Course;") ∈ lw_tb := kt2 (n := 25) (by decide +kernel) rfl
theorem k_266 : (Jvm.Cond.fieldLink "NineKeysRound" (45 : Nat) "NineKeysRound" "backward" "LNineKeysRound$Course;") ∈ lw_tb := kt2 (n := 26) (by decide +kernel) rfl
theorem k_267 : (Jvm.Cond.fieldLink "NineKeysRound" (51 : Nat) "NineKeysRound" "sightings" "LNineKeysRound$Sightings;") ∈ lw_tb := kt2 (n := 27) (by decide +kernel) rfl
theorem k_268 : (Jvm.Cond.fieldLink "NineKeysRound" (58 : Nat) "NineKeysRound" "tour" "LNineKeysRound$Tour;") ∈ lw_tb := kt2 (n := 28) (by decide +kernel) rfl
theorem k_269 : (Jvm.Cond.fieldLink "NineKeysRound" (65 : Nat) "NineKeysRound" "deed" "LNineKeysRound$Deed;") ∈ lw_tb := kt2 (n := 29) (by decide +kernel) rfl
theorem k_270 : (Jvm.Cond.fieldLink "NineKeysRound" (69 : Nat) "NineKeysRound" "kept" "LNineKeysRound$Deed;") ∈ lw_tb := kt2 (n := 30) (by decide +kernel) rfl
theorem k_271 : (Jvm.Cond.fieldLink "NineKeysRound" (75 : Nat) "NineKeysRound" "keys" "LNineKeysRound$Keys;") ∈ lw_tb := kt2 (n := 31) (by decide +kernel) rfl
theorem k_272 : (Jvm.Cond.fieldLink "NineKeysRound" (79 : Nat) "NineKeysRound" "free" "[I") ∈ lw_tb := kt2 (n := 32) (by decide +kernel) rfl
theorem k_273 : (Jvm.Cond.fieldLink "NineKeysRound" (83 : Nat) "NineKeysRound" "widest" "[I") ∈ lw_tb := kt2 (n := 33) (by decide +kernel) rfl
theorem k_274 : (Jvm.Cond.fieldLink "NineKeysRound" (86 : Nat) "NineKeysRound" "order" "[I") ∈ lw_tb := kt2 (n := 34) (by decide +kernel) rfl
theorem k_275 : (Jvm.Cond.fieldLink "NineKeysRound" (363 : Nat) "NineKeysRound" "hasImage" "Z") ∈ lw_tb := kt2 (n := 35) (by decide +kernel) rfl
theorem k_276 : (Jvm.Cond.laysFinal "NineKeysRound" "NineKeysRound" "yard" "LNineKeysRound$Yard;") ∈ lw_tb := kt2 (n := 36) (by decide +kernel) rfl
theorem k_278 : (Jvm.Cond.laysFinal "NineKeysRound" "NineKeysRound" "changes" "LNineKeysRound$Changes;") ∈ lw_tb := kt2 (n := 38) (by decide +kernel) rfl
theorem k_280 : (Jvm.Cond.laysFinal "NineKeysRound" "NineKeysRound" "theLaw" "LNineKeysRound$Law;") ∈ lw_tb := kt2 (n := 40) (by decide +kernel) rfl
theorem k_282 : (Jvm.Cond.laysFinal "NineKeysRound" "NineKeysRound" "shelves" "[LNineKeysRound$Shelf;") ∈ lw_tb := kt2 (n := 42) (by decide +kernel) rfl
theorem k_284 : (Jvm.Cond.laysFinal "NineKeysRound" "NineKeysRound" "forth" "LNineKeysRound$Course;") ∈ lw_tb := kt2 (n := 44) (by decide +kernel) rfl
theorem k_286 : (Jvm.Cond.laysFinal "NineKeysRound" "NineKeysRound" "backward" "LNineKeysRound$Course;") ∈ lw_tb := kt2 (n := 46) (by decide +kernel) rfl
theorem k_288 : (Jvm.Cond.laysFinal "NineKeysRound" "NineKeysRound" "sightings" "LNineKeysRound$Sightings;") ∈ lw_tb := kt2 (n := 48) (by decide +kernel) rfl
theorem k_290 : (Jvm.Cond.laysFinal "NineKeysRound" "NineKeysRound" "tour" "LNineKeysRound$Tour;") ∈ lw_tb := kt2 (n := 50) (by decide +kernel) rfl
theorem k_292 : (Jvm.Cond.laysFinal "NineKeysRound" "NineKeysRound" "deed" "LNineKeysRound$Deed;") ∈ lw_tb := kt2 (n := 52) (by decide +kernel) rfl
theorem k_294 : (Jvm.Cond.laysFinal "NineKeysRound" "NineKeysRound" "kept" "LNineKeysRound$Deed;") ∈ lw_tb := kt2 (n := 54) (by decide +kernel) rfl
theorem k_296 : (Jvm.Cond.laysFinal "NineKeysRound" "NineKeysRound" "keys" "LNineKeysRound$Keys;") ∈ lw_tb := kt2 (n := 56) (by decide +kernel) rfl
theorem k_298 : (Jvm.Cond.laysFinal "NineKeysRound" "NineKeysRound" "free" "[I") ∈ lw_tb := kt2 (n := 58) (by decide +kernel) rfl
theorem k_300 : (Jvm.Cond.laysFinal "NineKeysRound" "NineKeysRound" "widest" "[I") ∈ lw_tb := kt2 (n := 60) (by decide +kernel) rfl
theorem k_302 : (Jvm.Cond.laysFinal "NineKeysRound" "NineKeysRound" "order" "[I") ∈ lw_tb := kt2 (n := 62) (by decide +kernel) rfl
theorem k_304 : (Jvm.Cond.lays "NineKeysRound" "NineKeysRound" "hasImage" "Z") ∈ lw_tb := kt2 (n := 64) (by decide +kernel) rfl
theorem k_307 : (Jvm.Cond.methodLink "NineKeysRoundLaw" (13 : Nat) ({ cls := "NineKeysRound", name := "post", desc := "(I)I" } : Jvm.MethodName)) ∈ lw_tb := kt2 (n := 67) (by decide +kernel) rfl
theorem k_308 : (Jvm.Cond.instanceMethod ({ cls := "NineKeysRound", name := "post", desc := "(I)I" } : Jvm.MethodName)) ∈ lw_tb := kt2 (n := 68) (by decide +kernel) rfl
theorem k_309 : (Jvm.Cond.selects "NineKeysRound" ({ cls := "NineKeysRound", name := "post", desc := "(I)I" } : Jvm.MethodName) ({ cls := "NineKeysRound", name := "post", desc := "(I)I" } : Jvm.MethodName)) ∈ lw_tb := kt2 (n := 69) (by decide +kernel) rfl
theorem k_310 : (Jvm.Cond.code ({ cls := "NineKeysRound", name := "post", desc := "(I)I" } : Jvm.MethodName) prog_1_method_2_code (2 : Nat) (Option.some Jvm.ClassFile.FieldType.int)) ∈ lw_tb := kt2 (n := 70) (by decide +kernel) rfl
theorem k_311 : (Jvm.Cond.methodLink "NineKeysRound" (90 : Nat) ({ cls := "NineKeysRound$Yard", name := "fits", desc := "(II)Z" } : Jvm.MethodName)) ∈ lw_tb := kt2 (n := 71) (by decide +kernel) rfl
theorem k_312 : (Jvm.Cond.static ({ cls := "NineKeysRound$Yard", name := "fits", desc := "(II)Z" } : Jvm.MethodName)) ∈ lw_tb := kt2 (n := 72) (by decide +kernel) rfl
theorem k_313 : (Jvm.Cond.code ({ cls := "NineKeysRound$Yard", name := "fits", desc := "(II)Z" } : Jvm.MethodName) prog_10_method_2_code (2 : Nat) (Option.some Jvm.ClassFile.FieldType.boolean)) ∈ lw_tb := kt2 (n := 73) (by decide +kernel) rfl
theorem k_314 : (Jvm.Cond.fieldLink "NineKeysRound$Yard" (15 : Nat) "NineKeysRound$Yard" "LEAST" "[I") ∈ lw_tb := kt2 (n := 74) (by decide +kernel) rfl
theorem k_316 : (Jvm.Cond.fieldLink "NineKeysRound$Yard" (18 : Nat) "NineKeysRound$Yard" "MOST" "[I") ∈ lw_tb := kt2 (n := 76) (by decide +kernel) rfl
theorem k_318 : (Jvm.Cond.methodLink "NineKeysRound" (98 : Nat) ({ cls := "NineKeysRound$Yard", name := "add", desc := "(III)I" } : Jvm.MethodName)) ∈ lw_tb := kt2 (n := 78) (by decide +kernel) rfl
theorem k_319 : (Jvm.Cond.instanceMethod ({ cls := "NineKeysRound$Yard", name := "add", desc := "(III)I" } : Jvm.MethodName)) ∈ lw_tb := kt2 (n := 79) (by decide +kernel) rfl
theorem k_320 : (Jvm.Cond.selects "NineKeysRound$Yard" ({ cls := "NineKeysRound$Yard", name := "add", desc := "(III)I" } : Jvm.MethodName) ({ cls := "NineKeysRound$Yard", name := "add", desc := "(III)I" } : Jvm.MethodName)) ∈ lw_tb := kt2 (n := 80) (by decide +kernel) rfl
theorem k_321 : (Jvm.Cond.code ({ cls := "NineKeysRound$Yard", name := "add", desc := "(III)I" } : Jvm.MethodName) prog_10_method_3_code (4 : Nat) (Option.some Jvm.ClassFile.FieldType.int)) ∈ lw_tb := kt2 (n := 81) (by decide +kernel) rfl
theorem k_322 : (Jvm.Cond.methodLink "NineKeysRoundLaw" (18 : Nat) ({ cls := "NineKeysRound", name := "posts", desc := "(III)I" } : Jvm.MethodName)) ∈ lw_tb := kt2 (n := 82) (by decide +kernel) rfl
theorem k_323 : (Jvm.Cond.instanceMethod ({ cls := "NineKeysRound", name := "posts", desc := "(III)I" } : Jvm.MethodName)) ∈ lw_tb := kt2 (n := 83) (by decide +kernel) rfl
theorem k_324 : (Jvm.Cond.selects "NineKeysRound" ({ cls := "NineKeysRound", name := "posts", desc := "(III)I" } : Jvm.MethodName) ({ cls := "NineKeysRound", name := "posts", desc := "(III)I" } : Jvm.MethodName)) ∈ lw_tb := kt2 (n := 84) (by decide +kernel) rfl
theorem k_325 : (Jvm.Cond.code ({ cls := "NineKeysRound", name := "posts", desc := "(III)I" } : Jvm.MethodName) prog_1_method_3_code (6 : Nat) (Option.some Jvm.ClassFile.FieldType.int)) ∈ lw_tb := kt2 (n := 85) (by decide +kernel) rfl
theorem k_326 : (Jvm.Cond.methodLink "NineKeysRound" (102 : Nat) ({ cls := "NineKeysRound", name := "isShelf", desc := "(I)Z" } : Jvm.MethodName)) ∈ lw_tb := kt2 (n := 86) (by decide +kernel) rfl
theorem k_327 : (Jvm.Cond.static ({ cls := "NineKeysRound", name := "isShelf", desc := "(I)Z" } : Jvm.MethodName)) ∈ lw_tb := kt2 (n := 87) (by decide +kernel) rfl
theorem k_328 : (Jvm.Cond.code ({ cls := "NineKeysRound", name := "isShelf", desc := "(I)Z" } : Jvm.MethodName) prog_1_method_61_code (1 : Nat) (Option.some Jvm.ClassFile.FieldType.boolean)) ∈ lw_tb := kt2 (n := 88) (by decide +kernel) rfl
theorem k_329 : (Jvm.Cond.methodLink "NineKeysRound" (106 : Nat) ({ cls := "NineKeysRound$Shelf", name := "refusalFor", desc := "(I)I" } : Jvm.MethodName)) ∈ lw_tb := kt2 (n := 89) (by decide +kernel) rfl
theorem k_330 : (Jvm.Cond.instanceMethod ({ cls := "NineKeysRound$Shelf", name := "refusalFor", desc := "(I)I" } : Jvm.MethodName)) ∈ lw_tb := kt2 (n := 90) (by decide +kernel) rfl
theorem k_331 : (Jvm.Cond.selects "NineKeysRound$Shelf" ({ cls := "NineKeysRound$Shelf", name := "refusalFor", desc := "(I)I" } : Jvm.MethodName) ({ cls := "NineKeysRound$Shelf", name := "refusalFor", desc := "(I)I" } : Jvm.MethodName)) ∈ lw_tb := kt2 (n := 91) (by decide +kernel) rfl
theorem k_332 : (Jvm.Cond.code ({ cls := "NineKeysRound$Shelf", name := "refusalFor", desc := "(I)I" } : Jvm.MethodName) prog_7_method_4_code (2 : Nat) (Option.some Jvm.ClassFile.FieldType.int)) ∈ lw_tb := kt2 (n := 92) (by decide +kernel) rfl
theorem k_333 : (Jvm.Cond.methodLink "NineKeysRound" (110 : Nat) ({ cls := "NineKeysRound", name := "addPostsFrom", desc := "(LNineKeysRound$Shelf;II)I" } : Jvm.MethodName)) ∈ lw_tb := kt2 (n := 93) (by decide +kernel) rfl
theorem k_335 : (Jvm.Cond.instanceMethod ({ cls := "NineKeysRound", name := "addPostsFrom", desc := "(LNineKeysRound$Shelf;II)I" } : Jvm.MethodName)) ∈ lw_tb := kt2 (n := 95) (by decide +kernel) rfl
theorem k_336 : (Jvm.Cond.code ({ cls := "NineKeysRound", name := "addPostsFrom", desc := "(LNineKeysRound$Shelf;II)I" } : Jvm.MethodName) prog_1_method_4_code (10 : Nat) (Option.some Jvm.ClassFile.FieldType.int)) ∈ lw_tb := kt2 (n := 96) (by decide +kernel) rfl
theorem k_337 : (Jvm.Cond.constantLong "NineKeysRound" (114 : Nat) (3 : Int64)) ∈ lw_tb := kt2 (n := 97) (by decide +kernel) rfl
theorem k_338 : (Jvm.Cond.constantLong "NineKeysRound" (116 : Nat) (2 : Int64)) ∈ lw_tb := kt2 (n := 98) (by decide +kernel) rfl
theorem k_339 : (Jvm.Cond.methodLink "NineKeysRound" (119 : Nat) ({ cls := "NineKeysRound$Shelf", name := "cellAt", desc := "(I)J" } : Jvm.MethodName)) ∈ lw_tb := kt2 (n := 99) (by decide +kernel) rfl
theorem k_340 : (Jvm.Cond.instanceMethod ({ cls := "NineKeysRound$Shelf", name := "cellAt", desc := "(I)J" } : Jvm.MethodName)) ∈ lw_tb := kt2 (n := 100) (by decide +kernel) rfl
theorem k_341 : (Jvm.Cond.selects "NineKeysRound$Shelf" ({ cls := "NineKeysRound$Shelf", name := "cellAt", desc := "(I)J" } : Jvm.MethodName) ({ cls := "NineKeysRound$Shelf", name := "cellAt", desc := "(I)J" } : Jvm.MethodName)) ∈ lw_tb := kt2 (n := 101) (by decide +kernel) rfl
theorem k_342 : (Jvm.Cond.code ({ cls := "NineKeysRound$Shelf", name := "cellAt", desc := "(I)J" } : Jvm.MethodName) prog_7_method_7_code (2 : Nat) (Option.some Jvm.ClassFile.FieldType.long)) ∈ lw_tb := kt2 (n := 102) (by decide +kernel) rfl
theorem k_343 : (Jvm.Cond.methodLink "NineKeysRoundLaw" (23 : Nat) ({ cls := "NineKeysRound", name := "mend", desc := "(III)I" } : Jvm.MethodName)) ∈ lw_tb := kt2 (n := 103) (by decide +kernel) rfl
theorem k_344 : (Jvm.Cond.instanceMethod ({ cls := "NineKeysRound", name := "mend", desc := "(III)I" } : Jvm.MethodName)) ∈ lw_tb := kt2 (n := 104) (by decide +kernel) rfl
theorem k_345 : (Jvm.Cond.selects "NineKeysRound" ({ cls := "NineKeysRound", name := "mend", desc := "(III)I" } : Jvm.MethodName) ({ cls := "NineKeysRound", name := "mend", desc := "(III)I" } : Jvm.MethodName)) ∈ lw_tb := kt2 (n := 105) (by decide +kernel) rfl
theorem k_346 : (Jvm.Cond.code ({ cls := "NineKeysRound", name := "mend", desc := "(III)I" } : Jvm.MethodName) prog_1_method_5_code (6 : Nat) (Option.some Jvm.ClassFile.FieldType.int)) ∈ lw_tb := kt2 (n := 106) (by decide +kernel) rfl
theorem k_347 : (Jvm.Cond.methodLink "NineKeysRound" (123 : Nat) ({ cls := "NineKeysRound$Yard", name := "placeOf", desc := "(II)I" } : Jvm.MethodName)) ∈ lw_tb := kt2 (n := 107) (by decide +kernel) rfl
theorem k_348 : (Jvm.Cond.instanceMethod ({ cls := "NineKeysRound$Yard", name := "placeOf", desc := "(II)I" } : Jvm.MethodName)) ∈ lw_tb := kt2 (n := 108) (by decide +kernel) rfl
theorem k_349 : (Jvm.Cond.selects "NineKeysRound$Yard" ({ cls := "NineKeysRound$Yard", name := "placeOf", desc := "(II)I" } : Jvm.MethodName) ({ cls := "NineKeysRound$Yard", name := "placeOf", desc := "(II)I" } : Jvm.MethodName)) ∈ lw_tb := kt2 (n := 109) (by decide +kernel) rfl
theorem k_350 : (Jvm.Cond.code ({ cls := "NineKeysRound$Yard", name := "placeOf", desc := "(II)I" } : Jvm.MethodName) prog_10_method_7_code (3 : Nat) (Option.some Jvm.ClassFile.FieldType.int)) ∈ lw_tb := kt2 (n := 110) (by decide +kernel) rfl
theorem k_351 : (Jvm.Cond.methodLink "NineKeysRound$Yard" (29 : Nat) ({ cls := "NineKeysRound$Yard", name := "isPost", desc := "(I)Z" } : Jvm.MethodName)) ∈ lw_tb := kt2 (n := 111) (by decide +kernel) rfl
theorem k_352 : (Jvm.Cond.instanceMethod ({ cls := "NineKeysRound$Yard", name := "isPost", desc := "(I)Z" } : Jvm.MethodName)) ∈ lw_tb := kt2 (n := 112) (by decide +kernel) rfl
theorem k_353 : (Jvm.Cond.selects "NineKeysRound$Yard" ({ cls := "NineKeysRound$Yard", name := "isPost", desc := "(I)Z" } : Jvm.MethodName) ({ cls := "NineKeysRound$Yard", name := "isPost", desc := "(I)Z" } : Jvm.MethodName)) ∈ lw_tb := kt2 (n := 113) (by decide +kernel) rfl
theorem k_354 : (Jvm.Cond.code ({ cls := "NineKeysRound$Yard", name := "isPost", desc := "(I)Z" } : Jvm.MethodName) prog_10_method_4_code (2 : Nat) (Option.some Jvm.ClassFile.FieldType.boolean)) ∈ lw_tb := kt2 (n := 114) (by decide +kernel) rfl
theorem k_355 : (Jvm.Cond.methodLink "NineKeysRound" (130 : Nat) ({ cls := "NineKeysRound$Changes", name := "note", desc := "(III)V" } : Jvm.MethodName)) ∈ lw_tb := kt2 (n := 115) (by decide +kernel) rfl
theorem k_356 : (Jvm.Cond.instanceMethod ({ cls := "NineKeysRound$Changes", name := "note", desc := "(III)V" } : Jvm.MethodName)) ∈ lw_tb := kt2 (n := 116) (by decide +kernel) rfl
theorem k_357 : (Jvm.Cond.selects "NineKeysRound$Changes" ({ cls := "NineKeysRound$Changes", name := "note", desc := "(III)V" } : Jvm.MethodName) ({ cls := "NineKeysRound$Changes", name := "note", desc := "(III)V" } : Jvm.MethodName)) ∈ lw_tb := kt2 (n := 117) (by decide +kernel) rfl
theorem k_358 : (Jvm.Cond.code ({ cls := "NineKeysRound$Changes", name := "note", desc := "(III)V" } : Jvm.MethodName) prog_2_method_2_code (4 : Nat) (Option.none : Option Jvm.ClassFile.FieldType)) ∈ lw_tb := kt2 (n := 118) (by decide +kernel) rfl
theorem k_359 : (Jvm.Cond.methodLink "NineKeysRound$Changes" (23 : Nat) ({ cls := "NineKeysRound$Changes", name := "dropOldest", desc := "()V" } : Jvm.MethodName)) ∈ lw_tb := kt2 (n := 119) (by decide +kernel) rfl
theorem k_361 : (Jvm.Cond.instanceMethod ({ cls := "NineKeysRound$Changes", name := "dropOldest", desc := "()V" } : Jvm.MethodName)) ∈ lw_tb := kt2 (n := 121) (by decide +kernel) rfl
theorem k_362 : (Jvm.Cond.code ({ cls := "NineKeysRound$Changes", name := "dropOldest", desc := "()V" } : Jvm.MethodName) prog_2_method_3_code (1 : Nat) (Option.none : Option Jvm.ClassFile.FieldType)) ∈ lw_tb := kt2 (n := 122) (by decide +kernel) rfl
theorem k_363 : (Jvm.Cond.methodLink "NineKeysRound$Changes" (29 : Nat) ({ cls := "java/lang/System", name := "arraycopy", desc := "(Ljava/lang/Object;ILjava/lang/Object;II)V" } : Jvm.MethodName)) ∈ lw_tb := kt2 (n := 123) (by decide +kernel) rfl
theorem k_364 : (Jvm.Cond.static ({ cls := "java/lang/System", name := "arraycopy", desc := "(Ljava/lang/Object;ILjava/lang/Object;II)V" } : Jvm.MethodName)) ∈ lw_tb := kt2 (n := 124) (by decide +kernel) rfl
theorem k_365 : (Jvm.Cond.native ({ cls := "java/lang/System", name := "arraycopy", desc := "(Ljava/lang/Object;ILjava/lang/Object;II)V" } : Jvm.MethodName)) ∈ lw_tb := kt2 (n := 125) (by decide +kernel) rfl
theorem k_366 : (Jvm.Cond.methodLink "NineKeysRoundLaw" (27 : Nat) ({ cls := "NineKeysRound", name := "of", desc := "(II)I" } : Jvm.MethodName)) ∈ lw_tb := kt2 (n := 126) (by decide +kernel) rfl
theorem k_367 : (Jvm.Cond.instanceMethod ({ cls := "NineKeysRound", name := "of", desc := "(II)I" } : Jvm.MethodName)) ∈ lw_tb := kt2 (n := 127) (by decide +kernel) rfl
theorem k_368 : (Jvm.Cond.selects "NineKeysRound" ({ cls := "NineKeysRound", name := "of", desc := "(II)I" } : Jvm.MethodName) ({ cls := "NineKeysRound", name := "of", desc := "(II)I" } : Jvm.MethodName)) ∈ lw_tb := kt2 (n := 128) (by decide +kernel) rfl
theorem k_369 : (Jvm.Cond.code ({ cls := "NineKeysRound", name := "of", desc := "(II)I" } : Jvm.MethodName) prog_1_method_6_code (4 : Nat) (Option.some Jvm.ClassFile.FieldType.int)) ∈ lw_tb := kt2 (n := 129) (by decide +kernel) rfl
theorem k_370 : (Jvm.Cond.methodLink "NineKeysRound" (134 : Nat) ({ cls := "NineKeysRound$Yard", name := "isPost", desc := "(I)Z" } : Jvm.MethodName)) ∈ lw_tb := kt2 (n := 130) (by decide +kernel) rfl
theorem k_371 : (Jvm.Cond.methodLink "NineKeysRoundLaw" (32 : Nat) ({ cls := "NineKeysRound", name := "feed", desc := "(I)I" } : Jvm.MethodName)) ∈ lw_tb := kt2 (n := 131) (by decide +kernel) rfl
theorem k_372 : (Jvm.Cond.instanceMethod ({ cls := "NineKeysRound", name := "feed", desc := "(I)I" } : Jvm.MethodName)) ∈ lw_tb := kt2 (n := 132) (by decide +kernel) rfl
theorem k_373 : (Jvm.Cond.selects "NineKeysRound" ({ cls := "NineKeysRound", name := "feed", desc := "(I)I" } : Jvm.MethodName) ({ cls := "NineKeysRound", name := "feed", desc := "(I)I" } : Jvm.MethodName)) ∈ lw_tb := kt2 (n := 133) (by decide +kernel) rfl
theorem k_374 : (Jvm.Cond.code ({ cls := "NineKeysRound", name := "feed", desc := "(I)I" } : Jvm.MethodName) prog_1_method_7_code (2 : Nat) (Option.some Jvm.ClassFile.FieldType.int)) ∈ lw_tb := kt2 (n := 134) (by decide +kernel) rfl
theorem k_375 : (Jvm.Cond.methodLink "NineKeysRound" (140 : Nat) ({ cls := "NineKeysRound$Law", name := "take", desc := "(I)Z" } : Jvm.MethodName)) ∈ lw_tb := kt2 (n := 135) (by decide +kernel) rfl
theorem k_376 : (Jvm.Cond.instanceMethod ({ cls := "NineKeysRound$Law", name := "take", desc := "(I)Z" } : Jvm.MethodName)) ∈ lw_tb := kt2 (n := 136) (by decide +kernel) rfl
theorem k_377 : (Jvm.Cond.selects "NineKeysRound$Law" ({ cls := "NineKeysRound$Law", name := "take", desc := "(I)Z" } : Jvm.MethodName) ({ cls := "NineKeysRound$Law", name := "take", desc := "(I)Z" } : Jvm.MethodName)) ∈ lw_tb := kt2 (n := 137) (by decide +kernel) rfl
theorem k_378 : (Jvm.Cond.code ({ cls := "NineKeysRound$Law", name := "take", desc := "(I)Z" } : Jvm.MethodName) prog_6_method_2_code (2 : Nat) (Option.some Jvm.ClassFile.FieldType.boolean)) ∈ lw_tb := kt2 (n := 138) (by decide +kernel) rfl
theorem k_379 : (Jvm.Cond.methodLink "NineKeysRoundLaw" (36 : Nat) ({ cls := "NineKeysRound", name := "law", desc := "()I" } : Jvm.MethodName)) ∈ lw_tb := kt2 (n := 139) (by decide +kernel) rfl
theorem k_380 : (Jvm.Cond.instanceMethod ({ cls := "NineKeysRound", name := "law", desc := "()I" } : Jvm.MethodName)) ∈ lw_tb := kt2 (n := 140) (by decide +kernel) rfl
theorem k_381 : (Jvm.Cond.selects "NineKeysRound" ({ cls := "NineKeysRound", name := "law", desc := "()I" } : Jvm.MethodName) ({ cls := "NineKeysRound", name := "law", desc := "()I" } : Jvm.MethodName)) ∈ lw_tb := kt2 (n := 141) (by decide +kernel) rfl
theorem k_382 : (Jvm.Cond.code ({ cls := "NineKeysRound", name := "law", desc := "()I" } : Jvm.MethodName) prog_1_method_8_code (2 : Nat) (Option.some Jvm.ClassFile.FieldType.int)) ∈ lw_tb := kt2 (n := 142) (by decide +kernel) rfl
theorem k_383 : (Jvm.Cond.methodLink "NineKeysRound" (146 : Nat) ({ cls := "NineKeysRound$Law", name := "adopt", desc := "()I" } : Jvm.MethodName)) ∈ lw_tb := kt2 (n := 143) (by decide +kernel) rfl
theorem k_384 : (Jvm.Cond.instanceMethod ({ cls := "NineKeysRound$Law", name := "adopt", desc := "()I" } : Jvm.MethodName)) ∈ lw_tb := kt2 (n := 144) (by decide +kernel) rfl
theorem k_385 : (Jvm.Cond.selects "NineKeysRound$Law" ({ cls := "NineKeysRound$Law", name := "adopt", desc := "()I" } : Jvm.MethodName) ({ cls := "NineKeysRound$Law", name := "adopt", desc := "()I" } : Jvm.MethodName)) ∈ lw_tb := kt2 (n := 145) (by decide +kernel) rfl
theorem k_386 : (Jvm.Cond.code ({ cls := "NineKeysRound$Law", name := "adopt", desc := "()I" } : Jvm.MethodName) prog_6_method_3_code (2 : Nat) (Option.some Jvm.ClassFile.FieldType.int)) ∈ lw_tb := kt2 (n := 146) (by decide +kernel) rfl
theorem k_387 : (Jvm.Cond.methodLink "NineKeysRound$Law" (29 : Nat) ({ cls := "NineKeysRound$Law", name := "readText", desc := "()I" } : Jvm.MethodName)) ∈ lw_tb := kt2 (n := 147) (by decide +kernel) rfl
theorem k_389 : (Jvm.Cond.instanceMethod ({ cls := "NineKeysRound$Law", name := "readText", desc := "()I" } : Jvm.MethodName)) ∈ lw_tb := kt2 (n := 149) (by decide +kernel) rfl
theorem k_390 : (Jvm.Cond.code ({ cls := "NineKeysRound$Law", name := "readText", desc := "()I" } : Jvm.MethodName) prog_6_method_4_code (2 : Nat) (Option.some Jvm.ClassFile.FieldType.int)) ∈ lw_tb := kt2 (n := 150) (by decide +kernel) rfl
theorem k_391 : (Jvm.Cond.methodLink "NineKeysRound$Law" (52 : Nat) ({ cls := "NineKeysRound$Law", name := "readLine", desc := "()V" } : Jvm.MethodName)) ∈ lw_tb := kt2 (n := 151) (by decide +kernel) rfl
theorem k_393 : (Jvm.Cond.instanceMethod ({ cls := "NineKeysRound$Law", name := "readLine", desc := "()V" } : Jvm.MethodName)) ∈ lw_tb := kt2 (n := 153) (by decide +kernel) rfl
theorem k_394 : (Jvm.Cond.code ({ cls := "NineKeysRound$Law", name := "readLine", desc := "()V" } : Jvm.MethodName) prog_6_method_5_code (2 : Nat) (Option.none : Option Jvm.ClassFile.FieldType)) ∈ lw_tb := kt2 (n := 154) (by decide +kernel) rfl
theorem k_395 : (Jvm.Cond.methodLink "NineKeysRound$Law" (55 : Nat) ({ cls := "NineKeysRound$Law", name := "readTerm", desc := "(II)V" } : Jvm.MethodName)) ∈ lw_tb := kt2 (n := 155) (by decide +kernel) rfl
theorem k_397 : (Jvm.Cond.instanceMethod ({ cls := "NineKeysRound$Law", name := "readTerm", desc := "(II)V" } : Jvm.MethodName)) ∈ lw_tb := kt2 (n := 157) (by decide +kernel) rfl
theorem k_398 : (Jvm.Cond.code ({ cls := "NineKeysRound$Law", name := "readTerm", desc := "(II)V" } : Jvm.MethodName) prog_6_method_8_code (7 : Nat) (Option.none : Option Jvm.ClassFile.FieldType)) ∈ lw_tb := kt2 (n := 158) (by decide +kernel) rfl
theorem k_399 : (Jvm.Cond.methodLink "NineKeysRound$Law" (66 : Nat) ({ cls := "NineKeysRound$Law", name := "readOperand", desc := "(I)V" } : Jvm.MethodName)) ∈ lw_tb := kt2 (n := 159) (by decide +kernel) rfl
theorem k_401 : (Jvm.Cond.instanceMethod ({ cls := "NineKeysRound$Law", name := "readOperand", desc := "(I)V" } : Jvm.MethodName)) ∈ lw_tb := kt2 (n := 161) (by decide +kernel) rfl
theorem k_402 : (Jvm.Cond.code ({ cls := "NineKeysRound$Law", name := "readOperand", desc := "(I)V" } : Jvm.MethodName) prog_6_method_10_code (3 : Nat) (Option.none : Option Jvm.ClassFile.FieldType)) ∈ lw_tb := kt2 (n := 162) (by decide +kernel) rfl
theorem k_403 : (Jvm.Cond.methodLink "NineKeysRound$Law" (59 : Nat) ({ cls := "NineKeysRound$Law", name := "peek", desc := "()I" } : Jvm.MethodName)) ∈ lw_tb := kt2 (n := 163) (by decide +kernel) rfl
theorem k_405 : (Jvm.Cond.instanceMethod ({ cls := "NineKeysRound$Law", name := "peek", desc := "()I" } : Jvm.MethodName)) ∈ lw_tb := kt2 (n := 165) (by decide +kernel) rfl
theorem k_406 : (Jvm.Cond.code ({ cls := "NineKeysRound$Law", name := "peek", desc := "()I" } : Jvm.MethodName) prog_6_method_6_code (1 : Nat) (Option.some Jvm.ClassFile.FieldType.int)) ∈ lw_tb := kt2 (n := 166) (by decide +kernel) rfl
theorem k_407 : (Jvm.Cond.methodLink "NineKeysRound$Law" (73 : Nat) ({ cls := "NineKeysRound$Law", name := "isDigit", desc := "(I)Z" } : Jvm.MethodName)) ∈ lw_tb := kt2 (n := 167) (by decide +kernel) rfl
theorem k_408 : (Jvm.Cond.static ({ cls := "NineKeysRound$Law", name := "isDigit", desc := "(I)Z" } : Jvm.MethodName)) ∈ lw_tb := kt2 (n := 168) (by decide +kernel) rfl
theorem k_409 : (Jvm.Cond.code ({ cls := "NineKeysRound$Law", name := "isDigit", desc := "(I)Z" } : Jvm.MethodName) prog_6_method_12_code (1 : Nat) (Option.some Jvm.ClassFile.FieldType.boolean)) ∈ lw_tb := kt2 (n := 169) (by decide +kernel) rfl
theorem k_410 : (Jvm.Cond.methodLink "NineKeysRound$Law" (77 : Nat) ({ cls := "NineKeysRound$Law", name := "readNumber", desc := "()V" } : Jvm.MethodName)) ∈ lw_tb := kt2 (n := 170) (by decide +kernel) rfl
theorem k_412 : (Jvm.Cond.instanceMethod ({ cls := "NineKeysRound$Law", name := "readNumber", desc := "()V" } : Jvm.MethodName)) ∈ lw_tb := kt2 (n := 172) (by decide +kernel) rfl
theorem k_413 : (Jvm.Cond.code ({ cls := "NineKeysRound$Law", name := "readNumber", desc := "()V" } : Jvm.MethodName) prog_6_method_13_code (3 : Nat) (Option.none : Option Jvm.ClassFile.FieldType)) ∈ lw_tb := kt2 (n := 173) (by decide +kernel) rfl
theorem k_414 : (Jvm.Cond.methodLink "NineKeysRound$Law" (62 : Nat) ({ cls := "NineKeysRound$Law", name := "emit", desc := "(I)V" } : Jvm.MethodName)) ∈ lw_tb := kt2 (n := 174) (by decide +kernel) rfl
theorem k_416 : (Jvm.Cond.instanceMethod ({ cls := "NineKeysRound$Law", name := "emit", desc := "(I)V" } : Jvm.MethodName)) ∈ lw_tb := kt2 (n := 176) (by decide +kernel) rfl
theorem k_417 : (Jvm.Cond.code ({ cls := "NineKeysRound$Law", name := "emit", desc := "(I)V" } : Jvm.MethodName) prog_6_method_7_code (2 : Nat) (Option.none : Option Jvm.ClassFile.FieldType)) ∈ lw_tb := kt2 (n := 177) (by decide +kernel) rfl
theorem k_419 : (Jvm.Cond.methodLink "NineKeysRound$Law" (82 : Nat) ({ cls := "java/lang/String", name := "indexOf", desc := "(I)I" } : Jvm.MethodName)) ∈ lw_tb := kt2 (n := 179) (by decide +kernel) rfl
theorem k_420 : (Jvm.Cond.instanceMethod ({ cls := "java/lang/String", name := "indexOf", desc := "(I)I" } : Jvm.MethodName)) ∈ lw_tb := kt2 (n := 180) (by decide +kernel) rfl
theorem k_421 : (Jvm.Cond.selects "java/lang/String" ({ cls := "java/lang/String", name := "indexOf", desc := "(I)I" } : Jvm.MethodName) ({ cls := "java/lang/String", name := "indexOf", desc := "(I)I" } : Jvm.MethodName)) ∈ lw_tb := kt2 (n := 181) (by decide +kernel) rfl
theorem k_422 : (Jvm.Cond.code ({ cls := "java/lang/String", name := "indexOf", desc := "(I)I" } : Jvm.MethodName) prog_16_method_79_code (2 : Nat) (Option.some Jvm.ClassFile.FieldType.int)) ∈ lw_tb := kt2 (n := 182) (by decide +kernel) rfl
theorem k_423 : (Jvm.Cond.methodLink "java/lang/String" (633 : Nat) ({ cls := "java/lang/String", name := "indexOf", desc := "(II)I" } : Jvm.MethodName)) ∈ lw_tb := kt2 (n := 183) (by decide +kernel) rfl
theorem k_424 : (Jvm.Cond.instanceMethod ({ cls := "java/lang/String", name := "indexOf", desc := "(II)I" } : Jvm.MethodName)) ∈ lw_tb := kt2 (n := 184) (by decide +kernel) rfl
theorem k_425 : (Jvm.Cond.selects "java/lang/String" ({ cls := "java/lang/String", name := "indexOf", desc := "(II)I" } : Jvm.MethodName) ({ cls := "java/lang/String", name := "indexOf", desc := "(II)I" } : Jvm.MethodName)) ∈ lw_tb := kt2 (n := 185) (by decide +kernel) rfl
theorem k_426 : (Jvm.Cond.code ({ cls := "java/lang/String", name := "indexOf", desc := "(II)I" } : Jvm.MethodName) prog_16_method_80_code (3 : Nat) (Option.some Jvm.ClassFile.FieldType.int)) ∈ lw_tb := kt2 (n := 186) (by decide +kernel) rfl
theorem k_427 : (Jvm.Cond.methodLink "java/lang/String" (492 : Nat) ({ cls := "java/lang/String", name := "isLatin1", desc := "()Z" } : Jvm.MethodName)) ∈ lw_tb := kt2 (n := 187) (by decide +kernel) rfl
theorem k_428 : (Jvm.Cond.instanceMethod ({ cls := "java/lang/String", name := "isLatin1", desc := "()Z" } : Jvm.MethodName)) ∈ lw_tb := kt2 (n := 188) (by decide +kernel) rfl
theorem k_429 : (Jvm.Cond.selects "java/lang/String" ({ cls := "java/lang/String", name := "isLatin1", desc := "()Z" } : Jvm.MethodName) ({ cls := "java/lang/String", name := "isLatin1", desc := "()Z" } : Jvm.MethodName)) ∈ lw_tb := kt2 (n := 189) (by decide +kernel) rfl
theorem k_430 : (Jvm.Cond.code ({ cls := "java/lang/String", name := "isLatin1", desc := "()Z" } : Jvm.MethodName) prog_16_method_154_code (1 : Nat) (Option.some Jvm.ClassFile.FieldType.boolean)) ∈ lw_tb := kt2 (n := 190) (by decide +kernel) rfl
theorem k_431 : (Jvm.Cond.fieldLink "java/lang/String" (38 : Nat) "java/lang/String" "COMPACT_STRINGS" "Z") ∈ lw_tb := kt2 (n := 191) (by decide +kernel) rfl
theorem k_433 : (Jvm.Cond.methodLink "java/lang/String" (505 : Nat) ({ cls := "java/lang/String", name := "length", desc := "()I" } : Jvm.MethodName)) ∈ lw_tb := kt2 (n := 193) (by decide +kernel) rfl
theorem k_434 : (Jvm.Cond.instanceMethod ({ cls := "java/lang/String", name := "length", desc := "()I" } : Jvm.MethodName)) ∈ lw_tb := kt2 (n := 194) (by decide +kernel) rfl
theorem k_435 : (Jvm.Cond.selects "java/lang/String" ({ cls := "java/lang/String", name := "length", desc := "()I" } : Jvm.MethodName) ({ cls := "java/lang/String", name := "length", desc := "()I" } : Jvm.MethodName)) ∈ lw_tb := kt2 (n := 195) (by decide +kernel) rfl
theorem k_436 : (Jvm.Cond.code ({ cls := "java/lang/String", name := "length", desc := "()I" } : Jvm.MethodName) prog_16_method_54_code (1 : Nat) (Option.some Jvm.ClassFile.FieldType.int)) ∈ lw_tb := kt2 (n := 196) (by decide +kernel) rfl
theorem k_437 : (Jvm.Cond.methodLink "java/lang/String" (335 : Nat) ({ cls := "java/lang/String", name := "coder", desc := "()B" } : Jvm.MethodName)) ∈ lw_tb := kt2 (n := 197) (by decide +kernel) rfl
theorem k_438 : (Jvm.Cond.instanceMethod ({ cls := "java/lang/String", name := "coder", desc := "()B" } : Jvm.MethodName)) ∈ lw_tb := kt2 (n := 198) (by decide +kernel) rfl
theorem k_439 : (Jvm.Cond.selects "java/lang/String" ({ cls := "java/lang/String", name := "coder", desc := "()B" } : Jvm.MethodName) ({ cls := "java/lang/String", name := "coder", desc := "()B" } : Jvm.MethodName)) ∈ lw_tb := kt2 (n := 199) (by decide +kernel) rfl
theorem k_440 : (Jvm.Cond.code ({ cls := "java/lang/String", name := "coder", desc := "()B" } : Jvm.MethodName) prog_16_method_152_code (1 : Nat) (Option.some Jvm.ClassFile.FieldType.byte)) ∈ lw_tb := kt2 (n := 200) (by decide +kernel) rfl
theorem k_441 : (Jvm.Cond.methodLink "java/lang/String" (637 : Nat) ({ cls := "java/lang/StringLatin1", name := "indexOf", desc := "([BIII)I" } : Jvm.MethodName)) ∈ lw_tb := kt2 (n := 201) (by decide +kernel) rfl
theorem k_442 : (Jvm.Cond.static ({ cls := "java/lang/StringLatin1", name := "indexOf", desc := "([BIII)I" } : Jvm.MethodName)) ∈ lw_tb := kt2 (n := 202) (by decide +kernel) rfl
theorem k_443 : (Jvm.Cond.code ({ cls := "java/lang/StringLatin1", name := "indexOf", desc := "([BIII)I" } : Jvm.MethodName) prog_17_method_22_code (4 : Nat) (Option.some Jvm.ClassFile.FieldType.int)) ∈ lw_tb := kt2 (n := 203) (by decide +kernel) rfl
theorem k_444 : (Jvm.Cond.methodLink "java/lang/StringLatin1" (88 : Nat) ({ cls := "java/lang/StringLatin1", name := "canEncode", desc := "(I)Z" } : Jvm.MethodName)) ∈ lw_tb := kt2 (n := 204) (by decide +kernel) rfl
theorem k_445 : (Jvm.Cond.static ({ cls := "java/lang/StringLatin1", name := "canEncode", desc := "(I)Z" } : Jvm.MethodName)) ∈ lw_tb := kt2 (n := 205) (by decide +kernel) rfl
theorem k_446 : (Jvm.Cond.code ({ cls := "java/lang/StringLatin1", name := "canEncode", desc := "(I)Z" } : Jvm.MethodName) prog_17_method_4_code (1 : Nat) (Option.some Jvm.ClassFile.FieldType.boolean)) ∈ lw_tb := kt2 (n := 206) (by decide +kernel) rfl
theorem k_447 : (Jvm.Cond.methodLink "java/lang/StringLatin1" (92 : Nat) ({ cls := "java/lang/Math", name := "max", desc := "(II)I" } : Jvm.MethodName)) ∈ lw_tb := kt2 (n := 207) (by decide +kernel) rfl
theorem k_448 : (Jvm.Cond.static ({ cls := "java/lang/Math", name := "max", desc := "(II)I" } : Jvm.MethodName)) ∈ lw_tb := kt2 (n := 208) (by decide +kernel) rfl
theorem k_449 : (Jvm.Cond.code ({ cls := "java/lang/Math", name := "max", desc := "(II)I" } : Jvm.MethodName) prog_15_method_65_code (2 : Nat) (Option.some Jvm.ClassFile.FieldType.int)) ∈ lw_tb := kt2 (n := 209) (by decide +kernel) rfl
theorem k_450 : (Jvm.Cond.methodLink "java/lang/StringLatin1" (38 : Nat) ({ cls := "java/lang/Math", name := "min", desc := "(II)I" } : Jvm.MethodName)) ∈ lw_tb := kt2 (n := 210) (by decide +kernel) rfl
theorem k_451 : (Jvm.Cond.static ({ cls := "java/lang/Math", name := "min", desc := "(II)I" } : Jvm.MethodName)) ∈ lw_tb := kt2 (n := 211) (by decide +kernel) rfl
theorem k_452 : (Jvm.Cond.code ({ cls := "java/lang/Math", name := "min", desc := "(II)I" } : Jvm.MethodName) prog_15_method_69_code (2 : Nat) (Option.some Jvm.ClassFile.FieldType.int)) ∈ lw_tb := kt2 (n := 212) (by decide +kernel) rfl
theorem k_453 : (Jvm.Cond.methodLink "java/lang/StringLatin1" (95 : Nat) ({ cls := "java/lang/StringLatin1", name := "indexOfChar", desc := "([BIII)I" } : Jvm.MethodName)) ∈ lw_tb := kt2 (n := 213) (by decide +kernel) rfl
theorem k_454 : (Jvm.Cond.static ({ cls := "java/lang/StringLatin1", name := "indexOfChar", desc := "([BIII)I" } : Jvm.MethodName)) ∈ lw_tb := kt2 (n := 214) (by decide +kernel) rfl
theorem k_455 : (Jvm.Cond.code ({ cls := "java/lang/StringLatin1", name := "indexOfChar", desc := "([BIII)I" } : Jvm.MethodName) prog_17_method_23_code (6 : Nat) (Option.some Jvm.ClassFile.FieldType.int)) ∈ lw_tb := kt2 (n := 215) (by decide +kernel) rfl
theorem k_456 : (Jvm.Cond.methodLink "java/lang/String" (640 : Nat) ({ cls := "java/lang/StringUTF16", name := "indexOf", desc := "([BIII)I" } : Jvm.MethodName)) ∈ lw_tb := kt2 (n := 216) (by decide +kernel) rfl
theorem k_457 : (Jvm.Cond.static ({ cls := "java/lang/StringUTF16", name := "indexOf", desc := "([BIII)I" } : Jvm.MethodName)) ∈ lw_tb := kt2 (n := 217) (by decide +kernel) rfl
theorem k_458 : (Jvm.Cond.code ({ cls := "java/lang/StringUTF16", name := "indexOf", desc := "([BIII)I" } : Jvm.MethodName) prog_18_method_40_code (4 : Nat) (Option.some Jvm.ClassFile.FieldType.int)) ∈ lw_tb := kt2 (n := 218) (by decide +kernel) rfl
theorem k_459 : (Jvm.Cond.methodLink "java/lang/StringUTF16" (224 : Nat) ({ cls := "java/lang/Math", name := "max", desc := "(II)I" } : Jvm.MethodName)) ∈ lw_tb := kt2 (n := 219) (by decide +kernel) rfl
theorem k_460 : (Jvm.Cond.methodLink "java/lang/StringUTF16" (183 : Nat) ({ cls := "java/lang/Math", name := "min", desc := "(II)I" } : Jvm.MethodName)) ∈ lw_tb := kt2 (n := 220) (by decide +kernel) rfl
theorem k_461 : (Jvm.Cond.constant "java/lang/StringUTF16" (227 : Nat) (65536 : Int32)) ∈ lw_tb := kt2 (n := 221) (by decide +kernel) rfl
theorem k_462 : (Jvm.Cond.methodLink "java/lang/StringUTF16" (228 : Nat) ({ cls := "java/lang/StringUTF16", name := "indexOfChar", desc := "([BIII)I" } : Jvm.MethodName)) ∈ lw_tb := kt2 (n := 222) (by decide +kernel) rfl
theorem k_463 : (Jvm.Cond.static ({ cls := "java/lang/StringUTF16", name := "indexOfChar", desc := "([BIII)I" } : Jvm.MethodName)) ∈ lw_tb := kt2 (n := 223) (by decide +kernel) rfl
theorem k_464 : (Jvm.Cond.code ({ cls := "java/lang/StringUTF16", name := "indexOfChar", desc := "([BIII)I" } : Jvm.MethodName) prog_18_method_47_code (4 : Nat) (Option.some Jvm.ClassFile.FieldType.int)) ∈ lw_tb := kt2 (n := 224) (by decide +kernel) rfl
theorem k_465 : (Jvm.Cond.methodLink "java/lang/StringUTF16" (96 : Nat) ({ cls := "java/lang/StringUTF16", name := "checkBoundsBeginEnd", desc := "(II[B)V" } : Jvm.MethodName)) ∈ lw_tb := kt2 (n := 225) (by decide +kernel) rfl
theorem k_466 : (Jvm.Cond.static ({ cls := "java/lang/StringUTF16", name := "checkBoundsBeginEnd", desc := "(II[B)V" } : Jvm.MethodName)) ∈ lw_tb := kt2 (n := 226) (by decide +kernel) rfl
theorem k_467 : (Jvm.Cond.code ({ cls := "java/lang/StringUTF16", name := "checkBoundsBeginEnd", desc := "(II[B)V" } : Jvm.MethodName) prog_18_method_93_code (3 : Nat) (Option.none : Option Jvm.ClassFile.FieldType)) ∈ lw_tb := kt2 (n := 227) (by decide +kernel) rfl
theorem k_468 : (Jvm.Cond.methodLink "java/lang/StringUTF16" (48 : Nat) ({ cls := "java/lang/StringUTF16", name := "length", desc := "([B)I" } : Jvm.MethodName)) ∈ lw_tb := kt2 (n := 228) (by decide +kernel) rfl
theorem k_469 : (Jvm.Cond.static ({ cls := "java/lang/StringUTF16", name := "length", desc := "([B)I" } : Jvm.MethodName)) ∈ lw_tb := kt2 (n := 229) (by decide +kernel) rfl
theorem k_470 : (Jvm.Cond.code ({ cls := "java/lang/StringUTF16", name := "length", desc := "([B)I" } : Jvm.MethodName) prog_18_method_6_code (1 : Nat) (Option.some Jvm.ClassFile.FieldType.int)) ∈ lw_tb := kt2 (n := 230) (by decide +kernel) rfl
theorem k_471 : (Jvm.Cond.methodLink "java/lang/StringUTF16" (241 : Nat) ({ cls := "java/lang/String", name := "checkBoundsBeginEnd", desc := "(III)V" } : Jvm.MethodName)) ∈ lw_tb := kt2 (n := 231) (by decide +kernel) rfl
theorem k_472 : (Jvm.Cond.static ({ cls := "java/lang/String", name := "checkBoundsBeginEnd", desc := "(III)V" } : Jvm.MethodName)) ∈ lw_tb := kt2 (n := 232) (by decide +kernel) rfl
theorem k_473 : (Jvm.Cond.code ({ cls := "java/lang/String", name := "checkBoundsBeginEnd", desc := "(III)V" } : Jvm.MethodName) prog_16_method_158_code (3 : Nat) (Option.none : Option Jvm.ClassFile.FieldType)) ∈ lw_tb := kt2 (n := 233) (by decide +kernel) rfl
theorem k_474 : (Jvm.Cond.fieldLink "java/lang/String" (1053 : Nat) "jdk/internal/util/Preconditions" "SIOOBE_FORMATTER" "Ljava/util/function/BiFunction;") ∈ lw_tb := kt2 (n := 234) (by decide +kernel) rfl
theorem k_476 : (Jvm.Cond.methodLink "java/lang/String" (1062 : Nat) ({ cls := "jdk/internal/util/Preconditions", name := "checkFromToIndex", desc := "(IIILjava/util/function/BiFunction;)I" } : Jvm.MethodName)) ∈ lw_tb := kt2 (n := 236) (by decide +kernel) rfl
theorem k_477 : (Jvm.Cond.static ({ cls := "jdk/internal/util/Preconditions", name := "checkFromToIndex", desc := "(IIILjava/util/function/BiFunction;)I" } : Jvm.MethodName)) ∈ lw_tb := kt2 (n := 237) (by decide +kernel) rfl
theorem k_478 : (Jvm.Cond.code ({ cls := "jdk/internal/util/Preconditions", name := "checkFromToIndex", desc := "(IIILjava/util/function/BiFunction;)I" } : Jvm.MethodName) prog_20_method_12_code (4 : Nat) (Option.some Jvm.ClassFile.FieldType.int)) ∈ lw_tb := kt2 (n := 238) (by decide +kernel) rfl
theorem k_479 : (Jvm.Cond.methodLink "java/lang/StringUTF16" (244 : Nat) ({ cls := "java/lang/StringUTF16", name := "indexOfCharUnsafe", desc := "([BIII)I" } : Jvm.MethodName)) ∈ lw_tb := kt2 (n := 239) (by decide +kernel) rfl
theorem k_480 : (Jvm.Cond.static ({ cls := "java/lang/StringUTF16", name := "indexOfCharUnsafe", desc := "([BIII)I" } : Jvm.MethodName)) ∈ lw_tb := kt3 (n := 0) (by decide +kernel) rfl
theorem k_481 : (Jvm.Cond.code ({ cls := "java/lang/StringUTF16", name := "indexOfCharUnsafe", desc := "([BIII)I" } : Jvm.MethodName) prog_18_method_48_code (5 : Nat) (Option.some Jvm.ClassFile.FieldType.int)) ∈ lw_tb := kt3 (n := 1) (by decide +kernel) rfl
theorem k_482 : (Jvm.Cond.methodLink "java/lang/StringUTF16" (71 : Nat) ({ cls := "java/lang/StringUTF16", name := "getChar", desc := "([BI)C" } : Jvm.MethodName)) ∈ lw_tb := kt3 (n := 2) (by decide +kernel) rfl
theorem k_483 : (Jvm.Cond.static ({ cls := "java/lang/StringUTF16", name := "getChar", desc := "([BI)C" } : Jvm.MethodName)) ∈ lw_tb := kt3 (n := 3) (by decide +kernel) rfl
theorem k_484 : (Jvm.Cond.code ({ cls := "java/lang/StringUTF16", name := "getChar", desc := "([BI)C" } : Jvm.MethodName) prog_18_method_5_code (2 : Nat) (Option.some Jvm.ClassFile.FieldType.char)) ∈ lw_tb := kt3 (n := 4) (by decide +kernel) rfl
theorem k_485 : (Jvm.Cond.fieldLink "java/lang/StringUTF16" (44 : Nat) "java/lang/StringUTF16" "$assertionsDisabled" "Z") ∈ lw_tb := kt3 (n := 5) (by decide +kernel) rfl
theorem k_487 : (Jvm.Cond.fieldLink "java/lang/StringUTF16" (59 : Nat) "java/lang/StringUTF16" "HI_BYTE_SHIFT" "I") ∈ lw_tb := kt3 (n := 7) (by decide +kernel) rfl
theorem k_489 : (Jvm.Cond.fieldLink "java/lang/StringUTF16" (63 : Nat) "java/lang/StringUTF16" "LO_BYTE_SHIFT" "I") ∈ lw_tb := kt3 (n := 9) (by decide +kernel) rfl
theorem k_491 : (Jvm.Cond.methodLink "java/lang/StringUTF16" (232 : Nat) ({ cls := "java/lang/StringUTF16", name := "indexOfSupplementary", desc := "([BIII)I" } : Jvm.MethodName)) ∈ lw_tb := kt3 (n := 11) (by decide +kernel) rfl
theorem k_492 : (Jvm.Cond.static ({ cls := "java/lang/StringUTF16", name := "indexOfSupplementary", desc := "([BIII)I" } : Jvm.MethodName)) ∈ lw_tb := kt3 (n := 12) (by decide +kernel) rfl
theorem k_493 : (Jvm.Cond.code ({ cls := "java/lang/StringUTF16", name := "indexOfSupplementary", desc := "([BIII)I" } : Jvm.MethodName) prog_18_method_49_code (7 : Nat) (Option.some Jvm.ClassFile.FieldType.int)) ∈ lw_tb := kt3 (n := 13) (by decide +kernel) rfl
theorem k_494 : (Jvm.Cond.methodLink "java/lang/StringUTF16" (164 : Nat) ({ cls := "java/lang/Character", name := "isValidCodePoint", desc := "(I)Z" } : Jvm.MethodName)) ∈ lw_tb := kt3 (n := 14) (by decide +kernel) rfl
theorem k_495 : (Jvm.Cond.static ({ cls := "java/lang/Character", name := "isValidCodePoint", desc := "(I)Z" } : Jvm.MethodName)) ∈ lw_tb := kt3 (n := 15) (by decide +kernel) rfl
theorem k_496 : (Jvm.Cond.code ({ cls := "java/lang/Character", name := "isValidCodePoint", desc := "(I)Z" } : Jvm.MethodName) prog_13_method_11_code (2 : Nat) (Option.some Jvm.ClassFile.FieldType.boolean)) ∈ lw_tb := kt3 (n := 16) (by decide +kernel) rfl
theorem k_497 : (Jvm.Cond.methodLink "java/lang/StringUTF16" (157 : Nat) ({ cls := "java/lang/Character", name := "highSurrogate", desc := "(I)C" } : Jvm.MethodName)) ∈ lw_tb := kt3 (n := 17) (by decide +kernel) rfl
theorem k_498 : (Jvm.Cond.static ({ cls := "java/lang/Character", name := "highSurrogate", desc := "(I)C" } : Jvm.MethodName)) ∈ lw_tb := kt3 (n := 18) (by decide +kernel) rfl
theorem k_499 : (Jvm.Cond.code ({ cls := "java/lang/Character", name := "highSurrogate", desc := "(I)C" } : Jvm.MethodName) prog_13_method_28_code (1 : Nat) (Option.some Jvm.ClassFile.FieldType.char)) ∈ lw_tb := kt3 (n := 19) (by decide +kernel) rfl
theorem k_500 : (Jvm.Cond.constant "java/lang/Character" (110 : Nat) (55232 : Int32)) ∈ lw_tb := kt3 (n := 20) (by decide +kernel) rfl
theorem k_501 : (Jvm.Cond.methodLink "java/lang/StringUTF16" (161 : Nat) ({ cls := "java/lang/Character", name := "lowSurrogate", desc := "(I)C" } : Jvm.MethodName)) ∈ lw_tb := kt3 (n := 21) (by decide +kernel) rfl
theorem k_502 : (Jvm.Cond.static ({ cls := "java/lang/Character", name := "lowSurrogate", desc := "(I)C" } : Jvm.MethodName)) ∈ lw_tb := kt3 (n := 22) (by decide +kernel) rfl
theorem k_503 : (Jvm.Cond.code ({ cls := "java/lang/Character", name := "lowSurrogate", desc := "(I)C" } : Jvm.MethodName) prog_13_method_29_code (1 : Nat) (Option.some Jvm.ClassFile.FieldType.char)) ∈ lw_tb := kt3 (n := 23) (by decide +kernel) rfl
theorem k_504 : (Jvm.Cond.constant "java/lang/Character" (76 : Nat) (56320 : Int32)) ∈ lw_tb := kt3 (n := 24) (by decide +kernel) rfl
theorem k_505 : (Jvm.Cond.methodLink "NineKeysRound$Law" (87 : Nat) ({ cls := "NineKeysRound$Law", name := "readOpened", desc := "(II)V" } : Jvm.MethodName)) ∈ lw_tb := kt3 (n := 25) (by decide +kernel) rfl
theorem k_507 : (Jvm.Cond.instanceMethod ({ cls := "NineKeysRound$Law", name := "readOpened", desc := "(II)V" } : Jvm.MethodName)) ∈ lw_tb := kt3 (n := 27) (by decide +kernel) rfl
theorem k_508 : (Jvm.Cond.code ({ cls := "NineKeysRound$Law", name := "readOpened", desc := "(II)V" } : Jvm.MethodName) prog_6_method_11_code (3 : Nat) (Option.none : Option Jvm.ClassFile.FieldType)) ∈ lw_tb := kt3 (n := 28) (by decide +kernel) rfl
theorem k_509 : (Jvm.Cond.methodLink "NineKeysRound$Law" (69 : Nat) ({ cls := "NineKeysRound$Law", name := "bindingOf", desc := "(I)I" } : Jvm.MethodName)) ∈ lw_tb := kt3 (n := 29) (by decide +kernel) rfl
theorem k_510 : (Jvm.Cond.static ({ cls := "NineKeysRound$Law", name := "bindingOf", desc := "(I)I" } : Jvm.MethodName)) ∈ lw_tb := kt3 (n := 30) (by decide +kernel) rfl
theorem k_511 : (Jvm.Cond.code ({ cls := "NineKeysRound$Law", name := "bindingOf", desc := "(I)I" } : Jvm.MethodName) prog_6_method_9_code (1 : Nat) (Option.some Jvm.ClassFile.FieldType.int)) ∈ lw_tb := kt3 (n := 31) (by decide +kernel) rfl
theorem k_512 : (Jvm.Cond.methodLink "NineKeysRound$Law" (33 : Nat) ({ cls := "java/lang/System", name := "arraycopy", desc := "(Ljava/lang/Object;ILjava/lang/Object;II)V" } : Jvm.MethodName)) ∈ lw_tb := kt3 (n := 32) (by decide +kernel) rfl
theorem k_513 : (Jvm.Cond.arrayClass Jvm.ClassFile.FieldType.byte) ∈ lw_tb := kt3 (n := 33) (by decide +kernel) rfl
theorem k_514 : (Jvm.Cond.methodLink "NineKeysRoundLaw" (41 : Nat) ({ cls := "NineKeysRound", name := "round", desc := "(II)I" } : Jvm.MethodName)) ∈ lw_tb := kt3 (n := 34) (by decide +kernel) rfl
theorem k_515 : (Jvm.Cond.instanceMethod ({ cls := "NineKeysRound", name := "round", desc := "(II)I" } : Jvm.MethodName)) ∈ lw_tb := kt3 (n := 35) (by decide +kernel) rfl
theorem k_516 : (Jvm.Cond.selects "NineKeysRound" ({ cls := "NineKeysRound", name := "round", desc := "(II)I" } : Jvm.MethodName) ({ cls := "NineKeysRound", name := "round", desc := "(II)I" } : Jvm.MethodName)) ∈ lw_tb := kt3 (n := 36) (by decide +kernel) rfl
theorem k_517 : (Jvm.Cond.code ({ cls := "NineKeysRound", name := "round", desc := "(II)I" } : Jvm.MethodName) prog_1_method_9_code (4 : Nat) (Option.some Jvm.ClassFile.FieldType.int)) ∈ lw_tb := kt3 (n := 37) (by decide +kernel) rfl
theorem k_518 : (Jvm.Cond.methodLink "NineKeysRound" (150 : Nat) ({ cls := "NineKeysRound", name := "isEither", desc := "(I)Z" } : Jvm.MethodName)) ∈ lw_tb := kt3 (n := 38) (by decide +kernel) rfl
theorem k_519 : (Jvm.Cond.static ({ cls := "NineKeysRound", name := "isEither", desc := "(I)Z" } : Jvm.MethodName)) ∈ lw_tb := kt3 (n := 39) (by decide +kernel) rfl
theorem k_520 : (Jvm.Cond.code ({ cls := "NineKeysRound", name := "isEither", desc := "(I)Z" } : Jvm.MethodName) prog_1_method_62_code (1 : Nat) (Option.some Jvm.ClassFile.FieldType.boolean)) ∈ lw_tb := kt3 (n := 40) (by decide +kernel) rfl
theorem k_521 : (Jvm.Cond.methodLink "NineKeysRound" (153 : Nat) ({ cls := "NineKeysRound", name := "layForth", desc := "(I)I" } : Jvm.MethodName)) ∈ lw_tb := kt3 (n := 41) (by decide +kernel) rfl
theorem k_523 : (Jvm.Cond.instanceMethod ({ cls := "NineKeysRound", name := "layForth", desc := "(I)I" } : Jvm.MethodName)) ∈ lw_tb := kt3 (n := 43) (by decide +kernel) rfl
theorem k_524 : (Jvm.Cond.code ({ cls := "NineKeysRound", name := "layForth", desc := "(I)I" } : Jvm.MethodName) prog_1_method_66_code (3 : Nat) (Option.some Jvm.ClassFile.FieldType.int)) ∈ lw_tb := kt3 (n := 44) (by decide +kernel) rfl
theorem k_525 : (Jvm.Cond.methodLink "NineKeysRound" (440 : Nat) ({ cls := "NineKeysRound$Course", name := "layRound", desc := "(LNineKeysRound$Shelf;)V" } : Jvm.MethodName)) ∈ lw_tb := kt3 (n := 45) (by decide +kernel) rfl
theorem k_526 : (Jvm.Cond.instanceMethod ({ cls := "NineKeysRound$Course", name := "layRound", desc := "(LNineKeysRound$Shelf;)V" } : Jvm.MethodName)) ∈ lw_tb := kt3 (n := 46) (by decide +kernel) rfl
theorem k_527 : (Jvm.Cond.selects "NineKeysRound$Course" ({ cls := "NineKeysRound$Course", name := "layRound", desc := "(LNineKeysRound$Shelf;)V" } : Jvm.MethodName) ({ cls := "NineKeysRound$Course", name := "layRound", desc := "(LNineKeysRound$Shelf;)V" } : Jvm.MethodName)) ∈ lw_tb := kt3 (n := 47) (by decide +kernel) rfl
theorem k_528 : (Jvm.Cond.code ({ cls := "NineKeysRound$Course", name := "layRound", desc := "(LNineKeysRound$Shelf;)V" } : Jvm.MethodName) prog_3_method_2_code (4 : Nat) (Option.none : Option Jvm.ClassFile.FieldType)) ∈ lw_tb := kt3 (n := 48) (by decide +kernel) rfl
theorem k_529 : (Jvm.Cond.methodLink "NineKeysRound$Course" (29 : Nat) ({ cls := "java/lang/Math", name := "min", desc := "(II)I" } : Jvm.MethodName)) ∈ lw_tb := kt3 (n := 49) (by decide +kernel) rfl
theorem k_530 : (Jvm.Cond.methodLink "NineKeysRound$Course" (35 : Nat) ({ cls := "NineKeysRound$Shelf", name := "cellAt", desc := "(I)J" } : Jvm.MethodName)) ∈ lw_tb := kt3 (n := 50) (by decide +kernel) rfl
theorem k_531 : (Jvm.Cond.methodLink "NineKeysRound$Course" (39 : Nat) ({ cls := "NineKeysRound$Yard", name := "isPost", desc := "(I)Z" } : Jvm.MethodName)) ∈ lw_tb := kt3 (n := 51) (by decide +kernel) rfl
theorem k_532 : (Jvm.Cond.methodLink "NineKeysRound$Course" (45 : Nat) ({ cls := "NineKeysRound$Course", name := "measure", desc := "()V" } : Jvm.MethodName)) ∈ lw_tb := kt3 (n := 52) (by decide +kernel) rfl
theorem k_534 : (Jvm.Cond.instanceMethod ({ cls := "NineKeysRound$Course", name := "measure", desc := "()V" } : Jvm.MethodName)) ∈ lw_tb := kt3 (n := 54) (by decide +kernel) rfl
theorem k_535 : (Jvm.Cond.code ({ cls := "NineKeysRound$Course", name := "measure", desc := "()V" } : Jvm.MethodName) prog_3_method_5_code (2 : Nat) (Option.none : Option Jvm.ClassFile.FieldType)) ∈ lw_tb := kt3 (n := 55) (by decide +kernel) rfl
theorem k_536 : (Jvm.Cond.methodLink "NineKeysRound$Course" (54 : Nat) ({ cls := "NineKeysRound$Yard", name := "way", desc := "(II)I" } : Jvm.MethodName)) ∈ lw_tb := kt3 (n := 56) (by decide +kernel) rfl
theorem k_537 : (Jvm.Cond.instanceMethod ({ cls := "NineKeysRound$Yard", name := "way", desc := "(II)I" } : Jvm.MethodName)) ∈ lw_tb := kt3 (n := 57) (by decide +kernel) rfl
theorem k_538 : (Jvm.Cond.selects "NineKeysRound$Yard" ({ cls := "NineKeysRound$Yard", name := "way", desc := "(II)I" } : Jvm.MethodName) ({ cls := "NineKeysRound$Yard", name := "way", desc := "(II)I" } : Jvm.MethodName)) ∈ lw_tb := kt3 (n := 58) (by decide +kernel) rfl
theorem k_539 : (Jvm.Cond.code ({ cls := "NineKeysRound$Yard", name := "way", desc := "(II)I" } : Jvm.MethodName) prog_10_method_12_code (3 : Nat) (Option.some Jvm.ClassFile.FieldType.int)) ∈ lw_tb := kt3 (n := 59) (by decide +kernel) rfl
theorem k_540 : (Jvm.Cond.methodLink "NineKeysRound$Yard" (43 : Nat) ({ cls := "NineKeysRound$Yard", name := "cellsTo", desc := "(III)I" } : Jvm.MethodName)) ∈ lw_tb := kt3 (n := 60) (by decide +kernel) rfl
theorem k_541 : (Jvm.Cond.instanceMethod ({ cls := "NineKeysRound$Yard", name := "cellsTo", desc := "(III)I" } : Jvm.MethodName)) ∈ lw_tb := kt3 (n := 61) (by decide +kernel) rfl
theorem k_542 : (Jvm.Cond.selects "NineKeysRound$Yard" ({ cls := "NineKeysRound$Yard", name := "cellsTo", desc := "(III)I" } : Jvm.MethodName) ({ cls := "NineKeysRound$Yard", name := "cellsTo", desc := "(III)I" } : Jvm.MethodName)) ∈ lw_tb := kt3 (n := 62) (by decide +kernel) rfl
theorem k_543 : (Jvm.Cond.code ({ cls := "NineKeysRound$Yard", name := "cellsTo", desc := "(III)I" } : Jvm.MethodName) prog_10_method_10_code (4 : Nat) (Option.some Jvm.ClassFile.FieldType.int)) ∈ lw_tb := kt3 (n := 63) (by decide +kernel) rfl
theorem k_544 : (Jvm.Cond.methodLink "NineKeysRound$Yard" (37 : Nat) ({ cls := "java/lang/Math", name := "abs", desc := "(I)I" } : Jvm.MethodName)) ∈ lw_tb := kt3 (n := 64) (by decide +kernel) rfl
theorem k_545 : (Jvm.Cond.static ({ cls := "java/lang/Math", name := "abs", desc := "(I)I" } : Jvm.MethodName)) ∈ lw_tb := kt3 (n := 65) (by decide +kernel) rfl
theorem k_546 : (Jvm.Cond.code ({ cls := "java/lang/Math", name := "abs", desc := "(I)I" } : Jvm.MethodName) prog_15_method_59_code (1 : Nat) (Option.some Jvm.ClassFile.FieldType.int)) ∈ lw_tb := kt3 (n := 66) (by decide +kernel) rfl
theorem k_547 : (Jvm.Cond.methodLink "NineKeysRound$Course" (57 : Nat) ({ cls := "NineKeysRound$Yard", name := "stand", desc := "()I" } : Jvm.MethodName)) ∈ lw_tb := kt3 (n := 67) (by decide +kernel) rfl
theorem k_548 : (Jvm.Cond.instanceMethod ({ cls := "NineKeysRound$Yard", name := "stand", desc := "()I" } : Jvm.MethodName)) ∈ lw_tb := kt3 (n := 68) (by decide +kernel) rfl
theorem k_549 : (Jvm.Cond.selects "NineKeysRound$Yard" ({ cls := "NineKeysRound$Yard", name := "stand", desc := "()I" } : Jvm.MethodName) ({ cls := "NineKeysRound$Yard", name := "stand", desc := "()I" } : Jvm.MethodName)) ∈ lw_tb := kt3 (n := 69) (by decide +kernel) rfl
theorem k_550 : (Jvm.Cond.code ({ cls := "NineKeysRound$Yard", name := "stand", desc := "()I" } : Jvm.MethodName) prog_10_method_9_code (1 : Nat) (Option.some Jvm.ClassFile.FieldType.int)) ∈ lw_tb := kt3 (n := 70) (by decide +kernel) rfl
theorem k_551 : (Jvm.Cond.methodLink "NineKeysRoundLaw" (45 : Nat) ({ cls := "NineKeysRound", name := "first", desc := "(II)I" } : Jvm.MethodName)) ∈ lw_tb := kt3 (n := 71) (by decide +kernel) rfl
theorem k_552 : (Jvm.Cond.instanceMethod ({ cls := "NineKeysRound", name := "first", desc := "(II)I" } : Jvm.MethodName)) ∈ lw_tb := kt3 (n := 72) (by decide +kernel) rfl
theorem k_553 : (Jvm.Cond.selects "NineKeysRound" ({ cls := "NineKeysRound", name := "first", desc := "(II)I" } : Jvm.MethodName) ({ cls := "NineKeysRound", name := "first", desc := "(II)I" } : Jvm.MethodName)) ∈ lw_tb := kt3 (n := 73) (by decide +kernel) rfl
theorem k_554 : (Jvm.Cond.code ({ cls := "NineKeysRound", name := "first", desc := "(II)I" } : Jvm.MethodName) prog_1_method_10_code (5 : Nat) (Option.some Jvm.ClassFile.FieldType.int)) ∈ lw_tb := kt3 (n := 74) (by decide +kernel) rfl
theorem k_555 : (Jvm.Cond.methodLink "NineKeysRound" (160 : Nat) ({ cls := "NineKeysRound$Course", name := "firstMinuteOf", desc := "(I)I" } : Jvm.MethodName)) ∈ lw_tb := kt3 (n := 75) (by decide +kernel) rfl
theorem k_556 : (Jvm.Cond.instanceMethod ({ cls := "NineKeysRound$Course", name := "firstMinuteOf", desc := "(I)I" } : Jvm.MethodName)) ∈ lw_tb := kt3 (n := 76) (by decide +kernel) rfl
theorem k_557 : (Jvm.Cond.selects "NineKeysRound$Course" ({ cls := "NineKeysRound$Course", name := "firstMinuteOf", desc := "(I)I" } : Jvm.MethodName) ({ cls := "NineKeysRound$Course", name := "firstMinuteOf", desc := "(I)I" } : Jvm.MethodName)) ∈ lw_tb := kt3 (n := 77) (by decide +kernel) rfl
theorem k_558 : (Jvm.Cond.code ({ cls := "NineKeysRound$Course", name := "firstMinuteOf", desc := "(I)I" } : Jvm.MethodName) prog_3_method_11_code (3 : Nat) (Option.some Jvm.ClassFile.FieldType.int)) ∈ lw_tb := kt3 (n := 78) (by decide +kernel) rfl
theorem k_559 : (Jvm.Cond.methodLink "NineKeysRoundLaw" (49 : Nat) ({ cls := "NineKeysRound", name := "by", desc := "(III)I" } : Jvm.MethodName)) ∈ lw_tb := kt3 (n := 79) (by decide +kernel) rfl
theorem k_560 : (Jvm.Cond.instanceMethod ({ cls := "NineKeysRound", name := "by", desc := "(III)I" } : Jvm.MethodName)) ∈ lw_tb := kt3 (n := 80) (by decide +kernel) rfl
theorem k_561 : (Jvm.Cond.selects "NineKeysRound" ({ cls := "NineKeysRound", name := "by", desc := "(III)I" } : Jvm.MethodName) ({ cls := "NineKeysRound", name := "by", desc := "(III)I" } : Jvm.MethodName)) ∈ lw_tb := kt3 (n := 81) (by decide +kernel) rfl
theorem k_562 : (Jvm.Cond.code ({ cls := "NineKeysRound", name := "by", desc := "(III)I" } : Jvm.MethodName) prog_1_method_11_code (6 : Nat) (Option.some Jvm.ClassFile.FieldType.int)) ∈ lw_tb := kt3 (n := 82) (by decide +kernel) rfl
theorem k_563 : (Jvm.Cond.methodLink "NineKeysRound" (163 : Nat) ({ cls := "NineKeysRound", name := "isMinute", desc := "(I)Z" } : Jvm.MethodName)) ∈ lw_tb := kt3 (n := 83) (by decide +kernel) rfl
theorem k_564 : (Jvm.Cond.static ({ cls := "NineKeysRound", name := "isMinute", desc := "(I)Z" } : Jvm.MethodName)) ∈ lw_tb := kt3 (n := 84) (by decide +kernel) rfl
theorem k_565 : (Jvm.Cond.code ({ cls := "NineKeysRound", name := "isMinute", desc := "(I)Z" } : Jvm.MethodName) prog_1_method_63_code (1 : Nat) (Option.some Jvm.ClassFile.FieldType.boolean)) ∈ lw_tb := kt3 (n := 85) (by decide +kernel) rfl
theorem k_566 : (Jvm.Cond.methodLink "NineKeysRound" (166 : Nat) ({ cls := "NineKeysRound$Course", name := "dentsBy", desc := "(I)I" } : Jvm.MethodName)) ∈ lw_tb := kt3 (n := 86) (by decide +kernel) rfl
theorem k_567 : (Jvm.Cond.instanceMethod ({ cls := "NineKeysRound$Course", name := "dentsBy", desc := "(I)I" } : Jvm.MethodName)) ∈ lw_tb := kt3 (n := 87) (by decide +kernel) rfl
theorem k_568 : (Jvm.Cond.selects "NineKeysRound$Course" ({ cls := "NineKeysRound$Course", name := "dentsBy", desc := "(I)I" } : Jvm.MethodName) ({ cls := "NineKeysRound$Course", name := "dentsBy", desc := "(I)I" } : Jvm.MethodName)) ∈ lw_tb := kt3 (n := 88) (by decide +kernel) rfl
theorem k_569 : (Jvm.Cond.code ({ cls := "NineKeysRound$Course", name := "dentsBy", desc := "(I)I" } : Jvm.MethodName) prog_3_method_9_code (5 : Nat) (Option.some Jvm.ClassFile.FieldType.int)) ∈ lw_tb := kt3 (n := 89) (by decide +kernel) rfl
theorem k_570 : (Jvm.Cond.methodLink "NineKeysRound" (169 : Nat) ({ cls := "NineKeysRound$Course", name := "stopOf", desc := "(I)I" } : Jvm.MethodName)) ∈ lw_tb := kt3 (n := 90) (by decide +kernel) rfl
theorem k_571 : (Jvm.Cond.instanceMethod ({ cls := "NineKeysRound$Course", name := "stopOf", desc := "(I)I" } : Jvm.MethodName)) ∈ lw_tb := kt3 (n := 91) (by decide +kernel) rfl
theorem k_572 : (Jvm.Cond.selects "NineKeysRound$Course" ({ cls := "NineKeysRound$Course", name := "stopOf", desc := "(I)I" } : Jvm.MethodName) ({ cls := "NineKeysRound$Course", name := "stopOf", desc := "(I)I" } : Jvm.MethodName)) ∈ lw_tb := kt3 (n := 92) (by decide +kernel) rfl
theorem k_573 : (Jvm.Cond.code ({ cls := "NineKeysRound$Course", name := "stopOf", desc := "(I)I" } : Jvm.MethodName) prog_3_method_6_code (2 : Nat) (Option.some Jvm.ClassFile.FieldType.int)) ∈ lw_tb := kt3 (n := 93) (by decide +kernel) rfl
theorem k_574 : (Jvm.Cond.methodLink "NineKeysRoundLaw" (53 : Nat) ({ cls := "NineKeysRound", name := "unseen", desc := "(IIII)I" } : Jvm.MethodName)) ∈ lw_tb := kt3 (n := 94) (by decide +kernel) rfl
theorem k_575 : (Jvm.Cond.instanceMethod ({ cls := "NineKeysRound", name := "unseen", desc := "(IIII)I" } : Jvm.MethodName)) ∈ lw_tb := kt3 (n := 95) (by decide +kernel) rfl
theorem k_576 : (Jvm.Cond.selects "NineKeysRound" ({ cls := "NineKeysRound", name := "unseen", desc := "(IIII)I" } : Jvm.MethodName) ({ cls := "NineKeysRound", name := "unseen", desc := "(IIII)I" } : Jvm.MethodName)) ∈ lw_tb := kt3 (n := 96) (by decide +kernel) rfl
theorem k_577 : (Jvm.Cond.code ({ cls := "NineKeysRound", name := "unseen", desc := "(IIII)I" } : Jvm.MethodName) prog_1_method_12_code (6 : Nat) (Option.some Jvm.ClassFile.FieldType.int)) ∈ lw_tb := kt3 (n := 97) (by decide +kernel) rfl
theorem k_578 : (Jvm.Cond.methodLink "NineKeysRound" (172 : Nat) ({ cls := "NineKeysRound$Sightings", name := "gather", desc := "(LNineKeysRound$Course;II)V" } : Jvm.MethodName)) ∈ lw_tb := kt3 (n := 98) (by decide +kernel) rfl
theorem k_579 : (Jvm.Cond.instanceMethod ({ cls := "NineKeysRound$Sightings", name := "gather", desc := "(LNineKeysRound$Course;II)V" } : Jvm.MethodName)) ∈ lw_tb := kt3 (n := 99) (by decide +kernel) rfl
theorem k_580 : (Jvm.Cond.selects "NineKeysRound$Sightings" ({ cls := "NineKeysRound$Sightings", name := "gather", desc := "(LNineKeysRound$Course;II)V" } : Jvm.MethodName) ({ cls := "NineKeysRound$Sightings", name := "gather", desc := "(LNineKeysRound$Course;II)V" } : Jvm.MethodName)) ∈ lw_tb := kt3 (n := 100) (by decide +kernel) rfl
theorem k_581 : (Jvm.Cond.code ({ cls := "NineKeysRound$Sightings", name := "gather", desc := "(LNineKeysRound$Course;II)V" } : Jvm.MethodName) prog_8_method_2_code (4 : Nat) (Option.none : Option Jvm.ClassFile.FieldType)) ∈ lw_tb := kt3 (n := 101) (by decide +kernel) rfl
theorem k_582 : (Jvm.Cond.methodLink "NineKeysRound$Sightings" (19 : Nat) ({ cls := "NineKeysRound$Course", name := "seenMinutes", desc := "()I" } : Jvm.MethodName)) ∈ lw_tb := kt3 (n := 102) (by decide +kernel) rfl
theorem k_583 : (Jvm.Cond.instanceMethod ({ cls := "NineKeysRound$Course", name := "seenMinutes", desc := "()I" } : Jvm.MethodName)) ∈ lw_tb := kt3 (n := 103) (by decide +kernel) rfl
theorem k_584 : (Jvm.Cond.selects "NineKeysRound$Course" ({ cls := "NineKeysRound$Course", name := "seenMinutes", desc := "()I" } : Jvm.MethodName) ({ cls := "NineKeysRound$Course", name := "seenMinutes", desc := "()I" } : Jvm.MethodName)) ∈ lw_tb := kt3 (n := 104) (by decide +kernel) rfl
theorem k_585 : (Jvm.Cond.code ({ cls := "NineKeysRound$Course", name := "seenMinutes", desc := "()I" } : Jvm.MethodName) prog_3_method_8_code (1 : Nat) (Option.some Jvm.ClassFile.FieldType.int)) ∈ lw_tb := kt3 (n := 105) (by decide +kernel) rfl
theorem k_586 : (Jvm.Cond.methodLink "NineKeysRound$Course" (61 : Nat) ({ cls := "java/lang/Math", name := "max", desc := "(II)I" } : Jvm.MethodName)) ∈ lw_tb := kt3 (n := 106) (by decide +kernel) rfl
theorem k_587 : (Jvm.Cond.methodLink "NineKeysRound$Sightings" (28 : Nat) ({ cls := "NineKeysRound$Course", name := "tellDents", desc := "(IILNineKeysRound$Sightings;)V" } : Jvm.MethodName)) ∈ lw_tb := kt3 (n := 107) (by decide +kernel) rfl
theorem k_588 : (Jvm.Cond.instanceMethod ({ cls := "NineKeysRound$Course", name := "tellDents", desc := "(IILNineKeysRound$Sightings;)V" } : Jvm.MethodName)) ∈ lw_tb := kt3 (n := 108) (by decide +kernel) rfl
theorem k_589 : (Jvm.Cond.selects "NineKeysRound$Course" ({ cls := "NineKeysRound$Course", name := "tellDents", desc := "(IILNineKeysRound$Sightings;)V" } : Jvm.MethodName) ({ cls := "NineKeysRound$Course", name := "tellDents", desc := "(IILNineKeysRound$Sightings;)V" } : Jvm.MethodName)) ∈ lw_tb := kt3 (n := 109) (by decide +kernel) rfl
theorem k_590 : (Jvm.Cond.code ({ cls := "NineKeysRound$Course", name := "tellDents", desc := "(IILNineKeysRound$Sightings;)V" } : Jvm.MethodName) prog_3_method_10_code (9 : Nat) (Option.none : Option Jvm.ClassFile.FieldType)) ∈ lw_tb := kt3 (n := 110) (by decide +kernel) rfl
theorem k_591 : (Jvm.Cond.methodLink "NineKeysRound$Course" (64 : Nat) ({ cls := "NineKeysRound$Course", name := "dentsBy", desc := "(I)I" } : Jvm.MethodName)) ∈ lw_tb := kt3 (n := 111) (by decide +kernel) rfl
theorem k_592 : (Jvm.Cond.methodLink "NineKeysRound$Course" (68 : Nat) ({ cls := "NineKeysRound$Sightings", name := "note", desc := "(I)V" } : Jvm.MethodName)) ∈ lw_tb := kt3 (n := 112) (by decide +kernel) rfl
theorem k_593 : (Jvm.Cond.instanceMethod ({ cls := "NineKeysRound$Sightings", name := "note", desc := "(I)V" } : Jvm.MethodName)) ∈ lw_tb := kt3 (n := 113) (by decide +kernel) rfl
theorem k_594 : (Jvm.Cond.selects "NineKeysRound$Sightings" ({ cls := "NineKeysRound$Sightings", name := "note", desc := "(I)V" } : Jvm.MethodName) ({ cls := "NineKeysRound$Sightings", name := "note", desc := "(I)V" } : Jvm.MethodName)) ∈ lw_tb := kt3 (n := 114) (by decide +kernel) rfl
theorem k_595 : (Jvm.Cond.code ({ cls := "NineKeysRound$Sightings", name := "note", desc := "(I)V" } : Jvm.MethodName) prog_8_method_3_code (3 : Nat) (Option.none : Option Jvm.ClassFile.FieldType)) ∈ lw_tb := kt3 (n := 115) (by decide +kernel) rfl
theorem k_596 : (Jvm.Cond.methodLink "NineKeysRound" (176 : Nat) ({ cls := "NineKeysRound$Sightings", name := "unseenAtEnd", desc := "(I)I" } : Jvm.MethodName)) ∈ lw_tb := kt3 (n := 116) (by decide +kernel) rfl
theorem k_597 : (Jvm.Cond.instanceMethod ({ cls := "NineKeysRound$Sightings", name := "unseenAtEnd", desc := "(I)I" } : Jvm.MethodName)) ∈ lw_tb := kt3 (n := 117) (by decide +kernel) rfl
theorem k_598 : (Jvm.Cond.selects "NineKeysRound$Sightings" ({ cls := "NineKeysRound$Sightings", name := "unseenAtEnd", desc := "(I)I" } : Jvm.MethodName) ({ cls := "NineKeysRound$Sightings", name := "unseenAtEnd", desc := "(I)I" } : Jvm.MethodName)) ∈ lw_tb := kt3 (n := 118) (by decide +kernel) rfl
theorem k_599 : (Jvm.Cond.code ({ cls := "NineKeysRound$Sightings", name := "unseenAtEnd", desc := "(I)I" } : Jvm.MethodName) prog_8_method_7_code (2 : Nat) (Option.some Jvm.ClassFile.FieldType.int)) ∈ lw_tb := kt3 (n := 119) (by decide +kernel) rfl
theorem k_600 : (Jvm.Cond.methodLink "NineKeysRound$Sightings" (38 : Nat) ({ cls := "NineKeysRound$Sightings", name := "unseenAfter", desc := "(II)I" } : Jvm.MethodName)) ∈ lw_tb := kt3 (n := 120) (by decide +kernel) rfl
theorem k_601 : (Jvm.Cond.instanceMethod ({ cls := "NineKeysRound$Sightings", name := "unseenAfter", desc := "(II)I" } : Jvm.MethodName)) ∈ lw_tb := kt3 (n := 121) (by decide +kernel) rfl
theorem k_602 : (Jvm.Cond.selects "NineKeysRound$Sightings" ({ cls := "NineKeysRound$Sightings", name := "unseenAfter", desc := "(II)I" } : Jvm.MethodName) ({ cls := "NineKeysRound$Sightings", name := "unseenAfter", desc := "(II)I" } : Jvm.MethodName)) ∈ lw_tb := kt3 (n := 122) (by decide +kernel) rfl
theorem k_603 : (Jvm.Cond.code ({ cls := "NineKeysRound$Sightings", name := "unseenAfter", desc := "(II)I" } : Jvm.MethodName) prog_8_method_5_code (3 : Nat) (Option.some Jvm.ClassFile.FieldType.int)) ∈ lw_tb := kt3 (n := 123) (by decide +kernel) rfl
theorem k_604 : (Jvm.Cond.methodLink "NineKeysRound" (179 : Nat) ({ cls := "NineKeysRound$Sightings", name := "seenAtEnd", desc := "(I)Z" } : Jvm.MethodName)) ∈ lw_tb := kt3 (n := 124) (by decide +kernel) rfl
theorem k_605 : (Jvm.Cond.instanceMethod ({ cls := "NineKeysRound$Sightings", name := "seenAtEnd", desc := "(I)Z" } : Jvm.MethodName)) ∈ lw_tb := kt3 (n := 125) (by decide +kernel) rfl
theorem k_606 : (Jvm.Cond.selects "NineKeysRound$Sightings" ({ cls := "NineKeysRound$Sightings", name := "seenAtEnd", desc := "(I)Z" } : Jvm.MethodName) ({ cls := "NineKeysRound$Sightings", name := "seenAtEnd", desc := "(I)Z" } : Jvm.MethodName)) ∈ lw_tb := kt3 (n := 126) (by decide +kernel) rfl
theorem k_607 : (Jvm.Cond.code ({ cls := "NineKeysRound$Sightings", name := "seenAtEnd", desc := "(I)Z" } : Jvm.MethodName) prog_8_method_8_code (2 : Nat) (Option.some Jvm.ClassFile.FieldType.boolean)) ∈ lw_tb := kt3 (n := 127) (by decide +kernel) rfl
theorem k_608 : (Jvm.Cond.methodLink "NineKeysRound$Sightings" (41 : Nat) ({ cls := "NineKeysRound$Sightings", name := "seenAfter", desc := "(II)Z" } : Jvm.MethodName)) ∈ lw_tb := kt3 (n := 128) (by decide +kernel) rfl
theorem k_609 : (Jvm.Cond.instanceMethod ({ cls := "NineKeysRound$Sightings", name := "seenAfter", desc := "(II)Z" } : Jvm.MethodName)) ∈ lw_tb := kt3 (n := 129) (by decide +kernel) rfl
theorem k_610 : (Jvm.Cond.selects "NineKeysRound$Sightings" ({ cls := "NineKeysRound$Sightings", name := "seenAfter", desc := "(II)Z" } : Jvm.MethodName) ({ cls := "NineKeysRound$Sightings", name := "seenAfter", desc := "(II)Z" } : Jvm.MethodName)) ∈ lw_tb := kt3 (n := 130) (by decide +kernel) rfl
theorem k_611 : (Jvm.Cond.code ({ cls := "NineKeysRound$Sightings", name := "seenAfter", desc := "(II)Z" } : Jvm.MethodName) prog_8_method_6_code (3 : Nat) (Option.some Jvm.ClassFile.FieldType.boolean)) ∈ lw_tb := kt3 (n := 131) (by decide +kernel) rfl
theorem k_612 : (Jvm.Cond.methodLink "NineKeysRoundLaw" (58 : Nat) ({ cls := "NineKeysRound", name := "lost", desc := "(IIII)I" } : Jvm.MethodName)) ∈ lw_tb := kt3 (n := 132) (by decide +kernel) rfl
theorem k_613 : (Jvm.Cond.instanceMethod ({ cls := "NineKeysRound", name := "lost", desc := "(IIII)I" } : Jvm.MethodName)) ∈ lw_tb := kt3 (n := 133) (by decide +kernel) rfl
theorem k_614 : (Jvm.Cond.selects "NineKeysRound" ({ cls := "NineKeysRound", name := "lost", desc := "(IIII)I" } : Jvm.MethodName) ({ cls := "NineKeysRound", name := "lost", desc := "(IIII)I" } : Jvm.MethodName)) ∈ lw_tb := kt3 (n := 134) (by decide +kernel) rfl
theorem k_615 : (Jvm.Cond.code ({ cls := "NineKeysRound", name := "lost", desc := "(IIII)I" } : Jvm.MethodName) prog_1_method_13_code (9 : Nat) (Option.some Jvm.ClassFile.FieldType.int)) ∈ lw_tb := kt3 (n := 135) (by decide +kernel) rfl
theorem k_616 : (Jvm.Cond.methodLink "NineKeysRound" (182 : Nat) ({ cls := "NineKeysRound", name := "lostAt", desc := "(III)I" } : Jvm.MethodName)) ∈ lw_tb := kt3 (n := 136) (by decide +kernel) rfl
theorem k_618 : (Jvm.Cond.instanceMethod ({ cls := "NineKeysRound", name := "lostAt", desc := "(III)I" } : Jvm.MethodName)) ∈ lw_tb := kt3 (n := 138) (by decide +kernel) rfl
theorem k_619 : (Jvm.Cond.code ({ cls := "NineKeysRound", name := "lostAt", desc := "(III)I" } : Jvm.MethodName) prog_1_method_14_code (7 : Nat) (Option.some Jvm.ClassFile.FieldType.int)) ∈ lw_tb := kt3 (n := 139) (by decide +kernel) rfl
theorem k_620 : (Jvm.Cond.methodLink "NineKeysRound" (185 : Nat) ({ cls := "NineKeysRound$Yard", name := "numberOf", desc := "(II)I" } : Jvm.MethodName)) ∈ lw_tb := kt3 (n := 140) (by decide +kernel) rfl
theorem k_621 : (Jvm.Cond.instanceMethod ({ cls := "NineKeysRound$Yard", name := "numberOf", desc := "(II)I" } : Jvm.MethodName)) ∈ lw_tb := kt3 (n := 141) (by decide +kernel) rfl
theorem k_622 : (Jvm.Cond.selects "NineKeysRound$Yard" ({ cls := "NineKeysRound$Yard", name := "numberOf", desc := "(II)I" } : Jvm.MethodName) ({ cls := "NineKeysRound$Yard", name := "numberOf", desc := "(II)I" } : Jvm.MethodName)) ∈ lw_tb := kt3 (n := 142) (by decide +kernel) rfl
theorem k_623 : (Jvm.Cond.code ({ cls := "NineKeysRound$Yard", name := "numberOf", desc := "(II)I" } : Jvm.MethodName) prog_10_method_8_code (4 : Nat) (Option.some Jvm.ClassFile.FieldType.int)) ∈ lw_tb := kt3 (n := 143) (by decide +kernel) rfl
theorem k_624 : (Jvm.Cond.methodLink "NineKeysRound$Yard" (33 : Nat) ({ cls := "NineKeysRound$Yard", name := "placeOf", desc := "(II)I" } : Jvm.MethodName)) ∈ lw_tb := kt3 (n := 144) (by decide +kernel) rfl
theorem k_625 : (Jvm.Cond.methodLink "NineKeysRound" (188 : Nat) ({ cls := "NineKeysRound$Law", name := "setPost", desc := "(IIII)V" } : Jvm.MethodName)) ∈ lw_tb := kt3 (n := 145) (by decide +kernel) rfl
theorem k_626 : (Jvm.Cond.instanceMethod ({ cls := "NineKeysRound$Law", name := "setPost", desc := "(IIII)V" } : Jvm.MethodName)) ∈ lw_tb := kt3 (n := 146) (by decide +kernel) rfl
theorem k_627 : (Jvm.Cond.selects "NineKeysRound$Law" ({ cls := "NineKeysRound$Law", name := "setPost", desc := "(IIII)V" } : Jvm.MethodName) ({ cls := "NineKeysRound$Law", name := "setPost", desc := "(IIII)V" } : Jvm.MethodName)) ∈ lw_tb := kt3 (n := 147) (by decide +kernel) rfl
theorem k_628 : (Jvm.Cond.code ({ cls := "NineKeysRound$Law", name := "setPost", desc := "(IIII)V" } : Jvm.MethodName) prog_6_method_14_code (5 : Nat) (Option.none : Option Jvm.ClassFile.FieldType)) ∈ lw_tb := kt3 (n := 148) (by decide +kernel) rfl
theorem k_629 : (Jvm.Cond.methodLink "NineKeysRound" (192 : Nat) ({ cls := "NineKeysRound$Sightings", name := "countBy", desc := "(II)I" } : Jvm.MethodName)) ∈ lw_tb := kt3 (n := 149) (by decide +kernel) rfl
theorem k_630 : (Jvm.Cond.instanceMethod ({ cls := "NineKeysRound$Sightings", name := "countBy", desc := "(II)I" } : Jvm.MethodName)) ∈ lw_tb := kt3 (n := 150) (by decide +kernel) rfl
theorem k_631 : (Jvm.Cond.selects "NineKeysRound$Sightings" ({ cls := "NineKeysRound$Sightings", name := "countBy", desc := "(II)I" } : Jvm.MethodName) ({ cls := "NineKeysRound$Sightings", name := "countBy", desc := "(II)I" } : Jvm.MethodName)) ∈ lw_tb := kt3 (n := 151) (by decide +kernel) rfl
theorem k_632 : (Jvm.Cond.code ({ cls := "NineKeysRound$Sightings", name := "countBy", desc := "(II)I" } : Jvm.MethodName) prog_8_method_4_code (4 : Nat) (Option.some Jvm.ClassFile.FieldType.int)) ∈ lw_tb := kt3 (n := 152) (by decide +kernel) rfl
theorem k_633 : (Jvm.Cond.methodLink "NineKeysRound$Sightings" (32 : Nat) ({ cls := "java/lang/Math", name := "max", desc := "(II)I" } : Jvm.MethodName)) ∈ lw_tb := kt3 (n := 153) (by decide +kernel) rfl
theorem k_634 : (Jvm.Cond.methodLink "NineKeysRound" (195 : Nat) ({ cls := "NineKeysRound$Sightings", name := "seenAfter", desc := "(II)Z" } : Jvm.MethodName)) ∈ lw_tb := kt3 (n := 154) (by decide +kernel) rfl
theorem k_635 : (Jvm.Cond.methodLink "NineKeysRound" (198 : Nat) ({ cls := "NineKeysRound$Sightings", name := "unseenAfter", desc := "(II)I" } : Jvm.MethodName)) ∈ lw_tb := kt3 (n := 155) (by decide +kernel) rfl
theorem k_636 : (Jvm.Cond.methodLink "NineKeysRound" (201 : Nat) ({ cls := "NineKeysRound$Law", name := "worth", desc := "(II)I" } : Jvm.MethodName)) ∈ lw_tb := kt3 (n := 156) (by decide +kernel) rfl
theorem k_637 : (Jvm.Cond.instanceMethod ({ cls := "NineKeysRound$Law", name := "worth", desc := "(II)I" } : Jvm.MethodName)) ∈ lw_tb := kt3 (n := 157) (by decide +kernel) rfl
theorem k_638 : (Jvm.Cond.selects "NineKeysRound$Law" ({ cls := "NineKeysRound$Law", name := "worth", desc := "(II)I" } : Jvm.MethodName) ({ cls := "NineKeysRound$Law", name := "worth", desc := "(II)I" } : Jvm.MethodName)) ∈ lw_tb := kt3 (n := 158) (by decide +kernel) rfl
theorem k_639 : (Jvm.Cond.code ({ cls := "NineKeysRound$Law", name := "worth", desc := "(II)I" } : Jvm.MethodName) prog_6_method_15_code (4 : Nat) (Option.some Jvm.ClassFile.FieldType.int)) ∈ lw_tb := kt3 (n := 159) (by decide +kernel) rfl
theorem k_640 : (Jvm.Cond.methodLink "NineKeysRound$Law" (90 : Nat) ({ cls := "NineKeysRound$Law", name := "run", desc := "()I" } : Jvm.MethodName)) ∈ lw_tb := kt3 (n := 160) (by decide +kernel) rfl
theorem k_642 : (Jvm.Cond.instanceMethod ({ cls := "NineKeysRound$Law", name := "run", desc := "()I" } : Jvm.MethodName)) ∈ lw_tb := kt3 (n := 162) (by decide +kernel) rfl
theorem k_643 : (Jvm.Cond.code ({ cls := "NineKeysRound$Law", name := "run", desc := "()I" } : Jvm.MethodName) prog_6_method_16_code (5 : Nat) (Option.some Jvm.ClassFile.FieldType.int)) ∈ lw_tb := kt3 (n := 163) (by decide +kernel) rfl
theorem k_644 : (Jvm.Cond.methodLink "NineKeysRound$Law" (102 : Nat) ({ cls := "NineKeysRound$Law", name := "nameAt", desc := "(I)I" } : Jvm.MethodName)) ∈ lw_tb := kt3 (n := 164) (by decide +kernel) rfl
theorem k_646 : (Jvm.Cond.instanceMethod ({ cls := "NineKeysRound$Law", name := "nameAt", desc := "(I)I" } : Jvm.MethodName)) ∈ lw_tb := kt3 (n := 166) (by decide +kernel) rfl
theorem k_647 : (Jvm.Cond.code ({ cls := "NineKeysRound$Law", name := "nameAt", desc := "(I)I" } : Jvm.MethodName) prog_6_method_18_code (2 : Nat) (Option.some Jvm.ClassFile.FieldType.int)) ∈ lw_tb := kt3 (n := 167) (by decide +kernel) rfl
theorem k_648 : (Jvm.Cond.methodLink "NineKeysRound$Law" (105 : Nat) ({ cls := "NineKeysRound$Law", name := "push", desc := "(II)I" } : Jvm.MethodName)) ∈ lw_tb := kt3 (n := 168) (by decide +kernel) rfl
theorem k_650 : (Jvm.Cond.instanceMethod ({ cls := "NineKeysRound$Law", name := "push", desc := "(II)I" } : Jvm.MethodName)) ∈ lw_tb := kt3 (n := 170) (by decide +kernel) rfl
theorem k_651 : (Jvm.Cond.code ({ cls := "NineKeysRound$Law", name := "push", desc := "(II)I" } : Jvm.MethodName) prog_6_method_17_code (3 : Nat) (Option.some Jvm.ClassFile.FieldType.int)) ∈ lw_tb := kt3 (n := 171) (by decide +kernel) rfl
theorem k_652 : (Jvm.Cond.methodLink "NineKeysRound$Law" (99 : Nat) ({ cls := "java/lang/Math", name := "max", desc := "(II)I" } : Jvm.MethodName)) ∈ lw_tb := kt3 (n := 172) (by decide +kernel) rfl
theorem k_653 : (Jvm.Cond.methodLink "NineKeysRound$Law" (108 : Nat) ({ cls := "NineKeysRound$Law", name := "work", desc := "(II)I" } : Jvm.MethodName)) ∈ lw_tb := kt3 (n := 173) (by decide +kernel) rfl
theorem k_655 : (Jvm.Cond.instanceMethod ({ cls := "NineKeysRound$Law", name := "work", desc := "(II)I" } : Jvm.MethodName)) ∈ lw_tb := kt3 (n := 175) (by decide +kernel) rfl
theorem k_656 : (Jvm.Cond.code ({ cls := "NineKeysRound$Law", name := "work", desc := "(II)I" } : Jvm.MethodName) prog_6_method_19_code (3 : Nat) (Option.some Jvm.ClassFile.FieldType.int)) ∈ lw_tb := kt3 (n := 176) (by decide +kernel) rfl
theorem k_657 : (Jvm.Cond.methodLink "NineKeysRound$Law" (111 : Nat) ({ cls := "NineKeysRound$Law", name := "truth", desc := "(Z)I" } : Jvm.MethodName)) ∈ lw_tb := kt3 (n := 177) (by decide +kernel) rfl
theorem k_658 : (Jvm.Cond.static ({ cls := "NineKeysRound$Law", name := "truth", desc := "(Z)I" } : Jvm.MethodName)) ∈ lw_tb := kt3 (n := 178) (by decide +kernel) rfl
theorem k_659 : (Jvm.Cond.code ({ cls := "NineKeysRound$Law", name := "truth", desc := "(Z)I" } : Jvm.MethodName) prog_6_method_20_code (1 : Nat) (Option.some Jvm.ClassFile.FieldType.int)) ∈ lw_tb := kt3 (n := 179) (by decide +kernel) rfl
theorem k_660 : (Jvm.Cond.methodLink "NineKeysRound$Law" (115 : Nat) ({ cls := "NineKeysRound$Law", name := "join", desc := "(III)I" } : Jvm.MethodName)) ∈ lw_tb := kt3 (n := 180) (by decide +kernel) rfl
theorem k_661 : (Jvm.Cond.static ({ cls := "NineKeysRound$Law", name := "join", desc := "(III)I" } : Jvm.MethodName)) ∈ lw_tb := kt3 (n := 181) (by decide +kernel) rfl
theorem k_662 : (Jvm.Cond.code ({ cls := "NineKeysRound$Law", name := "join", desc := "(III)I" } : Jvm.MethodName) prog_6_method_21_code (3 : Nat) (Option.some Jvm.ClassFile.FieldType.int)) ∈ lw_tb := kt3 (n := 182) (by decide +kernel) rfl
theorem k_663 : (Jvm.Cond.methodLink "NineKeysRound$Law" (93 : Nat) ({ cls := "java/lang/Math", name := "min", desc := "(II)I" } : Jvm.MethodName)) ∈ lw_tb := kt3 (n := 183) (by decide +kernel) rfl
theorem k_664 : (Jvm.Cond.methodLink "NineKeysRoundLaw" (62 : Nat) ({ cls := "NineKeysRound", name := "red", desc := "(II)I" } : Jvm.MethodName)) ∈ lw_tb := kt3 (n := 184) (by decide +kernel) rfl
theorem k_665 : (Jvm.Cond.instanceMethod ({ cls := "NineKeysRound", name := "red", desc := "(II)I" } : Jvm.MethodName)) ∈ lw_tb := kt3 (n := 185) (by decide +kernel) rfl
theorem k_666 : (Jvm.Cond.selects "NineKeysRound" ({ cls := "NineKeysRound", name := "red", desc := "(II)I" } : Jvm.MethodName) ({ cls := "NineKeysRound", name := "red", desc := "(II)I" } : Jvm.MethodName)) ∈ lw_tb := kt3 (n := 186) (by decide +kernel) rfl
theorem k_667 : (Jvm.Cond.code ({ cls := "NineKeysRound", name := "red", desc := "(II)I" } : Jvm.MethodName) prog_1_method_15_code (4 : Nat) (Option.some Jvm.ClassFile.FieldType.int)) ∈ lw_tb := kt3 (n := 187) (by decide +kernel) rfl
theorem k_668 : (Jvm.Cond.methodLink "NineKeysRound" (204 : Nat) ({ cls := "NineKeysRound$Yard", name := "all", desc := "()I" } : Jvm.MethodName)) ∈ lw_tb := kt3 (n := 188) (by decide +kernel) rfl
theorem k_669 : (Jvm.Cond.instanceMethod ({ cls := "NineKeysRound$Yard", name := "all", desc := "()I" } : Jvm.MethodName)) ∈ lw_tb := kt3 (n := 189) (by decide +kernel) rfl
theorem k_670 : (Jvm.Cond.selects "NineKeysRound$Yard" ({ cls := "NineKeysRound$Yard", name := "all", desc := "()I" } : Jvm.MethodName) ({ cls := "NineKeysRound$Yard", name := "all", desc := "()I" } : Jvm.MethodName)) ∈ lw_tb := kt3 (n := 190) (by decide +kernel) rfl
theorem k_671 : (Jvm.Cond.code ({ cls := "NineKeysRound$Yard", name := "all", desc := "()I" } : Jvm.MethodName) prog_10_method_5_code (1 : Nat) (Option.some Jvm.ClassFile.FieldType.int)) ∈ lw_tb := kt3 (n := 191) (by decide +kernel) rfl
theorem k_672 : (Jvm.Cond.methodLink "NineKeysRound" (207 : Nat) ({ cls := "NineKeysRound$Course", name := "dentedWithin", desc := "(II)I" } : Jvm.MethodName)) ∈ lw_tb := kt3 (n := 192) (by decide +kernel) rfl
theorem k_673 : (Jvm.Cond.instanceMethod ({ cls := "NineKeysRound$Course", name := "dentedWithin", desc := "(II)I" } : Jvm.MethodName)) ∈ lw_tb := kt3 (n := 193) (by decide +kernel) rfl
theorem k_674 : (Jvm.Cond.selects "NineKeysRound$Course" ({ cls := "NineKeysRound$Course", name := "dentedWithin", desc := "(II)I" } : Jvm.MethodName) ({ cls := "NineKeysRound$Course", name := "dentedWithin", desc := "(II)I" } : Jvm.MethodName)) ∈ lw_tb := kt3 (n := 194) (by decide +kernel) rfl
theorem k_675 : (Jvm.Cond.code ({ cls := "NineKeysRound$Course", name := "dentedWithin", desc := "(II)I" } : Jvm.MethodName) prog_3_method_12_code (6 : Nat) (Option.some Jvm.ClassFile.FieldType.int)) ∈ lw_tb := kt3 (n := 195) (by decide +kernel) rfl
theorem k_676 : (Jvm.Cond.methodLink "NineKeysRound$Course" (74 : Nat) ({ cls := "NineKeysRound$Course", name := "stopOf", desc := "(I)I" } : Jvm.MethodName)) ∈ lw_tb := kt3 (n := 196) (by decide +kernel) rfl
theorem k_677 : (Jvm.Cond.methodLink "NineKeysRoundLaw" (66 : Nat) ({ cls := "NineKeysRound", name := "gap", desc := "(II)I" } : Jvm.MethodName)) ∈ lw_tb := kt3 (n := 197) (by decide +kernel) rfl
theorem k_678 : (Jvm.Cond.instanceMethod ({ cls := "NineKeysRound", name := "gap", desc := "(II)I" } : Jvm.MethodName)) ∈ lw_tb := kt3 (n := 198) (by decide +kernel) rfl
theorem k_679 : (Jvm.Cond.selects "NineKeysRound" ({ cls := "NineKeysRound", name := "gap", desc := "(II)I" } : Jvm.MethodName) ({ cls := "NineKeysRound", name := "gap", desc := "(II)I" } : Jvm.MethodName)) ∈ lw_tb := kt3 (n := 199) (by decide +kernel) rfl
theorem k_680 : (Jvm.Cond.code ({ cls := "NineKeysRound", name := "gap", desc := "(II)I" } : Jvm.MethodName) prog_1_method_16_code (4 : Nat) (Option.some Jvm.ClassFile.FieldType.int)) ∈ lw_tb := kt3 (n := 200) (by decide +kernel) rfl
theorem k_681 : (Jvm.Cond.methodLink "NineKeysRound" (210 : Nat) ({ cls := "NineKeysRound$Course", name := "longestGapOf", desc := "(I)I" } : Jvm.MethodName)) ∈ lw_tb := kt3 (n := 201) (by decide +kernel) rfl
theorem k_682 : (Jvm.Cond.instanceMethod ({ cls := "NineKeysRound$Course", name := "longestGapOf", desc := "(I)I" } : Jvm.MethodName)) ∈ lw_tb := kt3 (n := 202) (by decide +kernel) rfl
theorem k_683 : (Jvm.Cond.selects "NineKeysRound$Course" ({ cls := "NineKeysRound$Course", name := "longestGapOf", desc := "(I)I" } : Jvm.MethodName) ({ cls := "NineKeysRound$Course", name := "longestGapOf", desc := "(I)I" } : Jvm.MethodName)) ∈ lw_tb := kt3 (n := 203) (by decide +kernel) rfl
theorem k_684 : (Jvm.Cond.code ({ cls := "NineKeysRound$Course", name := "longestGapOf", desc := "(I)I" } : Jvm.MethodName) prog_3_method_13_code (5 : Nat) (Option.some Jvm.ClassFile.FieldType.int)) ∈ lw_tb := kt3 (n := 204) (by decide +kernel) rfl
theorem k_685 : (Jvm.Cond.methodLink "NineKeysRound$Course" (77 : Nat) ({ cls := "NineKeysRound$Course", name := "firstMinuteOf", desc := "(I)I" } : Jvm.MethodName)) ∈ lw_tb := kt3 (n := 205) (by decide +kernel) rfl
theorem k_686 : (Jvm.Cond.methodLink "NineKeysRound$Course" (80 : Nat) ({ cls := "NineKeysRound$Course", name := "minuteOf", desc := "(I)I" } : Jvm.MethodName)) ∈ lw_tb := kt3 (n := 206) (by decide +kernel) rfl
theorem k_688 : (Jvm.Cond.instanceMethod ({ cls := "NineKeysRound$Course", name := "minuteOf", desc := "(I)I" } : Jvm.MethodName)) ∈ lw_tb := kt3 (n := 208) (by decide +kernel) rfl
theorem k_689 : (Jvm.Cond.code ({ cls := "NineKeysRound$Course", name := "minuteOf", desc := "(I)I" } : Jvm.MethodName) prog_3_method_7_code (2 : Nat) (Option.some Jvm.ClassFile.FieldType.int)) ∈ lw_tb := kt3 (n := 209) (by decide +kernel) rfl
theorem k_690 : (Jvm.Cond.methodLink "NineKeysRoundLaw" (70 : Nat) ({ cls := "NineKeysRound", name := "late", desc := "(I)I" } : Jvm.MethodName)) ∈ lw_tb := kt3 (n := 210) (by decide +kernel) rfl
theorem k_691 : (Jvm.Cond.instanceMethod ({ cls := "NineKeysRound", name := "late", desc := "(I)I" } : Jvm.MethodName)) ∈ lw_tb := kt3 (n := 211) (by decide +kernel) rfl
theorem k_692 : (Jvm.Cond.selects "NineKeysRound" ({ cls := "NineKeysRound", name := "late", desc := "(I)I" } : Jvm.MethodName) ({ cls := "NineKeysRound", name := "late", desc := "(I)I" } : Jvm.MethodName)) ∈ lw_tb := kt3 (n := 212) (by decide +kernel) rfl
theorem k_693 : (Jvm.Cond.code ({ cls := "NineKeysRound", name := "late", desc := "(I)I" } : Jvm.MethodName) prog_1_method_17_code (6 : Nat) (Option.some Jvm.ClassFile.FieldType.int)) ∈ lw_tb := kt3 (n := 213) (by decide +kernel) rfl
theorem k_694 : (Jvm.Cond.methodLink "NineKeysRoundLaw" (74 : Nat) ({ cls := "NineKeysRound", name := "shortest", desc := "(II)I" } : Jvm.MethodName)) ∈ lw_tb := kt3 (n := 214) (by decide +kernel) rfl
theorem k_695 : (Jvm.Cond.instanceMethod ({ cls := "NineKeysRound", name := "shortest", desc := "(II)I" } : Jvm.MethodName)) ∈ lw_tb := kt3 (n := 215) (by decide +kernel) rfl
theorem k_696 : (Jvm.Cond.selects "NineKeysRound" ({ cls := "NineKeysRound", name := "shortest", desc := "(II)I" } : Jvm.MethodName) ({ cls := "NineKeysRound", name := "shortest", desc := "(II)I" } : Jvm.MethodName)) ∈ lw_tb := kt3 (n := 216) (by decide +kernel) rfl
theorem k_697 : (Jvm.Cond.code ({ cls := "NineKeysRound", name := "shortest", desc := "(II)I" } : Jvm.MethodName) prog_1_method_18_code (4 : Nat) (Option.some Jvm.ClassFile.FieldType.int)) ∈ lw_tb := kt3 (n := 217) (by decide +kernel) rfl
theorem k_698 : (Jvm.Cond.methodLink "NineKeysRound" (213 : Nat) ({ cls := "NineKeysRound$Yard", name := "isSet", desc := "(I)Z" } : Jvm.MethodName)) ∈ lw_tb := kt3 (n := 218) (by decide +kernel) rfl
theorem k_699 : (Jvm.Cond.instanceMethod ({ cls := "NineKeysRound$Yard", name := "isSet", desc := "(I)Z" } : Jvm.MethodName)) ∈ lw_tb := kt3 (n := 219) (by decide +kernel) rfl
theorem k_700 : (Jvm.Cond.selects "NineKeysRound$Yard" ({ cls := "NineKeysRound$Yard", name := "isSet", desc := "(I)Z" } : Jvm.MethodName) ({ cls := "NineKeysRound$Yard", name := "isSet", desc := "(I)Z" } : Jvm.MethodName)) ∈ lw_tb := kt3 (n := 220) (by decide +kernel) rfl
theorem k_701 : (Jvm.Cond.code ({ cls := "NineKeysRound$Yard", name := "isSet", desc := "(I)Z" } : Jvm.MethodName) prog_10_method_6_code (2 : Nat) (Option.some Jvm.ClassFile.FieldType.boolean)) ∈ lw_tb := kt3 (n := 221) (by decide +kernel) rfl
theorem k_702 : (Jvm.Cond.methodLink "NineKeysRound$Yard" (25 : Nat) ({ cls := "NineKeysRound$Yard", name := "all", desc := "()I" } : Jvm.MethodName)) ∈ lw_tb := kt3 (n := 222) (by decide +kernel) rfl
theorem k_703 : (Jvm.Cond.methodLink "NineKeysRound" (216 : Nat) ({ cls := "java/lang/Integer", name := "bitCount", desc := "(I)I" } : Jvm.MethodName)) ∈ lw_tb := kt3 (n := 223) (by decide +kernel) rfl
theorem k_704 : (Jvm.Cond.static ({ cls := "java/lang/Integer", name := "bitCount", desc := "(I)I" } : Jvm.MethodName)) ∈ lw_tb := kt3 (n := 224) (by decide +kernel) rfl
theorem k_705 : (Jvm.Cond.code ({ cls := "java/lang/Integer", name := "bitCount", desc := "(I)I" } : Jvm.MethodName) prog_14_method_49_code (1 : Nat) (Option.some Jvm.ClassFile.FieldType.int)) ∈ lw_tb := kt3 (n := 225) (by decide +kernel) rfl
theorem k_706 : (Jvm.Cond.constant "java/lang/Integer" (265 : Nat) (1431655765 : Int32)) ∈ lw_tb := kt3 (n := 226) (by decide +kernel) rfl
theorem k_707 : (Jvm.Cond.constant "java/lang/Integer" (266 : Nat) (858993459 : Int32)) ∈ lw_tb := kt3 (n := 227) (by decide +kernel) rfl
theorem k_708 : (Jvm.Cond.constant "java/lang/Integer" (267 : Nat) (252645135 : Int32)) ∈ lw_tb := kt3 (n := 228) (by decide +kernel) rfl
theorem k_709 : (Jvm.Cond.methodLink "NineKeysRound" (221 : Nat) ({ cls := "NineKeysRound$Tour", name := "reckon", desc := "(I)I" } : Jvm.MethodName)) ∈ lw_tb := kt3 (n := 229) (by decide +kernel) rfl
theorem k_710 : (Jvm.Cond.instanceMethod ({ cls := "NineKeysRound$Tour", name := "reckon", desc := "(I)I" } : Jvm.MethodName)) ∈ lw_tb := kt3 (n := 230) (by decide +kernel) rfl
theorem k_711 : (Jvm.Cond.selects "NineKeysRound$Tour" ({ cls := "NineKeysRound$Tour", name := "reckon", desc := "(I)I" } : Jvm.MethodName) ({ cls := "NineKeysRound$Tour", name := "reckon", desc := "(I)I" } : Jvm.MethodName)) ∈ lw_tb := kt3 (n := 231) (by decide +kernel) rfl
theorem k_712 : (Jvm.Cond.code ({ cls := "NineKeysRound$Tour", name := "reckon", desc := "(I)I" } : Jvm.MethodName) prog_9_method_2_code (4 : Nat) (Option.some Jvm.ClassFile.FieldType.int)) ∈ lw_tb := kt3 (n := 232) (by decide +kernel) rfl
theorem k_713 : (Jvm.Cond.methodLink "NineKeysRound$Tour" (29 : Nat) ({ cls := "NineKeysRound$Tour", name := "leastFrom", desc := "(II)I" } : Jvm.MethodName)) ∈ lw_tb := kt3 (n := 233) (by decide +kernel) rfl
theorem k_715 : (Jvm.Cond.instanceMethod ({ cls := "NineKeysRound$Tour", name := "leastFrom", desc := "(II)I" } : Jvm.MethodName)) ∈ lw_tb := kt3 (n := 235) (by decide +kernel) rfl
theorem k_716 : (Jvm.Cond.code ({ cls := "NineKeysRound$Tour", name := "leastFrom", desc := "(II)I" } : Jvm.MethodName) prog_9_method_4_code (5 : Nat) (Option.some Jvm.ClassFile.FieldType.int)) ∈ lw_tb := kt3 (n := 236) (by decide +kernel) rfl
theorem k_717 : (Jvm.Cond.methodLink "NineKeysRound$Tour" (33 : Nat) ({ cls := "NineKeysRound$Yard", name := "way", desc := "(II)I" } : Jvm.MethodName)) ∈ lw_tb := kt3 (n := 237) (by decide +kernel) rfl
theorem k_718 : (Jvm.Cond.constant "NineKeysRound$Tour" (36 : Nat) (2147483647 : Int32)) ∈ lw_tb := kt3 (n := 238) (by decide +kernel) rfl
theorem k_719 : (Jvm.Cond.methodLink "NineKeysRound$Tour" (37 : Nat) ({ cls := "NineKeysRound$Tour", name := "throughFirst", desc := "(III)I" } : Jvm.MethodName)) ∈ lw_tb := kt3 (n := 239) (by decide +kernel) rfl
theorem k_721 : (Jvm.Cond.instanceMethod ({ cls := "NineKeysRound$Tour", name := "throughFirst", desc := "(III)I" } : Jvm.MethodName)) ∈ lw_tb := kt4 (n := 1) (by decide +kernel) rfl
theorem k_722 : (Jvm.Cond.code ({ cls := "NineKeysRound$Tour", name := "throughFirst", desc := "(III)I" } : Jvm.MethodName) prog_9_method_5_code (5 : Nat) (Option.some Jvm.ClassFile.FieldType.int)) ∈ lw_tb := kt4 (n := 2) (by decide +kernel) rfl
theorem k_723 : (Jvm.Cond.methodLink "NineKeysRound$Tour" (46 : Nat) ({ cls := "NineKeysRound$Yard", name := "stand", desc := "()I" } : Jvm.MethodName)) ∈ lw_tb := kt4 (n := 3) (by decide +kernel) rfl
theorem k_724 : (Jvm.Cond.methodLink "NineKeysRound$Tour" (41 : Nat) ({ cls := "java/lang/Math", name := "min", desc := "(II)I" } : Jvm.MethodName)) ∈ lw_tb := kt4 (n := 4) (by decide +kernel) rfl
theorem k_725 : (Jvm.Cond.methodLink "NineKeysRound" (225 : Nat) ({ cls := "NineKeysRound$Tour", name := "stopAt", desc := "(I)I" } : Jvm.MethodName)) ∈ lw_tb := kt4 (n := 5) (by decide +kernel) rfl
theorem k_726 : (Jvm.Cond.instanceMethod ({ cls := "NineKeysRound$Tour", name := "stopAt", desc := "(I)I" } : Jvm.MethodName)) ∈ lw_tb := kt4 (n := 6) (by decide +kernel) rfl
theorem k_727 : (Jvm.Cond.selects "NineKeysRound$Tour" ({ cls := "NineKeysRound$Tour", name := "stopAt", desc := "(I)I" } : Jvm.MethodName) ({ cls := "NineKeysRound$Tour", name := "stopAt", desc := "(I)I" } : Jvm.MethodName)) ∈ lw_tb := kt4 (n := 7) (by decide +kernel) rfl
theorem k_728 : (Jvm.Cond.code ({ cls := "NineKeysRound$Tour", name := "stopAt", desc := "(I)I" } : Jvm.MethodName) prog_9_method_6_code (6 : Nat) (Option.some Jvm.ClassFile.FieldType.int)) ∈ lw_tb := kt4 (n := 8) (by decide +kernel) rfl
theorem k_729 : (Jvm.Cond.methodLink "NineKeysRound$Tour" (50 : Nat) ({ cls := "NineKeysRound$Tour", name := "firstOfLeast", desc := "(II)I" } : Jvm.MethodName)) ∈ lw_tb := kt4 (n := 9) (by decide +kernel) rfl
theorem k_731 : (Jvm.Cond.instanceMethod ({ cls := "NineKeysRound$Tour", name := "firstOfLeast", desc := "(II)I" } : Jvm.MethodName)) ∈ lw_tb := kt4 (n := 11) (by decide +kernel) rfl
theorem k_732 : (Jvm.Cond.code ({ cls := "NineKeysRound$Tour", name := "firstOfLeast", desc := "(II)I" } : Jvm.MethodName) prog_9_method_7_code (5 : Nat) (Option.some Jvm.ClassFile.FieldType.int)) ∈ lw_tb := kt4 (n := 12) (by decide +kernel) rfl
theorem k_733 : (Jvm.Cond.methodLink "NineKeysRoundLaw" (78 : Nat) ({ cls := "NineKeysRound", name := "leftOut", desc := "(II)I" } : Jvm.MethodName)) ∈ lw_tb := kt4 (n := 13) (by decide +kernel) rfl
theorem k_734 : (Jvm.Cond.instanceMethod ({ cls := "NineKeysRound", name := "leftOut", desc := "(II)I" } : Jvm.MethodName)) ∈ lw_tb := kt4 (n := 14) (by decide +kernel) rfl
theorem k_735 : (Jvm.Cond.selects "NineKeysRound" ({ cls := "NineKeysRound", name := "leftOut", desc := "(II)I" } : Jvm.MethodName) ({ cls := "NineKeysRound", name := "leftOut", desc := "(II)I" } : Jvm.MethodName)) ∈ lw_tb := kt4 (n := 15) (by decide +kernel) rfl
theorem k_736 : (Jvm.Cond.code ({ cls := "NineKeysRound", name := "leftOut", desc := "(II)I" } : Jvm.MethodName) prog_1_method_19_code (7 : Nat) (Option.some Jvm.ClassFile.FieldType.int)) ∈ lw_tb := kt4 (n := 16) (by decide +kernel) rfl
theorem k_737 : (Jvm.Cond.methodLink "NineKeysRound" (228 : Nat) ({ cls := "NineKeysRound$Tour", name := "minutesWithout", desc := "(I)I" } : Jvm.MethodName)) ∈ lw_tb := kt4 (n := 17) (by decide +kernel) rfl
theorem k_738 : (Jvm.Cond.instanceMethod ({ cls := "NineKeysRound$Tour", name := "minutesWithout", desc := "(I)I" } : Jvm.MethodName)) ∈ lw_tb := kt4 (n := 18) (by decide +kernel) rfl
theorem k_739 : (Jvm.Cond.selects "NineKeysRound$Tour" ({ cls := "NineKeysRound$Tour", name := "minutesWithout", desc := "(I)I" } : Jvm.MethodName) ({ cls := "NineKeysRound$Tour", name := "minutesWithout", desc := "(I)I" } : Jvm.MethodName)) ∈ lw_tb := kt4 (n := 19) (by decide +kernel) rfl
theorem k_740 : (Jvm.Cond.code ({ cls := "NineKeysRound$Tour", name := "minutesWithout", desc := "(I)I" } : Jvm.MethodName) prog_9_method_3_code (2 : Nat) (Option.some Jvm.ClassFile.FieldType.int)) ∈ lw_tb := kt4 (n := 20) (by decide +kernel) rfl
theorem k_741 : (Jvm.Cond.methodLink "NineKeysRoundLaw" (82 : Nat) ({ cls := "NineKeysRound", name := "thief", desc := "(IIII)I" } : Jvm.MethodName)) ∈ lw_tb := kt4 (n := 21) (by decide +kernel) rfl
theorem k_742 : (Jvm.Cond.instanceMethod ({ cls := "NineKeysRound", name := "thief", desc := "(IIII)I" } : Jvm.MethodName)) ∈ lw_tb := kt4 (n := 22) (by decide +kernel) rfl
theorem k_743 : (Jvm.Cond.selects "NineKeysRound" ({ cls := "NineKeysRound", name := "thief", desc := "(IIII)I" } : Jvm.MethodName) ({ cls := "NineKeysRound", name := "thief", desc := "(IIII)I" } : Jvm.MethodName)) ∈ lw_tb := kt4 (n := 23) (by decide +kernel) rfl
theorem k_744 : (Jvm.Cond.code ({ cls := "NineKeysRound", name := "thief", desc := "(IIII)I" } : Jvm.MethodName) prog_1_method_20_code (6 : Nat) (Option.some Jvm.ClassFile.FieldType.int)) ∈ lw_tb := kt4 (n := 24) (by decide +kernel) rfl
theorem k_745 : (Jvm.Cond.methodLink "NineKeysRound" (234 : Nat) ({ cls := "NineKeysRound", name := "isNeed", desc := "(I)Z" } : Jvm.MethodName)) ∈ lw_tb := kt4 (n := 25) (by decide +kernel) rfl
theorem k_746 : (Jvm.Cond.static ({ cls := "NineKeysRound", name := "isNeed", desc := "(I)Z" } : Jvm.MethodName)) ∈ lw_tb := kt4 (n := 26) (by decide +kernel) rfl
theorem k_747 : (Jvm.Cond.code ({ cls := "NineKeysRound", name := "isNeed", desc := "(I)Z" } : Jvm.MethodName) prog_1_method_64_code (1 : Nat) (Option.some Jvm.ClassFile.FieldType.boolean)) ∈ lw_tb := kt4 (n := 27) (by decide +kernel) rfl
theorem k_748 : (Jvm.Cond.methodLink "NineKeysRound" (237 : Nat) ({ cls := "NineKeysRound", name := "freeStart", desc := "(III)I" } : Jvm.MethodName)) ∈ lw_tb := kt4 (n := 28) (by decide +kernel) rfl
theorem k_750 : (Jvm.Cond.instanceMethod ({ cls := "NineKeysRound", name := "freeStart", desc := "(III)I" } : Jvm.MethodName)) ∈ lw_tb := kt4 (n := 30) (by decide +kernel) rfl
theorem k_751 : (Jvm.Cond.code ({ cls := "NineKeysRound", name := "freeStart", desc := "(III)I" } : Jvm.MethodName) prog_1_method_22_code (5 : Nat) (Option.some Jvm.ClassFile.FieldType.int)) ∈ lw_tb := kt4 (n := 31) (by decide +kernel) rfl
theorem k_752 : (Jvm.Cond.methodLink "NineKeysRound" (240 : Nat) ({ cls := "NineKeysRound$Sightings", name := "freeFrom", desc := "(II)I" } : Jvm.MethodName)) ∈ lw_tb := kt4 (n := 32) (by decide +kernel) rfl
theorem k_753 : (Jvm.Cond.instanceMethod ({ cls := "NineKeysRound$Sightings", name := "freeFrom", desc := "(II)I" } : Jvm.MethodName)) ∈ lw_tb := kt4 (n := 33) (by decide +kernel) rfl
theorem k_754 : (Jvm.Cond.selects "NineKeysRound$Sightings" ({ cls := "NineKeysRound$Sightings", name := "freeFrom", desc := "(II)I" } : Jvm.MethodName) ({ cls := "NineKeysRound$Sightings", name := "freeFrom", desc := "(II)I" } : Jvm.MethodName)) ∈ lw_tb := kt4 (n := 34) (by decide +kernel) rfl
theorem k_755 : (Jvm.Cond.code ({ cls := "NineKeysRound$Sightings", name := "freeFrom", desc := "(II)I" } : Jvm.MethodName) prog_8_method_9_code (5 : Nat) (Option.some Jvm.ClassFile.FieldType.int)) ∈ lw_tb := kt4 (n := 35) (by decide +kernel) rfl
theorem k_756 : (Jvm.Cond.methodLink "NineKeysRoundLaw" (86 : Nat) ({ cls := "NineKeysRound", name := "safe", desc := "(II)I" } : Jvm.MethodName)) ∈ lw_tb := kt4 (n := 36) (by decide +kernel) rfl
theorem k_757 : (Jvm.Cond.instanceMethod ({ cls := "NineKeysRound", name := "safe", desc := "(II)I" } : Jvm.MethodName)) ∈ lw_tb := kt4 (n := 37) (by decide +kernel) rfl
theorem k_758 : (Jvm.Cond.selects "NineKeysRound" ({ cls := "NineKeysRound", name := "safe", desc := "(II)I" } : Jvm.MethodName) ({ cls := "NineKeysRound", name := "safe", desc := "(II)I" } : Jvm.MethodName)) ∈ lw_tb := kt4 (n := 38) (by decide +kernel) rfl
theorem k_759 : (Jvm.Cond.code ({ cls := "NineKeysRound", name := "safe", desc := "(II)I" } : Jvm.MethodName) prog_1_method_21_code (6 : Nat) (Option.some Jvm.ClassFile.FieldType.int)) ∈ lw_tb := kt4 (n := 39) (by decide +kernel) rfl
theorem k_760 : (Jvm.Cond.methodLink "NineKeysRoundLaw" (90 : Nat) ({ cls := "NineKeysRound", name := "two", desc := "(III)I" } : Jvm.MethodName)) ∈ lw_tb := kt4 (n := 40) (by decide +kernel) rfl
theorem k_761 : (Jvm.Cond.instanceMethod ({ cls := "NineKeysRound", name := "two", desc := "(III)I" } : Jvm.MethodName)) ∈ lw_tb := kt4 (n := 41) (by decide +kernel) rfl
theorem k_762 : (Jvm.Cond.selects "NineKeysRound" ({ cls := "NineKeysRound", name := "two", desc := "(III)I" } : Jvm.MethodName) ({ cls := "NineKeysRound", name := "two", desc := "(III)I" } : Jvm.MethodName)) ∈ lw_tb := kt4 (n := 42) (by decide +kernel) rfl
theorem k_763 : (Jvm.Cond.code ({ cls := "NineKeysRound", name := "two", desc := "(III)I" } : Jvm.MethodName) prog_1_method_23_code (6 : Nat) (Option.some Jvm.ClassFile.FieldType.int)) ∈ lw_tb := kt4 (n := 43) (by decide +kernel) rfl
theorem k_764 : (Jvm.Cond.methodLink "NineKeysRound" (243 : Nat) ({ cls := "NineKeysRound", name := "bestSecond", desc := "()I" } : Jvm.MethodName)) ∈ lw_tb := kt4 (n := 44) (by decide +kernel) rfl
theorem k_766 : (Jvm.Cond.instanceMethod ({ cls := "NineKeysRound", name := "bestSecond", desc := "()I" } : Jvm.MethodName)) ∈ lw_tb := kt4 (n := 46) (by decide +kernel) rfl
theorem k_767 : (Jvm.Cond.code ({ cls := "NineKeysRound", name := "bestSecond", desc := "()I" } : Jvm.MethodName) prog_1_method_24_code (3 : Nat) (Option.some Jvm.ClassFile.FieldType.int)) ∈ lw_tb := kt4 (n := 47) (by decide +kernel) rfl
theorem k_768 : (Jvm.Cond.methodLink "NineKeysRound" (246 : Nat) ({ cls := "NineKeysRound$Sightings", name := "widestOfTwo", desc := "(II)I" } : Jvm.MethodName)) ∈ lw_tb := kt4 (n := 48) (by decide +kernel) rfl
theorem k_769 : (Jvm.Cond.instanceMethod ({ cls := "NineKeysRound$Sightings", name := "widestOfTwo", desc := "(II)I" } : Jvm.MethodName)) ∈ lw_tb := kt4 (n := 49) (by decide +kernel) rfl
theorem k_770 : (Jvm.Cond.selects "NineKeysRound$Sightings" ({ cls := "NineKeysRound$Sightings", name := "widestOfTwo", desc := "(II)I" } : Jvm.MethodName) ({ cls := "NineKeysRound$Sightings", name := "widestOfTwo", desc := "(II)I" } : Jvm.MethodName)) ∈ lw_tb := kt4 (n := 50) (by decide +kernel) rfl
theorem k_771 : (Jvm.Cond.code ({ cls := "NineKeysRound$Sightings", name := "widestOfTwo", desc := "(II)I" } : Jvm.MethodName) prog_8_method_11_code (11 : Nat) (Option.some Jvm.ClassFile.FieldType.int)) ∈ lw_tb := kt4 (n := 51) (by decide +kernel) rfl
theorem k_772 : (Jvm.Cond.methodLink "NineKeysRound$Sightings" (48 : Nat) ({ cls := "NineKeysRound$Sightings", name := "countBy", desc := "(II)I" } : Jvm.MethodName)) ∈ lw_tb := kt4 (n := 52) (by decide +kernel) rfl
theorem k_773 : (Jvm.Cond.constant "NineKeysRound$Sightings" (51 : Nat) (2147483647 : Int32)) ∈ lw_tb := kt4 (n := 53) (by decide +kernel) rfl
theorem k_774 : (Jvm.Cond.methodLink "NineKeysRound$Sightings" (45 : Nat) ({ cls := "java/lang/Math", name := "min", desc := "(II)I" } : Jvm.MethodName)) ∈ lw_tb := kt4 (n := 54) (by decide +kernel) rfl
theorem k_775 : (Jvm.Cond.methodLink "NineKeysRound" (249 : Nat) ({ cls := "java/lang/Math", name := "max", desc := "(II)I" } : Jvm.MethodName)) ∈ lw_tb := kt4 (n := 55) (by decide +kernel) rfl
theorem k_776 : (Jvm.Cond.methodLink "NineKeysRoundLaw" (94 : Nat) ({ cls := "NineKeysRound", name := "success", desc := "(IIII)I" } : Jvm.MethodName)) ∈ lw_tb := kt4 (n := 56) (by decide +kernel) rfl
theorem k_777 : (Jvm.Cond.instanceMethod ({ cls := "NineKeysRound", name := "success", desc := "(IIII)I" } : Jvm.MethodName)) ∈ lw_tb := kt4 (n := 57) (by decide +kernel) rfl
theorem k_778 : (Jvm.Cond.selects "NineKeysRound" ({ cls := "NineKeysRound", name := "success", desc := "(IIII)I" } : Jvm.MethodName) ({ cls := "NineKeysRound", name := "success", desc := "(IIII)I" } : Jvm.MethodName)) ∈ lw_tb := kt4 (n := 58) (by decide +kernel) rfl
theorem k_779 : (Jvm.Cond.code ({ cls := "NineKeysRound", name := "success", desc := "(IIII)I" } : Jvm.MethodName) prog_1_method_25_code (8 : Nat) (Option.some Jvm.ClassFile.FieldType.int)) ∈ lw_tb := kt4 (n := 59) (by decide +kernel) rfl
theorem k_780 : (Jvm.Cond.methodLink "NineKeysRound" (254 : Nat) ({ cls := "NineKeysRound", name := "isOddsAndNeed", desc := "(I)Z" } : Jvm.MethodName)) ∈ lw_tb := kt4 (n := 60) (by decide +kernel) rfl
theorem k_781 : (Jvm.Cond.static ({ cls := "NineKeysRound", name := "isOddsAndNeed", desc := "(I)Z" } : Jvm.MethodName)) ∈ lw_tb := kt4 (n := 61) (by decide +kernel) rfl
theorem k_782 : (Jvm.Cond.code ({ cls := "NineKeysRound", name := "isOddsAndNeed", desc := "(I)Z" } : Jvm.MethodName) prog_1_method_65_code (1 : Nat) (Option.some Jvm.ClassFile.FieldType.boolean)) ∈ lw_tb := kt4 (n := 62) (by decide +kernel) rfl
theorem k_783 : (Jvm.Cond.methodLink "NineKeysRound" (257 : Nat) ({ cls := "NineKeysRound", name := "layBoth", desc := "(I)I" } : Jvm.MethodName)) ∈ lw_tb := kt4 (n := 63) (by decide +kernel) rfl
theorem k_785 : (Jvm.Cond.instanceMethod ({ cls := "NineKeysRound", name := "layBoth", desc := "(I)I" } : Jvm.MethodName)) ∈ lw_tb := kt4 (n := 65) (by decide +kernel) rfl
theorem k_786 : (Jvm.Cond.code ({ cls := "NineKeysRound", name := "layBoth", desc := "(I)I" } : Jvm.MethodName) prog_1_method_67_code (3 : Nat) (Option.some Jvm.ClassFile.FieldType.int)) ∈ lw_tb := kt4 (n := 66) (by decide +kernel) rfl
theorem k_787 : (Jvm.Cond.methodLink "NineKeysRound" (444 : Nat) ({ cls := "NineKeysRound$Course", name := "layTurned", desc := "(LNineKeysRound$Course;)V" } : Jvm.MethodName)) ∈ lw_tb := kt4 (n := 67) (by decide +kernel) rfl
theorem k_788 : (Jvm.Cond.instanceMethod ({ cls := "NineKeysRound$Course", name := "layTurned", desc := "(LNineKeysRound$Course;)V" } : Jvm.MethodName)) ∈ lw_tb := kt4 (n := 68) (by decide +kernel) rfl
theorem k_789 : (Jvm.Cond.selects "NineKeysRound$Course" ({ cls := "NineKeysRound$Course", name := "layTurned", desc := "(LNineKeysRound$Course;)V" } : Jvm.MethodName) ({ cls := "NineKeysRound$Course", name := "layTurned", desc := "(LNineKeysRound$Course;)V" } : Jvm.MethodName)) ∈ lw_tb := kt4 (n := 69) (by decide +kernel) rfl
theorem k_790 : (Jvm.Cond.code ({ cls := "NineKeysRound$Course", name := "layTurned", desc := "(LNineKeysRound$Course;)V" } : Jvm.MethodName) prog_3_method_3_code (3 : Nat) (Option.none : Option Jvm.ClassFile.FieldType)) ∈ lw_tb := kt4 (n := 70) (by decide +kernel) rfl
theorem k_791 : (Jvm.Cond.methodLink "NineKeysRound" (260 : Nat) ({ cls := "NineKeysRound", name := "isFree", desc := "(LNineKeysRound$Course;III)Z" } : Jvm.MethodName)) ∈ lw_tb := kt4 (n := 71) (by decide +kernel) rfl
theorem k_793 : (Jvm.Cond.instanceMethod ({ cls := "NineKeysRound", name := "isFree", desc := "(LNineKeysRound$Course;III)Z" } : Jvm.MethodName)) ∈ lw_tb := kt4 (n := 73) (by decide +kernel) rfl
theorem k_794 : (Jvm.Cond.code ({ cls := "NineKeysRound", name := "isFree", desc := "(LNineKeysRound$Course;III)Z" } : Jvm.MethodName) prog_1_method_28_code (5 : Nat) (Option.some Jvm.ClassFile.FieldType.boolean)) ∈ lw_tb := kt4 (n := 74) (by decide +kernel) rfl
theorem k_795 : (Jvm.Cond.methodLink "NineKeysRound" (264 : Nat) ({ cls := "NineKeysRound", name := "twelfths", desc := "(II)I" } : Jvm.MethodName)) ∈ lw_tb := kt4 (n := 75) (by decide +kernel) rfl
theorem k_796 : (Jvm.Cond.static ({ cls := "NineKeysRound", name := "twelfths", desc := "(II)I" } : Jvm.MethodName)) ∈ lw_tb := kt4 (n := 76) (by decide +kernel) rfl
theorem k_797 : (Jvm.Cond.code ({ cls := "NineKeysRound", name := "twelfths", desc := "(II)I" } : Jvm.MethodName) prog_1_method_31_code (2 : Nat) (Option.some Jvm.ClassFile.FieldType.int)) ∈ lw_tb := kt4 (n := 77) (by decide +kernel) rfl
theorem k_798 : (Jvm.Cond.methodLink "NineKeysRoundLaw" (98 : Nat) ({ cls := "NineKeysRound", name := "bestMinute", desc := "(IIII)I" } : Jvm.MethodName)) ∈ lw_tb := kt4 (n := 78) (by decide +kernel) rfl
theorem k_799 : (Jvm.Cond.instanceMethod ({ cls := "NineKeysRound", name := "bestMinute", desc := "(IIII)I" } : Jvm.MethodName)) ∈ lw_tb := kt4 (n := 79) (by decide +kernel) rfl
theorem k_800 : (Jvm.Cond.selects "NineKeysRound" ({ cls := "NineKeysRound", name := "bestMinute", desc := "(IIII)I" } : Jvm.MethodName) ({ cls := "NineKeysRound", name := "bestMinute", desc := "(IIII)I" } : Jvm.MethodName)) ∈ lw_tb := kt4 (n := 80) (by decide +kernel) rfl
theorem k_801 : (Jvm.Cond.code ({ cls := "NineKeysRound", name := "bestMinute", desc := "(IIII)I" } : Jvm.MethodName) prog_1_method_26_code (8 : Nat) (Option.some Jvm.ClassFile.FieldType.int)) ∈ lw_tb := kt4 (n := 81) (by decide +kernel) rfl
theorem k_802 : (Jvm.Cond.methodLink "NineKeysRound" (267 : Nat) ({ cls := "NineKeysRound", name := "markFree", desc := "(II)V" } : Jvm.MethodName)) ∈ lw_tb := kt4 (n := 82) (by decide +kernel) rfl
theorem k_804 : (Jvm.Cond.instanceMethod ({ cls := "NineKeysRound", name := "markFree", desc := "(II)V" } : Jvm.MethodName)) ∈ lw_tb := kt4 (n := 84) (by decide +kernel) rfl
theorem k_805 : (Jvm.Cond.code ({ cls := "NineKeysRound", name := "markFree", desc := "(II)V" } : Jvm.MethodName) prog_1_method_29_code (4 : Nat) (Option.none : Option Jvm.ClassFile.FieldType)) ∈ lw_tb := kt4 (n := 85) (by decide +kernel) rfl
theorem k_806 : (Jvm.Cond.methodLink "NineKeysRound" (274 : Nat) ({ cls := "NineKeysRound$Sightings", name := "strikeOut", desc := "([III)V" } : Jvm.MethodName)) ∈ lw_tb := kt4 (n := 86) (by decide +kernel) rfl
theorem k_807 : (Jvm.Cond.instanceMethod ({ cls := "NineKeysRound$Sightings", name := "strikeOut", desc := "([III)V" } : Jvm.MethodName)) ∈ lw_tb := kt4 (n := 87) (by decide +kernel) rfl
theorem k_808 : (Jvm.Cond.selects "NineKeysRound$Sightings" ({ cls := "NineKeysRound$Sightings", name := "strikeOut", desc := "([III)V" } : Jvm.MethodName) ({ cls := "NineKeysRound$Sightings", name := "strikeOut", desc := "([III)V" } : Jvm.MethodName)) ∈ lw_tb := kt4 (n := 88) (by decide +kernel) rfl
theorem k_809 : (Jvm.Cond.code ({ cls := "NineKeysRound$Sightings", name := "strikeOut", desc := "([III)V" } : Jvm.MethodName) prog_8_method_10_code (7 : Nat) (Option.none : Option Jvm.ClassFile.FieldType)) ∈ lw_tb := kt4 (n := 89) (by decide +kernel) rfl
theorem k_810 : (Jvm.Cond.methodLink "NineKeysRoundLaw" (102 : Nat) ({ cls := "NineKeysRound", name := "mix", desc := "(III)I" } : Jvm.MethodName)) ∈ lw_tb := kt4 (n := 90) (by decide +kernel) rfl
theorem k_811 : (Jvm.Cond.instanceMethod ({ cls := "NineKeysRound", name := "mix", desc := "(III)I" } : Jvm.MethodName)) ∈ lw_tb := kt4 (n := 91) (by decide +kernel) rfl
theorem k_812 : (Jvm.Cond.selects "NineKeysRound" ({ cls := "NineKeysRound", name := "mix", desc := "(III)I" } : Jvm.MethodName) ({ cls := "NineKeysRound", name := "mix", desc := "(III)I" } : Jvm.MethodName)) ∈ lw_tb := kt4 (n := 92) (by decide +kernel) rfl
theorem k_813 : (Jvm.Cond.code ({ cls := "NineKeysRound", name := "mix", desc := "(III)I" } : Jvm.MethodName) prog_1_method_27_code (10 : Nat) (Option.some Jvm.ClassFile.FieldType.int)) ∈ lw_tb := kt4 (n := 93) (by decide +kernel) rfl
theorem k_814 : (Jvm.Cond.methodLink "NineKeysRound" (271 : Nat) ({ cls := "NineKeysRound", name := "greatestTwelfths", desc := "(II)I" } : Jvm.MethodName)) ∈ lw_tb := kt4 (n := 94) (by decide +kernel) rfl
theorem k_815 : (Jvm.Cond.static ({ cls := "NineKeysRound", name := "greatestTwelfths", desc := "(II)I" } : Jvm.MethodName)) ∈ lw_tb := kt4 (n := 95) (by decide +kernel) rfl
theorem k_816 : (Jvm.Cond.code ({ cls := "NineKeysRound", name := "greatestTwelfths", desc := "(II)I" } : Jvm.MethodName) prog_1_method_30_code (4 : Nat) (Option.some Jvm.ClassFile.FieldType.int)) ∈ lw_tb := kt4 (n := 96) (by decide +kernel) rfl
theorem k_817 : (Jvm.Cond.methodLink "NineKeysRoundLaw" (106 : Nat) ({ cls := "NineKeysRound", name := "paper", desc := "(II)I" } : Jvm.MethodName)) ∈ lw_tb := kt4 (n := 97) (by decide +kernel) rfl
theorem k_818 : (Jvm.Cond.instanceMethod ({ cls := "NineKeysRound", name := "paper", desc := "(II)I" } : Jvm.MethodName)) ∈ lw_tb := kt4 (n := 98) (by decide +kernel) rfl
theorem k_819 : (Jvm.Cond.selects "NineKeysRound" ({ cls := "NineKeysRound", name := "paper", desc := "(II)I" } : Jvm.MethodName) ({ cls := "NineKeysRound", name := "paper", desc := "(II)I" } : Jvm.MethodName)) ∈ lw_tb := kt4 (n := 99) (by decide +kernel) rfl
theorem k_820 : (Jvm.Cond.code ({ cls := "NineKeysRound", name := "paper", desc := "(II)I" } : Jvm.MethodName) prog_1_method_32_code (5 : Nat) (Option.some Jvm.ClassFile.FieldType.int)) ∈ lw_tb := kt4 (n := 100) (by decide +kernel) rfl
theorem k_821 : (Jvm.Cond.methodLink "NineKeysRound" (278 : Nat) ({ cls := "NineKeysRound", name := "firstThatCannotBe", desc := "(LNineKeysRound$Shelf;)I" } : Jvm.MethodName)) ∈ lw_tb := kt4 (n := 101) (by decide +kernel) rfl
theorem k_823 : (Jvm.Cond.instanceMethod ({ cls := "NineKeysRound", name := "firstThatCannotBe", desc := "(LNineKeysRound$Shelf;)I" } : Jvm.MethodName)) ∈ lw_tb := kt4 (n := 103) (by decide +kernel) rfl
theorem k_824 : (Jvm.Cond.code ({ cls := "NineKeysRound", name := "firstThatCannotBe", desc := "(LNineKeysRound$Shelf;)I" } : Jvm.MethodName) prog_1_method_33_code (4 : Nat) (Option.some Jvm.ClassFile.FieldType.int)) ∈ lw_tb := kt4 (n := 104) (by decide +kernel) rfl
theorem k_825 : (Jvm.Cond.methodLink "NineKeysRound" (291 : Nat) ({ cls := "NineKeysRound$Shelf", name := "twos", desc := "()I" } : Jvm.MethodName)) ∈ lw_tb := kt4 (n := 105) (by decide +kernel) rfl
theorem k_826 : (Jvm.Cond.instanceMethod ({ cls := "NineKeysRound$Shelf", name := "twos", desc := "()I" } : Jvm.MethodName)) ∈ lw_tb := kt4 (n := 106) (by decide +kernel) rfl
theorem k_827 : (Jvm.Cond.selects "NineKeysRound$Shelf" ({ cls := "NineKeysRound$Shelf", name := "twos", desc := "()I" } : Jvm.MethodName) ({ cls := "NineKeysRound$Shelf", name := "twos", desc := "()I" } : Jvm.MethodName)) ∈ lw_tb := kt4 (n := 107) (by decide +kernel) rfl
theorem k_828 : (Jvm.Cond.code ({ cls := "NineKeysRound$Shelf", name := "twos", desc := "()I" } : Jvm.MethodName) prog_7_method_9_code (1 : Nat) (Option.some Jvm.ClassFile.FieldType.int)) ∈ lw_tb := kt4 (n := 108) (by decide +kernel) rfl
theorem k_829 : (Jvm.Cond.methodLink "NineKeysRound" (294 : Nat) ({ cls := "NineKeysRound", name := "spare", desc := "(LNineKeysRound$Shelf;I)I" } : Jvm.MethodName)) ∈ lw_tb := kt4 (n := 109) (by decide +kernel) rfl
theorem k_831 : (Jvm.Cond.instanceMethod ({ cls := "NineKeysRound", name := "spare", desc := "(LNineKeysRound$Shelf;I)I" } : Jvm.MethodName)) ∈ lw_tb := kt4 (n := 111) (by decide +kernel) rfl
theorem k_832 : (Jvm.Cond.code ({ cls := "NineKeysRound", name := "spare", desc := "(LNineKeysRound$Shelf;I)I" } : Jvm.MethodName) prog_1_method_37_code (7 : Nat) (Option.some Jvm.ClassFile.FieldType.int)) ∈ lw_tb := kt4 (n := 112) (by decide +kernel) rfl
theorem k_833 : (Jvm.Cond.methodLink "NineKeysRound" (298 : Nat) ({ cls := "NineKeysRound$Yard", name := "way", desc := "(II)I" } : Jvm.MethodName)) ∈ lw_tb := kt4 (n := 113) (by decide +kernel) rfl
theorem k_834 : (Jvm.Cond.methodLink "NineKeysRound" (301 : Nat) ({ cls := "NineKeysRound$Yard", name := "stand", desc := "()I" } : Jvm.MethodName)) ∈ lw_tb := kt4 (n := 114) (by decide +kernel) rfl
theorem k_835 : (Jvm.Cond.methodLink "NineKeysRound" (282 : Nat) ({ cls := "NineKeysRound", name := "slept", desc := "(LNineKeysRound$Shelf;)I" } : Jvm.MethodName)) ∈ lw_tb := kt4 (n := 115) (by decide +kernel) rfl
theorem k_837 : (Jvm.Cond.instanceMethod ({ cls := "NineKeysRound", name := "slept", desc := "(LNineKeysRound$Shelf;)I" } : Jvm.MethodName)) ∈ lw_tb := kt4 (n := 117) (by decide +kernel) rfl
theorem k_838 : (Jvm.Cond.code ({ cls := "NineKeysRound", name := "slept", desc := "(LNineKeysRound$Shelf;)I" } : Jvm.MethodName) prog_1_method_34_code (6 : Nat) (Option.some Jvm.ClassFile.FieldType.int)) ∈ lw_tb := kt4 (n := 118) (by decide +kernel) rfl
theorem k_839 : (Jvm.Cond.methodLink "NineKeysRound" (285 : Nat) ({ cls := "NineKeysRound", name := "whereMostSlept", desc := "(LNineKeysRound$Shelf;)I" } : Jvm.MethodName)) ∈ lw_tb := kt4 (n := 119) (by decide +kernel) rfl
theorem k_841 : (Jvm.Cond.instanceMethod ({ cls := "NineKeysRound", name := "whereMostSlept", desc := "(LNineKeysRound$Shelf;)I" } : Jvm.MethodName)) ∈ lw_tb := kt4 (n := 121) (by decide +kernel) rfl
theorem k_842 : (Jvm.Cond.code ({ cls := "NineKeysRound", name := "whereMostSlept", desc := "(LNineKeysRound$Shelf;)I" } : Jvm.MethodName) prog_1_method_35_code (7 : Nat) (Option.some Jvm.ClassFile.FieldType.int)) ∈ lw_tb := kt4 (n := 122) (by decide +kernel) rfl
theorem k_843 : (Jvm.Cond.methodLink "NineKeysRound" (288 : Nat) ({ cls := "NineKeysRound", name := "forged", desc := "(LNineKeysRound$Shelf;)I" } : Jvm.MethodName)) ∈ lw_tb := kt4 (n := 123) (by decide +kernel) rfl
theorem k_845 : (Jvm.Cond.instanceMethod ({ cls := "NineKeysRound", name := "forged", desc := "(LNineKeysRound$Shelf;)I" } : Jvm.MethodName)) ∈ lw_tb := kt4 (n := 125) (by decide +kernel) rfl
theorem k_846 : (Jvm.Cond.code ({ cls := "NineKeysRound", name := "forged", desc := "(LNineKeysRound$Shelf;)I" } : Jvm.MethodName) prog_1_method_36_code (5 : Nat) (Option.some Jvm.ClassFile.FieldType.int)) ∈ lw_tb := kt4 (n := 126) (by decide +kernel) rfl
theorem k_847 : (Jvm.Cond.methodLink "NineKeysRoundLaw" (110 : Nat) ({ cls := "NineKeysRound", name := "which", desc := "(I)I" } : Jvm.MethodName)) ∈ lw_tb := kt4 (n := 127) (by decide +kernel) rfl
theorem k_848 : (Jvm.Cond.instanceMethod ({ cls := "NineKeysRound", name := "which", desc := "(I)I" } : Jvm.MethodName)) ∈ lw_tb := kt4 (n := 128) (by decide +kernel) rfl
theorem k_849 : (Jvm.Cond.selects "NineKeysRound" ({ cls := "NineKeysRound", name := "which", desc := "(I)I" } : Jvm.MethodName) ({ cls := "NineKeysRound", name := "which", desc := "(I)I" } : Jvm.MethodName)) ∈ lw_tb := kt4 (n := 129) (by decide +kernel) rfl
theorem k_850 : (Jvm.Cond.code ({ cls := "NineKeysRound", name := "which", desc := "(I)I" } : Jvm.MethodName) prog_1_method_38_code (4 : Nat) (Option.some Jvm.ClassFile.FieldType.int)) ∈ lw_tb := kt4 (n := 130) (by decide +kernel) rfl
theorem k_851 : (Jvm.Cond.methodLink "NineKeysRound" (307 : Nat) ({ cls := "NineKeysRound$Course", name := "makes", desc := "(LNineKeysRound$Shelf;)Z" } : Jvm.MethodName)) ∈ lw_tb := kt4 (n := 131) (by decide +kernel) rfl
theorem k_852 : (Jvm.Cond.instanceMethod ({ cls := "NineKeysRound$Course", name := "makes", desc := "(LNineKeysRound$Shelf;)Z" } : Jvm.MethodName)) ∈ lw_tb := kt4 (n := 132) (by decide +kernel) rfl
theorem k_853 : (Jvm.Cond.selects "NineKeysRound$Course" ({ cls := "NineKeysRound$Course", name := "makes", desc := "(LNineKeysRound$Shelf;)Z" } : Jvm.MethodName) ({ cls := "NineKeysRound$Course", name := "makes", desc := "(LNineKeysRound$Shelf;)Z" } : Jvm.MethodName)) ∈ lw_tb := kt4 (n := 133) (by decide +kernel) rfl
theorem k_854 : (Jvm.Cond.code ({ cls := "NineKeysRound$Course", name := "makes", desc := "(LNineKeysRound$Shelf;)Z" } : Jvm.MethodName) prog_3_method_14_code (4 : Nat) (Option.some Jvm.ClassFile.FieldType.boolean)) ∈ lw_tb := kt4 (n := 134) (by decide +kernel) rfl
theorem k_855 : (Jvm.Cond.methodLink "NineKeysRound$Course" (83 : Nat) ({ cls := "NineKeysRound$Shelf", name := "twos", desc := "()I" } : Jvm.MethodName)) ∈ lw_tb := kt4 (n := 135) (by decide +kernel) rfl
theorem k_856 : (Jvm.Cond.methodLink "NineKeysRoundLaw" (114 : Nat) ({ cls := "NineKeysRound", name := "fit", desc := "(II)I" } : Jvm.MethodName)) ∈ lw_tb := kt4 (n := 136) (by decide +kernel) rfl
theorem k_857 : (Jvm.Cond.instanceMethod ({ cls := "NineKeysRound", name := "fit", desc := "(II)I" } : Jvm.MethodName)) ∈ lw_tb := kt4 (n := 137) (by decide +kernel) rfl
theorem k_858 : (Jvm.Cond.selects "NineKeysRound" ({ cls := "NineKeysRound", name := "fit", desc := "(II)I" } : Jvm.MethodName) ({ cls := "NineKeysRound", name := "fit", desc := "(II)I" } : Jvm.MethodName)) ∈ lw_tb := kt4 (n := 138) (by decide +kernel) rfl
theorem k_859 : (Jvm.Cond.code ({ cls := "NineKeysRound", name := "fit", desc := "(II)I" } : Jvm.MethodName) prog_1_method_39_code (6 : Nat) (Option.some Jvm.ClassFile.FieldType.int)) ∈ lw_tb := kt4 (n := 139) (by decide +kernel) rfl
theorem k_860 : (Jvm.Cond.methodLink "NineKeysRound" (311 : Nat) ({ cls := "NineKeysRound", name := "countFits", desc := "(LNineKeysRound$Shelf;)I" } : Jvm.MethodName)) ∈ lw_tb := kt4 (n := 140) (by decide +kernel) rfl
theorem k_862 : (Jvm.Cond.instanceMethod ({ cls := "NineKeysRound", name := "countFits", desc := "(LNineKeysRound$Shelf;)I" } : Jvm.MethodName)) ∈ lw_tb := kt4 (n := 142) (by decide +kernel) rfl
theorem k_863 : (Jvm.Cond.code ({ cls := "NineKeysRound", name := "countFits", desc := "(LNineKeysRound$Shelf;)I" } : Jvm.MethodName) prog_1_method_40_code (7 : Nat) (Option.some Jvm.ClassFile.FieldType.int)) ∈ lw_tb := kt4 (n := 143) (by decide +kernel) rfl
theorem k_864 : (Jvm.Cond.methodLink "NineKeysRound" (314 : Nat) ({ cls := "java/lang/Math", name := "min", desc := "(II)I" } : Jvm.MethodName)) ∈ lw_tb := kt4 (n := 144) (by decide +kernel) rfl
theorem k_865 : (Jvm.Cond.methodLink "NineKeysRound" (317 : Nat) ({ cls := "NineKeysRound$Course", name := "layOrder", desc := "([II)V" } : Jvm.MethodName)) ∈ lw_tb := kt4 (n := 145) (by decide +kernel) rfl
theorem k_866 : (Jvm.Cond.instanceMethod ({ cls := "NineKeysRound$Course", name := "layOrder", desc := "([II)V" } : Jvm.MethodName)) ∈ lw_tb := kt4 (n := 146) (by decide +kernel) rfl
theorem k_867 : (Jvm.Cond.selects "NineKeysRound$Course" ({ cls := "NineKeysRound$Course", name := "layOrder", desc := "([II)V" } : Jvm.MethodName) ({ cls := "NineKeysRound$Course", name := "layOrder", desc := "([II)V" } : Jvm.MethodName)) ∈ lw_tb := kt4 (n := 147) (by decide +kernel) rfl
theorem k_868 : (Jvm.Cond.code ({ cls := "NineKeysRound$Course", name := "layOrder", desc := "([II)V" } : Jvm.MethodName) prog_3_method_4_code (4 : Nat) (Option.none : Option Jvm.ClassFile.FieldType)) ∈ lw_tb := kt4 (n := 148) (by decide +kernel) rfl
theorem k_869 : (Jvm.Cond.methodLink "NineKeysRoundLaw" (118 : Nat) ({ cls := "NineKeysRound", name := "hang", desc := "(II)I" } : Jvm.MethodName)) ∈ lw_tb := kt4 (n := 149) (by decide +kernel) rfl
theorem k_870 : (Jvm.Cond.instanceMethod ({ cls := "NineKeysRound", name := "hang", desc := "(II)I" } : Jvm.MethodName)) ∈ lw_tb := kt4 (n := 150) (by decide +kernel) rfl
theorem k_871 : (Jvm.Cond.selects "NineKeysRound" ({ cls := "NineKeysRound", name := "hang", desc := "(II)I" } : Jvm.MethodName) ({ cls := "NineKeysRound", name := "hang", desc := "(II)I" } : Jvm.MethodName)) ∈ lw_tb := kt4 (n := 151) (by decide +kernel) rfl
theorem k_872 : (Jvm.Cond.code ({ cls := "NineKeysRound", name := "hang", desc := "(II)I" } : Jvm.MethodName) prog_1_method_41_code (7 : Nat) (Option.some Jvm.ClassFile.FieldType.int)) ∈ lw_tb := kt4 (n := 152) (by decide +kernel) rfl
theorem k_873 : (Jvm.Cond.methodLink "NineKeysRound" (321 : Nat) ({ cls := "NineKeysRound$Yard", name := "cellsTo", desc := "(III)I" } : Jvm.MethodName)) ∈ lw_tb := kt4 (n := 153) (by decide +kernel) rfl
theorem k_874 : (Jvm.Cond.methodLink "NineKeysRound" (324 : Nat) ({ cls := "NineKeysRound$Yard", name := "cellsToNearestPost", desc := "(II)I" } : Jvm.MethodName)) ∈ lw_tb := kt4 (n := 154) (by decide +kernel) rfl
theorem k_875 : (Jvm.Cond.instanceMethod ({ cls := "NineKeysRound$Yard", name := "cellsToNearestPost", desc := "(II)I" } : Jvm.MethodName)) ∈ lw_tb := kt4 (n := 155) (by decide +kernel) rfl
theorem k_876 : (Jvm.Cond.selects "NineKeysRound$Yard" ({ cls := "NineKeysRound$Yard", name := "cellsToNearestPost", desc := "(II)I" } : Jvm.MethodName) ({ cls := "NineKeysRound$Yard", name := "cellsToNearestPost", desc := "(II)I" } : Jvm.MethodName)) ∈ lw_tb := kt4 (n := 156) (by decide +kernel) rfl
theorem k_877 : (Jvm.Cond.code ({ cls := "NineKeysRound$Yard", name := "cellsToNearestPost", desc := "(II)I" } : Jvm.MethodName) prog_10_method_11_code (5 : Nat) (Option.some Jvm.ClassFile.FieldType.int)) ∈ lw_tb := kt4 (n := 157) (by decide +kernel) rfl
theorem k_878 : (Jvm.Cond.methodLink "NineKeysRound$Yard" (47 : Nat) ({ cls := "java/lang/Math", name := "min", desc := "(II)I" } : Jvm.MethodName)) ∈ lw_tb := kt4 (n := 158) (by decide +kernel) rfl
theorem k_879 : (Jvm.Cond.methodLink "NineKeysRoundLaw" (122 : Nat) ({ cls := "NineKeysRound", name := "drawn", desc := "(III)I" } : Jvm.MethodName)) ∈ lw_tb := kt4 (n := 159) (by decide +kernel) rfl
theorem k_880 : (Jvm.Cond.instanceMethod ({ cls := "NineKeysRound", name := "drawn", desc := "(III)I" } : Jvm.MethodName)) ∈ lw_tb := kt4 (n := 160) (by decide +kernel) rfl
theorem k_881 : (Jvm.Cond.selects "NineKeysRound" ({ cls := "NineKeysRound", name := "drawn", desc := "(III)I" } : Jvm.MethodName) ({ cls := "NineKeysRound", name := "drawn", desc := "(III)I" } : Jvm.MethodName)) ∈ lw_tb := kt4 (n := 161) (by decide +kernel) rfl
theorem k_882 : (Jvm.Cond.code ({ cls := "NineKeysRound", name := "drawn", desc := "(III)I" } : Jvm.MethodName) prog_1_method_42_code (15 : Nat) (Option.some Jvm.ClassFile.FieldType.int)) ∈ lw_tb := kt4 (n := 162) (by decide +kernel) rfl
theorem k_883 : (Jvm.Cond.constant "NineKeysRound" (327 : Nat) (1103515245 : Int32)) ∈ lw_tb := kt4 (n := 163) (by decide +kernel) rfl
theorem k_884 : (Jvm.Cond.methodLink "NineKeysRound" (328 : Nat) ({ cls := "NineKeysRound$Yard", name := "wholeTurn", desc := "(II)I" } : Jvm.MethodName)) ∈ lw_tb := kt4 (n := 164) (by decide +kernel) rfl
theorem k_885 : (Jvm.Cond.instanceMethod ({ cls := "NineKeysRound$Yard", name := "wholeTurn", desc := "(II)I" } : Jvm.MethodName)) ∈ lw_tb := kt4 (n := 165) (by decide +kernel) rfl
theorem k_886 : (Jvm.Cond.selects "NineKeysRound$Yard" ({ cls := "NineKeysRound$Yard", name := "wholeTurn", desc := "(II)I" } : Jvm.MethodName) ({ cls := "NineKeysRound$Yard", name := "wholeTurn", desc := "(II)I" } : Jvm.MethodName)) ∈ lw_tb := kt4 (n := 166) (by decide +kernel) rfl
theorem k_887 : (Jvm.Cond.code ({ cls := "NineKeysRound$Yard", name := "wholeTurn", desc := "(II)I" } : Jvm.MethodName) prog_10_method_13_code (7 : Nat) (Option.some Jvm.ClassFile.FieldType.int)) ∈ lw_tb := kt4 (n := 167) (by decide +kernel) rfl
theorem k_888 : (Jvm.Cond.methodLink "NineKeysRound$Yard" (50 : Nat) ({ cls := "NineKeysRound$Yard", name := "stand", desc := "()I" } : Jvm.MethodName)) ∈ lw_tb := kt4 (n := 168) (by decide +kernel) rfl
theorem k_889 : (Jvm.Cond.methodLink "NineKeysRound$Yard" (53 : Nat) ({ cls := "NineKeysRound$Yard", name := "way", desc := "(II)I" } : Jvm.MethodName)) ∈ lw_tb := kt4 (n := 169) (by decide +kernel) rfl
theorem k_890 : (Jvm.Cond.methodLink "NineKeysRoundLaw" (126 : Nat) ({ cls := "NineKeysRound", name := "walk", desc := "(I)I" } : Jvm.MethodName)) ∈ lw_tb := kt4 (n := 170) (by decide +kernel) rfl
theorem k_891 : (Jvm.Cond.instanceMethod ({ cls := "NineKeysRound", name := "walk", desc := "(I)I" } : Jvm.MethodName)) ∈ lw_tb := kt4 (n := 171) (by decide +kernel) rfl
theorem k_892 : (Jvm.Cond.selects "NineKeysRound" ({ cls := "NineKeysRound", name := "walk", desc := "(I)I" } : Jvm.MethodName) ({ cls := "NineKeysRound", name := "walk", desc := "(I)I" } : Jvm.MethodName)) ∈ lw_tb := kt4 (n := 172) (by decide +kernel) rfl
theorem k_893 : (Jvm.Cond.code ({ cls := "NineKeysRound", name := "walk", desc := "(I)I" } : Jvm.MethodName) prog_1_method_43_code (2 : Nat) (Option.some Jvm.ClassFile.FieldType.int)) ∈ lw_tb := kt4 (n := 173) (by decide +kernel) rfl
theorem k_894 : (Jvm.Cond.methodLink "NineKeysRound" (334 : Nat) ({ cls := "NineKeysRound$Deed", name := "walkTo", desc := "(III)Z" } : Jvm.MethodName)) ∈ lw_tb := kt4 (n := 174) (by decide +kernel) rfl
theorem k_895 : (Jvm.Cond.instanceMethod ({ cls := "NineKeysRound$Deed", name := "walkTo", desc := "(III)Z" } : Jvm.MethodName)) ∈ lw_tb := kt4 (n := 175) (by decide +kernel) rfl
theorem k_896 : (Jvm.Cond.selects "NineKeysRound$Deed" ({ cls := "NineKeysRound$Deed", name := "walkTo", desc := "(III)Z" } : Jvm.MethodName) ({ cls := "NineKeysRound$Deed", name := "walkTo", desc := "(III)Z" } : Jvm.MethodName)) ∈ lw_tb := kt4 (n := 176) (by decide +kernel) rfl
theorem k_897 : (Jvm.Cond.code ({ cls := "NineKeysRound$Deed", name := "walkTo", desc := "(III)Z" } : Jvm.MethodName) prog_4_method_2_code (4 : Nat) (Option.some Jvm.ClassFile.FieldType.boolean)) ∈ lw_tb := kt4 (n := 177) (by decide +kernel) rfl
theorem k_898 : (Jvm.Cond.methodLink "NineKeysRoundLaw" (130 : Nat) ({ cls := "NineKeysRound", name := "waits", desc := "(I)I" } : Jvm.MethodName)) ∈ lw_tb := kt4 (n := 178) (by decide +kernel) rfl
theorem k_899 : (Jvm.Cond.instanceMethod ({ cls := "NineKeysRound", name := "waits", desc := "(I)I" } : Jvm.MethodName)) ∈ lw_tb := kt4 (n := 179) (by decide +kernel) rfl
theorem k_900 : (Jvm.Cond.selects "NineKeysRound" ({ cls := "NineKeysRound", name := "waits", desc := "(I)I" } : Jvm.MethodName) ({ cls := "NineKeysRound", name := "waits", desc := "(I)I" } : Jvm.MethodName)) ∈ lw_tb := kt4 (n := 180) (by decide +kernel) rfl
theorem k_901 : (Jvm.Cond.code ({ cls := "NineKeysRound", name := "waits", desc := "(I)I" } : Jvm.MethodName) prog_1_method_44_code (2 : Nat) (Option.some Jvm.ClassFile.FieldType.int)) ∈ lw_tb := kt4 (n := 181) (by decide +kernel) rfl
theorem k_902 : (Jvm.Cond.methodLink "NineKeysRound" (341 : Nat) ({ cls := "NineKeysRound$Deed", name := "waitFor", desc := "(I)Z" } : Jvm.MethodName)) ∈ lw_tb := kt4 (n := 182) (by decide +kernel) rfl
theorem k_903 : (Jvm.Cond.instanceMethod ({ cls := "NineKeysRound$Deed", name := "waitFor", desc := "(I)Z" } : Jvm.MethodName)) ∈ lw_tb := kt4 (n := 183) (by decide +kernel) rfl
theorem k_904 : (Jvm.Cond.selects "NineKeysRound$Deed" ({ cls := "NineKeysRound$Deed", name := "waitFor", desc := "(I)Z" } : Jvm.MethodName) ({ cls := "NineKeysRound$Deed", name := "waitFor", desc := "(I)Z" } : Jvm.MethodName)) ∈ lw_tb := kt4 (n := 184) (by decide +kernel) rfl
theorem k_905 : (Jvm.Cond.code ({ cls := "NineKeysRound$Deed", name := "waitFor", desc := "(I)Z" } : Jvm.MethodName) prog_4_method_3_code (2 : Nat) (Option.some Jvm.ClassFile.FieldType.boolean)) ∈ lw_tb := kt4 (n := 185) (by decide +kernel) rfl
theorem k_906 : (Jvm.Cond.methodLink "NineKeysRoundLaw" (134 : Nat) ({ cls := "NineKeysRound", name := "home", desc := "()I" } : Jvm.MethodName)) ∈ lw_tb := kt4 (n := 186) (by decide +kernel) rfl
theorem k_907 : (Jvm.Cond.instanceMethod ({ cls := "NineKeysRound", name := "home", desc := "()I" } : Jvm.MethodName)) ∈ lw_tb := kt4 (n := 187) (by decide +kernel) rfl
theorem k_908 : (Jvm.Cond.selects "NineKeysRound" ({ cls := "NineKeysRound", name := "home", desc := "()I" } : Jvm.MethodName) ({ cls := "NineKeysRound", name := "home", desc := "()I" } : Jvm.MethodName)) ∈ lw_tb := kt4 (n := 188) (by decide +kernel) rfl
theorem k_909 : (Jvm.Cond.code ({ cls := "NineKeysRound", name := "home", desc := "()I" } : Jvm.MethodName) prog_1_method_45_code (1 : Nat) (Option.some Jvm.ClassFile.FieldType.int)) ∈ lw_tb := kt4 (n := 189) (by decide +kernel) rfl
theorem k_910 : (Jvm.Cond.methodLink "NineKeysRound" (344 : Nat) ({ cls := "NineKeysRound$Deed", name := "goHome", desc := "(I)Z" } : Jvm.MethodName)) ∈ lw_tb := kt4 (n := 190) (by decide +kernel) rfl
theorem k_911 : (Jvm.Cond.instanceMethod ({ cls := "NineKeysRound$Deed", name := "goHome", desc := "(I)Z" } : Jvm.MethodName)) ∈ lw_tb := kt4 (n := 191) (by decide +kernel) rfl
theorem k_912 : (Jvm.Cond.selects "NineKeysRound$Deed" ({ cls := "NineKeysRound$Deed", name := "goHome", desc := "(I)Z" } : Jvm.MethodName) ({ cls := "NineKeysRound$Deed", name := "goHome", desc := "(I)Z" } : Jvm.MethodName)) ∈ lw_tb := kt4 (n := 192) (by decide +kernel) rfl
theorem k_913 : (Jvm.Cond.code ({ cls := "NineKeysRound$Deed", name := "goHome", desc := "(I)Z" } : Jvm.MethodName) prog_4_method_4_code (2 : Nat) (Option.some Jvm.ClassFile.FieldType.boolean)) ∈ lw_tb := kt4 (n := 193) (by decide +kernel) rfl
theorem k_914 : (Jvm.Cond.methodLink "NineKeysRoundLaw" (138 : Nat) ({ cls := "NineKeysRound", name := "led", desc := "(I)I" } : Jvm.MethodName)) ∈ lw_tb := kt4 (n := 194) (by decide +kernel) rfl
theorem k_915 : (Jvm.Cond.instanceMethod ({ cls := "NineKeysRound", name := "led", desc := "(I)I" } : Jvm.MethodName)) ∈ lw_tb := kt4 (n := 195) (by decide +kernel) rfl
theorem k_916 : (Jvm.Cond.selects "NineKeysRound" ({ cls := "NineKeysRound", name := "led", desc := "(I)I" } : Jvm.MethodName) ({ cls := "NineKeysRound", name := "led", desc := "(I)I" } : Jvm.MethodName)) ∈ lw_tb := kt4 (n := 196) (by decide +kernel) rfl
theorem k_917 : (Jvm.Cond.code ({ cls := "NineKeysRound", name := "led", desc := "(I)I" } : Jvm.MethodName) prog_1_method_46_code (2 : Nat) (Option.some Jvm.ClassFile.FieldType.int)) ∈ lw_tb := kt4 (n := 197) (by decide +kernel) rfl
theorem k_918 : (Jvm.Cond.methodLink "NineKeysRoundLaw" (142 : Nat) ({ cls := "NineKeysRound", name := "image", desc := "()I" } : Jvm.MethodName)) ∈ lw_tb := kt4 (n := 198) (by decide +kernel) rfl
theorem k_919 : (Jvm.Cond.instanceMethod ({ cls := "NineKeysRound", name := "image", desc := "()I" } : Jvm.MethodName)) ∈ lw_tb := kt4 (n := 199) (by decide +kernel) rfl
theorem k_920 : (Jvm.Cond.selects "NineKeysRound" ({ cls := "NineKeysRound", name := "image", desc := "()I" } : Jvm.MethodName) ({ cls := "NineKeysRound", name := "image", desc := "()I" } : Jvm.MethodName)) ∈ lw_tb := kt4 (n := 200) (by decide +kernel) rfl
theorem k_921 : (Jvm.Cond.code ({ cls := "NineKeysRound", name := "image", desc := "()I" } : Jvm.MethodName) prog_1_method_47_code (1 : Nat) (Option.some Jvm.ClassFile.FieldType.int)) ∈ lw_tb := kt4 (n := 201) (by decide +kernel) rfl
theorem k_922 : (Jvm.Cond.methodLink "NineKeysRound" (359 : Nat) ({ cls := "NineKeysRound$Deed", name := "become", desc := "(LNineKeysRound$Deed;)V" } : Jvm.MethodName)) ∈ lw_tb := kt4 (n := 202) (by decide +kernel) rfl
theorem k_923 : (Jvm.Cond.instanceMethod ({ cls := "NineKeysRound$Deed", name := "become", desc := "(LNineKeysRound$Deed;)V" } : Jvm.MethodName)) ∈ lw_tb := kt4 (n := 203) (by decide +kernel) rfl
theorem k_924 : (Jvm.Cond.selects "NineKeysRound$Deed" ({ cls := "NineKeysRound$Deed", name := "become", desc := "(LNineKeysRound$Deed;)V" } : Jvm.MethodName) ({ cls := "NineKeysRound$Deed", name := "become", desc := "(LNineKeysRound$Deed;)V" } : Jvm.MethodName)) ∈ lw_tb := kt4 (n := 204) (by decide +kernel) rfl
theorem k_925 : (Jvm.Cond.code ({ cls := "NineKeysRound$Deed", name := "become", desc := "(LNineKeysRound$Deed;)V" } : Jvm.MethodName) prog_4_method_5_code (2 : Nat) (Option.none : Option Jvm.ClassFile.FieldType)) ∈ lw_tb := kt4 (n := 205) (by decide +kernel) rfl
theorem k_926 : (Jvm.Cond.methodLink "NineKeysRound$Deed" (36 : Nat) ({ cls := "java/lang/System", name := "arraycopy", desc := "(Ljava/lang/Object;ILjava/lang/Object;II)V" } : Jvm.MethodName)) ∈ lw_tb := kt4 (n := 206) (by decide +kernel) rfl
theorem k_927 : (Jvm.Cond.methodLink "NineKeysRoundLaw" (146 : Nat) ({ cls := "NineKeysRound", name := "back", desc := "()I" } : Jvm.MethodName)) ∈ lw_tb := kt4 (n := 207) (by decide +kernel) rfl
theorem k_928 : (Jvm.Cond.instanceMethod ({ cls := "NineKeysRound", name := "back", desc := "()I" } : Jvm.MethodName)) ∈ lw_tb := kt4 (n := 208) (by decide +kernel) rfl
theorem k_929 : (Jvm.Cond.selects "NineKeysRound" ({ cls := "NineKeysRound", name := "back", desc := "()I" } : Jvm.MethodName) ({ cls := "NineKeysRound", name := "back", desc := "()I" } : Jvm.MethodName)) ∈ lw_tb := kt4 (n := 209) (by decide +kernel) rfl
theorem k_930 : (Jvm.Cond.code ({ cls := "NineKeysRound", name := "back", desc := "()I" } : Jvm.MethodName) prog_1_method_48_code (1 : Nat) (Option.some Jvm.ClassFile.FieldType.int)) ∈ lw_tb := kt4 (n := 210) (by decide +kernel) rfl
theorem k_931 : (Jvm.Cond.methodLink "NineKeysRoundLaw" (150 : Nat) ({ cls := "NineKeysRound", name := "undo", desc := "()I" } : Jvm.MethodName)) ∈ lw_tb := kt4 (n := 211) (by decide +kernel) rfl
theorem k_932 : (Jvm.Cond.instanceMethod ({ cls := "NineKeysRound", name := "undo", desc := "()I" } : Jvm.MethodName)) ∈ lw_tb := kt4 (n := 212) (by decide +kernel) rfl
theorem k_933 : (Jvm.Cond.selects "NineKeysRound" ({ cls := "NineKeysRound", name := "undo", desc := "()I" } : Jvm.MethodName) ({ cls := "NineKeysRound", name := "undo", desc := "()I" } : Jvm.MethodName)) ∈ lw_tb := kt4 (n := 213) (by decide +kernel) rfl
theorem k_934 : (Jvm.Cond.code ({ cls := "NineKeysRound", name := "undo", desc := "()I" } : Jvm.MethodName) prog_1_method_49_code (1 : Nat) (Option.some Jvm.ClassFile.FieldType.int)) ∈ lw_tb := kt4 (n := 214) (by decide +kernel) rfl
theorem k_935 : (Jvm.Cond.methodLink "NineKeysRound" (367 : Nat) ({ cls := "NineKeysRound$Changes", name := "takeBack", desc := "([I)Z" } : Jvm.MethodName)) ∈ lw_tb := kt4 (n := 215) (by decide +kernel) rfl
theorem k_936 : (Jvm.Cond.instanceMethod ({ cls := "NineKeysRound$Changes", name := "takeBack", desc := "([I)Z" } : Jvm.MethodName)) ∈ lw_tb := kt4 (n := 216) (by decide +kernel) rfl
theorem k_937 : (Jvm.Cond.selects "NineKeysRound$Changes" ({ cls := "NineKeysRound$Changes", name := "takeBack", desc := "([I)Z" } : Jvm.MethodName) ({ cls := "NineKeysRound$Changes", name := "takeBack", desc := "([I)Z" } : Jvm.MethodName)) ∈ lw_tb := kt4 (n := 217) (by decide +kernel) rfl
theorem k_938 : (Jvm.Cond.code ({ cls := "NineKeysRound$Changes", name := "takeBack", desc := "([I)Z" } : Jvm.MethodName) prog_2_method_4_code (2 : Nat) (Option.some Jvm.ClassFile.FieldType.boolean)) ∈ lw_tb := kt4 (n := 218) (by decide +kernel) rfl
theorem k_939 : (Jvm.Cond.methodLink "NineKeysRound$Changes" (35 : Nat) ({ cls := "NineKeysRound$Changes", name := "lay", desc := "([III)V" } : Jvm.MethodName)) ∈ lw_tb := kt4 (n := 219) (by decide +kernel) rfl
theorem k_940 : (Jvm.Cond.static ({ cls := "NineKeysRound$Changes", name := "lay", desc := "([III)V" } : Jvm.MethodName)) ∈ lw_tb := kt4 (n := 220) (by decide +kernel) rfl
theorem k_941 : (Jvm.Cond.code ({ cls := "NineKeysRound$Changes", name := "lay", desc := "([III)V" } : Jvm.MethodName) prog_2_method_6_code (3 : Nat) (Option.none : Option Jvm.ClassFile.FieldType)) ∈ lw_tb := kt4 (n := 221) (by decide +kernel) rfl
theorem k_942 : (Jvm.Cond.methodLink "NineKeysRoundLaw" (154 : Nat) ({ cls := "NineKeysRound", name := "redo", desc := "()I" } : Jvm.MethodName)) ∈ lw_tb := kt4 (n := 222) (by decide +kernel) rfl
theorem k_943 : (Jvm.Cond.instanceMethod ({ cls := "NineKeysRound", name := "redo", desc := "()I" } : Jvm.MethodName)) ∈ lw_tb := kt4 (n := 223) (by decide +kernel) rfl
theorem k_944 : (Jvm.Cond.selects "NineKeysRound" ({ cls := "NineKeysRound", name := "redo", desc := "()I" } : Jvm.MethodName) ({ cls := "NineKeysRound", name := "redo", desc := "()I" } : Jvm.MethodName)) ∈ lw_tb := kt4 (n := 224) (by decide +kernel) rfl
theorem k_945 : (Jvm.Cond.code ({ cls := "NineKeysRound", name := "redo", desc := "()I" } : Jvm.MethodName) prog_1_method_50_code (1 : Nat) (Option.some Jvm.ClassFile.FieldType.int)) ∈ lw_tb := kt4 (n := 225) (by decide +kernel) rfl
theorem k_946 : (Jvm.Cond.methodLink "NineKeysRound" (374 : Nat) ({ cls := "NineKeysRound$Changes", name := "doAgain", desc := "([I)Z" } : Jvm.MethodName)) ∈ lw_tb := kt4 (n := 226) (by decide +kernel) rfl
theorem k_947 : (Jvm.Cond.instanceMethod ({ cls := "NineKeysRound$Changes", name := "doAgain", desc := "([I)Z" } : Jvm.MethodName)) ∈ lw_tb := kt4 (n := 227) (by decide +kernel) rfl
theorem k_948 : (Jvm.Cond.selects "NineKeysRound$Changes" ({ cls := "NineKeysRound$Changes", name := "doAgain", desc := "([I)Z" } : Jvm.MethodName) ({ cls := "NineKeysRound$Changes", name := "doAgain", desc := "([I)Z" } : Jvm.MethodName)) ∈ lw_tb := kt4 (n := 228) (by decide +kernel) rfl
theorem k_949 : (Jvm.Cond.code ({ cls := "NineKeysRound$Changes", name := "doAgain", desc := "([I)Z" } : Jvm.MethodName) prog_2_method_5_code (2 : Nat) (Option.some Jvm.ClassFile.FieldType.boolean)) ∈ lw_tb := kt4 (n := 229) (by decide +kernel) rfl
theorem k_950 : (Jvm.Cond.methodLink "NineKeysRoundLaw" (158 : Nat) ({ cls := "NineKeysRound", name := "body", desc := "(I)I" } : Jvm.MethodName)) ∈ lw_tb := kt4 (n := 230) (by decide +kernel) rfl
theorem k_951 : (Jvm.Cond.instanceMethod ({ cls := "NineKeysRound", name := "body", desc := "(I)I" } : Jvm.MethodName)) ∈ lw_tb := kt4 (n := 231) (by decide +kernel) rfl
theorem k_952 : (Jvm.Cond.selects "NineKeysRound" ({ cls := "NineKeysRound", name := "body", desc := "(I)I" } : Jvm.MethodName) ({ cls := "NineKeysRound", name := "body", desc := "(I)I" } : Jvm.MethodName)) ∈ lw_tb := kt4 (n := 232) (by decide +kernel) rfl
theorem k_953 : (Jvm.Cond.code ({ cls := "NineKeysRound", name := "body", desc := "(I)I" } : Jvm.MethodName) prog_1_method_51_code (2 : Nat) (Option.some Jvm.ClassFile.FieldType.int)) ∈ lw_tb := kt4 (n := 233) (by decide +kernel) rfl
theorem k_954 : (Jvm.Cond.methodLink "NineKeysRound" (378 : Nat) ({ cls := "NineKeysRound$Keys", name := "isKind", desc := "(I)Z" } : Jvm.MethodName)) ∈ lw_tb := kt4 (n := 234) (by decide +kernel) rfl
theorem k_955 : (Jvm.Cond.static ({ cls := "NineKeysRound$Keys", name := "isKind", desc := "(I)Z" } : Jvm.MethodName)) ∈ lw_tb := kt4 (n := 235) (by decide +kernel) rfl
theorem k_956 : (Jvm.Cond.code ({ cls := "NineKeysRound$Keys", name := "isKind", desc := "(I)Z" } : Jvm.MethodName) prog_5_method_2_code (1 : Nat) (Option.some Jvm.ClassFile.FieldType.boolean)) ∈ lw_tb := kt4 (n := 236) (by decide +kernel) rfl
theorem k_957 : (Jvm.Cond.methodLink "NineKeysRound" (381 : Nat) ({ cls := "NineKeysRound$Keys", name := "add", desc := "(I)I" } : Jvm.MethodName)) ∈ lw_tb := kt4 (n := 237) (by decide +kernel) rfl
theorem k_958 : (Jvm.Cond.instanceMethod ({ cls := "NineKeysRound$Keys", name := "add", desc := "(I)I" } : Jvm.MethodName)) ∈ lw_tb := kt4 (n := 238) (by decide +kernel) rfl
theorem k_959 : (Jvm.Cond.selects "NineKeysRound$Keys" ({ cls := "NineKeysRound$Keys", name := "add", desc := "(I)I" } : Jvm.MethodName) ({ cls := "NineKeysRound$Keys", name := "add", desc := "(I)I" } : Jvm.MethodName)) ∈ lw_tb := kt4 (n := 239) (by decide +kernel) rfl
theorem k_960 : (Jvm.Cond.code ({ cls := "NineKeysRound$Keys", name := "add", desc := "(I)I" } : Jvm.MethodName) prog_5_method_6_code (2 : Nat) (Option.some Jvm.ClassFile.FieldType.int)) ∈ lw_tb := kt5 (n := 0) (by decide +kernel) rfl
theorem k_961 : (Jvm.Cond.methodLink "NineKeysRoundLaw" (162 : Nat) ({ cls := "NineKeysRound", name := "act", desc := "(III)I" } : Jvm.MethodName)) ∈ lw_tb := kt5 (n := 1) (by decide +kernel) rfl
theorem k_962 : (Jvm.Cond.instanceMethod ({ cls := "NineKeysRound", name := "act", desc := "(III)I" } : Jvm.MethodName)) ∈ lw_tb := kt5 (n := 2) (by decide +kernel) rfl
theorem k_963 : (Jvm.Cond.selects "NineKeysRound" ({ cls := "NineKeysRound", name := "act", desc := "(III)I" } : Jvm.MethodName) ({ cls := "NineKeysRound", name := "act", desc := "(III)I" } : Jvm.MethodName)) ∈ lw_tb := kt5 (n := 3) (by decide +kernel) rfl
theorem k_964 : (Jvm.Cond.code ({ cls := "NineKeysRound", name := "act", desc := "(III)I" } : Jvm.MethodName) prog_1_method_52_code (4 : Nat) (Option.some Jvm.ClassFile.FieldType.int)) ∈ lw_tb := kt5 (n := 4) (by decide +kernel) rfl
theorem k_965 : (Jvm.Cond.methodLink "NineKeysRound" (383 : Nat) ({ cls := "NineKeysRound$Keys", name := "perform", desc := "(III)I" } : Jvm.MethodName)) ∈ lw_tb := kt5 (n := 5) (by decide +kernel) rfl
theorem k_966 : (Jvm.Cond.instanceMethod ({ cls := "NineKeysRound$Keys", name := "perform", desc := "(III)I" } : Jvm.MethodName)) ∈ lw_tb := kt5 (n := 6) (by decide +kernel) rfl
theorem k_967 : (Jvm.Cond.selects "NineKeysRound$Keys" ({ cls := "NineKeysRound$Keys", name := "perform", desc := "(III)I" } : Jvm.MethodName) ({ cls := "NineKeysRound$Keys", name := "perform", desc := "(III)I" } : Jvm.MethodName)) ∈ lw_tb := kt5 (n := 7) (by decide +kernel) rfl
theorem k_968 : (Jvm.Cond.code ({ cls := "NineKeysRound$Keys", name := "perform", desc := "(III)I" } : Jvm.MethodName) prog_5_method_8_code (4 : Nat) (Option.some Jvm.ClassFile.FieldType.int)) ∈ lw_tb := kt5 (n := 8) (by decide +kernel) rfl
theorem k_969 : (Jvm.Cond.methodLink "NineKeysRound$Keys" (29 : Nat) ({ cls := "NineKeysRound$Keys", name := "isKey", desc := "(I)Z" } : Jvm.MethodName)) ∈ lw_tb := kt5 (n := 9) (by decide +kernel) rfl
theorem k_970 : (Jvm.Cond.instanceMethod ({ cls := "NineKeysRound$Keys", name := "isKey", desc := "(I)Z" } : Jvm.MethodName)) ∈ lw_tb := kt5 (n := 10) (by decide +kernel) rfl
theorem k_971 : (Jvm.Cond.selects "NineKeysRound$Keys" ({ cls := "NineKeysRound$Keys", name := "isKey", desc := "(I)Z" } : Jvm.MethodName) ({ cls := "NineKeysRound$Keys", name := "isKey", desc := "(I)Z" } : Jvm.MethodName)) ∈ lw_tb := kt5 (n := 11) (by decide +kernel) rfl
theorem k_972 : (Jvm.Cond.code ({ cls := "NineKeysRound$Keys", name := "isKey", desc := "(I)Z" } : Jvm.MethodName) prog_5_method_4_code (2 : Nat) (Option.some Jvm.ClassFile.FieldType.boolean)) ∈ lw_tb := kt5 (n := 12) (by decide +kernel) rfl
theorem k_973 : (Jvm.Cond.methodLink "NineKeysRound$Keys" (44 : Nat) ({ cls := "NineKeysRound$Keys", name := "runFrom", desc := "(IIII)I" } : Jvm.MethodName)) ∈ lw_tb := kt5 (n := 13) (by decide +kernel) rfl
theorem k_975 : (Jvm.Cond.instanceMethod ({ cls := "NineKeysRound$Keys", name := "runFrom", desc := "(IIII)I" } : Jvm.MethodName)) ∈ lw_tb := kt5 (n := 15) (by decide +kernel) rfl
theorem k_976 : (Jvm.Cond.code ({ cls := "NineKeysRound$Keys", name := "runFrom", desc := "(IIII)I" } : Jvm.MethodName) prog_5_method_9_code (7 : Nat) (Option.some Jvm.ClassFile.FieldType.int)) ∈ lw_tb := kt5 (n := 16) (by decide +kernel) rfl
theorem k_977 : (Jvm.Cond.methodLink "NineKeysRound$Keys" (18 : Nat) ({ cls := "NineKeysRound$Keys", name := "isKind", desc := "(I)Z" } : Jvm.MethodName)) ∈ lw_tb := kt5 (n := 17) (by decide +kernel) rfl
theorem k_978 : (Jvm.Cond.fieldLink "NineKeysRound$Keys" (48 : Nat) "NineKeysRound$Keys" "BODIES" "[I") ∈ lw_tb := kt5 (n := 18) (by decide +kernel) rfl
theorem k_980 : (Jvm.Cond.fieldLink "NineKeysRound$Keys" (22 : Nat) "NineKeysRound$Keys" "ABOVE" "[I") ∈ lw_tb := kt5 (n := 20) (by decide +kernel) rfl
theorem k_982 : (Jvm.Cond.methodLink "NineKeysRound$Keys" (51 : Nat) ({ cls := "NineKeysRound$Keys", name := "runBody", desc := "(IIII)I" } : Jvm.MethodName)) ∈ lw_tb := kt5 (n := 22) (by decide +kernel) rfl
theorem k_984 : (Jvm.Cond.instanceMethod ({ cls := "NineKeysRound$Keys", name := "runBody", desc := "(IIII)I" } : Jvm.MethodName)) ∈ lw_tb := kt5 (n := 24) (by decide +kernel) rfl
theorem k_985 : (Jvm.Cond.code ({ cls := "NineKeysRound$Keys", name := "runBody", desc := "(IIII)I" } : Jvm.MethodName) prog_5_method_10_code (6 : Nat) (Option.some Jvm.ClassFile.FieldType.int)) ∈ lw_tb := kt5 (n := 25) (by decide +kernel) rfl
theorem k_986 : (Jvm.Cond.methodLink "NineKeysRound$Keys" (54 : Nat) ({ cls := "NineKeysRound$Keys", name := "kindOf", desc := "(I)I" } : Jvm.MethodName)) ∈ lw_tb := kt5 (n := 26) (by decide +kernel) rfl
theorem k_987 : (Jvm.Cond.instanceMethod ({ cls := "NineKeysRound$Keys", name := "kindOf", desc := "(I)I" } : Jvm.MethodName)) ∈ lw_tb := kt5 (n := 27) (by decide +kernel) rfl
theorem k_988 : (Jvm.Cond.selects "NineKeysRound$Keys" ({ cls := "NineKeysRound$Keys", name := "kindOf", desc := "(I)I" } : Jvm.MethodName) ({ cls := "NineKeysRound$Keys", name := "kindOf", desc := "(I)I" } : Jvm.MethodName)) ∈ lw_tb := kt5 (n := 28) (by decide +kernel) rfl
theorem k_989 : (Jvm.Cond.code ({ cls := "NineKeysRound$Keys", name := "kindOf", desc := "(I)I" } : Jvm.MethodName) prog_5_method_5_code (2 : Nat) (Option.some Jvm.ClassFile.FieldType.int)) ∈ lw_tb := kt5 (n := 29) (by decide +kernel) rfl
theorem k_990 : (Jvm.Cond.methodLink "NineKeysRoundLaw" (166 : Nat) ({ cls := "NineKeysRound", name := "trace", desc := "(I)I" } : Jvm.MethodName)) ∈ lw_tb := kt5 (n := 30) (by decide +kernel) rfl
theorem k_991 : (Jvm.Cond.instanceMethod ({ cls := "NineKeysRound", name := "trace", desc := "(I)I" } : Jvm.MethodName)) ∈ lw_tb := kt5 (n := 31) (by decide +kernel) rfl
theorem k_992 : (Jvm.Cond.selects "NineKeysRound" ({ cls := "NineKeysRound", name := "trace", desc := "(I)I" } : Jvm.MethodName) ({ cls := "NineKeysRound", name := "trace", desc := "(I)I" } : Jvm.MethodName)) ∈ lw_tb := kt5 (n := 32) (by decide +kernel) rfl
theorem k_993 : (Jvm.Cond.code ({ cls := "NineKeysRound", name := "trace", desc := "(I)I" } : Jvm.MethodName) prog_1_method_53_code (2 : Nat) (Option.some Jvm.ClassFile.FieldType.int)) ∈ lw_tb := kt5 (n := 33) (by decide +kernel) rfl
theorem k_994 : (Jvm.Cond.methodLink "NineKeysRound" (386 : Nat) ({ cls := "NineKeysRound$Keys", name := "traced", desc := "()I" } : Jvm.MethodName)) ∈ lw_tb := kt5 (n := 34) (by decide +kernel) rfl
theorem k_995 : (Jvm.Cond.instanceMethod ({ cls := "NineKeysRound$Keys", name := "traced", desc := "()I" } : Jvm.MethodName)) ∈ lw_tb := kt5 (n := 35) (by decide +kernel) rfl
theorem k_996 : (Jvm.Cond.selects "NineKeysRound$Keys" ({ cls := "NineKeysRound$Keys", name := "traced", desc := "()I" } : Jvm.MethodName) ({ cls := "NineKeysRound$Keys", name := "traced", desc := "()I" } : Jvm.MethodName)) ∈ lw_tb := kt5 (n := 36) (by decide +kernel) rfl
theorem k_997 : (Jvm.Cond.code ({ cls := "NineKeysRound$Keys", name := "traced", desc := "()I" } : Jvm.MethodName) prog_5_method_7_code (1 : Nat) (Option.some Jvm.ClassFile.FieldType.int)) ∈ lw_tb := kt5 (n := 37) (by decide +kernel) rfl
theorem k_998 : (Jvm.Cond.methodLink "NineKeysRound$Keys" (35 : Nat) ({ cls := "java/lang/Math", name := "min", desc := "(II)I" } : Jvm.MethodName)) ∈ lw_tb := kt5 (n := 38) (by decide +kernel) rfl
theorem k_999 : (Jvm.Cond.methodLink "NineKeysRoundLaw" (170 : Nat) ({ cls := "NineKeysRound", name := "keep", desc := "(II)I" } : Jvm.MethodName)) ∈ lw_tb := kt5 (n := 39) (by decide +kernel) rfl
theorem k_1000 : (Jvm.Cond.instanceMethod ({ cls := "NineKeysRound", name := "keep", desc := "(II)I" } : Jvm.MethodName)) ∈ lw_tb := kt5 (n := 40) (by decide +kernel) rfl
theorem k_1001 : (Jvm.Cond.selects "NineKeysRound" ({ cls := "NineKeysRound", name := "keep", desc := "(II)I" } : Jvm.MethodName) ({ cls := "NineKeysRound", name := "keep", desc := "(II)I" } : Jvm.MethodName)) ∈ lw_tb := kt5 (n := 41) (by decide +kernel) rfl
theorem k_1002 : (Jvm.Cond.code ({ cls := "NineKeysRound", name := "keep", desc := "(II)I" } : Jvm.MethodName) prog_1_method_54_code (3 : Nat) (Option.some Jvm.ClassFile.FieldType.int)) ∈ lw_tb := kt5 (n := 42) (by decide +kernel) rfl
theorem k_1003 : (Jvm.Cond.methodLink "NineKeysRound" (392 : Nat) ({ cls := "NineKeysRound$Keys", name := "isKey", desc := "(I)Z" } : Jvm.MethodName)) ∈ lw_tb := kt5 (n := 43) (by decide +kernel) rfl
theorem k_1004 : (Jvm.Cond.methodLink "NineKeysRound" (395 : Nat) ({ cls := "NineKeysRound$Shelf", name := "holdKey", desc := "(I)V" } : Jvm.MethodName)) ∈ lw_tb := kt5 (n := 44) (by decide +kernel) rfl
theorem k_1005 : (Jvm.Cond.instanceMethod ({ cls := "NineKeysRound$Shelf", name := "holdKey", desc := "(I)V" } : Jvm.MethodName)) ∈ lw_tb := kt5 (n := 45) (by decide +kernel) rfl
theorem k_1006 : (Jvm.Cond.selects "NineKeysRound$Shelf" ({ cls := "NineKeysRound$Shelf", name := "holdKey", desc := "(I)V" } : Jvm.MethodName) ({ cls := "NineKeysRound$Shelf", name := "holdKey", desc := "(I)V" } : Jvm.MethodName)) ∈ lw_tb := kt5 (n := 46) (by decide +kernel) rfl
theorem k_1007 : (Jvm.Cond.code ({ cls := "NineKeysRound$Shelf", name := "holdKey", desc := "(I)V" } : Jvm.MethodName) prog_7_method_2_code (2 : Nat) (Option.none : Option Jvm.ClassFile.FieldType)) ∈ lw_tb := kt5 (n := 47) (by decide +kernel) rfl
theorem k_1008 : (Jvm.Cond.methodLink "NineKeysRoundLaw" (174 : Nat) ({ cls := "NineKeysRound", name := "row", desc := "(III)I" } : Jvm.MethodName)) ∈ lw_tb := kt5 (n := 48) (by decide +kernel) rfl
theorem k_1009 : (Jvm.Cond.instanceMethod ({ cls := "NineKeysRound", name := "row", desc := "(III)I" } : Jvm.MethodName)) ∈ lw_tb := kt5 (n := 49) (by decide +kernel) rfl
theorem k_1010 : (Jvm.Cond.selects "NineKeysRound" ({ cls := "NineKeysRound", name := "row", desc := "(III)I" } : Jvm.MethodName) ({ cls := "NineKeysRound", name := "row", desc := "(III)I" } : Jvm.MethodName)) ∈ lw_tb := kt5 (n := 50) (by decide +kernel) rfl
theorem k_1011 : (Jvm.Cond.code ({ cls := "NineKeysRound", name := "row", desc := "(III)I" } : Jvm.MethodName) prog_1_method_55_code (4 : Nat) (Option.some Jvm.ClassFile.FieldType.int)) ∈ lw_tb := kt5 (n := 51) (by decide +kernel) rfl
theorem k_1012 : (Jvm.Cond.methodLink "NineKeysRound" (399 : Nat) ({ cls := "NineKeysRound$Shelf", name := "holdRow", desc := "(II)V" } : Jvm.MethodName)) ∈ lw_tb := kt5 (n := 52) (by decide +kernel) rfl
theorem k_1013 : (Jvm.Cond.instanceMethod ({ cls := "NineKeysRound$Shelf", name := "holdRow", desc := "(II)V" } : Jvm.MethodName)) ∈ lw_tb := kt5 (n := 53) (by decide +kernel) rfl
theorem k_1014 : (Jvm.Cond.selects "NineKeysRound$Shelf" ({ cls := "NineKeysRound$Shelf", name := "holdRow", desc := "(II)V" } : Jvm.MethodName) ({ cls := "NineKeysRound$Shelf", name := "holdRow", desc := "(II)V" } : Jvm.MethodName)) ∈ lw_tb := kt5 (n := 54) (by decide +kernel) rfl
theorem k_1015 : (Jvm.Cond.code ({ cls := "NineKeysRound$Shelf", name := "holdRow", desc := "(II)V" } : Jvm.MethodName) prog_7_method_3_code (4 : Nat) (Option.none : Option Jvm.ClassFile.FieldType)) ∈ lw_tb := kt5 (n := 55) (by decide +kernel) rfl
theorem k_1016 : (Jvm.Cond.methodLink "NineKeysRoundLaw" (180 : Nat) ({ cls := "NineKeysRound", name := "put", desc := "(IIJ)I" } : Jvm.MethodName)) ∈ lw_tb := kt5 (n := 56) (by decide +kernel) rfl
theorem k_1017 : (Jvm.Cond.instanceMethod ({ cls := "NineKeysRound", name := "put", desc := "(IIJ)I" } : Jvm.MethodName)) ∈ lw_tb := kt5 (n := 57) (by decide +kernel) rfl
theorem k_1018 : (Jvm.Cond.selects "NineKeysRound" ({ cls := "NineKeysRound", name := "put", desc := "(IIJ)I" } : Jvm.MethodName) ({ cls := "NineKeysRound", name := "put", desc := "(IIJ)I" } : Jvm.MethodName)) ∈ lw_tb := kt5 (n := 58) (by decide +kernel) rfl
theorem k_1019 : (Jvm.Cond.code ({ cls := "NineKeysRound", name := "put", desc := "(IIJ)I" } : Jvm.MethodName) prog_1_method_56_code (6 : Nat) (Option.some Jvm.ClassFile.FieldType.int)) ∈ lw_tb := kt5 (n := 59) (by decide +kernel) rfl
theorem k_1020 : (Jvm.Cond.methodLink "NineKeysRound" (402 : Nat) ({ cls := "NineKeysRound$Shelf", name := "refusalForPlace", desc := "(I)I" } : Jvm.MethodName)) ∈ lw_tb := kt5 (n := 60) (by decide +kernel) rfl
theorem k_1021 : (Jvm.Cond.instanceMethod ({ cls := "NineKeysRound$Shelf", name := "refusalForPlace", desc := "(I)I" } : Jvm.MethodName)) ∈ lw_tb := kt5 (n := 61) (by decide +kernel) rfl
theorem k_1022 : (Jvm.Cond.selects "NineKeysRound$Shelf" ({ cls := "NineKeysRound$Shelf", name := "refusalForPlace", desc := "(I)I" } : Jvm.MethodName) ({ cls := "NineKeysRound$Shelf", name := "refusalForPlace", desc := "(I)I" } : Jvm.MethodName)) ∈ lw_tb := kt5 (n := 62) (by decide +kernel) rfl
theorem k_1023 : (Jvm.Cond.code ({ cls := "NineKeysRound$Shelf", name := "refusalForPlace", desc := "(I)I" } : Jvm.MethodName) prog_7_method_5_code (2 : Nat) (Option.some Jvm.ClassFile.FieldType.int)) ∈ lw_tb := kt5 (n := 63) (by decide +kernel) rfl
theorem k_1024 : (Jvm.Cond.methodLink "NineKeysRound$Shelf" (28 : Nat) ({ cls := "NineKeysRound$Shelf", name := "hasPlaces", desc := "(II)Z" } : Jvm.MethodName)) ∈ lw_tb := kt5 (n := 64) (by decide +kernel) rfl
theorem k_1025 : (Jvm.Cond.instanceMethod ({ cls := "NineKeysRound$Shelf", name := "hasPlaces", desc := "(II)Z" } : Jvm.MethodName)) ∈ lw_tb := kt5 (n := 65) (by decide +kernel) rfl
theorem k_1026 : (Jvm.Cond.selects "NineKeysRound$Shelf" ({ cls := "NineKeysRound$Shelf", name := "hasPlaces", desc := "(II)Z" } : Jvm.MethodName) ({ cls := "NineKeysRound$Shelf", name := "hasPlaces", desc := "(II)Z" } : Jvm.MethodName)) ∈ lw_tb := kt5 (n := 66) (by decide +kernel) rfl
theorem k_1027 : (Jvm.Cond.code ({ cls := "NineKeysRound$Shelf", name := "hasPlaces", desc := "(II)Z" } : Jvm.MethodName) prog_7_method_6_code (3 : Nat) (Option.some Jvm.ClassFile.FieldType.boolean)) ∈ lw_tb := kt5 (n := 67) (by decide +kernel) rfl
theorem k_1028 : (Jvm.Cond.methodLink "NineKeysRound" (405 : Nat) ({ cls := "NineKeysRound$Shelf", name := "setCell", desc := "(IJ)V" } : Jvm.MethodName)) ∈ lw_tb := kt5 (n := 68) (by decide +kernel) rfl
theorem k_1029 : (Jvm.Cond.instanceMethod ({ cls := "NineKeysRound$Shelf", name := "setCell", desc := "(IJ)V" } : Jvm.MethodName)) ∈ lw_tb := kt5 (n := 69) (by decide +kernel) rfl
theorem k_1030 : (Jvm.Cond.selects "NineKeysRound$Shelf" ({ cls := "NineKeysRound$Shelf", name := "setCell", desc := "(IJ)V" } : Jvm.MethodName) ({ cls := "NineKeysRound$Shelf", name := "setCell", desc := "(IJ)V" } : Jvm.MethodName)) ∈ lw_tb := kt5 (n := 70) (by decide +kernel) rfl
theorem k_1031 : (Jvm.Cond.code ({ cls := "NineKeysRound$Shelf", name := "setCell", desc := "(IJ)V" } : Jvm.MethodName) prog_7_method_8_code (4 : Nat) (Option.none : Option Jvm.ClassFile.FieldType)) ∈ lw_tb := kt5 (n := 71) (by decide +kernel) rfl
theorem k_1032 : (Jvm.Cond.methodLink "NineKeysRoundLaw" (185 : Nat) ({ cls := "NineKeysRound", name := "element", desc := "(II)J" } : Jvm.MethodName)) ∈ lw_tb := kt5 (n := 72) (by decide +kernel) rfl
theorem k_1033 : (Jvm.Cond.instanceMethod ({ cls := "NineKeysRound", name := "element", desc := "(II)J" } : Jvm.MethodName)) ∈ lw_tb := kt5 (n := 73) (by decide +kernel) rfl
theorem k_1034 : (Jvm.Cond.selects "NineKeysRound" ({ cls := "NineKeysRound", name := "element", desc := "(II)J" } : Jvm.MethodName) ({ cls := "NineKeysRound", name := "element", desc := "(II)J" } : Jvm.MethodName)) ∈ lw_tb := kt5 (n := 74) (by decide +kernel) rfl
theorem k_1035 : (Jvm.Cond.code ({ cls := "NineKeysRound", name := "element", desc := "(II)J" } : Jvm.MethodName) prog_1_method_57_code (3 : Nat) (Option.some Jvm.ClassFile.FieldType.long)) ∈ lw_tb := kt5 (n := 75) (by decide +kernel) rfl
theorem k_1036 : (Jvm.Cond.constantLong "NineKeysRound" (409 : Nat) (-9223372036854775808 : Int64)) ∈ lw_tb := kt5 (n := 76) (by decide +kernel) rfl
theorem k_1037 : (Jvm.Cond.methodLink "NineKeysRoundLaw" (190 : Nat) ({ cls := "NineKeysRound", name := "shift", desc := "(IIIII)I" } : Jvm.MethodName)) ∈ lw_tb := kt5 (n := 77) (by decide +kernel) rfl
theorem k_1038 : (Jvm.Cond.instanceMethod ({ cls := "NineKeysRound", name := "shift", desc := "(IIIII)I" } : Jvm.MethodName)) ∈ lw_tb := kt5 (n := 78) (by decide +kernel) rfl
theorem k_1039 : (Jvm.Cond.selects "NineKeysRound" ({ cls := "NineKeysRound", name := "shift", desc := "(IIIII)I" } : Jvm.MethodName) ({ cls := "NineKeysRound", name := "shift", desc := "(IIIII)I" } : Jvm.MethodName)) ∈ lw_tb := kt5 (n := 79) (by decide +kernel) rfl
theorem k_1040 : (Jvm.Cond.code ({ cls := "NineKeysRound", name := "shift", desc := "(IIIII)I" } : Jvm.MethodName) prog_1_method_58_code (8 : Nat) (Option.some Jvm.ClassFile.FieldType.int)) ∈ lw_tb := kt5 (n := 80) (by decide +kernel) rfl
theorem k_1041 : (Jvm.Cond.methodLink "NineKeysRound" (414 : Nat) ({ cls := "NineKeysRound$Shelf", name := "hasPlaces", desc := "(II)Z" } : Jvm.MethodName)) ∈ lw_tb := kt5 (n := 81) (by decide +kernel) rfl
theorem k_1042 : (Jvm.Cond.methodLink "NineKeysRound" (421 : Nat) ({ cls := "java/lang/System", name := "arraycopy", desc := "(Ljava/lang/Object;ILjava/lang/Object;II)V" } : Jvm.MethodName)) ∈ lw_tb := kt5 (n := 82) (by decide +kernel) rfl
theorem k_1043 : (Jvm.Cond.methodLink "NineKeysRoundLaw" (195 : Nat) ({ cls := "NineKeysRound", name := "taken", desc := "(II)I" } : Jvm.MethodName)) ∈ lw_tb := kt5 (n := 83) (by decide +kernel) rfl
theorem k_1044 : (Jvm.Cond.instanceMethod ({ cls := "NineKeysRound", name := "taken", desc := "(II)I" } : Jvm.MethodName)) ∈ lw_tb := kt5 (n := 84) (by decide +kernel) rfl
theorem k_1045 : (Jvm.Cond.selects "NineKeysRound" ({ cls := "NineKeysRound", name := "taken", desc := "(II)I" } : Jvm.MethodName) ({ cls := "NineKeysRound", name := "taken", desc := "(II)I" } : Jvm.MethodName)) ∈ lw_tb := kt5 (n := 85) (by decide +kernel) rfl
theorem k_1046 : (Jvm.Cond.code ({ cls := "NineKeysRound", name := "taken", desc := "(II)I" } : Jvm.MethodName) prog_1_method_59_code (5 : Nat) (Option.some Jvm.ClassFile.FieldType.int)) ∈ lw_tb := kt5 (n := 86) (by decide +kernel) rfl
theorem k_1047 : (Jvm.Cond.methodLink "NineKeysRound" (430 : Nat) ({ cls := "NineKeysRound$Keys", name := "kindOf", desc := "(I)I" } : Jvm.MethodName)) ∈ lw_tb := kt5 (n := 87) (by decide +kernel) rfl
theorem k_1048 : (Jvm.Cond.methodLink "NineKeysRound" (433 : Nat) ({ cls := "NineKeysRound$Keys", name := "isUnder", desc := "(II)Z" } : Jvm.MethodName)) ∈ lw_tb := kt5 (n := 88) (by decide +kernel) rfl
theorem k_1049 : (Jvm.Cond.static ({ cls := "NineKeysRound$Keys", name := "isUnder", desc := "(II)Z" } : Jvm.MethodName)) ∈ lw_tb := kt5 (n := 89) (by decide +kernel) rfl
theorem k_1050 : (Jvm.Cond.code ({ cls := "NineKeysRound$Keys", name := "isUnder", desc := "(II)Z" } : Jvm.MethodName) prog_5_method_3_code (4 : Nat) (Option.some Jvm.ClassFile.FieldType.boolean)) ∈ lw_tb := kt5 (n := 90) (by decide +kernel) rfl
theorem k_1051 : (Jvm.Cond.methodLink "NineKeysRoundLaw" (199 : Nat) ({ cls := "NineKeysRound", name := "count", desc := "(I)I" } : Jvm.MethodName)) ∈ lw_tb := kt5 (n := 91) (by decide +kernel) rfl
theorem k_1052 : (Jvm.Cond.instanceMethod ({ cls := "NineKeysRound", name := "count", desc := "(I)I" } : Jvm.MethodName)) ∈ lw_tb := kt5 (n := 92) (by decide +kernel) rfl
theorem k_1053 : (Jvm.Cond.selects "NineKeysRound" ({ cls := "NineKeysRound", name := "count", desc := "(I)I" } : Jvm.MethodName) ({ cls := "NineKeysRound", name := "count", desc := "(I)I" } : Jvm.MethodName)) ∈ lw_tb := kt5 (n := 93) (by decide +kernel) rfl
theorem k_1054 : (Jvm.Cond.code ({ cls := "NineKeysRound", name := "count", desc := "(I)I" } : Jvm.MethodName) prog_1_method_60_code (2 : Nat) (Option.some Jvm.ClassFile.FieldType.int)) ∈ lw_tb := kt5 (n := 94) (by decide +kernel) rfl
theorem k_1055 : (Jvm.Cond.classLink "NineKeysRoundLaw" (10 : Nat) "NineKeysRoundModel") ∈ lw_tb := kt5 (n := 95) (by decide +kernel) rfl
theorem k_1056 : (Jvm.Cond.instantiable "NineKeysRoundModel" (54 : Nat)) ∈ lw_tb := kt5 (n := 96) (by decide +kernel) rfl
theorem k_1057 : (Jvm.Cond.methodLink "NineKeysRoundLaw" (12 : Nat) ({ cls := "NineKeysRoundModel", name := "<init>", desc := "()V" } : Jvm.MethodName)) ∈ lw_tb := kt5 (n := 97) (by decide +kernel) rfl
theorem k_1058 : (Jvm.Cond.instanceMethod ({ cls := "NineKeysRoundModel", name := "<init>", desc := "()V" } : Jvm.MethodName)) ∈ lw_tb := kt5 (n := 98) (by decide +kernel) rfl
theorem k_1059 : (Jvm.Cond.code ({ cls := "NineKeysRoundModel", name := "<init>", desc := "()V" } : Jvm.MethodName) prog_12_method_1_code (2 : Nat) (Option.none : Option Jvm.ClassFile.FieldType)) ∈ lw_tb := kt5 (n := 99) (by decide +kernel) rfl
theorem k_1060 : (Jvm.Cond.methodLink "NineKeysRoundModel" (3 : Nat) ({ cls := "java/lang/Object", name := "<init>", desc := "()V" } : Jvm.MethodName)) ∈ lw_tb := kt5 (n := 100) (by decide +kernel) rfl
theorem k_1061 : (Jvm.Cond.fieldLink "NineKeysRoundModel" (120 : Nat) "NineKeysRoundModel" "many" "I") ∈ lw_tb := kt5 (n := 101) (by decide +kernel) rfl
theorem k_1062 : (Jvm.Cond.fieldLink "NineKeysRoundModel" (9 : Nat) "NineKeysRoundModel" "placeX" "[I") ∈ lw_tb := kt5 (n := 102) (by decide +kernel) rfl
theorem k_1063 : (Jvm.Cond.fieldLink "NineKeysRoundModel" (15 : Nat) "NineKeysRoundModel" "placeY" "[I") ∈ lw_tb := kt5 (n := 103) (by decide +kernel) rfl
theorem k_1064 : (Jvm.Cond.fieldLink "NineKeysRoundModel" (18 : Nat) "NineKeysRoundModel" "worth" "[I") ∈ lw_tb := kt5 (n := 104) (by decide +kernel) rfl
theorem k_1065 : (Jvm.Cond.fieldLink "NineKeysRoundModel" (21 : Nat) "NineKeysRoundModel" "due" "[I") ∈ lw_tb := kt5 (n := 105) (by decide +kernel) rfl
theorem k_1066 : (Jvm.Cond.fieldLink "NineKeysRoundModel" (24 : Nat) "NineKeysRoundModel" "ways" "[I") ∈ lw_tb := kt5 (n := 106) (by decide +kernel) rfl
theorem k_1067 : (Jvm.Cond.fieldLink "NineKeysRoundModel" (162 : Nat) "NineKeysRoundModel" "taped" "I") ∈ lw_tb := kt5 (n := 107) (by decide +kernel) rfl
theorem k_1068 : (Jvm.Cond.fieldLink "NineKeysRoundModel" (27 : Nat) "NineKeysRoundModel" "tape" "[I") ∈ lw_tb := kt5 (n := 108) (by decide +kernel) rfl
theorem k_1069 : (Jvm.Cond.fieldLink "NineKeysRoundModel" (216 : Nat) "NineKeysRoundModel" "isTold" "Z") ∈ lw_tb := kt5 (n := 109) (by decide +kernel) rfl
theorem k_1070 : (Jvm.Cond.fieldLink "NineKeysRoundModel" (220 : Nat) "NineKeysRoundModel" "lines" "I") ∈ lw_tb := kt5 (n := 110) (by decide +kernel) rfl
theorem k_1071 : (Jvm.Cond.fieldLink "NineKeysRoundModel" (30 : Nat) "NineKeysRoundModel" "asks" "[I") ∈ lw_tb := kt5 (n := 111) (by decide +kernel) rfl
theorem k_1072 : (Jvm.Cond.fieldLink "NineKeysRoundModel" (33 : Nat) "NineKeysRoundModel" "says" "[I") ∈ lw_tb := kt5 (n := 112) (by decide +kernel) rfl
theorem k_1073 : (Jvm.Cond.fieldLink "NineKeysRoundModel" (36 : Nat) "NineKeysRoundModel" "ends" "[I") ∈ lw_tb := kt5 (n := 113) (by decide +kernel) rfl
theorem k_1074 : (Jvm.Cond.fieldLink "NineKeysRoundModel" (39 : Nat) "NineKeysRoundModel" "code" "[I") ∈ lw_tb := kt5 (n := 114) (by decide +kernel) rfl
theorem k_1075 : (Jvm.Cond.fieldLink "NineKeysRoundModel" (165 : Nat) "NineKeysRoundModel" "at" "I") ∈ lw_tb := kt5 (n := 115) (by decide +kernel) rfl
theorem k_1076 : (Jvm.Cond.fieldLink "NineKeysRoundModel" (186 : Nat) "NineKeysRoundModel" "open" "I") ∈ lw_tb := kt5 (n := 116) (by decide +kernel) rfl
theorem k_1077 : (Jvm.Cond.fieldLink "NineKeysRoundModel" (172 : Nat) "NineKeysRoundModel" "coded" "I") ∈ lw_tb := kt5 (n := 117) (by decide +kernel) rfl
theorem k_1078 : (Jvm.Cond.fieldLink "NineKeysRoundModel" (210 : Nat) "NineKeysRoundModel" "newLines" "I") ∈ lw_tb := kt5 (n := 118) (by decide +kernel) rfl
theorem k_1079 : (Jvm.Cond.fieldLink "NineKeysRoundModel" (42 : Nat) "NineKeysRoundModel" "newAsks" "[I") ∈ lw_tb := kt5 (n := 119) (by decide +kernel) rfl
theorem k_1080 : (Jvm.Cond.fieldLink "NineKeysRoundModel" (45 : Nat) "NineKeysRoundModel" "newSays" "[I") ∈ lw_tb := kt5 (n := 120) (by decide +kernel) rfl
theorem k_1081 : (Jvm.Cond.fieldLink "NineKeysRoundModel" (48 : Nat) "NineKeysRoundModel" "newEnds" "[I") ∈ lw_tb := kt5 (n := 121) (by decide +kernel) rfl
theorem k_1082 : (Jvm.Cond.fieldLink "NineKeysRoundModel" (51 : Nat) "NineKeysRoundModel" "newCode" "[I") ∈ lw_tb := kt5 (n := 122) (by decide +kernel) rfl
theorem k_1083 : (Jvm.Cond.fieldLink "NineKeysRoundModel" (54 : Nat) "NineKeysRoundModel" "stack" "[I") ∈ lw_tb := kt5 (n := 123) (by decide +kernel) rfl
theorem k_1084 : (Jvm.Cond.fieldLink "NineKeysRoundModel" (57 : Nat) "NineKeysRoundModel" "names" "[I") ∈ lw_tb := kt5 (n := 124) (by decide +kernel) rfl
theorem k_1085 : (Jvm.Cond.fieldLink "NineKeysRoundModel" (116 : Nat) "NineKeysRoundModel" "stands" "I") ∈ lw_tb := kt5 (n := 125) (by decide +kernel) rfl
theorem k_1086 : (Jvm.Cond.fieldLink "NineKeysRoundModel" (353 : Nat) "NineKeysRoundModel" "now" "I") ∈ lw_tb := kt5 (n := 126) (by decide +kernel) rfl
theorem k_1087 : (Jvm.Cond.fieldLink "NineKeysRoundModel" (60 : Nat) "NineKeysRoundModel" "dents" "[I") ∈ lw_tb := kt5 (n := 127) (by decide +kernel) rfl
theorem k_1088 : (Jvm.Cond.fieldLink "NineKeysRoundModel" (63 : Nat) "NineKeysRoundModel" "led" "[I") ∈ lw_tb := kt5 (n := 128) (by decide +kernel) rfl
theorem k_1089 : (Jvm.Cond.fieldLink "NineKeysRoundModel" (356 : Nat) "NineKeysRoundModel" "imaged" "Z") ∈ lw_tb := kt5 (n := 129) (by decide +kernel) rfl
theorem k_1090 : (Jvm.Cond.fieldLink "NineKeysRoundModel" (359 : Nat) "NineKeysRoundModel" "oldMany" "I") ∈ lw_tb := kt5 (n := 130) (by decide +kernel) rfl
theorem k_1091 : (Jvm.Cond.fieldLink "NineKeysRoundModel" (362 : Nat) "NineKeysRoundModel" "oldStands" "I") ∈ lw_tb := kt5 (n := 131) (by decide +kernel) rfl
theorem k_1092 : (Jvm.Cond.fieldLink "NineKeysRoundModel" (365 : Nat) "NineKeysRoundModel" "oldNow" "I") ∈ lw_tb := kt5 (n := 132) (by decide +kernel) rfl
theorem k_1093 : (Jvm.Cond.fieldLink "NineKeysRoundModel" (66 : Nat) "NineKeysRoundModel" "oldDents" "[I") ∈ lw_tb := kt5 (n := 133) (by decide +kernel) rfl
theorem k_1094 : (Jvm.Cond.fieldLink "NineKeysRoundModel" (69 : Nat) "NineKeysRoundModel" "oldLed" "[I") ∈ lw_tb := kt5 (n := 134) (by decide +kernel) rfl
theorem k_1095 : (Jvm.Cond.fieldLink "NineKeysRoundModel" (159 : Nat) "NineKeysRoundModel" "changes" "I") ∈ lw_tb := kt5 (n := 135) (by decide +kernel) rfl
theorem k_1096 : (Jvm.Cond.fieldLink "NineKeysRoundModel" (156 : Nat) "NineKeysRoundModel" "done" "I") ∈ lw_tb := kt5 (n := 136) (by decide +kernel) rfl
theorem k_1097 : (Jvm.Cond.fieldLink "NineKeysRoundModel" (72 : Nat) "NineKeysRoundModel" "changed" "[I") ∈ lw_tb := kt5 (n := 137) (by decide +kernel) rfl
theorem k_1098 : (Jvm.Cond.fieldLink "NineKeysRoundModel" (389 : Nat) "NineKeysRoundModel" "bodies" "I") ∈ lw_tb := kt5 (n := 138) (by decide +kernel) rfl
theorem k_1099 : (Jvm.Cond.fieldLink "NineKeysRoundModel" (75 : Nat) "NineKeysRoundModel" "kind" "[I") ∈ lw_tb := kt5 (n := 139) (by decide +kernel) rfl
theorem k_1100 : (Jvm.Cond.fieldLink "NineKeysRoundModel" (368 : Nat) "NineKeysRoundModel" "traced" "I") ∈ lw_tb := kt5 (n := 140) (by decide +kernel) rfl
theorem k_1101 : (Jvm.Cond.fieldLink "NineKeysRoundModel" (78 : Nat) "NineKeysRoundModel" "traces" "[I") ∈ lw_tb := kt5 (n := 141) (by decide +kernel) rfl
theorem k_1102 : (Jvm.Cond.fieldLink "NineKeysRoundModel" (81 : Nat) "NineKeysRoundModel" "holding" "[I") ∈ lw_tb := kt5 (n := 142) (by decide +kernel) rfl
theorem k_1103 : (Jvm.Cond.fieldLink "NineKeysRoundModel" (84 : Nat) "NineKeysRoundModel" "rowLength" "[I") ∈ lw_tb := kt5 (n := 143) (by decide +kernel) rfl
theorem k_1104 : (Jvm.Cond.fieldLink "NineKeysRoundModel" (87 : Nat) "NineKeysRoundModel" "rowOf" "[J") ∈ lw_tb := kt5 (n := 144) (by decide +kernel) rfl
theorem k_1105 : (Jvm.Cond.fieldLink "NineKeysRoundModel" (231 : Nat) "NineKeysRoundModel" "stops" "I") ∈ lw_tb := kt5 (n := 145) (by decide +kernel) rfl
theorem k_1106 : (Jvm.Cond.fieldLink "NineKeysRoundModel" (91 : Nat) "NineKeysRoundModel" "stop" "[I") ∈ lw_tb := kt5 (n := 146) (by decide +kernel) rfl
theorem k_1107 : (Jvm.Cond.fieldLink "NineKeysRoundModel" (255 : Nat) "NineKeysRoundModel" "dented" "I") ∈ lw_tb := kt5 (n := 147) (by decide +kernel) rfl
theorem k_1108 : (Jvm.Cond.fieldLink "NineKeysRoundModel" (94 : Nat) "NineKeysRoundModel" "dentAt" "[I") ∈ lw_tb := kt5 (n := 148) (by decide +kernel) rfl
theorem k_1109 : (Jvm.Cond.fieldLink "NineKeysRoundModel" (97 : Nat) "NineKeysRoundModel" "dentPost" "[I") ∈ lw_tb := kt5 (n := 149) (by decide +kernel) rfl
theorem k_1110 : (Jvm.Cond.fieldLink "NineKeysRoundModel" (100 : Nat) "NineKeysRoundModel" "last" "[I") ∈ lw_tb := kt5 (n := 150) (by decide +kernel) rfl
theorem k_1111 : (Jvm.Cond.fieldLink "NineKeysRoundModel" (103 : Nat) "NineKeysRoundModel" "seen" "[Z") ∈ lw_tb := kt5 (n := 151) (by decide +kernel) rfl
theorem k_1112 : (Jvm.Cond.fieldLink "NineKeysRoundModel" (107 : Nat) "NineKeysRoundModel" "marks" "[I") ∈ lw_tb := kt5 (n := 152) (by decide +kernel) rfl
theorem k_1113 : (Jvm.Cond.fieldLink "NineKeysRoundModel" (110 : Nat) "NineKeysRoundModel" "order" "[I") ∈ lw_tb := kt5 (n := 153) (by decide +kernel) rfl
theorem k_1114 : (Jvm.Cond.fieldLink "NineKeysRoundModel" (113 : Nat) "NineKeysRoundModel" "best" "[I") ∈ lw_tb := kt5 (n := 154) (by decide +kernel) rfl
theorem k_1115 : (Jvm.Cond.lays "NineKeysRoundModel" "NineKeysRoundModel" "many" "I") ∈ lw_tb := kt5 (n := 155) (by decide +kernel) rfl
theorem k_1117 : (Jvm.Cond.laysFinal "NineKeysRoundModel" "NineKeysRoundModel" "placeX" "[I") ∈ lw_tb := kt5 (n := 157) (by decide +kernel) rfl
theorem k_1119 : (Jvm.Cond.laysFinal "NineKeysRoundModel" "NineKeysRoundModel" "placeY" "[I") ∈ lw_tb := kt5 (n := 159) (by decide +kernel) rfl
theorem k_1121 : (Jvm.Cond.laysFinal "NineKeysRoundModel" "NineKeysRoundModel" "worth" "[I") ∈ lw_tb := kt5 (n := 161) (by decide +kernel) rfl
theorem k_1123 : (Jvm.Cond.laysFinal "NineKeysRoundModel" "NineKeysRoundModel" "due" "[I") ∈ lw_tb := kt5 (n := 163) (by decide +kernel) rfl
theorem k_1125 : (Jvm.Cond.laysFinal "NineKeysRoundModel" "NineKeysRoundModel" "ways" "[I") ∈ lw_tb := kt5 (n := 165) (by decide +kernel) rfl
theorem k_1127 : (Jvm.Cond.lays "NineKeysRoundModel" "NineKeysRoundModel" "taped" "I") ∈ lw_tb := kt5 (n := 167) (by decide +kernel) rfl
theorem k_1129 : (Jvm.Cond.laysFinal "NineKeysRoundModel" "NineKeysRoundModel" "tape" "[I") ∈ lw_tb := kt5 (n := 169) (by decide +kernel) rfl
theorem k_1131 : (Jvm.Cond.lays "NineKeysRoundModel" "NineKeysRoundModel" "isTold" "Z") ∈ lw_tb := kt5 (n := 171) (by decide +kernel) rfl
theorem k_1133 : (Jvm.Cond.lays "NineKeysRoundModel" "NineKeysRoundModel" "lines" "I") ∈ lw_tb := kt5 (n := 173) (by decide +kernel) rfl
theorem k_1135 : (Jvm.Cond.laysFinal "NineKeysRoundModel" "NineKeysRoundModel" "asks" "[I") ∈ lw_tb := kt5 (n := 175) (by decide +kernel) rfl
theorem k_1137 : (Jvm.Cond.laysFinal "NineKeysRoundModel" "NineKeysRoundModel" "says" "[I") ∈ lw_tb := kt5 (n := 177) (by decide +kernel) rfl
theorem k_1139 : (Jvm.Cond.laysFinal "NineKeysRoundModel" "NineKeysRoundModel" "ends" "[I") ∈ lw_tb := kt5 (n := 179) (by decide +kernel) rfl
theorem k_1141 : (Jvm.Cond.laysFinal "NineKeysRoundModel" "NineKeysRoundModel" "code" "[I") ∈ lw_tb := kt5 (n := 181) (by decide +kernel) rfl
theorem k_1143 : (Jvm.Cond.lays "NineKeysRoundModel" "NineKeysRoundModel" "at" "I") ∈ lw_tb := kt5 (n := 183) (by decide +kernel) rfl
theorem k_1145 : (Jvm.Cond.lays "NineKeysRoundModel" "NineKeysRoundModel" "open" "I") ∈ lw_tb := kt5 (n := 185) (by decide +kernel) rfl
theorem k_1147 : (Jvm.Cond.lays "NineKeysRoundModel" "NineKeysRoundModel" "coded" "I") ∈ lw_tb := kt5 (n := 187) (by decide +kernel) rfl
theorem k_1149 : (Jvm.Cond.lays "NineKeysRoundModel" "NineKeysRoundModel" "newLines" "I") ∈ lw_tb := kt5 (n := 189) (by decide +kernel) rfl
theorem k_1151 : (Jvm.Cond.laysFinal "NineKeysRoundModel" "NineKeysRoundModel" "newAsks" "[I") ∈ lw_tb := kt5 (n := 191) (by decide +kernel) rfl
theorem k_1153 : (Jvm.Cond.laysFinal "NineKeysRoundModel" "NineKeysRoundModel" "newSays" "[I") ∈ lw_tb := kt5 (n := 193) (by decide +kernel) rfl
theorem k_1155 : (Jvm.Cond.laysFinal "NineKeysRoundModel" "NineKeysRoundModel" "newEnds" "[I") ∈ lw_tb := kt5 (n := 195) (by decide +kernel) rfl
theorem k_1157 : (Jvm.Cond.laysFinal "NineKeysRoundModel" "NineKeysRoundModel" "newCode" "[I") ∈ lw_tb := kt5 (n := 197) (by decide +kernel) rfl
theorem k_1159 : (Jvm.Cond.laysFinal "NineKeysRoundModel" "NineKeysRoundModel" "stack" "[I") ∈ lw_tb := kt5 (n := 199) (by decide +kernel) rfl
theorem k_1161 : (Jvm.Cond.laysFinal "NineKeysRoundModel" "NineKeysRoundModel" "names" "[I") ∈ lw_tb := kt5 (n := 201) (by decide +kernel) rfl
theorem k_1163 : (Jvm.Cond.lays "NineKeysRoundModel" "NineKeysRoundModel" "stands" "I") ∈ lw_tb := kt5 (n := 203) (by decide +kernel) rfl
theorem k_1165 : (Jvm.Cond.lays "NineKeysRoundModel" "NineKeysRoundModel" "now" "I") ∈ lw_tb := kt5 (n := 205) (by decide +kernel) rfl
theorem k_1167 : (Jvm.Cond.laysFinal "NineKeysRoundModel" "NineKeysRoundModel" "dents" "[I") ∈ lw_tb := kt5 (n := 207) (by decide +kernel) rfl
theorem k_1169 : (Jvm.Cond.laysFinal "NineKeysRoundModel" "NineKeysRoundModel" "led" "[I") ∈ lw_tb := kt5 (n := 209) (by decide +kernel) rfl
theorem k_1171 : (Jvm.Cond.lays "NineKeysRoundModel" "NineKeysRoundModel" "imaged" "Z") ∈ lw_tb := kt5 (n := 211) (by decide +kernel) rfl
theorem k_1173 : (Jvm.Cond.lays "NineKeysRoundModel" "NineKeysRoundModel" "oldMany" "I") ∈ lw_tb := kt5 (n := 213) (by decide +kernel) rfl
theorem k_1175 : (Jvm.Cond.lays "NineKeysRoundModel" "NineKeysRoundModel" "oldStands" "I") ∈ lw_tb := kt5 (n := 215) (by decide +kernel) rfl
theorem k_1177 : (Jvm.Cond.lays "NineKeysRoundModel" "NineKeysRoundModel" "oldNow" "I") ∈ lw_tb := kt5 (n := 217) (by decide +kernel) rfl
theorem k_1179 : (Jvm.Cond.laysFinal "NineKeysRoundModel" "NineKeysRoundModel" "oldDents" "[I") ∈ lw_tb := kt5 (n := 219) (by decide +kernel) rfl
theorem k_1181 : (Jvm.Cond.laysFinal "NineKeysRoundModel" "NineKeysRoundModel" "oldLed" "[I") ∈ lw_tb := kt5 (n := 221) (by decide +kernel) rfl
theorem k_1183 : (Jvm.Cond.lays "NineKeysRoundModel" "NineKeysRoundModel" "changes" "I") ∈ lw_tb := kt5 (n := 223) (by decide +kernel) rfl
theorem k_1185 : (Jvm.Cond.lays "NineKeysRoundModel" "NineKeysRoundModel" "done" "I") ∈ lw_tb := kt5 (n := 225) (by decide +kernel) rfl
theorem k_1187 : (Jvm.Cond.laysFinal "NineKeysRoundModel" "NineKeysRoundModel" "changed" "[I") ∈ lw_tb := kt5 (n := 227) (by decide +kernel) rfl
theorem k_1189 : (Jvm.Cond.lays "NineKeysRoundModel" "NineKeysRoundModel" "bodies" "I") ∈ lw_tb := kt5 (n := 229) (by decide +kernel) rfl
theorem k_1191 : (Jvm.Cond.laysFinal "NineKeysRoundModel" "NineKeysRoundModel" "kind" "[I") ∈ lw_tb := kt5 (n := 231) (by decide +kernel) rfl
theorem k_1193 : (Jvm.Cond.lays "NineKeysRoundModel" "NineKeysRoundModel" "traced" "I") ∈ lw_tb := kt5 (n := 233) (by decide +kernel) rfl
theorem k_1195 : (Jvm.Cond.laysFinal "NineKeysRoundModel" "NineKeysRoundModel" "traces" "[I") ∈ lw_tb := kt5 (n := 235) (by decide +kernel) rfl
theorem k_1197 : (Jvm.Cond.laysFinal "NineKeysRoundModel" "NineKeysRoundModel" "holding" "[I") ∈ lw_tb := kt5 (n := 237) (by decide +kernel) rfl
theorem k_1199 : (Jvm.Cond.laysFinal "NineKeysRoundModel" "NineKeysRoundModel" "rowLength" "[I") ∈ lw_tb := kt5 (n := 239) (by decide +kernel) rfl
theorem k_1201 : (Jvm.Cond.laysFinal "NineKeysRoundModel" "NineKeysRoundModel" "rowOf" "[J") ∈ lw_tb := kt6 (n := 1) (by decide +kernel) rfl
theorem k_1203 : (Jvm.Cond.lays "NineKeysRoundModel" "NineKeysRoundModel" "stops" "I") ∈ lw_tb := kt6 (n := 3) (by decide +kernel) rfl
theorem k_1205 : (Jvm.Cond.laysFinal "NineKeysRoundModel" "NineKeysRoundModel" "stop" "[I") ∈ lw_tb := kt6 (n := 5) (by decide +kernel) rfl
theorem k_1207 : (Jvm.Cond.lays "NineKeysRoundModel" "NineKeysRoundModel" "dented" "I") ∈ lw_tb := kt6 (n := 7) (by decide +kernel) rfl
theorem k_1209 : (Jvm.Cond.laysFinal "NineKeysRoundModel" "NineKeysRoundModel" "dentAt" "[I") ∈ lw_tb := kt6 (n := 9) (by decide +kernel) rfl
theorem k_1211 : (Jvm.Cond.laysFinal "NineKeysRoundModel" "NineKeysRoundModel" "dentPost" "[I") ∈ lw_tb := kt6 (n := 11) (by decide +kernel) rfl
theorem k_1213 : (Jvm.Cond.laysFinal "NineKeysRoundModel" "NineKeysRoundModel" "last" "[I") ∈ lw_tb := kt6 (n := 13) (by decide +kernel) rfl
theorem k_1215 : (Jvm.Cond.laysFinal "NineKeysRoundModel" "NineKeysRoundModel" "seen" "[Z") ∈ lw_tb := kt6 (n := 15) (by decide +kernel) rfl
theorem k_1217 : (Jvm.Cond.laysFinal "NineKeysRoundModel" "NineKeysRoundModel" "marks" "[I") ∈ lw_tb := kt6 (n := 17) (by decide +kernel) rfl
theorem k_1219 : (Jvm.Cond.laysFinal "NineKeysRoundModel" "NineKeysRoundModel" "order" "[I") ∈ lw_tb := kt6 (n := 19) (by decide +kernel) rfl
theorem k_1221 : (Jvm.Cond.laysFinal "NineKeysRoundModel" "NineKeysRoundModel" "best" "[I") ∈ lw_tb := kt6 (n := 21) (by decide +kernel) rfl
theorem k_1224 : (Jvm.Cond.arrayClass Jvm.ClassFile.FieldType.boolean) ∈ lw_tb := kt6 (n := 24) (by decide +kernel) rfl
theorem k_1225 : (Jvm.Cond.methodLink "NineKeysRoundLaw" (17 : Nat) ({ cls := "NineKeysRoundModel", name := "post", desc := "(I)I" } : Jvm.MethodName)) ∈ lw_tb := kt6 (n := 25) (by decide +kernel) rfl
theorem k_1226 : (Jvm.Cond.instanceMethod ({ cls := "NineKeysRoundModel", name := "post", desc := "(I)I" } : Jvm.MethodName)) ∈ lw_tb := kt6 (n := 26) (by decide +kernel) rfl
theorem k_1227 : (Jvm.Cond.selects "NineKeysRoundModel" ({ cls := "NineKeysRoundModel", name := "post", desc := "(I)I" } : Jvm.MethodName) ({ cls := "NineKeysRoundModel", name := "post", desc := "(I)I" } : Jvm.MethodName)) ∈ lw_tb := kt6 (n := 27) (by decide +kernel) rfl
theorem k_1228 : (Jvm.Cond.code ({ cls := "NineKeysRoundModel", name := "post", desc := "(I)I" } : Jvm.MethodName) prog_12_method_7_code (2 : Nat) (Option.some Jvm.ClassFile.FieldType.int)) ∈ lw_tb := kt6 (n := 28) (by decide +kernel) rfl
theorem k_1229 : (Jvm.Cond.methodLink "NineKeysRoundModel" (127 : Nat) ({ cls := "NineKeysRoundModel", name := "newPost", desc := "(III)I" } : Jvm.MethodName)) ∈ lw_tb := kt6 (n := 29) (by decide +kernel) rfl
theorem k_1231 : (Jvm.Cond.instanceMethod ({ cls := "NineKeysRoundModel", name := "newPost", desc := "(III)I" } : Jvm.MethodName)) ∈ lw_tb := kt6 (n := 31) (by decide +kernel) rfl
theorem k_1232 : (Jvm.Cond.code ({ cls := "NineKeysRoundModel", name := "newPost", desc := "(III)I" } : Jvm.MethodName) prog_12_method_6_code (4 : Nat) (Option.some Jvm.ClassFile.FieldType.int)) ∈ lw_tb := kt6 (n := 32) (by decide +kernel) rfl
theorem k_1233 : (Jvm.Cond.methodLink "NineKeysRoundLaw" (22 : Nat) ({ cls := "NineKeysRoundModel", name := "posts", desc := "(III)I" } : Jvm.MethodName)) ∈ lw_tb := kt6 (n := 33) (by decide +kernel) rfl
theorem k_1234 : (Jvm.Cond.instanceMethod ({ cls := "NineKeysRoundModel", name := "posts", desc := "(III)I" } : Jvm.MethodName)) ∈ lw_tb := kt6 (n := 34) (by decide +kernel) rfl
theorem k_1235 : (Jvm.Cond.selects "NineKeysRoundModel" ({ cls := "NineKeysRoundModel", name := "posts", desc := "(III)I" } : Jvm.MethodName) ({ cls := "NineKeysRoundModel", name := "posts", desc := "(III)I" } : Jvm.MethodName)) ∈ lw_tb := kt6 (n := 35) (by decide +kernel) rfl
theorem k_1236 : (Jvm.Cond.code ({ cls := "NineKeysRoundModel", name := "posts", desc := "(III)I" } : Jvm.MethodName) prog_12_method_8_code (9 : Nat) (Option.some Jvm.ClassFile.FieldType.int)) ∈ lw_tb := kt6 (n := 36) (by decide +kernel) rfl
theorem k_1237 : (Jvm.Cond.methodLink "NineKeysRoundModel" (131 : Nat) ({ cls := "NineKeysRoundModel", name := "isShelf", desc := "(I)Z" } : Jvm.MethodName)) ∈ lw_tb := kt6 (n := 37) (by decide +kernel) rfl
theorem k_1238 : (Jvm.Cond.static ({ cls := "NineKeysRoundModel", name := "isShelf", desc := "(I)Z" } : Jvm.MethodName)) ∈ lw_tb := kt6 (n := 38) (by decide +kernel) rfl
theorem k_1239 : (Jvm.Cond.code ({ cls := "NineKeysRoundModel", name := "isShelf", desc := "(I)Z" } : Jvm.MethodName) prog_12_method_5_code (1 : Nat) (Option.some Jvm.ClassFile.FieldType.boolean)) ∈ lw_tb := kt6 (n := 39) (by decide +kernel) rfl
theorem k_1240 : (Jvm.Cond.methodLink "NineKeysRoundModel" (123 : Nat) ({ cls := "NineKeysRoundModel", name := "within", desc := "(III)Z" } : Jvm.MethodName)) ∈ lw_tb := kt6 (n := 40) (by decide +kernel) rfl
theorem k_1241 : (Jvm.Cond.static ({ cls := "NineKeysRoundModel", name := "within", desc := "(III)Z" } : Jvm.MethodName)) ∈ lw_tb := kt6 (n := 41) (by decide +kernel) rfl
theorem k_1242 : (Jvm.Cond.code ({ cls := "NineKeysRoundModel", name := "within", desc := "(III)Z" } : Jvm.MethodName) prog_12_method_2_code (3 : Nat) (Option.some Jvm.ClassFile.FieldType.boolean)) ∈ lw_tb := kt6 (n := 42) (by decide +kernel) rfl
theorem k_1243 : (Jvm.Cond.constantLong "NineKeysRoundModel" (135 : Nat) (3 : Int64)) ∈ lw_tb := kt6 (n := 43) (by decide +kernel) rfl
theorem k_1244 : (Jvm.Cond.methodLink "NineKeysRoundLaw" (26 : Nat) ({ cls := "NineKeysRoundModel", name := "mend", desc := "(III)I" } : Jvm.MethodName)) ∈ lw_tb := kt6 (n := 44) (by decide +kernel) rfl
theorem k_1245 : (Jvm.Cond.instanceMethod ({ cls := "NineKeysRoundModel", name := "mend", desc := "(III)I" } : Jvm.MethodName)) ∈ lw_tb := kt6 (n := 45) (by decide +kernel) rfl
theorem k_1246 : (Jvm.Cond.selects "NineKeysRoundModel" ({ cls := "NineKeysRoundModel", name := "mend", desc := "(III)I" } : Jvm.MethodName) ({ cls := "NineKeysRoundModel", name := "mend", desc := "(III)I" } : Jvm.MethodName)) ∈ lw_tb := kt6 (n := 46) (by decide +kernel) rfl
theorem k_1247 : (Jvm.Cond.code ({ cls := "NineKeysRoundModel", name := "mend", desc := "(III)I" } : Jvm.MethodName) prog_12_method_13_code (6 : Nat) (Option.some Jvm.ClassFile.FieldType.int)) ∈ lw_tb := kt6 (n := 47) (by decide +kernel) rfl
theorem k_1248 : (Jvm.Cond.methodLink "NineKeysRoundModel" (141 : Nat) ({ cls := "NineKeysRoundModel", name := "isOf", desc := "(II)Z" } : Jvm.MethodName)) ∈ lw_tb := kt6 (n := 48) (by decide +kernel) rfl
theorem k_1250 : (Jvm.Cond.instanceMethod ({ cls := "NineKeysRoundModel", name := "isOf", desc := "(II)Z" } : Jvm.MethodName)) ∈ lw_tb := kt6 (n := 50) (by decide +kernel) rfl
theorem k_1251 : (Jvm.Cond.code ({ cls := "NineKeysRoundModel", name := "isOf", desc := "(II)Z" } : Jvm.MethodName) prog_12_method_9_code (3 : Nat) (Option.some Jvm.ClassFile.FieldType.boolean)) ∈ lw_tb := kt6 (n := 51) (by decide +kernel) rfl
theorem k_1252 : (Jvm.Cond.methodLink "NineKeysRoundModel" (137 : Nat) ({ cls := "NineKeysRoundModel", name := "isPost", desc := "(J)Z" } : Jvm.MethodName)) ∈ lw_tb := kt6 (n := 52) (by decide +kernel) rfl
theorem k_1254 : (Jvm.Cond.instanceMethod ({ cls := "NineKeysRoundModel", name := "isPost", desc := "(J)Z" } : Jvm.MethodName)) ∈ lw_tb := kt6 (n := 54) (by decide +kernel) rfl
theorem k_1255 : (Jvm.Cond.code ({ cls := "NineKeysRoundModel", name := "isPost", desc := "(J)Z" } : Jvm.MethodName) prog_12_method_3_code (3 : Nat) (Option.some Jvm.ClassFile.FieldType.boolean)) ∈ lw_tb := kt6 (n := 55) (by decide +kernel) rfl
theorem k_1256 : (Jvm.Cond.methodLink "NineKeysRoundModel" (145 : Nat) ({ cls := "NineKeysRoundModel", name := "isFit", desc := "(II)Z" } : Jvm.MethodName)) ∈ lw_tb := kt6 (n := 56) (by decide +kernel) rfl
theorem k_1257 : (Jvm.Cond.static ({ cls := "NineKeysRoundModel", name := "isFit", desc := "(II)Z" } : Jvm.MethodName)) ∈ lw_tb := kt6 (n := 57) (by decide +kernel) rfl
theorem k_1258 : (Jvm.Cond.code ({ cls := "NineKeysRoundModel", name := "isFit", desc := "(II)Z" } : Jvm.MethodName) prog_12_method_10_code (2 : Nat) (Option.some Jvm.ClassFile.FieldType.boolean)) ∈ lw_tb := kt6 (n := 58) (by decide +kernel) rfl
theorem k_1259 : (Jvm.Cond.methodLink "NineKeysRoundModel" (148 : Nat) ({ cls := "NineKeysRoundModel", name := "get", desc := "(II)I" } : Jvm.MethodName)) ∈ lw_tb := kt6 (n := 59) (by decide +kernel) rfl
theorem k_1261 : (Jvm.Cond.instanceMethod ({ cls := "NineKeysRoundModel", name := "get", desc := "(II)I" } : Jvm.MethodName)) ∈ lw_tb := kt6 (n := 61) (by decide +kernel) rfl
theorem k_1262 : (Jvm.Cond.code ({ cls := "NineKeysRoundModel", name := "get", desc := "(II)I" } : Jvm.MethodName) prog_12_method_11_code (3 : Nat) (Option.some Jvm.ClassFile.FieldType.int)) ∈ lw_tb := kt6 (n := 62) (by decide +kernel) rfl
theorem k_1263 : (Jvm.Cond.methodLink "NineKeysRoundModel" (152 : Nat) ({ cls := "NineKeysRoundModel", name := "becomes", desc := "(III)V" } : Jvm.MethodName)) ∈ lw_tb := kt6 (n := 63) (by decide +kernel) rfl
theorem k_1265 : (Jvm.Cond.instanceMethod ({ cls := "NineKeysRoundModel", name := "becomes", desc := "(III)V" } : Jvm.MethodName)) ∈ lw_tb := kt6 (n := 65) (by decide +kernel) rfl
theorem k_1266 : (Jvm.Cond.code ({ cls := "NineKeysRoundModel", name := "becomes", desc := "(III)V" } : Jvm.MethodName) prog_12_method_12_code (4 : Nat) (Option.none : Option Jvm.ClassFile.FieldType)) ∈ lw_tb := kt6 (n := 66) (by decide +kernel) rfl
theorem k_1267 : (Jvm.Cond.methodLink "NineKeysRoundLaw" (31 : Nat) ({ cls := "NineKeysRoundModel", name := "of", desc := "(II)I" } : Jvm.MethodName)) ∈ lw_tb := kt6 (n := 67) (by decide +kernel) rfl
theorem k_1268 : (Jvm.Cond.instanceMethod ({ cls := "NineKeysRoundModel", name := "of", desc := "(II)I" } : Jvm.MethodName)) ∈ lw_tb := kt6 (n := 68) (by decide +kernel) rfl
theorem k_1269 : (Jvm.Cond.selects "NineKeysRoundModel" ({ cls := "NineKeysRoundModel", name := "of", desc := "(II)I" } : Jvm.MethodName) ({ cls := "NineKeysRoundModel", name := "of", desc := "(II)I" } : Jvm.MethodName)) ∈ lw_tb := kt6 (n := 69) (by decide +kernel) rfl
theorem k_1270 : (Jvm.Cond.code ({ cls := "NineKeysRoundModel", name := "of", desc := "(II)I" } : Jvm.MethodName) prog_12_method_14_code (3 : Nat) (Option.some Jvm.ClassFile.FieldType.int)) ∈ lw_tb := kt6 (n := 70) (by decide +kernel) rfl
theorem k_1271 : (Jvm.Cond.methodLink "NineKeysRoundLaw" (153 : Nat) ({ cls := "NineKeysRoundModel", name := "undo", desc := "()I" } : Jvm.MethodName)) ∈ lw_tb := kt6 (n := 71) (by decide +kernel) rfl
theorem k_1272 : (Jvm.Cond.instanceMethod ({ cls := "NineKeysRoundModel", name := "undo", desc := "()I" } : Jvm.MethodName)) ∈ lw_tb := kt6 (n := 72) (by decide +kernel) rfl
theorem k_1273 : (Jvm.Cond.selects "NineKeysRoundModel" ({ cls := "NineKeysRoundModel", name := "undo", desc := "()I" } : Jvm.MethodName) ({ cls := "NineKeysRoundModel", name := "undo", desc := "()I" } : Jvm.MethodName)) ∈ lw_tb := kt6 (n := 73) (by decide +kernel) rfl
theorem k_1274 : (Jvm.Cond.code ({ cls := "NineKeysRoundModel", name := "undo", desc := "()I" } : Jvm.MethodName) prog_12_method_15_code (1 : Nat) (Option.some Jvm.ClassFile.FieldType.int)) ∈ lw_tb := kt6 (n := 74) (by decide +kernel) rfl
theorem k_1275 : (Jvm.Cond.methodLink "NineKeysRoundLaw" (157 : Nat) ({ cls := "NineKeysRoundModel", name := "redo", desc := "()I" } : Jvm.MethodName)) ∈ lw_tb := kt6 (n := 75) (by decide +kernel) rfl
theorem k_1276 : (Jvm.Cond.instanceMethod ({ cls := "NineKeysRoundModel", name := "redo", desc := "()I" } : Jvm.MethodName)) ∈ lw_tb := kt6 (n := 76) (by decide +kernel) rfl
theorem k_1277 : (Jvm.Cond.selects "NineKeysRoundModel" ({ cls := "NineKeysRoundModel", name := "redo", desc := "()I" } : Jvm.MethodName) ({ cls := "NineKeysRoundModel", name := "redo", desc := "()I" } : Jvm.MethodName)) ∈ lw_tb := kt6 (n := 77) (by decide +kernel) rfl
theorem k_1278 : (Jvm.Cond.code ({ cls := "NineKeysRoundModel", name := "redo", desc := "()I" } : Jvm.MethodName) prog_12_method_16_code (1 : Nat) (Option.some Jvm.ClassFile.FieldType.int)) ∈ lw_tb := kt6 (n := 78) (by decide +kernel) rfl
theorem k_1279 : (Jvm.Cond.methodLink "NineKeysRoundLaw" (35 : Nat) ({ cls := "NineKeysRoundModel", name := "feed", desc := "(I)I" } : Jvm.MethodName)) ∈ lw_tb := kt6 (n := 79) (by decide +kernel) rfl
theorem k_1280 : (Jvm.Cond.instanceMethod ({ cls := "NineKeysRoundModel", name := "feed", desc := "(I)I" } : Jvm.MethodName)) ∈ lw_tb := kt6 (n := 80) (by decide +kernel) rfl
theorem k_1281 : (Jvm.Cond.selects "NineKeysRoundModel" ({ cls := "NineKeysRoundModel", name := "feed", desc := "(I)I" } : Jvm.MethodName) ({ cls := "NineKeysRoundModel", name := "feed", desc := "(I)I" } : Jvm.MethodName)) ∈ lw_tb := kt6 (n := 81) (by decide +kernel) rfl
theorem k_1282 : (Jvm.Cond.code ({ cls := "NineKeysRoundModel", name := "feed", desc := "(I)I" } : Jvm.MethodName) prog_12_method_17_code (2 : Nat) (Option.some Jvm.ClassFile.FieldType.int)) ∈ lw_tb := kt6 (n := 82) (by decide +kernel) rfl
theorem k_1283 : (Jvm.Cond.methodLink "NineKeysRoundLaw" (40 : Nat) ({ cls := "NineKeysRoundModel", name := "law", desc := "()I" } : Jvm.MethodName)) ∈ lw_tb := kt6 (n := 83) (by decide +kernel) rfl
theorem k_1284 : (Jvm.Cond.instanceMethod ({ cls := "NineKeysRoundModel", name := "law", desc := "()I" } : Jvm.MethodName)) ∈ lw_tb := kt6 (n := 84) (by decide +kernel) rfl
theorem k_1285 : (Jvm.Cond.selects "NineKeysRoundModel" ({ cls := "NineKeysRoundModel", name := "law", desc := "()I" } : Jvm.MethodName) ({ cls := "NineKeysRoundModel", name := "law", desc := "()I" } : Jvm.MethodName)) ∈ lw_tb := kt6 (n := 85) (by decide +kernel) rfl
theorem k_1286 : (Jvm.Cond.code ({ cls := "NineKeysRoundModel", name := "law", desc := "()I" } : Jvm.MethodName) prog_12_method_30_code (4 : Nat) (Option.some Jvm.ClassFile.FieldType.int)) ∈ lw_tb := kt6 (n := 86) (by decide +kernel) rfl
theorem k_1287 : (Jvm.Cond.methodLink "NineKeysRoundModel" (213 : Nat) ({ cls := "NineKeysRoundModel", name := "isLine", desc := "()Z" } : Jvm.MethodName)) ∈ lw_tb := kt6 (n := 87) (by decide +kernel) rfl
theorem k_1289 : (Jvm.Cond.instanceMethod ({ cls := "NineKeysRoundModel", name := "isLine", desc := "()Z" } : Jvm.MethodName)) ∈ lw_tb := kt6 (n := 89) (by decide +kernel) rfl
theorem k_1290 : (Jvm.Cond.code ({ cls := "NineKeysRoundModel", name := "isLine", desc := "()Z" } : Jvm.MethodName) prog_12_method_29_code (1 : Nat) (Option.some Jvm.ClassFile.FieldType.boolean)) ∈ lw_tb := kt6 (n := 90) (by decide +kernel) rfl
theorem k_1291 : (Jvm.Cond.methodLink "NineKeysRoundModel" (195 : Nat) ({ cls := "NineKeysRoundModel", name := "isE", desc := "()Z" } : Jvm.MethodName)) ∈ lw_tb := kt6 (n := 91) (by decide +kernel) rfl
theorem k_1293 : (Jvm.Cond.instanceMethod ({ cls := "NineKeysRoundModel", name := "isE", desc := "()Z" } : Jvm.MethodName)) ∈ lw_tb := kt6 (n := 93) (by decide +kernel) rfl
theorem k_1294 : (Jvm.Cond.code ({ cls := "NineKeysRoundModel", name := "isE", desc := "()Z" } : Jvm.MethodName) prog_12_method_28_code (1 : Nat) (Option.some Jvm.ClassFile.FieldType.boolean)) ∈ lw_tb := kt6 (n := 94) (by decide +kernel) rfl
theorem k_1295 : (Jvm.Cond.methodLink "NineKeysRoundModel" (207 : Nat) ({ cls := "NineKeysRoundModel", name := "isA", desc := "()Z" } : Jvm.MethodName)) ∈ lw_tb := kt6 (n := 95) (by decide +kernel) rfl
theorem k_1297 : (Jvm.Cond.instanceMethod ({ cls := "NineKeysRoundModel", name := "isA", desc := "()Z" } : Jvm.MethodName)) ∈ lw_tb := kt6 (n := 97) (by decide +kernel) rfl
theorem k_1298 : (Jvm.Cond.code ({ cls := "NineKeysRoundModel", name := "isA", desc := "()Z" } : Jvm.MethodName) prog_12_method_27_code (1 : Nat) (Option.some Jvm.ClassFile.FieldType.boolean)) ∈ lw_tb := kt6 (n := 98) (by decide +kernel) rfl
theorem k_1299 : (Jvm.Cond.methodLink "NineKeysRoundModel" (204 : Nat) ({ cls := "NineKeysRoundModel", name := "isB", desc := "()Z" } : Jvm.MethodName)) ∈ lw_tb := kt6 (n := 99) (by decide +kernel) rfl
theorem k_1301 : (Jvm.Cond.instanceMethod ({ cls := "NineKeysRoundModel", name := "isB", desc := "()Z" } : Jvm.MethodName)) ∈ lw_tb := kt6 (n := 101) (by decide +kernel) rfl
theorem k_1302 : (Jvm.Cond.code ({ cls := "NineKeysRoundModel", name := "isB", desc := "()Z" } : Jvm.MethodName) prog_12_method_26_code (2 : Nat) (Option.some Jvm.ClassFile.FieldType.boolean)) ∈ lw_tb := kt6 (n := 102) (by decide +kernel) rfl
theorem k_1303 : (Jvm.Cond.methodLink "NineKeysRoundModel" (201 : Nat) ({ cls := "NineKeysRoundModel", name := "isS", desc := "()Z" } : Jvm.MethodName)) ∈ lw_tb := kt6 (n := 103) (by decide +kernel) rfl
theorem k_1305 : (Jvm.Cond.instanceMethod ({ cls := "NineKeysRoundModel", name := "isS", desc := "()Z" } : Jvm.MethodName)) ∈ lw_tb := kt6 (n := 105) (by decide +kernel) rfl
theorem k_1306 : (Jvm.Cond.code ({ cls := "NineKeysRoundModel", name := "isS", desc := "()Z" } : Jvm.MethodName) prog_12_method_25_code (2 : Nat) (Option.some Jvm.ClassFile.FieldType.boolean)) ∈ lw_tb := kt6 (n := 106) (by decide +kernel) rfl
theorem k_1307 : (Jvm.Cond.methodLink "NineKeysRoundModel" (198 : Nat) ({ cls := "NineKeysRoundModel", name := "isP", desc := "()Z" } : Jvm.MethodName)) ∈ lw_tb := kt6 (n := 107) (by decide +kernel) rfl
theorem k_1309 : (Jvm.Cond.instanceMethod ({ cls := "NineKeysRoundModel", name := "isP", desc := "()Z" } : Jvm.MethodName)) ∈ lw_tb := kt6 (n := 109) (by decide +kernel) rfl
theorem k_1310 : (Jvm.Cond.code ({ cls := "NineKeysRoundModel", name := "isP", desc := "()Z" } : Jvm.MethodName) prog_12_method_24_code (2 : Nat) (Option.some Jvm.ClassFile.FieldType.boolean)) ∈ lw_tb := kt6 (n := 110) (by decide +kernel) rfl
theorem k_1311 : (Jvm.Cond.methodLink "NineKeysRoundModel" (192 : Nat) ({ cls := "NineKeysRoundModel", name := "isO", desc := "()Z" } : Jvm.MethodName)) ∈ lw_tb := kt6 (n := 111) (by decide +kernel) rfl
theorem k_1313 : (Jvm.Cond.instanceMethod ({ cls := "NineKeysRoundModel", name := "isO", desc := "()Z" } : Jvm.MethodName)) ∈ lw_tb := kt6 (n := 113) (by decide +kernel) rfl
theorem k_1314 : (Jvm.Cond.code ({ cls := "NineKeysRoundModel", name := "isO", desc := "()Z" } : Jvm.MethodName) prog_12_method_23_code (3 : Nat) (Option.some Jvm.ClassFile.FieldType.boolean)) ∈ lw_tb := kt6 (n := 114) (by decide +kernel) rfl
theorem k_1315 : (Jvm.Cond.methodLink "NineKeysRoundModel" (175 : Nat) ({ cls := "NineKeysRoundModel", name := "isDigit", desc := "()Z" } : Jvm.MethodName)) ∈ lw_tb := kt6 (n := 115) (by decide +kernel) rfl
theorem k_1317 : (Jvm.Cond.instanceMethod ({ cls := "NineKeysRoundModel", name := "isDigit", desc := "()Z" } : Jvm.MethodName)) ∈ lw_tb := kt6 (n := 117) (by decide +kernel) rfl
theorem k_1318 : (Jvm.Cond.code ({ cls := "NineKeysRoundModel", name := "isDigit", desc := "()Z" } : Jvm.MethodName) prog_12_method_21_code (1 : Nat) (Option.some Jvm.ClassFile.FieldType.boolean)) ∈ lw_tb := kt6 (n := 118) (by decide +kernel) rfl
theorem k_1319 : (Jvm.Cond.methodLink "NineKeysRoundModel" (168 : Nat) ({ cls := "NineKeysRoundModel", name := "sign", desc := "()I" } : Jvm.MethodName)) ∈ lw_tb := kt6 (n := 119) (by decide +kernel) rfl
theorem k_1321 : (Jvm.Cond.instanceMethod ({ cls := "NineKeysRoundModel", name := "sign", desc := "()I" } : Jvm.MethodName)) ∈ lw_tb := kt6 (n := 121) (by decide +kernel) rfl
theorem k_1322 : (Jvm.Cond.code ({ cls := "NineKeysRoundModel", name := "sign", desc := "()I" } : Jvm.MethodName) prog_12_method_18_code (1 : Nat) (Option.some Jvm.ClassFile.FieldType.int)) ∈ lw_tb := kt6 (n := 122) (by decide +kernel) rfl
theorem k_1323 : (Jvm.Cond.methodLink "NineKeysRoundModel" (179 : Nat) ({ cls := "NineKeysRoundModel", name := "codes", desc := "(I)Z" } : Jvm.MethodName)) ∈ lw_tb := kt6 (n := 123) (by decide +kernel) rfl
theorem k_1325 : (Jvm.Cond.instanceMethod ({ cls := "NineKeysRoundModel", name := "codes", desc := "(I)Z" } : Jvm.MethodName)) ∈ lw_tb := kt6 (n := 125) (by decide +kernel) rfl
theorem k_1326 : (Jvm.Cond.code ({ cls := "NineKeysRoundModel", name := "codes", desc := "(I)Z" } : Jvm.MethodName) prog_12_method_20_code (2 : Nat) (Option.some Jvm.ClassFile.FieldType.boolean)) ∈ lw_tb := kt6 (n := 126) (by decide +kernel) rfl
theorem k_1327 : (Jvm.Cond.methodLink "NineKeysRoundModel" (182 : Nat) ({ cls := "NineKeysRoundModel", name := "nameOf", desc := "(I)I" } : Jvm.MethodName)) ∈ lw_tb := kt6 (n := 127) (by decide +kernel) rfl
theorem k_1328 : (Jvm.Cond.static ({ cls := "NineKeysRoundModel", name := "nameOf", desc := "(I)I" } : Jvm.MethodName)) ∈ lw_tb := kt6 (n := 128) (by decide +kernel) rfl
theorem k_1329 : (Jvm.Cond.code ({ cls := "NineKeysRoundModel", name := "nameOf", desc := "(I)I" } : Jvm.MethodName) prog_12_method_22_code (1 : Nat) (Option.some Jvm.ClassFile.FieldType.int)) ∈ lw_tb := kt6 (n := 129) (by decide +kernel) rfl
theorem k_1330 : (Jvm.Cond.methodLink "NineKeysRoundModel" (189 : Nat) ({ cls := "NineKeysRoundModel", name := "is", desc := "(I)Z" } : Jvm.MethodName)) ∈ lw_tb := kt6 (n := 130) (by decide +kernel) rfl
theorem k_1332 : (Jvm.Cond.instanceMethod ({ cls := "NineKeysRoundModel", name := "is", desc := "(I)Z" } : Jvm.MethodName)) ∈ lw_tb := kt6 (n := 132) (by decide +kernel) rfl
theorem k_1333 : (Jvm.Cond.code ({ cls := "NineKeysRoundModel", name := "is", desc := "(I)Z" } : Jvm.MethodName) prog_12_method_19_code (2 : Nat) (Option.some Jvm.ClassFile.FieldType.boolean)) ∈ lw_tb := kt6 (n := 133) (by decide +kernel) rfl
theorem k_1334 : (Jvm.Cond.methodLink "NineKeysRoundLaw" (44 : Nat) ({ cls := "NineKeysRoundModel", name := "round", desc := "(II)I" } : Jvm.MethodName)) ∈ lw_tb := kt6 (n := 134) (by decide +kernel) rfl
theorem k_1335 : (Jvm.Cond.instanceMethod ({ cls := "NineKeysRoundModel", name := "round", desc := "(II)I" } : Jvm.MethodName)) ∈ lw_tb := kt6 (n := 135) (by decide +kernel) rfl
theorem k_1336 : (Jvm.Cond.selects "NineKeysRoundModel" ({ cls := "NineKeysRoundModel", name := "round", desc := "(II)I" } : Jvm.MethodName) ({ cls := "NineKeysRoundModel", name := "round", desc := "(II)I" } : Jvm.MethodName)) ∈ lw_tb := kt6 (n := 136) (by decide +kernel) rfl
theorem k_1337 : (Jvm.Cond.code ({ cls := "NineKeysRoundModel", name := "round", desc := "(II)I" } : Jvm.MethodName) prog_12_method_47_code (4 : Nat) (Option.some Jvm.ClassFile.FieldType.int)) ∈ lw_tb := kt6 (n := 137) (by decide +kernel) rfl
theorem k_1338 : (Jvm.Cond.methodLink "NineKeysRoundModel" (265 : Nat) ({ cls := "NineKeysRoundModel", name := "noRow", desc := "(II)I" } : Jvm.MethodName)) ∈ lw_tb := kt6 (n := 138) (by decide +kernel) rfl
theorem k_1340 : (Jvm.Cond.instanceMethod ({ cls := "NineKeysRoundModel", name := "noRow", desc := "(II)I" } : Jvm.MethodName)) ∈ lw_tb := kt6 (n := 140) (by decide +kernel) rfl
theorem k_1341 : (Jvm.Cond.code ({ cls := "NineKeysRoundModel", name := "noRow", desc := "(II)I" } : Jvm.MethodName) prog_12_method_38_code (3 : Nat) (Option.some Jvm.ClassFile.FieldType.int)) ∈ lw_tb := kt6 (n := 141) (by decide +kernel) rfl
theorem k_1342 : (Jvm.Cond.methodLink "NineKeysRoundModel" (268 : Nat) ({ cls := "NineKeysRoundModel", name := "reads", desc := "(I)V" } : Jvm.MethodName)) ∈ lw_tb := kt6 (n := 142) (by decide +kernel) rfl
theorem k_1344 : (Jvm.Cond.instanceMethod ({ cls := "NineKeysRoundModel", name := "reads", desc := "(I)V" } : Jvm.MethodName)) ∈ lw_tb := kt6 (n := 144) (by decide +kernel) rfl
theorem k_1345 : (Jvm.Cond.code ({ cls := "NineKeysRoundModel", name := "reads", desc := "(I)V" } : Jvm.MethodName) prog_12_method_40_code (2 : Nat) (Option.none : Option Jvm.ClassFile.FieldType)) ∈ lw_tb := kt6 (n := 145) (by decide +kernel) rfl
theorem k_1346 : (Jvm.Cond.methodLink "NineKeysRoundModel" (252 : Nat) ({ cls := "NineKeysRoundModel", name := "toldAt", desc := "(II)I" } : Jvm.MethodName)) ∈ lw_tb := kt6 (n := 146) (by decide +kernel) rfl
theorem k_1348 : (Jvm.Cond.instanceMethod ({ cls := "NineKeysRoundModel", name := "toldAt", desc := "(II)I" } : Jvm.MethodName)) ∈ lw_tb := kt6 (n := 148) (by decide +kernel) rfl
theorem k_1349 : (Jvm.Cond.code ({ cls := "NineKeysRoundModel", name := "toldAt", desc := "(II)I" } : Jvm.MethodName) prog_12_method_39_code (3 : Nat) (Option.some Jvm.ClassFile.FieldType.int)) ∈ lw_tb := kt6 (n := 149) (by decide +kernel) rfl
theorem k_1350 : (Jvm.Cond.methodLink "NineKeysRoundModel" (271 : Nat) ({ cls := "NineKeysRoundModel", name := "oneRound", desc := "()I" } : Jvm.MethodName)) ∈ lw_tb := kt6 (n := 150) (by decide +kernel) rfl
theorem k_1352 : (Jvm.Cond.instanceMethod ({ cls := "NineKeysRoundModel", name := "oneRound", desc := "()I" } : Jvm.MethodName)) ∈ lw_tb := kt6 (n := 152) (by decide +kernel) rfl
theorem k_1353 : (Jvm.Cond.code ({ cls := "NineKeysRoundModel", name := "oneRound", desc := "()I" } : Jvm.MethodName) prog_12_method_46_code (3 : Nat) (Option.some Jvm.ClassFile.FieldType.int)) ∈ lw_tb := kt6 (n := 153) (by decide +kernel) rfl
theorem k_1354 : (Jvm.Cond.methodLink "NineKeysRoundModel" (258 : Nat) ({ cls := "NineKeysRoundModel", name := "minutes", desc := "(II)I" } : Jvm.MethodName)) ∈ lw_tb := kt6 (n := 154) (by decide +kernel) rfl
theorem k_1356 : (Jvm.Cond.instanceMethod ({ cls := "NineKeysRoundModel", name := "minutes", desc := "(II)I" } : Jvm.MethodName)) ∈ lw_tb := kt6 (n := 156) (by decide +kernel) rfl
theorem k_1357 : (Jvm.Cond.code ({ cls := "NineKeysRoundModel", name := "minutes", desc := "(II)I" } : Jvm.MethodName) prog_12_method_37_code (3 : Nat) (Option.some Jvm.ClassFile.FieldType.int)) ∈ lw_tb := kt6 (n := 157) (by decide +kernel) rfl
theorem k_1358 : (Jvm.Cond.methodLink "NineKeysRoundModel" (249 : Nat) ({ cls := "NineKeysRoundModel", name := "apart", desc := "(II)I" } : Jvm.MethodName)) ∈ lw_tb := kt6 (n := 158) (by decide +kernel) rfl
theorem k_1360 : (Jvm.Cond.instanceMethod ({ cls := "NineKeysRoundModel", name := "apart", desc := "(II)I" } : Jvm.MethodName)) ∈ lw_tb := kt6 (n := 160) (by decide +kernel) rfl
theorem k_1361 : (Jvm.Cond.code ({ cls := "NineKeysRoundModel", name := "apart", desc := "(II)I" } : Jvm.MethodName) prog_12_method_36_code (3 : Nat) (Option.some Jvm.ClassFile.FieldType.int)) ∈ lw_tb := kt6 (n := 161) (by decide +kernel) rfl
theorem k_1362 : (Jvm.Cond.methodLink "NineKeysRoundModel" (240 : Nat) ({ cls := "NineKeysRoundModel", name := "xOf", desc := "(I)I" } : Jvm.MethodName)) ∈ lw_tb := kt6 (n := 162) (by decide +kernel) rfl
theorem k_1364 : (Jvm.Cond.instanceMethod ({ cls := "NineKeysRoundModel", name := "xOf", desc := "(I)I" } : Jvm.MethodName)) ∈ lw_tb := kt6 (n := 164) (by decide +kernel) rfl
theorem k_1365 : (Jvm.Cond.code ({ cls := "NineKeysRoundModel", name := "xOf", desc := "(I)I" } : Jvm.MethodName) prog_12_method_34_code (2 : Nat) (Option.some Jvm.ClassFile.FieldType.int)) ∈ lw_tb := kt6 (n := 165) (by decide +kernel) rfl
theorem k_1366 : (Jvm.Cond.methodLink "NineKeysRoundModel" (243 : Nat) ({ cls := "java/lang/Math", name := "abs", desc := "(I)I" } : Jvm.MethodName)) ∈ lw_tb := kt6 (n := 166) (by decide +kernel) rfl
theorem k_1367 : (Jvm.Cond.methodLink "NineKeysRoundModel" (246 : Nat) ({ cls := "NineKeysRoundModel", name := "yOf", desc := "(I)I" } : Jvm.MethodName)) ∈ lw_tb := kt6 (n := 167) (by decide +kernel) rfl
theorem k_1369 : (Jvm.Cond.instanceMethod ({ cls := "NineKeysRoundModel", name := "yOf", desc := "(I)I" } : Jvm.MethodName)) ∈ lw_tb := kt6 (n := 169) (by decide +kernel) rfl
theorem k_1370 : (Jvm.Cond.code ({ cls := "NineKeysRoundModel", name := "yOf", desc := "(I)I" } : Jvm.MethodName) prog_12_method_35_code (2 : Nat) (Option.some Jvm.ClassFile.FieldType.int)) ∈ lw_tb := kt6 (n := 170) (by decide +kernel) rfl
theorem k_1371 : (Jvm.Cond.methodLink "NineKeysRoundLaw" (48 : Nat) ({ cls := "NineKeysRoundModel", name := "first", desc := "(II)I" } : Jvm.MethodName)) ∈ lw_tb := kt6 (n := 171) (by decide +kernel) rfl
theorem k_1372 : (Jvm.Cond.instanceMethod ({ cls := "NineKeysRoundModel", name := "first", desc := "(II)I" } : Jvm.MethodName)) ∈ lw_tb := kt6 (n := 172) (by decide +kernel) rfl
theorem k_1373 : (Jvm.Cond.selects "NineKeysRoundModel" ({ cls := "NineKeysRoundModel", name := "first", desc := "(II)I" } : Jvm.MethodName) ({ cls := "NineKeysRoundModel", name := "first", desc := "(II)I" } : Jvm.MethodName)) ∈ lw_tb := kt6 (n := 173) (by decide +kernel) rfl
theorem k_1374 : (Jvm.Cond.code ({ cls := "NineKeysRoundModel", name := "first", desc := "(II)I" } : Jvm.MethodName) prog_12_method_48_code (5 : Nat) (Option.some Jvm.ClassFile.FieldType.int)) ∈ lw_tb := kt6 (n := 174) (by decide +kernel) rfl
theorem k_1375 : (Jvm.Cond.methodLink "NineKeysRoundModel" (261 : Nat) ({ cls := "NineKeysRoundModel", name := "walks", desc := "(I)V" } : Jvm.MethodName)) ∈ lw_tb := kt6 (n := 175) (by decide +kernel) rfl
theorem k_1377 : (Jvm.Cond.instanceMethod ({ cls := "NineKeysRoundModel", name := "walks", desc := "(I)V" } : Jvm.MethodName)) ∈ lw_tb := kt6 (n := 177) (by decide +kernel) rfl
theorem k_1378 : (Jvm.Cond.code ({ cls := "NineKeysRoundModel", name := "walks", desc := "(I)V" } : Jvm.MethodName) prog_12_method_42_code (5 : Nat) (Option.none : Option Jvm.ClassFile.FieldType)) ∈ lw_tb := kt6 (n := 178) (by decide +kernel) rfl
theorem k_1379 : (Jvm.Cond.methodLink "NineKeysRoundLaw" (52 : Nat) ({ cls := "NineKeysRoundModel", name := "by", desc := "(III)I" } : Jvm.MethodName)) ∈ lw_tb := kt6 (n := 179) (by decide +kernel) rfl
theorem k_1380 : (Jvm.Cond.instanceMethod ({ cls := "NineKeysRoundModel", name := "by", desc := "(III)I" } : Jvm.MethodName)) ∈ lw_tb := kt6 (n := 180) (by decide +kernel) rfl
theorem k_1381 : (Jvm.Cond.selects "NineKeysRoundModel" ({ cls := "NineKeysRoundModel", name := "by", desc := "(III)I" } : Jvm.MethodName) ({ cls := "NineKeysRoundModel", name := "by", desc := "(III)I" } : Jvm.MethodName)) ∈ lw_tb := kt6 (n := 181) (by decide +kernel) rfl
theorem k_1382 : (Jvm.Cond.code ({ cls := "NineKeysRoundModel", name := "by", desc := "(III)I" } : Jvm.MethodName) prog_12_method_49_code (6 : Nat) (Option.some Jvm.ClassFile.FieldType.int)) ∈ lw_tb := kt6 (n := 182) (by decide +kernel) rfl
theorem k_1383 : (Jvm.Cond.methodLink "NineKeysRoundModel" (274 : Nat) ({ cls := "NineKeysRoundModel", name := "isMinute", desc := "(I)Z" } : Jvm.MethodName)) ∈ lw_tb := kt6 (n := 183) (by decide +kernel) rfl
theorem k_1384 : (Jvm.Cond.static ({ cls := "NineKeysRoundModel", name := "isMinute", desc := "(I)Z" } : Jvm.MethodName)) ∈ lw_tb := kt6 (n := 184) (by decide +kernel) rfl
theorem k_1385 : (Jvm.Cond.code ({ cls := "NineKeysRoundModel", name := "isMinute", desc := "(I)Z" } : Jvm.MethodName) prog_12_method_4_code (1 : Nat) (Option.some Jvm.ClassFile.FieldType.boolean)) ∈ lw_tb := kt6 (n := 185) (by decide +kernel) rfl
theorem k_1386 : (Jvm.Cond.methodLink "NineKeysRoundLaw" (57 : Nat) ({ cls := "NineKeysRoundModel", name := "unseen", desc := "(IIII)I" } : Jvm.MethodName)) ∈ lw_tb := kt6 (n := 186) (by decide +kernel) rfl
theorem k_1387 : (Jvm.Cond.instanceMethod ({ cls := "NineKeysRoundModel", name := "unseen", desc := "(IIII)I" } : Jvm.MethodName)) ∈ lw_tb := kt6 (n := 187) (by decide +kernel) rfl
theorem k_1388 : (Jvm.Cond.selects "NineKeysRoundModel" ({ cls := "NineKeysRoundModel", name := "unseen", desc := "(IIII)I" } : Jvm.MethodName) ({ cls := "NineKeysRoundModel", name := "unseen", desc := "(IIII)I" } : Jvm.MethodName)) ∈ lw_tb := kt6 (n := 188) (by decide +kernel) rfl
theorem k_1389 : (Jvm.Cond.code ({ cls := "NineKeysRoundModel", name := "unseen", desc := "(IIII)I" } : Jvm.MethodName) prog_12_method_50_code (6 : Nat) (Option.some Jvm.ClassFile.FieldType.int)) ∈ lw_tb := kt6 (n := 189) (by decide +kernel) rfl
theorem k_1390 : (Jvm.Cond.methodLink "NineKeysRoundModel" (277 : Nat) ({ cls := "NineKeysRoundModel", name := "looks", desc := "()V" } : Jvm.MethodName)) ∈ lw_tb := kt6 (n := 190) (by decide +kernel) rfl
theorem k_1392 : (Jvm.Cond.instanceMethod ({ cls := "NineKeysRoundModel", name := "looks", desc := "()V" } : Jvm.MethodName)) ∈ lw_tb := kt6 (n := 192) (by decide +kernel) rfl
theorem k_1393 : (Jvm.Cond.code ({ cls := "NineKeysRoundModel", name := "looks", desc := "()V" } : Jvm.MethodName) prog_12_method_43_code (3 : Nat) (Option.none : Option Jvm.ClassFile.FieldType)) ∈ lw_tb := kt6 (n := 193) (by decide +kernel) rfl
theorem k_1394 : (Jvm.Cond.methodLink "NineKeysRoundModel" (280 : Nat) ({ cls := "NineKeysRoundModel", name := "unseenFor", desc := "(II)I" } : Jvm.MethodName)) ∈ lw_tb := kt6 (n := 194) (by decide +kernel) rfl
theorem k_1396 : (Jvm.Cond.instanceMethod ({ cls := "NineKeysRoundModel", name := "unseenFor", desc := "(II)I" } : Jvm.MethodName)) ∈ lw_tb := kt6 (n := 196) (by decide +kernel) rfl
theorem k_1397 : (Jvm.Cond.code ({ cls := "NineKeysRoundModel", name := "unseenFor", desc := "(II)I" } : Jvm.MethodName) prog_12_method_45_code (4 : Nat) (Option.some Jvm.ClassFile.FieldType.int)) ∈ lw_tb := kt6 (n := 197) (by decide +kernel) rfl
theorem k_1398 : (Jvm.Cond.methodLink "NineKeysRoundModel" (283 : Nat) ({ cls := "NineKeysRoundModel", name := "isSeen", desc := "(II)Z" } : Jvm.MethodName)) ∈ lw_tb := kt6 (n := 198) (by decide +kernel) rfl
theorem k_1400 : (Jvm.Cond.instanceMethod ({ cls := "NineKeysRoundModel", name := "isSeen", desc := "(II)Z" } : Jvm.MethodName)) ∈ lw_tb := kt6 (n := 200) (by decide +kernel) rfl
theorem k_1401 : (Jvm.Cond.code ({ cls := "NineKeysRoundModel", name := "isSeen", desc := "(II)Z" } : Jvm.MethodName) prog_12_method_44_code (4 : Nat) (Option.some Jvm.ClassFile.FieldType.boolean)) ∈ lw_tb := kt6 (n := 201) (by decide +kernel) rfl
theorem k_1402 : (Jvm.Cond.methodLink "NineKeysRoundModel" (237 : Nat) ({ cls := "java/lang/Math", name := "max", desc := "(II)I" } : Jvm.MethodName)) ∈ lw_tb := kt6 (n := 202) (by decide +kernel) rfl
theorem k_1403 : (Jvm.Cond.methodLink "NineKeysRoundLaw" (61 : Nat) ({ cls := "NineKeysRoundModel", name := "lost", desc := "(IIII)I" } : Jvm.MethodName)) ∈ lw_tb := kt6 (n := 203) (by decide +kernel) rfl
theorem k_1404 : (Jvm.Cond.instanceMethod ({ cls := "NineKeysRoundModel", name := "lost", desc := "(IIII)I" } : Jvm.MethodName)) ∈ lw_tb := kt6 (n := 204) (by decide +kernel) rfl
theorem k_1405 : (Jvm.Cond.selects "NineKeysRoundModel" ({ cls := "NineKeysRoundModel", name := "lost", desc := "(IIII)I" } : Jvm.MethodName) ({ cls := "NineKeysRoundModel", name := "lost", desc := "(IIII)I" } : Jvm.MethodName)) ∈ lw_tb := kt6 (n := 205) (by decide +kernel) rfl
theorem k_1406 : (Jvm.Cond.code ({ cls := "NineKeysRoundModel", name := "lost", desc := "(IIII)I" } : Jvm.MethodName) prog_12_method_51_code (9 : Nat) (Option.some Jvm.ClassFile.FieldType.int)) ∈ lw_tb := kt6 (n := 206) (by decide +kernel) rfl
theorem k_1407 : (Jvm.Cond.methodLink "NineKeysRoundModel" (286 : Nat) ({ cls := "NineKeysRoundModel", name := "loss", desc := "(III)I" } : Jvm.MethodName)) ∈ lw_tb := kt6 (n := 207) (by decide +kernel) rfl
theorem k_1409 : (Jvm.Cond.instanceMethod ({ cls := "NineKeysRoundModel", name := "loss", desc := "(III)I" } : Jvm.MethodName)) ∈ lw_tb := kt6 (n := 209) (by decide +kernel) rfl
theorem k_1410 : (Jvm.Cond.code ({ cls := "NineKeysRoundModel", name := "loss", desc := "(III)I" } : Jvm.MethodName) prog_12_method_33_code (5 : Nat) (Option.some Jvm.ClassFile.FieldType.int)) ∈ lw_tb := kt6 (n := 210) (by decide +kernel) rfl
theorem k_1411 : (Jvm.Cond.methodLink "NineKeysRoundModel" (226 : Nat) ({ cls := "java/lang/Math", name := "min", desc := "(II)I" } : Jvm.MethodName)) ∈ lw_tb := kt6 (n := 211) (by decide +kernel) rfl
theorem k_1412 : (Jvm.Cond.methodLink "NineKeysRoundModel" (234 : Nat) ({ cls := "NineKeysRoundModel", name := "worked", desc := "(II)I" } : Jvm.MethodName)) ∈ lw_tb := kt6 (n := 212) (by decide +kernel) rfl
theorem k_1414 : (Jvm.Cond.instanceMethod ({ cls := "NineKeysRoundModel", name := "worked", desc := "(II)I" } : Jvm.MethodName)) ∈ lw_tb := kt6 (n := 214) (by decide +kernel) rfl
theorem k_1415 : (Jvm.Cond.code ({ cls := "NineKeysRoundModel", name := "worked", desc := "(II)I" } : Jvm.MethodName) prog_12_method_32_code (6 : Nat) (Option.some Jvm.ClassFile.FieldType.int)) ∈ lw_tb := kt6 (n := 215) (by decide +kernel) rfl
theorem k_1416 : (Jvm.Cond.methodLink "NineKeysRoundModel" (223 : Nat) ({ cls := "NineKeysRoundModel", name := "both", desc := "(III)I" } : Jvm.MethodName)) ∈ lw_tb := kt6 (n := 216) (by decide +kernel) rfl
theorem k_1417 : (Jvm.Cond.static ({ cls := "NineKeysRoundModel", name := "both", desc := "(III)I" } : Jvm.MethodName)) ∈ lw_tb := kt6 (n := 217) (by decide +kernel) rfl
theorem k_1418 : (Jvm.Cond.code ({ cls := "NineKeysRoundModel", name := "both", desc := "(III)I" } : Jvm.MethodName) prog_12_method_31_code (3 : Nat) (Option.some Jvm.ClassFile.FieldType.int)) ∈ lw_tb := kt6 (n := 218) (by decide +kernel) rfl
theorem k_1419 : (Jvm.Cond.methodLink "NineKeysRoundLaw" (65 : Nat) ({ cls := "NineKeysRoundModel", name := "red", desc := "(II)I" } : Jvm.MethodName)) ∈ lw_tb := kt6 (n := 219) (by decide +kernel) rfl
theorem k_1420 : (Jvm.Cond.instanceMethod ({ cls := "NineKeysRoundModel", name := "red", desc := "(II)I" } : Jvm.MethodName)) ∈ lw_tb := kt6 (n := 220) (by decide +kernel) rfl
theorem k_1421 : (Jvm.Cond.selects "NineKeysRoundModel" ({ cls := "NineKeysRoundModel", name := "red", desc := "(II)I" } : Jvm.MethodName) ({ cls := "NineKeysRoundModel", name := "red", desc := "(II)I" } : Jvm.MethodName)) ∈ lw_tb := kt6 (n := 221) (by decide +kernel) rfl
theorem k_1422 : (Jvm.Cond.code ({ cls := "NineKeysRoundModel", name := "red", desc := "(II)I" } : Jvm.MethodName) prog_12_method_52_code (6 : Nat) (Option.some Jvm.ClassFile.FieldType.int)) ∈ lw_tb := kt6 (n := 222) (by decide +kernel) rfl
theorem k_1423 : (Jvm.Cond.methodLink "NineKeysRoundLaw" (69 : Nat) ({ cls := "NineKeysRoundModel", name := "gap", desc := "(II)I" } : Jvm.MethodName)) ∈ lw_tb := kt6 (n := 223) (by decide +kernel) rfl
theorem k_1424 : (Jvm.Cond.instanceMethod ({ cls := "NineKeysRoundModel", name := "gap", desc := "(II)I" } : Jvm.MethodName)) ∈ lw_tb := kt6 (n := 224) (by decide +kernel) rfl
theorem k_1425 : (Jvm.Cond.selects "NineKeysRoundModel" ({ cls := "NineKeysRoundModel", name := "gap", desc := "(II)I" } : Jvm.MethodName) ({ cls := "NineKeysRoundModel", name := "gap", desc := "(II)I" } : Jvm.MethodName)) ∈ lw_tb := kt6 (n := 225) (by decide +kernel) rfl
theorem k_1426 : (Jvm.Cond.code ({ cls := "NineKeysRoundModel", name := "gap", desc := "(II)I" } : Jvm.MethodName) prog_12_method_54_code (4 : Nat) (Option.some Jvm.ClassFile.FieldType.int)) ∈ lw_tb := kt6 (n := 226) (by decide +kernel) rfl
theorem k_1427 : (Jvm.Cond.methodLink "NineKeysRoundModel" (289 : Nat) ({ cls := "NineKeysRoundModel", name := "gapOf", desc := "(I)I" } : Jvm.MethodName)) ∈ lw_tb := kt6 (n := 227) (by decide +kernel) rfl
theorem k_1429 : (Jvm.Cond.instanceMethod ({ cls := "NineKeysRoundModel", name := "gapOf", desc := "(I)I" } : Jvm.MethodName)) ∈ lw_tb := kt6 (n := 229) (by decide +kernel) rfl
theorem k_1430 : (Jvm.Cond.code ({ cls := "NineKeysRoundModel", name := "gapOf", desc := "(I)I" } : Jvm.MethodName) prog_12_method_53_code (8 : Nat) (Option.some Jvm.ClassFile.FieldType.int)) ∈ lw_tb := kt6 (n := 230) (by decide +kernel) rfl
theorem k_1431 : (Jvm.Cond.methodLink "NineKeysRoundLaw" (73 : Nat) ({ cls := "NineKeysRoundModel", name := "late", desc := "(I)I" } : Jvm.MethodName)) ∈ lw_tb := kt6 (n := 231) (by decide +kernel) rfl
theorem k_1432 : (Jvm.Cond.instanceMethod ({ cls := "NineKeysRoundModel", name := "late", desc := "(I)I" } : Jvm.MethodName)) ∈ lw_tb := kt6 (n := 232) (by decide +kernel) rfl
theorem k_1433 : (Jvm.Cond.selects "NineKeysRoundModel" ({ cls := "NineKeysRoundModel", name := "late", desc := "(I)I" } : Jvm.MethodName) ({ cls := "NineKeysRoundModel", name := "late", desc := "(I)I" } : Jvm.MethodName)) ∈ lw_tb := kt6 (n := 233) (by decide +kernel) rfl
theorem k_1434 : (Jvm.Cond.code ({ cls := "NineKeysRoundModel", name := "late", desc := "(I)I" } : Jvm.MethodName) prog_12_method_55_code (5 : Nat) (Option.some Jvm.ClassFile.FieldType.int)) ∈ lw_tb := kt6 (n := 234) (by decide +kernel) rfl
theorem k_1435 : (Jvm.Cond.methodLink "NineKeysRoundLaw" (77 : Nat) ({ cls := "NineKeysRoundModel", name := "shortest", desc := "(II)I" } : Jvm.MethodName)) ∈ lw_tb := kt6 (n := 235) (by decide +kernel) rfl
theorem k_1436 : (Jvm.Cond.instanceMethod ({ cls := "NineKeysRoundModel", name := "shortest", desc := "(II)I" } : Jvm.MethodName)) ∈ lw_tb := kt6 (n := 236) (by decide +kernel) rfl
theorem k_1437 : (Jvm.Cond.selects "NineKeysRoundModel" ({ cls := "NineKeysRoundModel", name := "shortest", desc := "(II)I" } : Jvm.MethodName) ({ cls := "NineKeysRoundModel", name := "shortest", desc := "(II)I" } : Jvm.MethodName)) ∈ lw_tb := kt6 (n := 237) (by decide +kernel) rfl
theorem k_1438 : (Jvm.Cond.code ({ cls := "NineKeysRoundModel", name := "shortest", desc := "(II)I" } : Jvm.MethodName) prog_12_method_61_code (4 : Nat) (Option.some Jvm.ClassFile.FieldType.int)) ∈ lw_tb := kt6 (n := 238) (by decide +kernel) rfl
theorem k_1439 : (Jvm.Cond.methodLink "NineKeysRoundModel" (302 : Nat) ({ cls := "NineKeysRoundModel", name := "isSet", desc := "(I)Z" } : Jvm.MethodName)) ∈ lw_tb := kt6 (n := 239) (by decide +kernel) rfl
theorem k_1441 : (Jvm.Cond.instanceMethod ({ cls := "NineKeysRoundModel", name := "isSet", desc := "(I)Z" } : Jvm.MethodName)) ∈ lw_tb := kt7 (n := 1) (by decide +kernel) rfl
theorem k_1442 : (Jvm.Cond.code ({ cls := "NineKeysRoundModel", name := "isSet", desc := "(I)Z" } : Jvm.MethodName) prog_12_method_60_code (2 : Nat) (Option.some Jvm.ClassFile.FieldType.boolean)) ∈ lw_tb := kt7 (n := 2) (by decide +kernel) rfl
theorem k_1443 : (Jvm.Cond.methodLink "NineKeysRoundModel" (305 : Nat) ({ cls := "java/lang/Integer", name := "bitCount", desc := "(I)I" } : Jvm.MethodName)) ∈ lw_tb := kt7 (n := 3) (by decide +kernel) rfl
theorem k_1444 : (Jvm.Cond.methodLink "NineKeysRoundModel" (310 : Nat) ({ cls := "NineKeysRoundModel", name := "shortestOf", desc := "(I)I" } : Jvm.MethodName)) ∈ lw_tb := kt7 (n := 4) (by decide +kernel) rfl
theorem k_1446 : (Jvm.Cond.instanceMethod ({ cls := "NineKeysRoundModel", name := "shortestOf", desc := "(I)I" } : Jvm.MethodName)) ∈ lw_tb := kt7 (n := 6) (by decide +kernel) rfl
theorem k_1447 : (Jvm.Cond.code ({ cls := "NineKeysRoundModel", name := "shortestOf", desc := "(I)I" } : Jvm.MethodName) prog_12_method_59_code (7 : Nat) (Option.some Jvm.ClassFile.FieldType.int)) ∈ lw_tb := kt7 (n := 7) (by decide +kernel) rfl
theorem k_1448 : (Jvm.Cond.methodLink "NineKeysRoundModel" (296 : Nat) ({ cls := "NineKeysRoundModel", name := "took", desc := "(I)I" } : Jvm.MethodName)) ∈ lw_tb := kt7 (n := 8) (by decide +kernel) rfl
theorem k_1450 : (Jvm.Cond.instanceMethod ({ cls := "NineKeysRoundModel", name := "took", desc := "(I)I" } : Jvm.MethodName)) ∈ lw_tb := kt7 (n := 10) (by decide +kernel) rfl
theorem k_1451 : (Jvm.Cond.code ({ cls := "NineKeysRoundModel", name := "took", desc := "(I)I" } : Jvm.MethodName) prog_12_method_58_code (5 : Nat) (Option.some Jvm.ClassFile.FieldType.int)) ∈ lw_tb := kt7 (n := 11) (by decide +kernel) rfl
theorem k_1452 : (Jvm.Cond.methodLink "NineKeysRoundModel" (299 : Nat) ({ cls := "NineKeysRoundModel", name := "nextOrder", desc := "(I)Z" } : Jvm.MethodName)) ∈ lw_tb := kt7 (n := 12) (by decide +kernel) rfl
theorem k_1454 : (Jvm.Cond.instanceMethod ({ cls := "NineKeysRoundModel", name := "nextOrder", desc := "(I)Z" } : Jvm.MethodName)) ∈ lw_tb := kt7 (n := 14) (by decide +kernel) rfl
theorem k_1455 : (Jvm.Cond.code ({ cls := "NineKeysRoundModel", name := "nextOrder", desc := "(I)Z" } : Jvm.MethodName) prog_12_method_57_code (6 : Nat) (Option.some Jvm.ClassFile.FieldType.boolean)) ∈ lw_tb := kt7 (n := 15) (by decide +kernel) rfl
theorem k_1456 : (Jvm.Cond.methodLink "NineKeysRoundModel" (292 : Nat) ({ cls := "NineKeysRoundModel", name := "exchange", desc := "(II)V" } : Jvm.MethodName)) ∈ lw_tb := kt7 (n := 16) (by decide +kernel) rfl
theorem k_1458 : (Jvm.Cond.instanceMethod ({ cls := "NineKeysRoundModel", name := "exchange", desc := "(II)V" } : Jvm.MethodName)) ∈ lw_tb := kt7 (n := 18) (by decide +kernel) rfl
theorem k_1459 : (Jvm.Cond.code ({ cls := "NineKeysRoundModel", name := "exchange", desc := "(II)V" } : Jvm.MethodName) prog_12_method_56_code (4 : Nat) (Option.none : Option Jvm.ClassFile.FieldType)) ∈ lw_tb := kt7 (n := 19) (by decide +kernel) rfl
theorem k_1460 : (Jvm.Cond.methodLink "NineKeysRoundLaw" (81 : Nat) ({ cls := "NineKeysRoundModel", name := "leftOut", desc := "(II)I" } : Jvm.MethodName)) ∈ lw_tb := kt7 (n := 20) (by decide +kernel) rfl
theorem k_1461 : (Jvm.Cond.instanceMethod ({ cls := "NineKeysRoundModel", name := "leftOut", desc := "(II)I" } : Jvm.MethodName)) ∈ lw_tb := kt7 (n := 21) (by decide +kernel) rfl
theorem k_1462 : (Jvm.Cond.selects "NineKeysRoundModel" ({ cls := "NineKeysRoundModel", name := "leftOut", desc := "(II)I" } : Jvm.MethodName) ({ cls := "NineKeysRoundModel", name := "leftOut", desc := "(II)I" } : Jvm.MethodName)) ∈ lw_tb := kt7 (n := 22) (by decide +kernel) rfl
theorem k_1463 : (Jvm.Cond.code ({ cls := "NineKeysRoundModel", name := "leftOut", desc := "(II)I" } : Jvm.MethodName) prog_12_method_62_code (7 : Nat) (Option.some Jvm.ClassFile.FieldType.int)) ∈ lw_tb := kt7 (n := 23) (by decide +kernel) rfl
theorem k_1464 : (Jvm.Cond.methodLink "NineKeysRoundLaw" (85 : Nat) ({ cls := "NineKeysRoundModel", name := "thief", desc := "(IIII)I" } : Jvm.MethodName)) ∈ lw_tb := kt7 (n := 24) (by decide +kernel) rfl
theorem k_1465 : (Jvm.Cond.instanceMethod ({ cls := "NineKeysRoundModel", name := "thief", desc := "(IIII)I" } : Jvm.MethodName)) ∈ lw_tb := kt7 (n := 25) (by decide +kernel) rfl
theorem k_1466 : (Jvm.Cond.selects "NineKeysRoundModel" ({ cls := "NineKeysRoundModel", name := "thief", desc := "(IIII)I" } : Jvm.MethodName) ({ cls := "NineKeysRoundModel", name := "thief", desc := "(IIII)I" } : Jvm.MethodName)) ∈ lw_tb := kt7 (n := 26) (by decide +kernel) rfl
theorem k_1467 : (Jvm.Cond.code ({ cls := "NineKeysRoundModel", name := "thief", desc := "(IIII)I" } : Jvm.MethodName) prog_12_method_64_code (6 : Nat) (Option.some Jvm.ClassFile.FieldType.int)) ∈ lw_tb := kt7 (n := 27) (by decide +kernel) rfl
theorem k_1468 : (Jvm.Cond.methodLink "NineKeysRoundModel" (313 : Nat) ({ cls := "NineKeysRoundModel", name := "thiefAt", desc := "(III)I" } : Jvm.MethodName)) ∈ lw_tb := kt7 (n := 28) (by decide +kernel) rfl
theorem k_1470 : (Jvm.Cond.instanceMethod ({ cls := "NineKeysRoundModel", name := "thiefAt", desc := "(III)I" } : Jvm.MethodName)) ∈ lw_tb := kt7 (n := 30) (by decide +kernel) rfl
theorem k_1471 : (Jvm.Cond.code ({ cls := "NineKeysRoundModel", name := "thiefAt", desc := "(III)I" } : Jvm.MethodName) prog_12_method_63_code (6 : Nat) (Option.some Jvm.ClassFile.FieldType.int)) ∈ lw_tb := kt7 (n := 31) (by decide +kernel) rfl
theorem k_1472 : (Jvm.Cond.methodLink "NineKeysRoundLaw" (89 : Nat) ({ cls := "NineKeysRoundModel", name := "safe", desc := "(II)I" } : Jvm.MethodName)) ∈ lw_tb := kt7 (n := 32) (by decide +kernel) rfl
theorem k_1473 : (Jvm.Cond.instanceMethod ({ cls := "NineKeysRoundModel", name := "safe", desc := "(II)I" } : Jvm.MethodName)) ∈ lw_tb := kt7 (n := 33) (by decide +kernel) rfl
theorem k_1474 : (Jvm.Cond.selects "NineKeysRoundModel" ({ cls := "NineKeysRoundModel", name := "safe", desc := "(II)I" } : Jvm.MethodName) ({ cls := "NineKeysRoundModel", name := "safe", desc := "(II)I" } : Jvm.MethodName)) ∈ lw_tb := kt7 (n := 34) (by decide +kernel) rfl
theorem k_1475 : (Jvm.Cond.code ({ cls := "NineKeysRoundModel", name := "safe", desc := "(II)I" } : Jvm.MethodName) prog_12_method_65_code (6 : Nat) (Option.some Jvm.ClassFile.FieldType.int)) ∈ lw_tb := kt7 (n := 35) (by decide +kernel) rfl
theorem k_1476 : (Jvm.Cond.methodLink "NineKeysRoundLaw" (93 : Nat) ({ cls := "NineKeysRoundModel", name := "two", desc := "(III)I" } : Jvm.MethodName)) ∈ lw_tb := kt7 (n := 36) (by decide +kernel) rfl
theorem k_1477 : (Jvm.Cond.instanceMethod ({ cls := "NineKeysRoundModel", name := "two", desc := "(III)I" } : Jvm.MethodName)) ∈ lw_tb := kt7 (n := 37) (by decide +kernel) rfl
theorem k_1478 : (Jvm.Cond.selects "NineKeysRoundModel" ({ cls := "NineKeysRoundModel", name := "two", desc := "(III)I" } : Jvm.MethodName) ({ cls := "NineKeysRoundModel", name := "two", desc := "(III)I" } : Jvm.MethodName)) ∈ lw_tb := kt7 (n := 38) (by decide +kernel) rfl
theorem k_1479 : (Jvm.Cond.code ({ cls := "NineKeysRoundModel", name := "two", desc := "(III)I" } : Jvm.MethodName) prog_12_method_68_code (5 : Nat) (Option.some Jvm.ClassFile.FieldType.int)) ∈ lw_tb := kt7 (n := 39) (by decide +kernel) rfl
theorem k_1480 : (Jvm.Cond.methodLink "NineKeysRoundModel" (319 : Nat) ({ cls := "NineKeysRoundModel", name := "bestTwo", desc := "()I" } : Jvm.MethodName)) ∈ lw_tb := kt7 (n := 40) (by decide +kernel) rfl
theorem k_1482 : (Jvm.Cond.instanceMethod ({ cls := "NineKeysRoundModel", name := "bestTwo", desc := "()I" } : Jvm.MethodName)) ∈ lw_tb := kt7 (n := 42) (by decide +kernel) rfl
theorem k_1483 : (Jvm.Cond.code ({ cls := "NineKeysRoundModel", name := "bestTwo", desc := "()I" } : Jvm.MethodName) prog_12_method_67_code (6 : Nat) (Option.some Jvm.ClassFile.FieldType.int)) ∈ lw_tb := kt7 (n := 43) (by decide +kernel) rfl
theorem k_1484 : (Jvm.Cond.methodLink "NineKeysRoundModel" (316 : Nat) ({ cls := "NineKeysRoundModel", name := "twoOf", desc := "(II)I" } : Jvm.MethodName)) ∈ lw_tb := kt7 (n := 44) (by decide +kernel) rfl
theorem k_1486 : (Jvm.Cond.instanceMethod ({ cls := "NineKeysRoundModel", name := "twoOf", desc := "(II)I" } : Jvm.MethodName)) ∈ lw_tb := kt7 (n := 46) (by decide +kernel) rfl
theorem k_1487 : (Jvm.Cond.code ({ cls := "NineKeysRoundModel", name := "twoOf", desc := "(II)I" } : Jvm.MethodName) prog_12_method_66_code (7 : Nat) (Option.some Jvm.ClassFile.FieldType.int)) ∈ lw_tb := kt7 (n := 47) (by decide +kernel) rfl
theorem k_1488 : (Jvm.Cond.methodLink "NineKeysRoundLaw" (97 : Nat) ({ cls := "NineKeysRoundModel", name := "success", desc := "(IIII)I" } : Jvm.MethodName)) ∈ lw_tb := kt7 (n := 48) (by decide +kernel) rfl
theorem k_1489 : (Jvm.Cond.instanceMethod ({ cls := "NineKeysRoundModel", name := "success", desc := "(IIII)I" } : Jvm.MethodName)) ∈ lw_tb := kt7 (n := 49) (by decide +kernel) rfl
theorem k_1490 : (Jvm.Cond.selects "NineKeysRoundModel" ({ cls := "NineKeysRoundModel", name := "success", desc := "(IIII)I" } : Jvm.MethodName) ({ cls := "NineKeysRoundModel", name := "success", desc := "(IIII)I" } : Jvm.MethodName)) ∈ lw_tb := kt7 (n := 50) (by decide +kernel) rfl
theorem k_1491 : (Jvm.Cond.code ({ cls := "NineKeysRoundModel", name := "success", desc := "(IIII)I" } : Jvm.MethodName) prog_12_method_73_code (6 : Nat) (Option.some Jvm.ClassFile.FieldType.int)) ∈ lw_tb := kt7 (n := 51) (by decide +kernel) rfl
theorem k_1492 : (Jvm.Cond.methodLink "NineKeysRoundModel" (328 : Nat) ({ cls := "NineKeysRoundModel", name := "isMix", desc := "(I)Z" } : Jvm.MethodName)) ∈ lw_tb := kt7 (n := 52) (by decide +kernel) rfl
theorem k_1493 : (Jvm.Cond.static ({ cls := "NineKeysRoundModel", name := "isMix", desc := "(I)Z" } : Jvm.MethodName)) ∈ lw_tb := kt7 (n := 53) (by decide +kernel) rfl
theorem k_1494 : (Jvm.Cond.code ({ cls := "NineKeysRoundModel", name := "isMix", desc := "(I)Z" } : Jvm.MethodName) prog_12_method_72_code (1 : Nat) (Option.some Jvm.ClassFile.FieldType.boolean)) ∈ lw_tb := kt7 (n := 54) (by decide +kernel) rfl
theorem k_1495 : (Jvm.Cond.methodLink "NineKeysRoundModel" (331 : Nat) ({ cls := "NineKeysRoundModel", name := "bothWays", desc := "(I)V" } : Jvm.MethodName)) ∈ lw_tb := kt7 (n := 55) (by decide +kernel) rfl
theorem k_1497 : (Jvm.Cond.instanceMethod ({ cls := "NineKeysRoundModel", name := "bothWays", desc := "(I)V" } : Jvm.MethodName)) ∈ lw_tb := kt7 (n := 57) (by decide +kernel) rfl
theorem k_1498 : (Jvm.Cond.code ({ cls := "NineKeysRoundModel", name := "bothWays", desc := "(I)V" } : Jvm.MethodName) prog_12_method_69_code (3 : Nat) (Option.none : Option Jvm.ClassFile.FieldType)) ∈ lw_tb := kt7 (n := 58) (by decide +kernel) rfl
theorem k_1499 : (Jvm.Cond.methodLink "NineKeysRoundModel" (322 : Nat) ({ cls := "NineKeysRoundModel", name := "turns", desc := "()V" } : Jvm.MethodName)) ∈ lw_tb := kt7 (n := 59) (by decide +kernel) rfl
theorem k_1501 : (Jvm.Cond.instanceMethod ({ cls := "NineKeysRoundModel", name := "turns", desc := "()V" } : Jvm.MethodName)) ∈ lw_tb := kt7 (n := 61) (by decide +kernel) rfl
theorem k_1502 : (Jvm.Cond.code ({ cls := "NineKeysRoundModel", name := "turns", desc := "()V" } : Jvm.MethodName) prog_12_method_41_code (4 : Nat) (Option.none : Option Jvm.ClassFile.FieldType)) ∈ lw_tb := kt7 (n := 62) (by decide +kernel) rfl
theorem k_1503 : (Jvm.Cond.methodLink "NineKeysRoundModel" (334 : Nat) ({ cls := "NineKeysRoundModel", name := "succeeds", desc := "(III)I" } : Jvm.MethodName)) ∈ lw_tb := kt7 (n := 63) (by decide +kernel) rfl
theorem k_1505 : (Jvm.Cond.instanceMethod ({ cls := "NineKeysRoundModel", name := "succeeds", desc := "(III)I" } : Jvm.MethodName)) ∈ lw_tb := kt7 (n := 65) (by decide +kernel) rfl
theorem k_1506 : (Jvm.Cond.code ({ cls := "NineKeysRoundModel", name := "succeeds", desc := "(III)I" } : Jvm.MethodName) prog_12_method_71_code (4 : Nat) (Option.some Jvm.ClassFile.FieldType.int)) ∈ lw_tb := kt7 (n := 66) (by decide +kernel) rfl
theorem k_1507 : (Jvm.Cond.methodLink "NineKeysRoundModel" (325 : Nat) ({ cls := "NineKeysRoundModel", name := "isFree", desc := "(III)Z" } : Jvm.MethodName)) ∈ lw_tb := kt7 (n := 67) (by decide +kernel) rfl
theorem k_1509 : (Jvm.Cond.instanceMethod ({ cls := "NineKeysRoundModel", name := "isFree", desc := "(III)Z" } : Jvm.MethodName)) ∈ lw_tb := kt7 (n := 69) (by decide +kernel) rfl
theorem k_1510 : (Jvm.Cond.code ({ cls := "NineKeysRoundModel", name := "isFree", desc := "(III)Z" } : Jvm.MethodName) prog_12_method_70_code (5 : Nat) (Option.some Jvm.ClassFile.FieldType.boolean)) ∈ lw_tb := kt7 (n := 70) (by decide +kernel) rfl
theorem k_1511 : (Jvm.Cond.methodLink "NineKeysRoundLaw" (101 : Nat) ({ cls := "NineKeysRoundModel", name := "bestMinute", desc := "(IIII)I" } : Jvm.MethodName)) ∈ lw_tb := kt7 (n := 71) (by decide +kernel) rfl
theorem k_1512 : (Jvm.Cond.instanceMethod ({ cls := "NineKeysRoundModel", name := "bestMinute", desc := "(IIII)I" } : Jvm.MethodName)) ∈ lw_tb := kt7 (n := 72) (by decide +kernel) rfl
theorem k_1513 : (Jvm.Cond.selects "NineKeysRoundModel" ({ cls := "NineKeysRoundModel", name := "bestMinute", desc := "(IIII)I" } : Jvm.MethodName) ({ cls := "NineKeysRoundModel", name := "bestMinute", desc := "(IIII)I" } : Jvm.MethodName)) ∈ lw_tb := kt7 (n := 73) (by decide +kernel) rfl
theorem k_1514 : (Jvm.Cond.code ({ cls := "NineKeysRoundModel", name := "bestMinute", desc := "(IIII)I" } : Jvm.MethodName) prog_12_method_75_code (7 : Nat) (Option.some Jvm.ClassFile.FieldType.int)) ∈ lw_tb := kt7 (n := 74) (by decide +kernel) rfl
theorem k_1515 : (Jvm.Cond.methodLink "NineKeysRoundModel" (337 : Nat) ({ cls := "NineKeysRoundModel", name := "bestMinute", desc := "(II)I" } : Jvm.MethodName)) ∈ lw_tb := kt7 (n := 75) (by decide +kernel) rfl
theorem k_1517 : (Jvm.Cond.instanceMethod ({ cls := "NineKeysRoundModel", name := "bestMinute", desc := "(II)I" } : Jvm.MethodName)) ∈ lw_tb := kt7 (n := 77) (by decide +kernel) rfl
theorem k_1518 : (Jvm.Cond.code ({ cls := "NineKeysRoundModel", name := "bestMinute", desc := "(II)I" } : Jvm.MethodName) prog_12_method_74_code (7 : Nat) (Option.some Jvm.ClassFile.FieldType.int)) ∈ lw_tb := kt7 (n := 78) (by decide +kernel) rfl
theorem k_1519 : (Jvm.Cond.methodLink "NineKeysRoundLaw" (105 : Nat) ({ cls := "NineKeysRoundModel", name := "mix", desc := "(III)I" } : Jvm.MethodName)) ∈ lw_tb := kt7 (n := 79) (by decide +kernel) rfl
theorem k_1520 : (Jvm.Cond.instanceMethod ({ cls := "NineKeysRoundModel", name := "mix", desc := "(III)I" } : Jvm.MethodName)) ∈ lw_tb := kt7 (n := 80) (by decide +kernel) rfl
theorem k_1521 : (Jvm.Cond.selects "NineKeysRoundModel" ({ cls := "NineKeysRoundModel", name := "mix", desc := "(III)I" } : Jvm.MethodName) ({ cls := "NineKeysRoundModel", name := "mix", desc := "(III)I" } : Jvm.MethodName)) ∈ lw_tb := kt7 (n := 81) (by decide +kernel) rfl
theorem k_1522 : (Jvm.Cond.code ({ cls := "NineKeysRoundModel", name := "mix", desc := "(III)I" } : Jvm.MethodName) prog_12_method_76_code (9 : Nat) (Option.some Jvm.ClassFile.FieldType.int)) ∈ lw_tb := kt7 (n := 82) (by decide +kernel) rfl
theorem k_1523 : (Jvm.Cond.methodLink "NineKeysRoundLaw" (109 : Nat) ({ cls := "NineKeysRoundModel", name := "paper", desc := "(II)I" } : Jvm.MethodName)) ∈ lw_tb := kt7 (n := 83) (by decide +kernel) rfl
theorem k_1524 : (Jvm.Cond.instanceMethod ({ cls := "NineKeysRoundModel", name := "paper", desc := "(II)I" } : Jvm.MethodName)) ∈ lw_tb := kt7 (n := 84) (by decide +kernel) rfl
theorem k_1525 : (Jvm.Cond.selects "NineKeysRoundModel" ({ cls := "NineKeysRoundModel", name := "paper", desc := "(II)I" } : Jvm.MethodName) ({ cls := "NineKeysRoundModel", name := "paper", desc := "(II)I" } : Jvm.MethodName)) ∈ lw_tb := kt7 (n := 85) (by decide +kernel) rfl
theorem k_1526 : (Jvm.Cond.code ({ cls := "NineKeysRoundModel", name := "paper", desc := "(II)I" } : Jvm.MethodName) prog_12_method_78_code (11 : Nat) (Option.some Jvm.ClassFile.FieldType.int)) ∈ lw_tb := kt7 (n := 86) (by decide +kernel) rfl
theorem k_1527 : (Jvm.Cond.methodLink "NineKeysRoundModel" (340 : Nat) ({ cls := "NineKeysRoundModel", name := "later", desc := "(II)I" } : Jvm.MethodName)) ∈ lw_tb := kt7 (n := 87) (by decide +kernel) rfl
theorem k_1529 : (Jvm.Cond.instanceMethod ({ cls := "NineKeysRoundModel", name := "later", desc := "(II)I" } : Jvm.MethodName)) ∈ lw_tb := kt7 (n := 89) (by decide +kernel) rfl
theorem k_1530 : (Jvm.Cond.code ({ cls := "NineKeysRoundModel", name := "later", desc := "(II)I" } : Jvm.MethodName) prog_12_method_77_code (6 : Nat) (Option.some Jvm.ClassFile.FieldType.int)) ∈ lw_tb := kt7 (n := 90) (by decide +kernel) rfl
theorem k_1531 : (Jvm.Cond.methodLink "NineKeysRoundLaw" (113 : Nat) ({ cls := "NineKeysRoundModel", name := "which", desc := "(I)I" } : Jvm.MethodName)) ∈ lw_tb := kt7 (n := 91) (by decide +kernel) rfl
theorem k_1532 : (Jvm.Cond.instanceMethod ({ cls := "NineKeysRoundModel", name := "which", desc := "(I)I" } : Jvm.MethodName)) ∈ lw_tb := kt7 (n := 92) (by decide +kernel) rfl
theorem k_1533 : (Jvm.Cond.selects "NineKeysRoundModel" ({ cls := "NineKeysRoundModel", name := "which", desc := "(I)I" } : Jvm.MethodName) ({ cls := "NineKeysRoundModel", name := "which", desc := "(I)I" } : Jvm.MethodName)) ∈ lw_tb := kt7 (n := 93) (by decide +kernel) rfl
theorem k_1534 : (Jvm.Cond.code ({ cls := "NineKeysRoundModel", name := "which", desc := "(I)I" } : Jvm.MethodName) prog_12_method_80_code (3 : Nat) (Option.some Jvm.ClassFile.FieldType.int)) ∈ lw_tb := kt7 (n := 94) (by decide +kernel) rfl
theorem k_1535 : (Jvm.Cond.methodLink "NineKeysRoundModel" (343 : Nat) ({ cls := "NineKeysRoundModel", name := "isPaper", desc := "(I)Z" } : Jvm.MethodName)) ∈ lw_tb := kt7 (n := 95) (by decide +kernel) rfl
theorem k_1537 : (Jvm.Cond.instanceMethod ({ cls := "NineKeysRoundModel", name := "isPaper", desc := "(I)Z" } : Jvm.MethodName)) ∈ lw_tb := kt7 (n := 97) (by decide +kernel) rfl
theorem k_1538 : (Jvm.Cond.code ({ cls := "NineKeysRoundModel", name := "isPaper", desc := "(I)Z" } : Jvm.MethodName) prog_12_method_79_code (3 : Nat) (Option.some Jvm.ClassFile.FieldType.boolean)) ∈ lw_tb := kt7 (n := 98) (by decide +kernel) rfl
theorem k_1539 : (Jvm.Cond.methodLink "NineKeysRoundLaw" (117 : Nat) ({ cls := "NineKeysRoundModel", name := "fit", desc := "(II)I" } : Jvm.MethodName)) ∈ lw_tb := kt7 (n := 99) (by decide +kernel) rfl
theorem k_1540 : (Jvm.Cond.instanceMethod ({ cls := "NineKeysRoundModel", name := "fit", desc := "(II)I" } : Jvm.MethodName)) ∈ lw_tb := kt7 (n := 100) (by decide +kernel) rfl
theorem k_1541 : (Jvm.Cond.selects "NineKeysRoundModel" ({ cls := "NineKeysRoundModel", name := "fit", desc := "(II)I" } : Jvm.MethodName) ({ cls := "NineKeysRoundModel", name := "fit", desc := "(II)I" } : Jvm.MethodName)) ∈ lw_tb := kt7 (n := 101) (by decide +kernel) rfl
theorem k_1542 : (Jvm.Cond.code ({ cls := "NineKeysRoundModel", name := "fit", desc := "(II)I" } : Jvm.MethodName) prog_12_method_81_code (7 : Nat) (Option.some Jvm.ClassFile.FieldType.int)) ∈ lw_tb := kt7 (n := 102) (by decide +kernel) rfl
theorem k_1543 : (Jvm.Cond.methodLink "NineKeysRoundLaw" (121 : Nat) ({ cls := "NineKeysRoundModel", name := "hang", desc := "(II)I" } : Jvm.MethodName)) ∈ lw_tb := kt7 (n := 103) (by decide +kernel) rfl
theorem k_1544 : (Jvm.Cond.instanceMethod ({ cls := "NineKeysRoundModel", name := "hang", desc := "(II)I" } : Jvm.MethodName)) ∈ lw_tb := kt7 (n := 104) (by decide +kernel) rfl
theorem k_1545 : (Jvm.Cond.selects "NineKeysRoundModel" ({ cls := "NineKeysRoundModel", name := "hang", desc := "(II)I" } : Jvm.MethodName) ({ cls := "NineKeysRoundModel", name := "hang", desc := "(II)I" } : Jvm.MethodName)) ∈ lw_tb := kt7 (n := 105) (by decide +kernel) rfl
theorem k_1546 : (Jvm.Cond.code ({ cls := "NineKeysRoundModel", name := "hang", desc := "(II)I" } : Jvm.MethodName) prog_12_method_84_code (6 : Nat) (Option.some Jvm.ClassFile.FieldType.int)) ∈ lw_tb := kt7 (n := 106) (by decide +kernel) rfl
theorem k_1547 : (Jvm.Cond.methodLink "NineKeysRoundModel" (346 : Nat) ({ cls := "NineKeysRoundModel", name := "apartFrom", desc := "(II)I" } : Jvm.MethodName)) ∈ lw_tb := kt7 (n := 107) (by decide +kernel) rfl
theorem k_1549 : (Jvm.Cond.instanceMethod ({ cls := "NineKeysRoundModel", name := "apartFrom", desc := "(II)I" } : Jvm.MethodName)) ∈ lw_tb := kt7 (n := 109) (by decide +kernel) rfl
theorem k_1550 : (Jvm.Cond.code ({ cls := "NineKeysRoundModel", name := "apartFrom", desc := "(II)I" } : Jvm.MethodName) prog_12_method_82_code (3 : Nat) (Option.some Jvm.ClassFile.FieldType.int)) ∈ lw_tb := kt7 (n := 110) (by decide +kernel) rfl
theorem k_1551 : (Jvm.Cond.methodLink "NineKeysRoundModel" (349 : Nat) ({ cls := "NineKeysRoundModel", name := "nearest", desc := "(I)I" } : Jvm.MethodName)) ∈ lw_tb := kt7 (n := 111) (by decide +kernel) rfl
theorem k_1553 : (Jvm.Cond.instanceMethod ({ cls := "NineKeysRoundModel", name := "nearest", desc := "(I)I" } : Jvm.MethodName)) ∈ lw_tb := kt7 (n := 113) (by decide +kernel) rfl
theorem k_1554 : (Jvm.Cond.code ({ cls := "NineKeysRoundModel", name := "nearest", desc := "(I)I" } : Jvm.MethodName) prog_12_method_83_code (4 : Nat) (Option.some Jvm.ClassFile.FieldType.int)) ∈ lw_tb := kt7 (n := 114) (by decide +kernel) rfl
theorem k_1555 : (Jvm.Cond.methodLink "NineKeysRoundLaw" (125 : Nat) ({ cls := "NineKeysRoundModel", name := "drawn", desc := "(III)I" } : Jvm.MethodName)) ∈ lw_tb := kt7 (n := 115) (by decide +kernel) rfl
theorem k_1556 : (Jvm.Cond.instanceMethod ({ cls := "NineKeysRoundModel", name := "drawn", desc := "(III)I" } : Jvm.MethodName)) ∈ lw_tb := kt7 (n := 116) (by decide +kernel) rfl
theorem k_1557 : (Jvm.Cond.selects "NineKeysRoundModel" ({ cls := "NineKeysRoundModel", name := "drawn", desc := "(III)I" } : Jvm.MethodName) ({ cls := "NineKeysRoundModel", name := "drawn", desc := "(III)I" } : Jvm.MethodName)) ∈ lw_tb := kt7 (n := 117) (by decide +kernel) rfl
theorem k_1558 : (Jvm.Cond.code ({ cls := "NineKeysRoundModel", name := "drawn", desc := "(III)I" } : Jvm.MethodName) prog_12_method_85_code (14 : Nat) (Option.some Jvm.ClassFile.FieldType.int)) ∈ lw_tb := kt7 (n := 118) (by decide +kernel) rfl
theorem k_1559 : (Jvm.Cond.constant "NineKeysRoundModel" (352 : Nat) (1103515245 : Int32)) ∈ lw_tb := kt7 (n := 119) (by decide +kernel) rfl
theorem k_1560 : (Jvm.Cond.methodLink "NineKeysRoundLaw" (129 : Nat) ({ cls := "NineKeysRoundModel", name := "walk", desc := "(I)I" } : Jvm.MethodName)) ∈ lw_tb := kt7 (n := 120) (by decide +kernel) rfl
theorem k_1561 : (Jvm.Cond.instanceMethod ({ cls := "NineKeysRoundModel", name := "walk", desc := "(I)I" } : Jvm.MethodName)) ∈ lw_tb := kt7 (n := 121) (by decide +kernel) rfl
theorem k_1562 : (Jvm.Cond.selects "NineKeysRoundModel" ({ cls := "NineKeysRoundModel", name := "walk", desc := "(I)I" } : Jvm.MethodName) ({ cls := "NineKeysRoundModel", name := "walk", desc := "(I)I" } : Jvm.MethodName)) ∈ lw_tb := kt7 (n := 122) (by decide +kernel) rfl
theorem k_1563 : (Jvm.Cond.code ({ cls := "NineKeysRoundModel", name := "walk", desc := "(I)I" } : Jvm.MethodName) prog_12_method_86_code (3 : Nat) (Option.some Jvm.ClassFile.FieldType.int)) ∈ lw_tb := kt7 (n := 123) (by decide +kernel) rfl
theorem k_1564 : (Jvm.Cond.methodLink "NineKeysRoundLaw" (133 : Nat) ({ cls := "NineKeysRoundModel", name := "waits", desc := "(I)I" } : Jvm.MethodName)) ∈ lw_tb := kt7 (n := 124) (by decide +kernel) rfl
theorem k_1565 : (Jvm.Cond.instanceMethod ({ cls := "NineKeysRoundModel", name := "waits", desc := "(I)I" } : Jvm.MethodName)) ∈ lw_tb := kt7 (n := 125) (by decide +kernel) rfl
theorem k_1566 : (Jvm.Cond.selects "NineKeysRoundModel" ({ cls := "NineKeysRoundModel", name := "waits", desc := "(I)I" } : Jvm.MethodName) ({ cls := "NineKeysRoundModel", name := "waits", desc := "(I)I" } : Jvm.MethodName)) ∈ lw_tb := kt7 (n := 126) (by decide +kernel) rfl
theorem k_1567 : (Jvm.Cond.code ({ cls := "NineKeysRoundModel", name := "waits", desc := "(I)I" } : Jvm.MethodName) prog_12_method_87_code (2 : Nat) (Option.some Jvm.ClassFile.FieldType.int)) ∈ lw_tb := kt7 (n := 127) (by decide +kernel) rfl
theorem k_1568 : (Jvm.Cond.methodLink "NineKeysRoundLaw" (137 : Nat) ({ cls := "NineKeysRoundModel", name := "home", desc := "()I" } : Jvm.MethodName)) ∈ lw_tb := kt7 (n := 128) (by decide +kernel) rfl
theorem k_1569 : (Jvm.Cond.instanceMethod ({ cls := "NineKeysRoundModel", name := "home", desc := "()I" } : Jvm.MethodName)) ∈ lw_tb := kt7 (n := 129) (by decide +kernel) rfl
theorem k_1570 : (Jvm.Cond.selects "NineKeysRoundModel" ({ cls := "NineKeysRoundModel", name := "home", desc := "()I" } : Jvm.MethodName) ({ cls := "NineKeysRoundModel", name := "home", desc := "()I" } : Jvm.MethodName)) ∈ lw_tb := kt7 (n := 130) (by decide +kernel) rfl
theorem k_1571 : (Jvm.Cond.code ({ cls := "NineKeysRoundModel", name := "home", desc := "()I" } : Jvm.MethodName) prog_12_method_88_code (2 : Nat) (Option.some Jvm.ClassFile.FieldType.int)) ∈ lw_tb := kt7 (n := 131) (by decide +kernel) rfl
theorem k_1572 : (Jvm.Cond.methodLink "NineKeysRoundLaw" (141 : Nat) ({ cls := "NineKeysRoundModel", name := "led", desc := "(I)I" } : Jvm.MethodName)) ∈ lw_tb := kt7 (n := 132) (by decide +kernel) rfl
theorem k_1573 : (Jvm.Cond.instanceMethod ({ cls := "NineKeysRoundModel", name := "led", desc := "(I)I" } : Jvm.MethodName)) ∈ lw_tb := kt7 (n := 133) (by decide +kernel) rfl
theorem k_1574 : (Jvm.Cond.selects "NineKeysRoundModel" ({ cls := "NineKeysRoundModel", name := "led", desc := "(I)I" } : Jvm.MethodName) ({ cls := "NineKeysRoundModel", name := "led", desc := "(I)I" } : Jvm.MethodName)) ∈ lw_tb := kt7 (n := 134) (by decide +kernel) rfl
theorem k_1575 : (Jvm.Cond.code ({ cls := "NineKeysRoundModel", name := "led", desc := "(I)I" } : Jvm.MethodName) prog_12_method_89_code (2 : Nat) (Option.some Jvm.ClassFile.FieldType.int)) ∈ lw_tb := kt7 (n := 135) (by decide +kernel) rfl
theorem k_1576 : (Jvm.Cond.methodLink "NineKeysRoundLaw" (145 : Nat) ({ cls := "NineKeysRoundModel", name := "image", desc := "()I" } : Jvm.MethodName)) ∈ lw_tb := kt7 (n := 136) (by decide +kernel) rfl
theorem k_1577 : (Jvm.Cond.instanceMethod ({ cls := "NineKeysRoundModel", name := "image", desc := "()I" } : Jvm.MethodName)) ∈ lw_tb := kt7 (n := 137) (by decide +kernel) rfl
theorem k_1578 : (Jvm.Cond.selects "NineKeysRoundModel" ({ cls := "NineKeysRoundModel", name := "image", desc := "()I" } : Jvm.MethodName) ({ cls := "NineKeysRoundModel", name := "image", desc := "()I" } : Jvm.MethodName)) ∈ lw_tb := kt7 (n := 138) (by decide +kernel) rfl
theorem k_1579 : (Jvm.Cond.code ({ cls := "NineKeysRoundModel", name := "image", desc := "()I" } : Jvm.MethodName) prog_12_method_90_code (2 : Nat) (Option.some Jvm.ClassFile.FieldType.int)) ∈ lw_tb := kt7 (n := 139) (by decide +kernel) rfl
theorem k_1580 : (Jvm.Cond.methodLink "NineKeysRoundLaw" (149 : Nat) ({ cls := "NineKeysRoundModel", name := "back", desc := "()I" } : Jvm.MethodName)) ∈ lw_tb := kt7 (n := 140) (by decide +kernel) rfl
theorem k_1581 : (Jvm.Cond.instanceMethod ({ cls := "NineKeysRoundModel", name := "back", desc := "()I" } : Jvm.MethodName)) ∈ lw_tb := kt7 (n := 141) (by decide +kernel) rfl
theorem k_1582 : (Jvm.Cond.selects "NineKeysRoundModel" ({ cls := "NineKeysRoundModel", name := "back", desc := "()I" } : Jvm.MethodName) ({ cls := "NineKeysRoundModel", name := "back", desc := "()I" } : Jvm.MethodName)) ∈ lw_tb := kt7 (n := 142) (by decide +kernel) rfl
theorem k_1583 : (Jvm.Cond.code ({ cls := "NineKeysRoundModel", name := "back", desc := "()I" } : Jvm.MethodName) prog_12_method_91_code (2 : Nat) (Option.some Jvm.ClassFile.FieldType.int)) ∈ lw_tb := kt7 (n := 143) (by decide +kernel) rfl
theorem k_1584 : (Jvm.Cond.methodLink "NineKeysRoundLaw" (161 : Nat) ({ cls := "NineKeysRoundModel", name := "body", desc := "(I)I" } : Jvm.MethodName)) ∈ lw_tb := kt7 (n := 144) (by decide +kernel) rfl
theorem k_1585 : (Jvm.Cond.instanceMethod ({ cls := "NineKeysRoundModel", name := "body", desc := "(I)I" } : Jvm.MethodName)) ∈ lw_tb := kt7 (n := 145) (by decide +kernel) rfl
theorem k_1586 : (Jvm.Cond.selects "NineKeysRoundModel" ({ cls := "NineKeysRoundModel", name := "body", desc := "(I)I" } : Jvm.MethodName) ({ cls := "NineKeysRoundModel", name := "body", desc := "(I)I" } : Jvm.MethodName)) ∈ lw_tb := kt7 (n := 146) (by decide +kernel) rfl
theorem k_1587 : (Jvm.Cond.code ({ cls := "NineKeysRoundModel", name := "body", desc := "(I)I" } : Jvm.MethodName) prog_12_method_98_code (2 : Nat) (Option.some Jvm.ClassFile.FieldType.int)) ∈ lw_tb := kt7 (n := 147) (by decide +kernel) rfl
theorem k_1588 : (Jvm.Cond.methodLink "NineKeysRoundLaw" (165 : Nat) ({ cls := "NineKeysRoundModel", name := "act", desc := "(III)I" } : Jvm.MethodName)) ∈ lw_tb := kt7 (n := 148) (by decide +kernel) rfl
theorem k_1589 : (Jvm.Cond.instanceMethod ({ cls := "NineKeysRoundModel", name := "act", desc := "(III)I" } : Jvm.MethodName)) ∈ lw_tb := kt7 (n := 149) (by decide +kernel) rfl
theorem k_1590 : (Jvm.Cond.selects "NineKeysRoundModel" ({ cls := "NineKeysRoundModel", name := "act", desc := "(III)I" } : Jvm.MethodName) ({ cls := "NineKeysRoundModel", name := "act", desc := "(III)I" } : Jvm.MethodName)) ∈ lw_tb := kt7 (n := 150) (by decide +kernel) rfl
theorem k_1591 : (Jvm.Cond.code ({ cls := "NineKeysRoundModel", name := "act", desc := "(III)I" } : Jvm.MethodName) prog_12_method_99_code (5 : Nat) (Option.some Jvm.ClassFile.FieldType.int)) ∈ lw_tb := kt7 (n := 151) (by decide +kernel) rfl
theorem k_1592 : (Jvm.Cond.methodLink "NineKeysRoundModel" (374 : Nat) ({ cls := "NineKeysRoundModel", name := "turnsBy", desc := "(III)I" } : Jvm.MethodName)) ∈ lw_tb := kt7 (n := 152) (by decide +kernel) rfl
theorem k_1594 : (Jvm.Cond.instanceMethod ({ cls := "NineKeysRoundModel", name := "turnsBy", desc := "(III)I" } : Jvm.MethodName)) ∈ lw_tb := kt7 (n := 154) (by decide +kernel) rfl
theorem k_1595 : (Jvm.Cond.code ({ cls := "NineKeysRoundModel", name := "turnsBy", desc := "(III)I" } : Jvm.MethodName) prog_12_method_94_code (4 : Nat) (Option.some Jvm.ClassFile.FieldType.int)) ∈ lw_tb := kt7 (n := 155) (by decide +kernel) rfl
theorem k_1596 : (Jvm.Cond.methodLink "NineKeysRoundModel" (371 : Nat) ({ cls := "NineKeysRoundModel", name := "ran", desc := "(I)V" } : Jvm.MethodName)) ∈ lw_tb := kt7 (n := 156) (by decide +kernel) rfl
theorem k_1598 : (Jvm.Cond.instanceMethod ({ cls := "NineKeysRoundModel", name := "ran", desc := "(I)V" } : Jvm.MethodName)) ∈ lw_tb := kt7 (n := 158) (by decide +kernel) rfl
theorem k_1599 : (Jvm.Cond.code ({ cls := "NineKeysRoundModel", name := "ran", desc := "(I)V" } : Jvm.MethodName) prog_12_method_93_code (2 : Nat) (Option.none : Option Jvm.ClassFile.FieldType)) ∈ lw_tb := kt7 (n := 159) (by decide +kernel) rfl
theorem k_1600 : (Jvm.Cond.methodLink "NineKeysRoundModel" (377 : Nat) ({ cls := "NineKeysRoundModel", name := "above", desc := "(I)I" } : Jvm.MethodName)) ∈ lw_tb := kt7 (n := 160) (by decide +kernel) rfl
theorem k_1601 : (Jvm.Cond.static ({ cls := "NineKeysRoundModel", name := "above", desc := "(I)I" } : Jvm.MethodName)) ∈ lw_tb := kt7 (n := 161) (by decide +kernel) rfl
theorem k_1602 : (Jvm.Cond.code ({ cls := "NineKeysRoundModel", name := "above", desc := "(I)I" } : Jvm.MethodName) prog_12_method_92_code (1 : Nat) (Option.some Jvm.ClassFile.FieldType.int)) ∈ lw_tb := kt7 (n := 162) (by decide +kernel) rfl
theorem k_1603 : (Jvm.Cond.methodLink "NineKeysRoundModel" (380 : Nat) ({ cls := "NineKeysRoundModel", name := "seesBy", desc := "(III)I" } : Jvm.MethodName)) ∈ lw_tb := kt7 (n := 163) (by decide +kernel) rfl
theorem k_1605 : (Jvm.Cond.instanceMethod ({ cls := "NineKeysRoundModel", name := "seesBy", desc := "(III)I" } : Jvm.MethodName)) ∈ lw_tb := kt7 (n := 165) (by decide +kernel) rfl
theorem k_1606 : (Jvm.Cond.code ({ cls := "NineKeysRoundModel", name := "seesBy", desc := "(III)I" } : Jvm.MethodName) prog_12_method_95_code (5 : Nat) (Option.some Jvm.ClassFile.FieldType.int)) ∈ lw_tb := kt7 (n := 166) (by decide +kernel) rfl
theorem k_1607 : (Jvm.Cond.methodLink "NineKeysRoundModel" (383 : Nat) ({ cls := "NineKeysRoundModel", name := "fearsBy", desc := "(III)I" } : Jvm.MethodName)) ∈ lw_tb := kt7 (n := 167) (by decide +kernel) rfl
theorem k_1609 : (Jvm.Cond.instanceMethod ({ cls := "NineKeysRoundModel", name := "fearsBy", desc := "(III)I" } : Jvm.MethodName)) ∈ lw_tb := kt7 (n := 169) (by decide +kernel) rfl
theorem k_1610 : (Jvm.Cond.code ({ cls := "NineKeysRoundModel", name := "fearsBy", desc := "(III)I" } : Jvm.MethodName) prog_12_method_96_code (5 : Nat) (Option.some Jvm.ClassFile.FieldType.int)) ∈ lw_tb := kt7 (n := 170) (by decide +kernel) rfl
theorem k_1611 : (Jvm.Cond.methodLink "NineKeysRoundModel" (386 : Nat) ({ cls := "NineKeysRoundModel", name := "tells", desc := "(III)I" } : Jvm.MethodName)) ∈ lw_tb := kt7 (n := 171) (by decide +kernel) rfl
theorem k_1613 : (Jvm.Cond.instanceMethod ({ cls := "NineKeysRoundModel", name := "tells", desc := "(III)I" } : Jvm.MethodName)) ∈ lw_tb := kt7 (n := 173) (by decide +kernel) rfl
theorem k_1614 : (Jvm.Cond.code ({ cls := "NineKeysRoundModel", name := "tells", desc := "(III)I" } : Jvm.MethodName) prog_12_method_97_code (5 : Nat) (Option.some Jvm.ClassFile.FieldType.int)) ∈ lw_tb := kt7 (n := 174) (by decide +kernel) rfl
theorem k_1615 : (Jvm.Cond.methodLink "NineKeysRoundLaw" (169 : Nat) ({ cls := "NineKeysRoundModel", name := "trace", desc := "(I)I" } : Jvm.MethodName)) ∈ lw_tb := kt7 (n := 175) (by decide +kernel) rfl
theorem k_1616 : (Jvm.Cond.instanceMethod ({ cls := "NineKeysRoundModel", name := "trace", desc := "(I)I" } : Jvm.MethodName)) ∈ lw_tb := kt7 (n := 176) (by decide +kernel) rfl
theorem k_1617 : (Jvm.Cond.selects "NineKeysRoundModel" ({ cls := "NineKeysRoundModel", name := "trace", desc := "(I)I" } : Jvm.MethodName) ({ cls := "NineKeysRoundModel", name := "trace", desc := "(I)I" } : Jvm.MethodName)) ∈ lw_tb := kt7 (n := 177) (by decide +kernel) rfl
theorem k_1618 : (Jvm.Cond.code ({ cls := "NineKeysRoundModel", name := "trace", desc := "(I)I" } : Jvm.MethodName) prog_12_method_100_code (2 : Nat) (Option.some Jvm.ClassFile.FieldType.int)) ∈ lw_tb := kt7 (n := 178) (by decide +kernel) rfl
theorem k_1619 : (Jvm.Cond.methodLink "NineKeysRoundLaw" (173 : Nat) ({ cls := "NineKeysRoundModel", name := "keep", desc := "(II)I" } : Jvm.MethodName)) ∈ lw_tb := kt7 (n := 179) (by decide +kernel) rfl
theorem k_1620 : (Jvm.Cond.instanceMethod ({ cls := "NineKeysRoundModel", name := "keep", desc := "(II)I" } : Jvm.MethodName)) ∈ lw_tb := kt7 (n := 180) (by decide +kernel) rfl
theorem k_1621 : (Jvm.Cond.selects "NineKeysRoundModel" ({ cls := "NineKeysRoundModel", name := "keep", desc := "(II)I" } : Jvm.MethodName) ({ cls := "NineKeysRoundModel", name := "keep", desc := "(II)I" } : Jvm.MethodName)) ∈ lw_tb := kt7 (n := 181) (by decide +kernel) rfl
theorem k_1622 : (Jvm.Cond.code ({ cls := "NineKeysRoundModel", name := "keep", desc := "(II)I" } : Jvm.MethodName) prog_12_method_101_code (3 : Nat) (Option.some Jvm.ClassFile.FieldType.int)) ∈ lw_tb := kt7 (n := 182) (by decide +kernel) rfl
theorem k_1623 : (Jvm.Cond.methodLink "NineKeysRoundLaw" (177 : Nat) ({ cls := "NineKeysRoundModel", name := "row", desc := "(III)I" } : Jvm.MethodName)) ∈ lw_tb := kt7 (n := 183) (by decide +kernel) rfl
theorem k_1624 : (Jvm.Cond.instanceMethod ({ cls := "NineKeysRoundModel", name := "row", desc := "(III)I" } : Jvm.MethodName)) ∈ lw_tb := kt7 (n := 184) (by decide +kernel) rfl
theorem k_1625 : (Jvm.Cond.selects "NineKeysRoundModel" ({ cls := "NineKeysRoundModel", name := "row", desc := "(III)I" } : Jvm.MethodName) ({ cls := "NineKeysRoundModel", name := "row", desc := "(III)I" } : Jvm.MethodName)) ∈ lw_tb := kt7 (n := 185) (by decide +kernel) rfl
theorem k_1626 : (Jvm.Cond.code ({ cls := "NineKeysRoundModel", name := "row", desc := "(III)I" } : Jvm.MethodName) prog_12_method_102_code (5 : Nat) (Option.some Jvm.ClassFile.FieldType.int)) ∈ lw_tb := kt7 (n := 186) (by decide +kernel) rfl
theorem k_1627 : (Jvm.Cond.methodLink "NineKeysRoundLaw" (184 : Nat) ({ cls := "NineKeysRoundModel", name := "put", desc := "(IIJ)I" } : Jvm.MethodName)) ∈ lw_tb := kt7 (n := 187) (by decide +kernel) rfl
theorem k_1628 : (Jvm.Cond.instanceMethod ({ cls := "NineKeysRoundModel", name := "put", desc := "(IIJ)I" } : Jvm.MethodName)) ∈ lw_tb := kt7 (n := 188) (by decide +kernel) rfl
theorem k_1629 : (Jvm.Cond.selects "NineKeysRoundModel" ({ cls := "NineKeysRoundModel", name := "put", desc := "(IIJ)I" } : Jvm.MethodName) ({ cls := "NineKeysRoundModel", name := "put", desc := "(IIJ)I" } : Jvm.MethodName)) ∈ lw_tb := kt7 (n := 189) (by decide +kernel) rfl
theorem k_1630 : (Jvm.Cond.code ({ cls := "NineKeysRoundModel", name := "put", desc := "(IIJ)I" } : Jvm.MethodName) prog_12_method_105_code (5 : Nat) (Option.some Jvm.ClassFile.FieldType.int)) ∈ lw_tb := kt7 (n := 190) (by decide +kernel) rfl
theorem k_1631 : (Jvm.Cond.methodLink "NineKeysRoundModel" (392 : Nat) ({ cls := "NineKeysRoundModel", name := "isRow", desc := "(I)Z" } : Jvm.MethodName)) ∈ lw_tb := kt7 (n := 191) (by decide +kernel) rfl
theorem k_1633 : (Jvm.Cond.instanceMethod ({ cls := "NineKeysRoundModel", name := "isRow", desc := "(I)Z" } : Jvm.MethodName)) ∈ lw_tb := kt7 (n := 193) (by decide +kernel) rfl
theorem k_1634 : (Jvm.Cond.code ({ cls := "NineKeysRoundModel", name := "isRow", desc := "(I)Z" } : Jvm.MethodName) prog_12_method_103_code (2 : Nat) (Option.some Jvm.ClassFile.FieldType.boolean)) ∈ lw_tb := kt7 (n := 194) (by decide +kernel) rfl
theorem k_1635 : (Jvm.Cond.methodLink "NineKeysRoundModel" (395 : Nat) ({ cls := "NineKeysRoundModel", name := "kept", desc := "(IJ)J" } : Jvm.MethodName)) ∈ lw_tb := kt7 (n := 195) (by decide +kernel) rfl
theorem k_1636 : (Jvm.Cond.static ({ cls := "NineKeysRoundModel", name := "kept", desc := "(IJ)J" } : Jvm.MethodName)) ∈ lw_tb := kt7 (n := 196) (by decide +kernel) rfl
theorem k_1637 : (Jvm.Cond.code ({ cls := "NineKeysRoundModel", name := "kept", desc := "(IJ)J" } : Jvm.MethodName) prog_12_method_104_code (3 : Nat) (Option.some Jvm.ClassFile.FieldType.long)) ∈ lw_tb := kt7 (n := 197) (by decide +kernel) rfl
theorem k_1638 : (Jvm.Cond.methodLink "NineKeysRoundLaw" (189 : Nat) ({ cls := "NineKeysRoundModel", name := "element", desc := "(II)J" } : Jvm.MethodName)) ∈ lw_tb := kt7 (n := 198) (by decide +kernel) rfl
theorem k_1639 : (Jvm.Cond.instanceMethod ({ cls := "NineKeysRoundModel", name := "element", desc := "(II)J" } : Jvm.MethodName)) ∈ lw_tb := kt7 (n := 199) (by decide +kernel) rfl
theorem k_1640 : (Jvm.Cond.selects "NineKeysRoundModel" ({ cls := "NineKeysRoundModel", name := "element", desc := "(II)J" } : Jvm.MethodName) ({ cls := "NineKeysRoundModel", name := "element", desc := "(II)J" } : Jvm.MethodName)) ∈ lw_tb := kt7 (n := 200) (by decide +kernel) rfl
theorem k_1641 : (Jvm.Cond.code ({ cls := "NineKeysRoundModel", name := "element", desc := "(II)J" } : Jvm.MethodName) prog_12_method_106_code (3 : Nat) (Option.some Jvm.ClassFile.FieldType.long)) ∈ lw_tb := kt7 (n := 201) (by decide +kernel) rfl
theorem k_1642 : (Jvm.Cond.constantLong "NineKeysRoundModel" (399 : Nat) (-9223372036854775808 : Int64)) ∈ lw_tb := kt7 (n := 202) (by decide +kernel) rfl
theorem k_1643 : (Jvm.Cond.methodLink "NineKeysRoundLaw" (194 : Nat) ({ cls := "NineKeysRoundModel", name := "shift", desc := "(IIIII)I" } : Jvm.MethodName)) ∈ lw_tb := kt7 (n := 203) (by decide +kernel) rfl
theorem k_1644 : (Jvm.Cond.instanceMethod ({ cls := "NineKeysRoundModel", name := "shift", desc := "(IIIII)I" } : Jvm.MethodName)) ∈ lw_tb := kt7 (n := 204) (by decide +kernel) rfl
theorem k_1645 : (Jvm.Cond.selects "NineKeysRoundModel" ({ cls := "NineKeysRoundModel", name := "shift", desc := "(IIIII)I" } : Jvm.MethodName) ({ cls := "NineKeysRoundModel", name := "shift", desc := "(IIIII)I" } : Jvm.MethodName)) ∈ lw_tb := kt7 (n := 205) (by decide +kernel) rfl
theorem k_1646 : (Jvm.Cond.code ({ cls := "NineKeysRoundModel", name := "shift", desc := "(IIIII)I" } : Jvm.MethodName) prog_12_method_107_code (7 : Nat) (Option.some Jvm.ClassFile.FieldType.int)) ∈ lw_tb := kt7 (n := 206) (by decide +kernel) rfl
theorem k_1647 : (Jvm.Cond.methodLink "NineKeysRoundLaw" (198 : Nat) ({ cls := "NineKeysRoundModel", name := "taken", desc := "(II)I" } : Jvm.MethodName)) ∈ lw_tb := kt7 (n := 207) (by decide +kernel) rfl
theorem k_1648 : (Jvm.Cond.instanceMethod ({ cls := "NineKeysRoundModel", name := "taken", desc := "(II)I" } : Jvm.MethodName)) ∈ lw_tb := kt7 (n := 208) (by decide +kernel) rfl
theorem k_1649 : (Jvm.Cond.selects "NineKeysRoundModel" ({ cls := "NineKeysRoundModel", name := "taken", desc := "(II)I" } : Jvm.MethodName) ({ cls := "NineKeysRoundModel", name := "taken", desc := "(II)I" } : Jvm.MethodName)) ∈ lw_tb := kt7 (n := 209) (by decide +kernel) rfl
theorem k_1650 : (Jvm.Cond.code ({ cls := "NineKeysRoundModel", name := "taken", desc := "(II)I" } : Jvm.MethodName) prog_12_method_108_code (5 : Nat) (Option.some Jvm.ClassFile.FieldType.int)) ∈ lw_tb := kt7 (n := 210) (by decide +kernel) rfl
theorem k_1651 : (Jvm.Cond.methodLink "NineKeysRoundLaw" (202 : Nat) ({ cls := "NineKeysRoundModel", name := "count", desc := "(I)I" } : Jvm.MethodName)) ∈ lw_tb := kt7 (n := 211) (by decide +kernel) rfl
theorem k_1652 : (Jvm.Cond.instanceMethod ({ cls := "NineKeysRoundModel", name := "count", desc := "(I)I" } : Jvm.MethodName)) ∈ lw_tb := kt7 (n := 212) (by decide +kernel) rfl
theorem k_1653 : (Jvm.Cond.selects "NineKeysRoundModel" ({ cls := "NineKeysRoundModel", name := "count", desc := "(I)I" } : Jvm.MethodName) ({ cls := "NineKeysRoundModel", name := "count", desc := "(I)I" } : Jvm.MethodName)) ∈ lw_tb := kt7 (n := 213) (by decide +kernel) rfl
theorem k_1654 : (Jvm.Cond.code ({ cls := "NineKeysRoundModel", name := "count", desc := "(I)I" } : Jvm.MethodName) prog_12_method_109_code (2 : Nat) (Option.some Jvm.ClassFile.FieldType.int)) ∈ lw_tb := kt7 (n := 214) (by decide +kernel) rfl
theorem k_1655 : (Jvm.Cond.constantLong "NineKeysRoundLaw" (178 : Nat) (4294967295 : Int64)) ∈ lw_tb := kt7 (n := 215) (by decide +kernel) rfl
theorem k_1656 : (Jvm.Cond.fieldLink "java/lang/String" (15 : Nat) "java/lang/String" "coder" "B") ∈ lw_tb := kt7 (n := 216) (by decide +kernel) rfl
theorem k_1657 : (Jvm.Cond.fieldLink "java/lang/String" (9 : Nat) "java/lang/String" "value" "[B") ∈ lw_tb := kt7 (n := 217) (by decide +kernel) rfl
theorem q_0 : Cond.selects "NineKeysRound" ⟨"NineKeysRound", "addPostsFrom", "(LNineKeysRound$Shelf;II)I"⟩ ⟨"NineKeysRound", "addPostsFrom", "(LNineKeysRound$Shelf;II)I"⟩ ∈ lw_tb := kp (n := 0) (q := (⟨"NineKeysRound", "addPostsFrom", "(LNineKeysRound$Shelf;II)I"⟩, 15)) (by decide +kernel)
theorem q_1 : Cond.selects "NineKeysRound$Changes" ⟨"NineKeysRound$Changes", "dropOldest", "()V"⟩ ⟨"NineKeysRound$Changes", "dropOldest", "()V"⟩ ∈ lw_tb := kp (n := 1) (q := (⟨"NineKeysRound$Changes", "dropOldest", "()V"⟩, 5)) (by decide +kernel)
theorem q_2 : Cond.selects "NineKeysRound$Law" ⟨"NineKeysRound$Law", "readText", "()I"⟩ ⟨"NineKeysRound$Law", "readText", "()I"⟩ ∈ lw_tb := kp (n := 2) (q := (⟨"NineKeysRound$Law", "readText", "()I"⟩, 10)) (by decide +kernel)
theorem q_3 : Cond.selects "NineKeysRound$Law" ⟨"NineKeysRound$Law", "readLine", "()V"⟩ ⟨"NineKeysRound$Law", "readLine", "()V"⟩ ∈ lw_tb := kp (n := 3) (q := (⟨"NineKeysRound$Law", "readLine", "()V"⟩, 10)) (by decide +kernel)
theorem q_4 : Cond.selects "NineKeysRound$Law" ⟨"NineKeysRound$Law", "readTerm", "(II)V"⟩ ⟨"NineKeysRound$Law", "readTerm", "(II)V"⟩ ∈ lw_tb := kp (n := 4) (q := (⟨"NineKeysRound$Law", "readTerm", "(II)V"⟩, 10)) (by decide +kernel)
theorem q_5 : Cond.selects "NineKeysRound$Law" ⟨"NineKeysRound$Law", "readOperand", "(I)V"⟩ ⟨"NineKeysRound$Law", "readOperand", "(I)V"⟩ ∈ lw_tb := kp (n := 5) (q := (⟨"NineKeysRound$Law", "readOperand", "(I)V"⟩, 10)) (by decide +kernel)
theorem q_6 : Cond.selects "NineKeysRound$Law" ⟨"NineKeysRound$Law", "peek", "()I"⟩ ⟨"NineKeysRound$Law", "peek", "()I"⟩ ∈ lw_tb := kp (n := 6) (q := (⟨"NineKeysRound$Law", "peek", "()I"⟩, 10)) (by decide +kernel)
theorem q_7 : Cond.selects "NineKeysRound$Law" ⟨"NineKeysRound$Law", "readNumber", "()V"⟩ ⟨"NineKeysRound$Law", "readNumber", "()V"⟩ ∈ lw_tb := kp (n := 7) (q := (⟨"NineKeysRound$Law", "readNumber", "()V"⟩, 10)) (by decide +kernel)
theorem q_8 : Cond.selects "NineKeysRound$Law" ⟨"NineKeysRound$Law", "emit", "(I)V"⟩ ⟨"NineKeysRound$Law", "emit", "(I)V"⟩ ∈ lw_tb := kp (n := 8) (q := (⟨"NineKeysRound$Law", "emit", "(I)V"⟩, 10)) (by decide +kernel)
theorem q_9 : Cond.selects "NineKeysRound$Law" ⟨"NineKeysRound$Law", "readOpened", "(II)V"⟩ ⟨"NineKeysRound$Law", "readOpened", "(II)V"⟩ ∈ lw_tb := kp (n := 9) (q := (⟨"NineKeysRound$Law", "readOpened", "(II)V"⟩, 10)) (by decide +kernel)
theorem q_10 : Cond.selects "NineKeysRound" ⟨"NineKeysRound", "layForth", "(I)I"⟩ ⟨"NineKeysRound", "layForth", "(I)I"⟩ ∈ lw_tb := kp (n := 10) (q := (⟨"NineKeysRound", "layForth", "(I)I"⟩, 15)) (by decide +kernel)
theorem q_11 : Cond.selects "NineKeysRound$Course" ⟨"NineKeysRound$Course", "measure", "()V"⟩ ⟨"NineKeysRound$Course", "measure", "()V"⟩ ∈ lw_tb := kp (n := 11) (q := (⟨"NineKeysRound$Course", "measure", "()V"⟩, 6)) (by decide +kernel)
theorem q_12 : Cond.selects "NineKeysRound" ⟨"NineKeysRound", "lostAt", "(III)I"⟩ ⟨"NineKeysRound", "lostAt", "(III)I"⟩ ∈ lw_tb := kp (n := 12) (q := (⟨"NineKeysRound", "lostAt", "(III)I"⟩, 15)) (by decide +kernel)
theorem q_13 : Cond.selects "NineKeysRound$Law" ⟨"NineKeysRound$Law", "run", "()I"⟩ ⟨"NineKeysRound$Law", "run", "()I"⟩ ∈ lw_tb := kp (n := 13) (q := (⟨"NineKeysRound$Law", "run", "()I"⟩, 10)) (by decide +kernel)
theorem q_14 : Cond.selects "NineKeysRound$Law" ⟨"NineKeysRound$Law", "nameAt", "(I)I"⟩ ⟨"NineKeysRound$Law", "nameAt", "(I)I"⟩ ∈ lw_tb := kp (n := 14) (q := (⟨"NineKeysRound$Law", "nameAt", "(I)I"⟩, 10)) (by decide +kernel)
theorem q_15 : Cond.selects "NineKeysRound$Law" ⟨"NineKeysRound$Law", "push", "(II)I"⟩ ⟨"NineKeysRound$Law", "push", "(II)I"⟩ ∈ lw_tb := kp (n := 15) (q := (⟨"NineKeysRound$Law", "push", "(II)I"⟩, 10)) (by decide +kernel)
theorem q_16 : Cond.selects "NineKeysRound$Law" ⟨"NineKeysRound$Law", "work", "(II)I"⟩ ⟨"NineKeysRound$Law", "work", "(II)I"⟩ ∈ lw_tb := kp (n := 16) (q := (⟨"NineKeysRound$Law", "work", "(II)I"⟩, 10)) (by decide +kernel)
theorem q_17 : Cond.selects "NineKeysRound$Course" ⟨"NineKeysRound$Course", "minuteOf", "(I)I"⟩ ⟨"NineKeysRound$Course", "minuteOf", "(I)I"⟩ ∈ lw_tb := kp (n := 17) (q := (⟨"NineKeysRound$Course", "minuteOf", "(I)I"⟩, 6)) (by decide +kernel)
theorem q_18 : Cond.selects "NineKeysRound$Tour" ⟨"NineKeysRound$Tour", "leastFrom", "(II)I"⟩ ⟨"NineKeysRound$Tour", "leastFrom", "(II)I"⟩ ∈ lw_tb := kp (n := 18) (q := (⟨"NineKeysRound$Tour", "leastFrom", "(II)I"⟩, 4)) (by decide +kernel)
theorem q_19 : Cond.selects "NineKeysRound$Tour" ⟨"NineKeysRound$Tour", "throughFirst", "(III)I"⟩ ⟨"NineKeysRound$Tour", "throughFirst", "(III)I"⟩ ∈ lw_tb := kp (n := 19) (q := (⟨"NineKeysRound$Tour", "throughFirst", "(III)I"⟩, 4)) (by decide +kernel)
theorem q_20 : Cond.selects "NineKeysRound$Tour" ⟨"NineKeysRound$Tour", "firstOfLeast", "(II)I"⟩ ⟨"NineKeysRound$Tour", "firstOfLeast", "(II)I"⟩ ∈ lw_tb := kp (n := 20) (q := (⟨"NineKeysRound$Tour", "firstOfLeast", "(II)I"⟩, 4)) (by decide +kernel)
theorem q_21 : Cond.selects "NineKeysRound" ⟨"NineKeysRound", "freeStart", "(III)I"⟩ ⟨"NineKeysRound", "freeStart", "(III)I"⟩ ∈ lw_tb := kp (n := 21) (q := (⟨"NineKeysRound", "freeStart", "(III)I"⟩, 15)) (by decide +kernel)
theorem q_22 : Cond.selects "NineKeysRound" ⟨"NineKeysRound", "bestSecond", "()I"⟩ ⟨"NineKeysRound", "bestSecond", "()I"⟩ ∈ lw_tb := kp (n := 22) (q := (⟨"NineKeysRound", "bestSecond", "()I"⟩, 15)) (by decide +kernel)
theorem q_23 : Cond.selects "NineKeysRound" ⟨"NineKeysRound", "layBoth", "(I)I"⟩ ⟨"NineKeysRound", "layBoth", "(I)I"⟩ ∈ lw_tb := kp (n := 23) (q := (⟨"NineKeysRound", "layBoth", "(I)I"⟩, 15)) (by decide +kernel)
theorem q_24 : Cond.selects "NineKeysRound" ⟨"NineKeysRound", "isFree", "(LNineKeysRound$Course;III)Z"⟩ ⟨"NineKeysRound", "isFree", "(LNineKeysRound$Course;III)Z"⟩ ∈ lw_tb := kp (n := 24) (q := (⟨"NineKeysRound", "isFree", "(LNineKeysRound$Course;III)Z"⟩, 15)) (by decide +kernel)
theorem q_25 : Cond.selects "NineKeysRound" ⟨"NineKeysRound", "markFree", "(II)V"⟩ ⟨"NineKeysRound", "markFree", "(II)V"⟩ ∈ lw_tb := kp (n := 25) (q := (⟨"NineKeysRound", "markFree", "(II)V"⟩, 15)) (by decide +kernel)
theorem q_26 : Cond.selects "NineKeysRound" ⟨"NineKeysRound", "firstThatCannotBe", "(LNineKeysRound$Shelf;)I"⟩ ⟨"NineKeysRound", "firstThatCannotBe", "(LNineKeysRound$Shelf;)I"⟩ ∈ lw_tb := kp (n := 26) (q := (⟨"NineKeysRound", "firstThatCannotBe", "(LNineKeysRound$Shelf;)I"⟩, 15)) (by decide +kernel)
theorem q_27 : Cond.selects "NineKeysRound" ⟨"NineKeysRound", "spare", "(LNineKeysRound$Shelf;I)I"⟩ ⟨"NineKeysRound", "spare", "(LNineKeysRound$Shelf;I)I"⟩ ∈ lw_tb := kp (n := 27) (q := (⟨"NineKeysRound", "spare", "(LNineKeysRound$Shelf;I)I"⟩, 15)) (by decide +kernel)
theorem q_28 : Cond.selects "NineKeysRound" ⟨"NineKeysRound", "slept", "(LNineKeysRound$Shelf;)I"⟩ ⟨"NineKeysRound", "slept", "(LNineKeysRound$Shelf;)I"⟩ ∈ lw_tb := kp (n := 28) (q := (⟨"NineKeysRound", "slept", "(LNineKeysRound$Shelf;)I"⟩, 15)) (by decide +kernel)
theorem q_29 : Cond.selects "NineKeysRound" ⟨"NineKeysRound", "whereMostSlept", "(LNineKeysRound$Shelf;)I"⟩ ⟨"NineKeysRound", "whereMostSlept", "(LNineKeysRound$Shelf;)I"⟩ ∈ lw_tb := kp (n := 29) (q := (⟨"NineKeysRound", "whereMostSlept", "(LNineKeysRound$Shelf;)I"⟩, 15)) (by decide +kernel)
theorem q_30 : Cond.selects "NineKeysRound" ⟨"NineKeysRound", "forged", "(LNineKeysRound$Shelf;)I"⟩ ⟨"NineKeysRound", "forged", "(LNineKeysRound$Shelf;)I"⟩ ∈ lw_tb := kp (n := 30) (q := (⟨"NineKeysRound", "forged", "(LNineKeysRound$Shelf;)I"⟩, 15)) (by decide +kernel)
theorem q_31 : Cond.selects "NineKeysRound" ⟨"NineKeysRound", "countFits", "(LNineKeysRound$Shelf;)I"⟩ ⟨"NineKeysRound", "countFits", "(LNineKeysRound$Shelf;)I"⟩ ∈ lw_tb := kp (n := 31) (q := (⟨"NineKeysRound", "countFits", "(LNineKeysRound$Shelf;)I"⟩, 15)) (by decide +kernel)
theorem q_32 : Cond.selects "NineKeysRound$Keys" ⟨"NineKeysRound$Keys", "runFrom", "(IIII)I"⟩ ⟨"NineKeysRound$Keys", "runFrom", "(IIII)I"⟩ ∈ lw_tb := kp (n := 32) (q := (⟨"NineKeysRound$Keys", "runFrom", "(IIII)I"⟩, 5)) (by decide +kernel)
theorem q_33 : Cond.selects "NineKeysRound$Keys" ⟨"NineKeysRound$Keys", "runBody", "(IIII)I"⟩ ⟨"NineKeysRound$Keys", "runBody", "(IIII)I"⟩ ∈ lw_tb := kp (n := 33) (q := (⟨"NineKeysRound$Keys", "runBody", "(IIII)I"⟩, 5)) (by decide +kernel)
theorem q_34 : Cond.selects "NineKeysRoundModel" ⟨"NineKeysRoundModel", "newPost", "(III)I"⟩ ⟨"NineKeysRoundModel", "newPost", "(III)I"⟩ ∈ lw_tb := kp (n := 34) (q := (⟨"NineKeysRoundModel", "newPost", "(III)I"⟩, 54)) (by decide +kernel)
theorem q_35 : Cond.selects "NineKeysRoundModel" ⟨"NineKeysRoundModel", "isOf", "(II)Z"⟩ ⟨"NineKeysRoundModel", "isOf", "(II)Z"⟩ ∈ lw_tb := kp (n := 35) (q := (⟨"NineKeysRoundModel", "isOf", "(II)Z"⟩, 54)) (by decide +kernel)
theorem q_36 : Cond.selects "NineKeysRoundModel" ⟨"NineKeysRoundModel", "isPost", "(J)Z"⟩ ⟨"NineKeysRoundModel", "isPost", "(J)Z"⟩ ∈ lw_tb := kp (n := 36) (q := (⟨"NineKeysRoundModel", "isPost", "(J)Z"⟩, 54)) (by decide +kernel)
theorem q_37 : Cond.selects "NineKeysRoundModel" ⟨"NineKeysRoundModel", "get", "(II)I"⟩ ⟨"NineKeysRoundModel", "get", "(II)I"⟩ ∈ lw_tb := kp (n := 37) (q := (⟨"NineKeysRoundModel", "get", "(II)I"⟩, 54)) (by decide +kernel)
theorem q_38 : Cond.selects "NineKeysRoundModel" ⟨"NineKeysRoundModel", "becomes", "(III)V"⟩ ⟨"NineKeysRoundModel", "becomes", "(III)V"⟩ ∈ lw_tb := kp (n := 38) (q := (⟨"NineKeysRoundModel", "becomes", "(III)V"⟩, 54)) (by decide +kernel)
theorem q_39 : Cond.selects "NineKeysRoundModel" ⟨"NineKeysRoundModel", "isLine", "()Z"⟩ ⟨"NineKeysRoundModel", "isLine", "()Z"⟩ ∈ lw_tb := kp (n := 39) (q := (⟨"NineKeysRoundModel", "isLine", "()Z"⟩, 54)) (by decide +kernel)
theorem q_40 : Cond.selects "NineKeysRoundModel" ⟨"NineKeysRoundModel", "isE", "()Z"⟩ ⟨"NineKeysRoundModel", "isE", "()Z"⟩ ∈ lw_tb := kp (n := 40) (q := (⟨"NineKeysRoundModel", "isE", "()Z"⟩, 54)) (by decide +kernel)
theorem q_41 : Cond.selects "NineKeysRoundModel" ⟨"NineKeysRoundModel", "isA", "()Z"⟩ ⟨"NineKeysRoundModel", "isA", "()Z"⟩ ∈ lw_tb := kp (n := 41) (q := (⟨"NineKeysRoundModel", "isA", "()Z"⟩, 54)) (by decide +kernel)
theorem q_42 : Cond.selects "NineKeysRoundModel" ⟨"NineKeysRoundModel", "isB", "()Z"⟩ ⟨"NineKeysRoundModel", "isB", "()Z"⟩ ∈ lw_tb := kp (n := 42) (q := (⟨"NineKeysRoundModel", "isB", "()Z"⟩, 54)) (by decide +kernel)
theorem q_43 : Cond.selects "NineKeysRoundModel" ⟨"NineKeysRoundModel", "isS", "()Z"⟩ ⟨"NineKeysRoundModel", "isS", "()Z"⟩ ∈ lw_tb := kp (n := 43) (q := (⟨"NineKeysRoundModel", "isS", "()Z"⟩, 54)) (by decide +kernel)
theorem q_44 : Cond.selects "NineKeysRoundModel" ⟨"NineKeysRoundModel", "isP", "()Z"⟩ ⟨"NineKeysRoundModel", "isP", "()Z"⟩ ∈ lw_tb := kp (n := 44) (q := (⟨"NineKeysRoundModel", "isP", "()Z"⟩, 54)) (by decide +kernel)
theorem q_45 : Cond.selects "NineKeysRoundModel" ⟨"NineKeysRoundModel", "isO", "()Z"⟩ ⟨"NineKeysRoundModel", "isO", "()Z"⟩ ∈ lw_tb := kp (n := 45) (q := (⟨"NineKeysRoundModel", "isO", "()Z"⟩, 54)) (by decide +kernel)
theorem q_46 : Cond.selects "NineKeysRoundModel" ⟨"NineKeysRoundModel", "isDigit", "()Z"⟩ ⟨"NineKeysRoundModel", "isDigit", "()Z"⟩ ∈ lw_tb := kp (n := 46) (q := (⟨"NineKeysRoundModel", "isDigit", "()Z"⟩, 54)) (by decide +kernel)
theorem q_47 : Cond.selects "NineKeysRoundModel" ⟨"NineKeysRoundModel", "sign", "()I"⟩ ⟨"NineKeysRoundModel", "sign", "()I"⟩ ∈ lw_tb := kp (n := 47) (q := (⟨"NineKeysRoundModel", "sign", "()I"⟩, 54)) (by decide +kernel)
theorem q_48 : Cond.selects "NineKeysRoundModel" ⟨"NineKeysRoundModel", "codes", "(I)Z"⟩ ⟨"NineKeysRoundModel", "codes", "(I)Z"⟩ ∈ lw_tb := kp (n := 48) (q := (⟨"NineKeysRoundModel", "codes", "(I)Z"⟩, 54)) (by decide +kernel)
theorem q_49 : Cond.selects "NineKeysRoundModel" ⟨"NineKeysRoundModel", "is", "(I)Z"⟩ ⟨"NineKeysRoundModel", "is", "(I)Z"⟩ ∈ lw_tb := kp (n := 49) (q := (⟨"NineKeysRoundModel", "is", "(I)Z"⟩, 54)) (by decide +kernel)
theorem q_50 : Cond.selects "NineKeysRoundModel" ⟨"NineKeysRoundModel", "noRow", "(II)I"⟩ ⟨"NineKeysRoundModel", "noRow", "(II)I"⟩ ∈ lw_tb := kp (n := 50) (q := (⟨"NineKeysRoundModel", "noRow", "(II)I"⟩, 54)) (by decide +kernel)
theorem q_51 : Cond.selects "NineKeysRoundModel" ⟨"NineKeysRoundModel", "reads", "(I)V"⟩ ⟨"NineKeysRoundModel", "reads", "(I)V"⟩ ∈ lw_tb := kp (n := 51) (q := (⟨"NineKeysRoundModel", "reads", "(I)V"⟩, 54)) (by decide +kernel)
theorem q_52 : Cond.selects "NineKeysRoundModel" ⟨"NineKeysRoundModel", "toldAt", "(II)I"⟩ ⟨"NineKeysRoundModel", "toldAt", "(II)I"⟩ ∈ lw_tb := kp (n := 52) (q := (⟨"NineKeysRoundModel", "toldAt", "(II)I"⟩, 54)) (by decide +kernel)
theorem q_53 : Cond.selects "NineKeysRoundModel" ⟨"NineKeysRoundModel", "oneRound", "()I"⟩ ⟨"NineKeysRoundModel", "oneRound", "()I"⟩ ∈ lw_tb := kp (n := 53) (q := (⟨"NineKeysRoundModel", "oneRound", "()I"⟩, 54)) (by decide +kernel)
theorem q_54 : Cond.selects "NineKeysRoundModel" ⟨"NineKeysRoundModel", "minutes", "(II)I"⟩ ⟨"NineKeysRoundModel", "minutes", "(II)I"⟩ ∈ lw_tb := kp (n := 54) (q := (⟨"NineKeysRoundModel", "minutes", "(II)I"⟩, 54)) (by decide +kernel)
theorem q_55 : Cond.selects "NineKeysRoundModel" ⟨"NineKeysRoundModel", "apart", "(II)I"⟩ ⟨"NineKeysRoundModel", "apart", "(II)I"⟩ ∈ lw_tb := kp (n := 55) (q := (⟨"NineKeysRoundModel", "apart", "(II)I"⟩, 54)) (by decide +kernel)
theorem q_56 : Cond.selects "NineKeysRoundModel" ⟨"NineKeysRoundModel", "xOf", "(I)I"⟩ ⟨"NineKeysRoundModel", "xOf", "(I)I"⟩ ∈ lw_tb := kp (n := 56) (q := (⟨"NineKeysRoundModel", "xOf", "(I)I"⟩, 54)) (by decide +kernel)
theorem q_57 : Cond.selects "NineKeysRoundModel" ⟨"NineKeysRoundModel", "yOf", "(I)I"⟩ ⟨"NineKeysRoundModel", "yOf", "(I)I"⟩ ∈ lw_tb := kp (n := 57) (q := (⟨"NineKeysRoundModel", "yOf", "(I)I"⟩, 54)) (by decide +kernel)
theorem q_58 : Cond.selects "NineKeysRoundModel" ⟨"NineKeysRoundModel", "walks", "(I)V"⟩ ⟨"NineKeysRoundModel", "walks", "(I)V"⟩ ∈ lw_tb := kp (n := 58) (q := (⟨"NineKeysRoundModel", "walks", "(I)V"⟩, 54)) (by decide +kernel)
theorem q_59 : Cond.selects "NineKeysRoundModel" ⟨"NineKeysRoundModel", "looks", "()V"⟩ ⟨"NineKeysRoundModel", "looks", "()V"⟩ ∈ lw_tb := kp (n := 59) (q := (⟨"NineKeysRoundModel", "looks", "()V"⟩, 54)) (by decide +kernel)
theorem q_60 : Cond.selects "NineKeysRoundModel" ⟨"NineKeysRoundModel", "unseenFor", "(II)I"⟩ ⟨"NineKeysRoundModel", "unseenFor", "(II)I"⟩ ∈ lw_tb := kp (n := 60) (q := (⟨"NineKeysRoundModel", "unseenFor", "(II)I"⟩, 54)) (by decide +kernel)
theorem q_61 : Cond.selects "NineKeysRoundModel" ⟨"NineKeysRoundModel", "isSeen", "(II)Z"⟩ ⟨"NineKeysRoundModel", "isSeen", "(II)Z"⟩ ∈ lw_tb := kp (n := 61) (q := (⟨"NineKeysRoundModel", "isSeen", "(II)Z"⟩, 54)) (by decide +kernel)
theorem q_62 : Cond.selects "NineKeysRoundModel" ⟨"NineKeysRoundModel", "loss", "(III)I"⟩ ⟨"NineKeysRoundModel", "loss", "(III)I"⟩ ∈ lw_tb := kp (n := 62) (q := (⟨"NineKeysRoundModel", "loss", "(III)I"⟩, 54)) (by decide +kernel)
theorem q_63 : Cond.selects "NineKeysRoundModel" ⟨"NineKeysRoundModel", "worked", "(II)I"⟩ ⟨"NineKeysRoundModel", "worked", "(II)I"⟩ ∈ lw_tb := kp (n := 63) (q := (⟨"NineKeysRoundModel", "worked", "(II)I"⟩, 54)) (by decide +kernel)
theorem q_64 : Cond.selects "NineKeysRoundModel" ⟨"NineKeysRoundModel", "gapOf", "(I)I"⟩ ⟨"NineKeysRoundModel", "gapOf", "(I)I"⟩ ∈ lw_tb := kp (n := 64) (q := (⟨"NineKeysRoundModel", "gapOf", "(I)I"⟩, 54)) (by decide +kernel)
theorem q_65 : Cond.selects "NineKeysRoundModel" ⟨"NineKeysRoundModel", "isSet", "(I)Z"⟩ ⟨"NineKeysRoundModel", "isSet", "(I)Z"⟩ ∈ lw_tb := kp (n := 65) (q := (⟨"NineKeysRoundModel", "isSet", "(I)Z"⟩, 54)) (by decide +kernel)
theorem q_66 : Cond.selects "NineKeysRoundModel" ⟨"NineKeysRoundModel", "shortestOf", "(I)I"⟩ ⟨"NineKeysRoundModel", "shortestOf", "(I)I"⟩ ∈ lw_tb := kp (n := 66) (q := (⟨"NineKeysRoundModel", "shortestOf", "(I)I"⟩, 54)) (by decide +kernel)
theorem q_67 : Cond.selects "NineKeysRoundModel" ⟨"NineKeysRoundModel", "took", "(I)I"⟩ ⟨"NineKeysRoundModel", "took", "(I)I"⟩ ∈ lw_tb := kp (n := 67) (q := (⟨"NineKeysRoundModel", "took", "(I)I"⟩, 54)) (by decide +kernel)
theorem q_68 : Cond.selects "NineKeysRoundModel" ⟨"NineKeysRoundModel", "nextOrder", "(I)Z"⟩ ⟨"NineKeysRoundModel", "nextOrder", "(I)Z"⟩ ∈ lw_tb := kp (n := 68) (q := (⟨"NineKeysRoundModel", "nextOrder", "(I)Z"⟩, 54)) (by decide +kernel)
theorem q_69 : Cond.selects "NineKeysRoundModel" ⟨"NineKeysRoundModel", "exchange", "(II)V"⟩ ⟨"NineKeysRoundModel", "exchange", "(II)V"⟩ ∈ lw_tb := kp (n := 69) (q := (⟨"NineKeysRoundModel", "exchange", "(II)V"⟩, 54)) (by decide +kernel)
theorem q_70 : Cond.selects "NineKeysRoundModel" ⟨"NineKeysRoundModel", "thiefAt", "(III)I"⟩ ⟨"NineKeysRoundModel", "thiefAt", "(III)I"⟩ ∈ lw_tb := kp (n := 70) (q := (⟨"NineKeysRoundModel", "thiefAt", "(III)I"⟩, 54)) (by decide +kernel)
theorem q_71 : Cond.selects "NineKeysRoundModel" ⟨"NineKeysRoundModel", "bestTwo", "()I"⟩ ⟨"NineKeysRoundModel", "bestTwo", "()I"⟩ ∈ lw_tb := kp (n := 71) (q := (⟨"NineKeysRoundModel", "bestTwo", "()I"⟩, 54)) (by decide +kernel)
theorem q_72 : Cond.selects "NineKeysRoundModel" ⟨"NineKeysRoundModel", "twoOf", "(II)I"⟩ ⟨"NineKeysRoundModel", "twoOf", "(II)I"⟩ ∈ lw_tb := kp (n := 72) (q := (⟨"NineKeysRoundModel", "twoOf", "(II)I"⟩, 54)) (by decide +kernel)
theorem q_73 : Cond.selects "NineKeysRoundModel" ⟨"NineKeysRoundModel", "bothWays", "(I)V"⟩ ⟨"NineKeysRoundModel", "bothWays", "(I)V"⟩ ∈ lw_tb := kp (n := 73) (q := (⟨"NineKeysRoundModel", "bothWays", "(I)V"⟩, 54)) (by decide +kernel)
theorem q_74 : Cond.selects "NineKeysRoundModel" ⟨"NineKeysRoundModel", "turns", "()V"⟩ ⟨"NineKeysRoundModel", "turns", "()V"⟩ ∈ lw_tb := kp (n := 74) (q := (⟨"NineKeysRoundModel", "turns", "()V"⟩, 54)) (by decide +kernel)
theorem q_75 : Cond.selects "NineKeysRoundModel" ⟨"NineKeysRoundModel", "succeeds", "(III)I"⟩ ⟨"NineKeysRoundModel", "succeeds", "(III)I"⟩ ∈ lw_tb := kp (n := 75) (q := (⟨"NineKeysRoundModel", "succeeds", "(III)I"⟩, 54)) (by decide +kernel)
theorem q_76 : Cond.selects "NineKeysRoundModel" ⟨"NineKeysRoundModel", "isFree", "(III)Z"⟩ ⟨"NineKeysRoundModel", "isFree", "(III)Z"⟩ ∈ lw_tb := kp (n := 76) (q := (⟨"NineKeysRoundModel", "isFree", "(III)Z"⟩, 54)) (by decide +kernel)
theorem q_77 : Cond.selects "NineKeysRoundModel" ⟨"NineKeysRoundModel", "bestMinute", "(II)I"⟩ ⟨"NineKeysRoundModel", "bestMinute", "(II)I"⟩ ∈ lw_tb := kp (n := 77) (q := (⟨"NineKeysRoundModel", "bestMinute", "(II)I"⟩, 54)) (by decide +kernel)
theorem q_78 : Cond.selects "NineKeysRoundModel" ⟨"NineKeysRoundModel", "later", "(II)I"⟩ ⟨"NineKeysRoundModel", "later", "(II)I"⟩ ∈ lw_tb := kp (n := 78) (q := (⟨"NineKeysRoundModel", "later", "(II)I"⟩, 54)) (by decide +kernel)
theorem q_79 : Cond.selects "NineKeysRoundModel" ⟨"NineKeysRoundModel", "isPaper", "(I)Z"⟩ ⟨"NineKeysRoundModel", "isPaper", "(I)Z"⟩ ∈ lw_tb := kp (n := 79) (q := (⟨"NineKeysRoundModel", "isPaper", "(I)Z"⟩, 54)) (by decide +kernel)
theorem q_80 : Cond.selects "NineKeysRoundModel" ⟨"NineKeysRoundModel", "apartFrom", "(II)I"⟩ ⟨"NineKeysRoundModel", "apartFrom", "(II)I"⟩ ∈ lw_tb := kp (n := 80) (q := (⟨"NineKeysRoundModel", "apartFrom", "(II)I"⟩, 54)) (by decide +kernel)
theorem q_81 : Cond.selects "NineKeysRoundModel" ⟨"NineKeysRoundModel", "nearest", "(I)I"⟩ ⟨"NineKeysRoundModel", "nearest", "(I)I"⟩ ∈ lw_tb := kp (n := 81) (q := (⟨"NineKeysRoundModel", "nearest", "(I)I"⟩, 54)) (by decide +kernel)
theorem q_82 : Cond.selects "NineKeysRoundModel" ⟨"NineKeysRoundModel", "turnsBy", "(III)I"⟩ ⟨"NineKeysRoundModel", "turnsBy", "(III)I"⟩ ∈ lw_tb := kp (n := 82) (q := (⟨"NineKeysRoundModel", "turnsBy", "(III)I"⟩, 54)) (by decide +kernel)
theorem q_83 : Cond.selects "NineKeysRoundModel" ⟨"NineKeysRoundModel", "ran", "(I)V"⟩ ⟨"NineKeysRoundModel", "ran", "(I)V"⟩ ∈ lw_tb := kp (n := 83) (q := (⟨"NineKeysRoundModel", "ran", "(I)V"⟩, 54)) (by decide +kernel)
theorem q_84 : Cond.selects "NineKeysRoundModel" ⟨"NineKeysRoundModel", "seesBy", "(III)I"⟩ ⟨"NineKeysRoundModel", "seesBy", "(III)I"⟩ ∈ lw_tb := kp (n := 84) (q := (⟨"NineKeysRoundModel", "seesBy", "(III)I"⟩, 54)) (by decide +kernel)
theorem q_85 : Cond.selects "NineKeysRoundModel" ⟨"NineKeysRoundModel", "fearsBy", "(III)I"⟩ ⟨"NineKeysRoundModel", "fearsBy", "(III)I"⟩ ∈ lw_tb := kp (n := 85) (q := (⟨"NineKeysRoundModel", "fearsBy", "(III)I"⟩, 54)) (by decide +kernel)
theorem q_86 : Cond.selects "NineKeysRoundModel" ⟨"NineKeysRoundModel", "tells", "(III)I"⟩ ⟨"NineKeysRoundModel", "tells", "(III)I"⟩ ∈ lw_tb := kp (n := 86) (q := (⟨"NineKeysRoundModel", "tells", "(III)I"⟩, 54)) (by decide +kernel)
theorem q_87 : Cond.selects "NineKeysRoundModel" ⟨"NineKeysRoundModel", "isRow", "(I)Z"⟩ ⟨"NineKeysRoundModel", "isRow", "(I)Z"⟩ ∈ lw_tb := kp (n := 87) (q := (⟨"NineKeysRoundModel", "isRow", "(I)Z"⟩, 54)) (by decide +kernel)
theorem u_all {C : String} {T : u_T} {N : Nat} (h : ∀ k, k < N → u_lay C T k ∈ lw_tb) : ∀ w ∈ u_ws C T N, w ∈ lw_tb := by
  intro w hw
  obtain ⟨k, hk, rfl⟩ := List.mem_map.mp hw
  exact h k (List.mem_range.mp hk)
theorem inX0 : ∀ w ∈ u_ws RX0 TX0 5, w ∈ lw_tb := u_all (fun k hk => match k, hk with
  | 0, _ => k_58
  | 1, _ => k_60
  | 2, _ => k_62
  | 3, _ => k_64
  | 4, _ => k_66
  | n + 5, hk => absurd hk (by omega))
theorem inX1 : ∀ w ∈ u_ws RX1 TX1 6, w ∈ lw_tb := u_all (fun k hk => match k, hk with
  | 0, _ => k_123
  | 1, _ => k_125
  | 2, _ => k_127
  | 3, _ => k_129
  | 4, _ => k_131
  | 5, _ => k_133
  | n + 6, hk => absurd hk (by omega))
theorem inX2 : ∀ w ∈ u_ws RX2 TX2 7, w ∈ lw_tb := u_all (fun k hk => match k, hk with
  | 0, _ => k_193
  | 1, _ => k_195
  | 2, _ => k_197
  | 3, _ => k_199
  | 4, _ => k_201
  | 5, _ => k_203
  | 6, _ => k_205
  | n + 7, hk => absurd hk (by omega))
theorem inX3 : ∀ w ∈ u_ws RX3 TX3 5, w ∈ lw_tb := u_all (fun k hk => match k, hk with
  | 0, _ => k_222
  | 1, _ => k_224
  | 2, _ => k_226
  | 3, _ => k_228
  | 4, _ => k_230
  | n + 5, hk => absurd hk (by omega))
theorem inX4 : ∀ w ∈ u_ws RX4 TX4 10, w ∈ lw_tb := u_all (fun k hk => match k, hk with
  | 0, _ => k_86
  | 1, _ => k_88
  | 2, _ => k_90
  | 3, _ => k_92
  | 4, _ => k_94
  | 5, _ => k_96
  | 6, _ => k_98
  | 7, _ => k_100
  | 8, _ => k_102
  | 9, _ => k_104
  | n + 10, hk => absurd hk (by omega))
theorem inX5 : ∀ w ∈ u_ws RX5 TX5 5, w ∈ lw_tb := u_all (fun k hk => match k, hk with
  | 0, _ => k_249
  | 1, _ => k_251
  | 2, _ => k_253
  | 3, _ => k_255
  | 4, _ => k_257
  | n + 5, hk => absurd hk (by omega))
theorem inX6 : ∀ w ∈ u_ws RX6 TX6 3, w ∈ lw_tb := u_all (fun k hk => match k, hk with
  | 0, _ => k_145
  | 1, _ => k_147
  | 2, _ => k_149
  | n + 3, hk => absurd hk (by omega))
theorem inX7 : ∀ w ∈ u_ws RX7 TX7 4, w ∈ lw_tb := u_all (fun k hk => match k, hk with
  | 0, _ => k_164
  | 1, _ => k_166
  | 2, _ => k_168
  | 3, _ => k_170
  | n + 4, hk => absurd hk (by omega))
theorem inX8 : ∀ w ∈ u_ws RX8 TX8 2, w ∈ lw_tb := u_all (fun k hk => match k, hk with
  | 0, _ => k_39
  | 1, _ => k_41
  | n + 2, hk => absurd hk (by omega))
theorem inX9 : ∀ w ∈ u_ws RX9 TX9 15, w ∈ lw_tb := u_all (fun k hk => match k, hk with
  | 0, _ => k_276
  | 1, _ => k_278
  | 2, _ => k_280
  | 3, _ => k_282
  | 4, _ => k_284
  | 5, _ => k_286
  | 6, _ => k_288
  | 7, _ => k_290
  | 8, _ => k_292
  | 9, _ => k_294
  | 10, _ => k_296
  | 11, _ => k_298
  | 12, _ => k_300
  | 13, _ => k_302
  | 14, _ => k_304
  | n + 15, hk => absurd hk (by omega))
theorem inX10 : ∀ w ∈ u_ws RX10 TX10 54, w ∈ lw_tb := u_all (fun k hk => match k, hk with
  | 0, _ => k_1115
  | 1, _ => k_1117
  | 2, _ => k_1119
  | 3, _ => k_1121
  | 4, _ => k_1123
  | 5, _ => k_1125
  | 6, _ => k_1127
  | 7, _ => k_1129
  | 8, _ => k_1131
  | 9, _ => k_1133
  | 10, _ => k_1135
  | 11, _ => k_1137
  | 12, _ => k_1139
  | 13, _ => k_1141
  | 14, _ => k_1143
  | 15, _ => k_1145
  | 16, _ => k_1147
  | 17, _ => k_1149
  | 18, _ => k_1151
  | 19, _ => k_1153
  | 20, _ => k_1155
  | 21, _ => k_1157
  | 22, _ => k_1159
  | 23, _ => k_1161
  | 24, _ => k_1163
  | 25, _ => k_1165
  | 26, _ => k_1167
  | 27, _ => k_1169
  | 28, _ => k_1171
  | 29, _ => k_1173
  | 30, _ => k_1175
  | 31, _ => k_1177
  | 32, _ => k_1179
  | 33, _ => k_1181
  | 34, _ => k_1183
  | 35, _ => k_1185
  | 36, _ => k_1187
  | 37, _ => k_1189
  | 38, _ => k_1191
  | 39, _ => k_1193
  | 40, _ => k_1195
  | 41, _ => k_1197
  | 42, _ => k_1199
  | 43, _ => k_1201
  | 44, _ => k_1203
  | 45, _ => k_1205
  | 46, _ => k_1207
  | 47, _ => k_1209
  | 48, _ => k_1211
  | 49, _ => k_1213
  | 50, _ => k_1215
  | 51, _ => k_1217
  | 52, _ => k_1219
  | 53, _ => k_1221
  | n + 54, hk => absurd hk (by omega))
