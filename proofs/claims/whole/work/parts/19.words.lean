theorem tU {ws : List Cond} (ps : List Nat) (h : ws = ps.filterMap (fun i => tables_1[i]?)) (hg : ws.all goodWord = true) : ∀ w ∈ ws, w ∈ tblG := by
  intro w hw
  have h1 := List.all_eq_true.mp hg w hw
  rw [h] at hw
  obtain ⟨i, -, hi⟩ := List.mem_filterMap.mp hw
  exact tG hi h1
theorem tG1 {i : Nat} {w : Cond} (h : tables_1_1[i]? = some w) (hg : goodWord w = true) : w ∈ tblG := List.mem_filter.mpr ⟨List.mem_append_right _ (List.mem_append_left _ (List.mem_of_getElem? h)), hg⟩
theorem tN1 {i : Nat} {w : Cond} (h : tables_1_1[i]? = some w) (hg : isNest w = true) : w ∈ tblN := List.mem_filter.mpr ⟨List.mem_append_left _ (List.mem_of_getElem? h), hg⟩
theorem tG2 {i : Nat} {w : Cond} (h : tables_1_2[i]? = some w) (hg : goodWord w = true) : w ∈ tblG := List.mem_filter.mpr ⟨List.mem_append_right _ (List.mem_append_right _ (List.mem_append_left _ (List.mem_of_getElem? h))), hg⟩
theorem tN2 {i : Nat} {w : Cond} (h : tables_1_2[i]? = some w) (hg : isNest w = true) : w ∈ tblN := List.mem_filter.mpr ⟨List.mem_append_right _ (List.mem_append_left _ (List.mem_of_getElem? h)), hg⟩
theorem tG3 {i : Nat} {w : Cond} (h : tables_1_3[i]? = some w) (hg : goodWord w = true) : w ∈ tblG := List.mem_filter.mpr ⟨List.mem_append_right _ (List.mem_append_right _ (List.mem_append_right _ (List.mem_append_left _ (List.mem_of_getElem? h)))), hg⟩
theorem tN3 {i : Nat} {w : Cond} (h : tables_1_3[i]? = some w) (hg : isNest w = true) : w ∈ tblN := List.mem_filter.mpr ⟨List.mem_append_right _ (List.mem_append_right _ (List.mem_append_left _ (List.mem_of_getElem? h))), hg⟩
theorem tG4 {i : Nat} {w : Cond} (h : tables_1_4[i]? = some w) (hg : goodWord w = true) : w ∈ tblG := List.mem_filter.mpr ⟨List.mem_append_right _ (List.mem_append_right _ (List.mem_append_right _ (List.mem_append_right _ (List.mem_append_left _ (List.mem_of_getElem? h))))), hg⟩
theorem tN4 {i : Nat} {w : Cond} (h : tables_1_4[i]? = some w) (hg : isNest w = true) : w ∈ tblN := List.mem_filter.mpr ⟨List.mem_append_right _ (List.mem_append_right _ (List.mem_append_right _ (List.mem_append_left _ (List.mem_of_getElem? h)))), hg⟩
theorem tG5 {i : Nat} {w : Cond} (h : tables_1_5[i]? = some w) (hg : goodWord w = true) : w ∈ tblG := List.mem_filter.mpr ⟨List.mem_append_right _ (List.mem_append_right _ (List.mem_append_right _ (List.mem_append_right _ (List.mem_append_right _ (List.mem_append_left _ (List.mem_of_getElem? h)))))), hg⟩
theorem tN5 {i : Nat} {w : Cond} (h : tables_1_5[i]? = some w) (hg : isNest w = true) : w ∈ tblN := List.mem_filter.mpr ⟨List.mem_append_right _ (List.mem_append_right _ (List.mem_append_right _ (List.mem_append_right _ (List.mem_append_left _ (List.mem_of_getElem? h))))), hg⟩
theorem tG6 {i : Nat} {w : Cond} (h : tables_1_6[i]? = some w) (hg : goodWord w = true) : w ∈ tblG := List.mem_filter.mpr ⟨List.mem_append_right _ (List.mem_append_right _ (List.mem_append_right _ (List.mem_append_right _ (List.mem_append_right _ (List.mem_append_right _ ((List.mem_of_getElem? h))))))), hg⟩
theorem tN6 {i : Nat} {w : Cond} (h : tables_1_6[i]? = some w) (hg : isNest w = true) : w ∈ tblN := List.mem_filter.mpr ⟨List.mem_append_right _ (List.mem_append_right _ (List.mem_append_right _ (List.mem_append_right _ (List.mem_append_right _ ((List.mem_of_getElem? h)))))), hg⟩
theorem tw_0 : (Cond.initialized "TownBandLaw") ∈ tblG := tG1 (i := 0) rfl rfl
theorem tw_1 : (Cond.initialized "TownBand") ∈ tblG := tG1 (i := 1) rfl rfl
theorem tw_2 : (Cond.initialized "TownBand$Players") ∈ tblG := tG1 (i := 2) rfl rfl
theorem tw_3 : (Cond.initialized "java/util/Arrays") ∈ tblG := tG1 (i := 3) rfl rfl
theorem tw_4 : (Cond.initialized "TownBand$Library") ∈ tblG := tG1 (i := 4) rfl rfl
theorem tw_5 : (Cond.initialized "TownBand$Piece") ∈ tblG := tG1 (i := 5) rfl rfl
theorem tw_6 : (Cond.initialized "TownBand$Tape") ∈ tblG := tG1 (i := 6) rfl rfl
theorem tw_7 : (Cond.initialized "TownBand$Rule") ∈ tblG := tG1 (i := 7) rfl rfl
theorem tw_8 : (Cond.initialized "TownBand$Loans") ∈ tblG := tG1 (i := 8) rfl rfl
theorem tw_9 : (Cond.initialized "TownBand$Cover") ∈ tblG := tG1 (i := 9) rfl rfl
theorem tw_10 : (Cond.initialized "TownBand$Seater") ∈ tblG := tG1 (i := 10) rfl rfl
theorem tw_11 : (Cond.initialized "TownBand$Planner") ∈ tblG := tG1 (i := 11) rfl rfl
theorem tw_12 : (Cond.initialized "TownBandModel") ∈ tblG := tG1 (i := 12) rfl rfl
theorem tw_13 : (Cond.initialized "java/lang/String") ∈ tblG := tG1 (i := 13) rfl rfl
theorem tw_14 : (Cond.initialized "java/lang/StringLatin1") ∈ tblG := tG1 (i := 14) rfl rfl
theorem tw_15 : (Cond.initialized "jdk/internal/util/Preconditions") ∈ tblG := tG1 (i := 15) rfl rfl
theorem tw_16 : (Cond.initialized "java/lang/StringUTF16") ∈ tblG := tG1 (i := 16) rfl rfl
theorem tw_17 : (Cond.initialized "java/lang/Integer") ∈ tblG := tG1 (i := 17) rfl rfl
theorem tw_18 : (Cond.initialized "java/lang/Math") ∈ tblG := tG1 (i := 18) rfl rfl
theorem tw_19 : (Cond.classLink "TownBandLaw" (7 : Nat) "TownBand") ∈ tblG := tG1 (i := 19) rfl rfl
theorem tw_20 : (Cond.instantiable "TownBand" (8 : Nat)) ∈ tblG := tG1 (i := 20) rfl rfl
theorem tw_21 : (Cond.methodLink "TownBandLaw" (9 : Nat) ({ cls := "TownBand", name := "<init>", desc := "()V" } : MethodName)) ∈ tblG := tG1 (i := 21) rfl rfl
theorem tw_22 : (Cond.instanceMethod ({ cls := "TownBand", name := "<init>", desc := "()V" } : MethodName)) ∈ tblG := tG1 (i := 22) rfl rfl
theorem tw_23 : (Cond.code ({ cls := "TownBand", name := "<init>", desc := "()V" } : MethodName) prog_1_method_1_code (1 : Nat) (Option.none : Option FieldType)) ∈ tblG := tG1 (i := 23) rfl rfl
theorem tw_24 : (Cond.methodLink "TownBand" (3 : Nat) ({ cls := "java/lang/Object", name := "<init>", desc := "()V" } : MethodName)) ∈ tblG := tG1 (i := 24) rfl rfl
theorem tw_25 : (Cond.instanceMethod ({ cls := "java/lang/Object", name := "<init>", desc := "()V" } : MethodName)) ∈ tblG := tG1 (i := 25) rfl rfl
theorem tw_26 : (Cond.code ({ cls := "java/lang/Object", name := "<init>", desc := "()V" } : MethodName) object_method_1_code (1 : Nat) (Option.none : Option FieldType)) ∈ tblG := tG1 (i := 26) rfl rfl
theorem tw_27 : (Cond.classLink "TownBand" (9 : Nat) "TownBand$Players") ∈ tblG := tG1 (i := 27) rfl rfl
theorem tw_28 : (Cond.instantiable "TownBand$Players" (6 : Nat)) ∈ tblG := tG1 (i := 28) rfl rfl
theorem tw_29 : (Cond.methodLinkNest "TownBand" (11 : Nat) ({ cls := "TownBand$Players", name := "<init>", desc := "()V" } : MethodName) "TownBand") ∈ tblN := tN1 (i := 29) rfl rfl
theorem tw_30 : (Cond.instanceMethod ({ cls := "TownBand$Players", name := "<init>", desc := "()V" } : MethodName)) ∈ tblG := tG1 (i := 30) rfl rfl
theorem tw_31 : (Cond.code ({ cls := "TownBand$Players", name := "<init>", desc := "()V" } : MethodName) prog_7_method_1_code (1 : Nat) (Option.none : Option FieldType)) ∈ tblG := tG1 (i := 31) rfl rfl
theorem tw_32 : (Cond.methodLink "TownBand$Players" (3 : Nat) ({ cls := "java/lang/Object", name := "<init>", desc := "()V" } : MethodName)) ∈ tblG := tG1 (i := 32) rfl rfl
theorem tw_33 : (Cond.methodLink "TownBand$Players" (24 : Nat) ({ cls := "java/util/Arrays", name := "fill", desc := "([II)V" } : MethodName)) ∈ tblG := tG1 (i := 33) rfl rfl
theorem tw_34 : (Cond.static ({ cls := "java/util/Arrays", name := "fill", desc := "([II)V" } : MethodName)) ∈ tblG := tG1 (i := 34) rfl rfl
theorem tw_35 : (Cond.code ({ cls := "java/util/Arrays", name := "fill", desc := "([II)V" } : MethodName) prog_18_method_103_code (4 : Nat) (Option.none : Option FieldType)) ∈ tblG := tG1 (i := 35) rfl rfl
theorem tw_36 : (Cond.fieldLink "TownBand$Players" (9 : Nat) "TownBand$Players" "ages" "[I") ∈ tblG := tG1 (i := 36) rfl rfl
theorem tw_37 : (Cond.fieldLinkNest "TownBand" (228 : Nat) "TownBand$Players" "ages" "[I" "TownBand") ∈ tblN := tN1 (i := 37) rfl rfl
theorem tw_38 : (Cond.fieldLink "TownBand$Players" (15 : Nat) "TownBand$Players" "joinedDays" "[I") ∈ tblG := tG1 (i := 38) rfl rfl
theorem tw_39 : (Cond.fieldLinkNest "TownBand" (237 : Nat) "TownBand$Players" "joinedDays" "[I" "TownBand") ∈ tblN := tN1 (i := 39) rfl rfl
theorem tw_40 : (Cond.fieldLink "TownBand$Players" (18 : Nat) "TownBand$Players" "contests" "[I") ∈ tblG := tG1 (i := 40) rfl rfl
theorem tw_41 : (Cond.fieldLinkNest "TownBand" (231 : Nat) "TownBand$Players" "contests" "[I" "TownBand") ∈ tblN := tN1 (i := 41) rfl rfl
theorem tw_42 : (Cond.fieldLink "TownBand$Players" (21 : Nat) "TownBand$Players" "costs" "[I") ∈ tblG := tG1 (i := 42) rfl rfl
theorem tw_43 : (Cond.fieldLink "TownBand$Players" (30 : Nat) "TownBand$Players" "size" "I") ∈ tblG := tG1 (i := 43) rfl rfl
theorem tw_44 : (Cond.fieldLinkNest "TownBand$Seater" (39 : Nat) "TownBand$Players" "size" "I" "TownBand") ∈ tblN := tN1 (i := 44) rfl rfl
theorem tw_45 : (Cond.fieldLinkNest "TownBand" (247 : Nat) "TownBand$Players" "size" "I" "TownBand") ∈ tblN := tN1 (i := 45) rfl rfl
theorem tw_46 : (Cond.fieldLink "TownBand$Players" (34 : Nat) "TownBand$Players" "present" "I") ∈ tblG := tG1 (i := 46) rfl rfl
theorem tw_47 : (Cond.fieldLinkNest "TownBand" (248 : Nat) "TownBand$Players" "present" "I" "TownBand") ∈ tblN := tN1 (i := 47) rfl rfl
theorem tw_61 : (Cond.arrayClass FieldType.int) ∈ tblG := tG1 (i := 61) rfl rfl
theorem tw_62 : (Cond.classLink "TownBand" (16 : Nat) "TownBand$Library") ∈ tblG := tG1 (i := 62) rfl rfl
theorem tw_63 : (Cond.instantiable "TownBand$Library" (3 : Nat)) ∈ tblG := tG1 (i := 63) rfl rfl
theorem tw_64 : (Cond.methodLinkNest "TownBand" (18 : Nat) ({ cls := "TownBand$Library", name := "<init>", desc := "()V" } : MethodName) "TownBand") ∈ tblN := tN1 (i := 64) rfl rfl
theorem tw_65 : (Cond.instanceMethod ({ cls := "TownBand$Library", name := "<init>", desc := "()V" } : MethodName)) ∈ tblG := tG1 (i := 65) rfl rfl
theorem tw_66 : (Cond.code ({ cls := "TownBand$Library", name := "<init>", desc := "()V" } : MethodName) prog_3_method_1_code (2 : Nat) (Option.none : Option FieldType)) ∈ tblG := tG1 (i := 66) rfl rfl
theorem tw_67 : (Cond.methodLink "TownBand$Library" (3 : Nat) ({ cls := "java/lang/Object", name := "<init>", desc := "()V" } : MethodName)) ∈ tblG := tG1 (i := 67) rfl rfl
theorem tw_68 : (Cond.classLink "TownBand$Library" (9 : Nat) "TownBand$Piece") ∈ tblG := tG1 (i := 68) rfl rfl
theorem tw_70 : (Cond.instantiable "TownBand$Piece" (9 : Nat)) ∈ tblG := tG1 (i := 70) rfl rfl
theorem tw_71 : (Cond.methodLinkNest "TownBand$Library" (17 : Nat) ({ cls := "TownBand$Piece", name := "<init>", desc := "()V" } : MethodName) "TownBand") ∈ tblN := tN1 (i := 71) rfl rfl
theorem tw_72 : (Cond.instanceMethod ({ cls := "TownBand$Piece", name := "<init>", desc := "()V" } : MethodName)) ∈ tblG := tG1 (i := 72) rfl rfl
theorem tw_73 : (Cond.code ({ cls := "TownBand$Piece", name := "<init>", desc := "()V" } : MethodName) prog_5_method_1_code (1 : Nat) (Option.none : Option FieldType)) ∈ tblG := tG1 (i := 73) rfl rfl
theorem tw_74 : (Cond.methodLink "TownBand$Piece" (3 : Nat) ({ cls := "java/lang/Object", name := "<init>", desc := "()V" } : MethodName)) ∈ tblG := tG1 (i := 74) rfl rfl
theorem tw_75 : (Cond.fieldLink "TownBand$Piece" (9 : Nat) "TownBand$Piece" "choices" "[I") ∈ tblG := tG1 (i := 75) rfl rfl
theorem tw_76 : (Cond.fieldLinkNest "TownBand$Players" (37 : Nat) "TownBand$Piece" "choices" "[I" "TownBand") ∈ tblN := tN1 (i := 76) rfl rfl
theorem tw_77 : (Cond.fieldLink "TownBand$Piece" (15 : Nat) "TownBand$Piece" "instruments" "[I") ∈ tblG := tG1 (i := 77) rfl rfl
theorem tw_78 : (Cond.fieldLink "TownBand$Piece" (18 : Nat) "TownBand$Piece" "chairs" "[I") ∈ tblG := tG1 (i := 78) rfl rfl
theorem tw_79 : (Cond.fieldLinkNest "TownBand$Seater" (77 : Nat) "TownBand$Piece" "chairs" "[I" "TownBand") ∈ tblN := tN1 (i := 79) rfl rfl
theorem tw_80 : (Cond.fieldLinkNest "TownBand$Players" (60 : Nat) "TownBand$Piece" "chairs" "[I" "TownBand") ∈ tblN := tN1 (i := 80) rfl rfl
theorem tw_81 : (Cond.fieldLinkNest "TownBand" (170 : Nat) "TownBand$Piece" "chairs" "[I" "TownBand") ∈ tblN := tN1 (i := 81) rfl rfl
theorem tw_82 : (Cond.fieldLinkNest "TownBand$Library" (58 : Nat) "TownBand$Piece" "name" "I" "TownBand") ∈ tblN := tN1 (i := 82) rfl rfl
theorem tw_83 : (Cond.fieldLinkNest "TownBand$Planner" (37 : Nat) "TownBand$Piece" "minutes" "I" "TownBand") ∈ tblN := tN1 (i := 83) rfl rfl
theorem tw_84 : (Cond.fieldLinkNest "TownBand$Library" (68 : Nat) "TownBand$Piece" "minutes" "I" "TownBand") ∈ tblN := tN1 (i := 84) rfl rfl
theorem tw_85 : (Cond.fieldLink "TownBand$Piece" (38 : Nat) "TownBand$Piece" "minutes" "I") ∈ tblG := tG1 (i := 85) rfl rfl
theorem tw_86 : (Cond.fieldLinkNest "TownBand$Planner" (41 : Nat) "TownBand$Piece" "lips" "I" "TownBand") ∈ tblN := tN1 (i := 86) rfl rfl
theorem tw_87 : (Cond.fieldLinkNest "TownBand$Library" (71 : Nat) "TownBand$Piece" "lips" "I" "TownBand") ∈ tblN := tN1 (i := 87) rfl rfl
theorem tw_88 : (Cond.fieldLink "TownBand$Piece" (41 : Nat) "TownBand$Piece" "lips" "I") ∈ tblG := tG1 (i := 88) rfl rfl
theorem tw_89 : (Cond.fieldLinkNest "TownBand$Planner" (43 : Nat) "TownBand$Piece" "key" "I" "TownBand") ∈ tblN := tN1 (i := 89) rfl rfl
theorem tw_90 : (Cond.fieldLinkNest "TownBand$Library" (74 : Nat) "TownBand$Piece" "key" "I" "TownBand") ∈ tblN := tN1 (i := 90) rfl rfl
theorem tw_91 : (Cond.fieldLink "TownBand$Piece" (44 : Nat) "TownBand$Piece" "key" "I") ∈ tblG := tG1 (i := 91) rfl rfl
theorem tw_92 : (Cond.fieldLink "TownBand$Piece" (21 : Nat) "TownBand$Piece" "parts" "I") ∈ tblG := tG1 (i := 92) rfl rfl
theorem tw_93 : (Cond.fieldLinkNest "TownBand$Seater" (33 : Nat) "TownBand$Piece" "parts" "I" "TownBand") ∈ tblN := tN1 (i := 93) rfl rfl
theorem tw_94 : (Cond.fieldLinkNest "TownBand$Cover" (31 : Nat) "TownBand$Piece" "parts" "I" "TownBand") ∈ tblN := tN1 (i := 94) rfl rfl
theorem tw_95 : (Cond.fieldLinkNest "TownBand$Library" (105 : Nat) "TownBand$Piece" "parts" "I" "TownBand") ∈ tblN := tN1 (i := 95) rfl rfl
theorem tw_96 : (Cond.fieldLinkNest "TownBand$Players" (57 : Nat) "TownBand$Piece" "parts" "I" "TownBand") ∈ tblN := tN1 (i := 96) rfl rfl
theorem tw_97 : (Cond.fieldLink "TownBand$Piece" (25 : Nat) "TownBand$Piece" "mustSet" "I") ∈ tblG := tG1 (i := 97) rfl rfl
theorem tw_98 : (Cond.fieldLinkNest "TownBand$Cover" (60 : Nat) "TownBand$Piece" "mustSet" "I" "TownBand") ∈ tblN := tN1 (i := 98) rfl rfl
theorem tw_118 : (Cond.fieldLink "TownBand$Library" (11 : Nat) "TownBand$Library" "slots" "[LTownBand$Piece;") ∈ tblG := tG1 (i := 118) rfl rfl
theorem tw_119 : (Cond.fieldLink "TownBand$Library" (18 : Nat) "TownBand$Library" "size" "I") ∈ tblG := tG1 (i := 119) rfl rfl
theorem tw_120 : (Cond.fieldLinkNest "TownBand" (110 : Nat) "TownBand$Library" "size" "I" "TownBand") ∈ tblN := tN1 (i := 120) rfl rfl
theorem tw_121 : (Cond.fieldLink "TownBand$Library" (22 : Nat) "TownBand$Library" "told" "I") ∈ tblG := tG1 (i := 121) rfl rfl
theorem tw_129 : (Cond.classLink "TownBand" (23 : Nat) "TownBand$Tape") ∈ tblG := tG1 (i := 129) rfl rfl
theorem tw_130 : (Cond.instantiable "TownBand$Tape" (10 : Nat)) ∈ tblG := tG1 (i := 130) rfl rfl
theorem tw_131 : (Cond.methodLinkNest "TownBand" (25 : Nat) ({ cls := "TownBand$Tape", name := "<init>", desc := "()V" } : MethodName) "TownBand") ∈ tblN := tN1 (i := 131) rfl rfl
theorem tw_132 : (Cond.instanceMethod ({ cls := "TownBand$Tape", name := "<init>", desc := "()V" } : MethodName)) ∈ tblG := tG1 (i := 132) rfl rfl
theorem tw_133 : (Cond.code ({ cls := "TownBand$Tape", name := "<init>", desc := "()V" } : MethodName) prog_10_method_1_code (1 : Nat) (Option.none : Option FieldType)) ∈ tblG := tG1 (i := 133) rfl rfl
theorem tw_134 : (Cond.methodLink "TownBand$Tape" (3 : Nat) ({ cls := "java/lang/Object", name := "<init>", desc := "()V" } : MethodName)) ∈ tblG := tG1 (i := 134) rfl rfl
theorem tw_135 : (Cond.fieldLink "TownBand$Tape" (9 : Nat) "TownBand$Tape" "bytes" "[I") ∈ tblG := tG1 (i := 135) rfl rfl
theorem tw_136 : (Cond.fieldLink "TownBand$Tape" (22 : Nat) "TownBand$Tape" "length" "I") ∈ tblG := tG1 (i := 136) rfl rfl
theorem tw_137 : (Cond.fieldLinkNest "TownBand" (102 : Nat) "TownBand$Tape" "length" "I" "TownBand") ∈ tblN := tN1 (i := 137) rfl rfl
theorem tw_138 : (Cond.fieldLink "TownBand$Tape" (25 : Nat) "TownBand$Tape" "longestNumber" "I") ∈ tblG := tG1 (i := 138) rfl rfl
theorem tw_139 : (Cond.fieldLink "TownBand$Tape" (28 : Nat) "TownBand$Tape" "next" "I") ∈ tblG := tG1 (i := 139) rfl rfl
theorem tw_140 : (Cond.fieldLink "TownBand$Tape" (15 : Nat) "TownBand$Tape" "kind" "I") ∈ tblG := tG1 (i := 140) rfl rfl
theorem tw_141 : (Cond.fieldLinkNest "TownBand$Rule" (35 : Nat) "TownBand$Tape" "kind" "I" "TownBand") ∈ tblN := tN1 (i := 141) rfl rfl
theorem tw_142 : (Cond.fieldLinkNest "TownBand$Library" (77 : Nat) "TownBand$Tape" "kind" "I" "TownBand") ∈ tblN := tN1 (i := 142) rfl rfl
theorem tw_143 : (Cond.fieldLink "TownBand$Tape" (44 : Nat) "TownBand$Tape" "place" "I") ∈ tblG := tG1 (i := 143) rfl rfl
theorem tw_144 : (Cond.fieldLinkNest "TownBand$Library" (84 : Nat) "TownBand$Tape" "value" "I" "TownBand") ∈ tblN := tN1 (i := 144) rfl rfl
theorem tw_145 : (Cond.fieldLink "TownBand$Tape" (47 : Nat) "TownBand$Tape" "value" "I") ∈ tblG := tG1 (i := 145) rfl rfl
theorem tw_146 : (Cond.fieldLinkNest "TownBand$Rule" (69 : Nat) "TownBand$Tape" "value" "I" "TownBand") ∈ tblN := tN1 (i := 146) rfl rfl
theorem tw_147 : (Cond.fieldLink "TownBand$Tape" (31 : Nat) "TownBand$Tape" "tokens" "I") ∈ tblG := tG1 (i := 147) rfl rfl
theorem tw_148 : (Cond.fieldLinkNest "TownBand" (129 : Nat) "TownBand$Tape" "tokens" "I" "TownBand") ∈ tblN := tN1 (i := 148) rfl rfl
theorem tw_149 : (Cond.fieldLink "TownBand$Tape" (34 : Nat) "TownBand$Tape" "faultKind" "I") ∈ tblG := tG1 (i := 149) rfl rfl
theorem tw_150 : (Cond.fieldLinkNest "TownBand" (132 : Nat) "TownBand$Tape" "faultKind" "I" "TownBand") ∈ tblN := tN1 (i := 150) rfl rfl
theorem tw_151 : (Cond.fieldLink "TownBand$Tape" (19 : Nat) "TownBand$Tape" "faultPlace" "I") ∈ tblG := tG1 (i := 151) rfl rfl
theorem tw_152 : (Cond.fieldLinkNest "TownBand" (135 : Nat) "TownBand$Tape" "faultPlace" "I" "TownBand") ∈ tblN := tN1 (i := 152) rfl rfl
theorem tw_174 : (Cond.classLink "TownBand" (30 : Nat) "TownBand$Rule") ∈ tblG := tG1 (i := 174) rfl rfl
theorem tw_175 : (Cond.instantiable "TownBand$Rule" (7 : Nat)) ∈ tblG := tG1 (i := 175) rfl rfl
theorem tw_176 : (Cond.methodLinkNest "TownBand" (32 : Nat) ({ cls := "TownBand$Rule", name := "<init>", desc := "()V" } : MethodName) "TownBand") ∈ tblN := tN1 (i := 176) rfl rfl
theorem tw_177 : (Cond.instanceMethod ({ cls := "TownBand$Rule", name := "<init>", desc := "()V" } : MethodName)) ∈ tblG := tG1 (i := 177) rfl rfl
theorem tw_178 : (Cond.code ({ cls := "TownBand$Rule", name := "<init>", desc := "()V" } : MethodName) prog_8_method_1_code (1 : Nat) (Option.none : Option FieldType)) ∈ tblG := tG1 (i := 178) rfl rfl
theorem tw_179 : (Cond.methodLink "TownBand$Rule" (3 : Nat) ({ cls := "java/lang/Object", name := "<init>", desc := "()V" } : MethodName)) ∈ tblG := tG1 (i := 179) rfl rfl
theorem tw_180 : (Cond.fieldLink "TownBand$Rule" (11 : Nat) "TownBand$Rule" "facts" "[I") ∈ tblG := tG1 (i := 180) rfl rfl
theorem tw_181 : (Cond.fieldLink "TownBand$Rule" (15 : Nat) "TownBand$Rule" "stack" "[I") ∈ tblG := tG1 (i := 181) rfl rfl
theorem tw_182 : (Cond.fieldLink "TownBand$Rule" (18 : Nat) "TownBand$Rule" "steps" "[I") ∈ tblG := tG1 (i := 182) rfl rfl
theorem tw_183 : (Cond.fieldLink "TownBand$Rule" (21 : Nat) "TownBand$Rule" "draft" "[I") ∈ tblG := tG1 (i := 183) rfl rfl
theorem tw_184 : (Cond.fieldLink "TownBand$Rule" (28 : Nat) "TownBand$Rule" "size" "I") ∈ tblG := tG1 (i := 184) rfl rfl
theorem tw_185 : (Cond.fieldLink "TownBand$Rule" (24 : Nat) "TownBand$Rule" "drafted" "I") ∈ tblG := tG1 (i := 185) rfl rfl
theorem tw_186 : (Cond.fieldLink "TownBand$Rule" (86 : Nat) "TownBand$Rule" "top" "I") ∈ tblG := tG1 (i := 186) rfl rfl
theorem tw_202 : (Cond.classLink "TownBand" (37 : Nat) "TownBand$Loans") ∈ tblG := tG1 (i := 202) rfl rfl
theorem tw_203 : (Cond.instantiable "TownBand$Loans" (6 : Nat)) ∈ tblG := tG1 (i := 203) rfl rfl
theorem tw_204 : (Cond.methodLinkNest "TownBand" (39 : Nat) ({ cls := "TownBand$Loans", name := "<init>", desc := "()V" } : MethodName) "TownBand") ∈ tblN := tN1 (i := 204) rfl rfl
theorem tw_205 : (Cond.instanceMethod ({ cls := "TownBand$Loans", name := "<init>", desc := "()V" } : MethodName)) ∈ tblG := tG1 (i := 205) rfl rfl
theorem tw_206 : (Cond.code ({ cls := "TownBand$Loans", name := "<init>", desc := "()V" } : MethodName) prog_4_method_1_code (1 : Nat) (Option.none : Option FieldType)) ∈ tblG := tG1 (i := 206) rfl rfl
theorem tw_207 : (Cond.methodLink "TownBand$Loans" (3 : Nat) ({ cls := "java/lang/Object", name := "<init>", desc := "()V" } : MethodName)) ∈ tblG := tG1 (i := 207) rfl rfl
theorem tw_208 : (Cond.fieldLink "TownBand$Loans" (9 : Nat) "TownBand$Loans" "copyOf" "[I") ∈ tblG := tG1 (i := 208) rfl rfl
theorem tw_209 : (Cond.fieldLink "TownBand$Loans" (15 : Nat) "TownBand$Loans" "dayOf" "[I") ∈ tblG := tG1 (i := 209) rfl rfl
theorem tw_210 : (Cond.fieldLink "TownBand$Loans" (18 : Nat) "TownBand$Loans" "thereOf" "[I") ∈ tblG := tG1 (i := 210) rfl rfl
theorem tw_211 : (Cond.fieldLink "TownBand$Loans" (21 : Nat) "TownBand$Loans" "latestDay" "[I") ∈ tblG := tG1 (i := 211) rfl rfl
theorem tw_212 : (Cond.fieldLink "TownBand$Loans" (24 : Nat) "TownBand$Loans" "latestPlace" "[I") ∈ tblG := tG1 (i := 212) rfl rfl
theorem tw_213 : (Cond.fieldLink "TownBand$Loans" (27 : Nat) "TownBand$Loans" "size" "I") ∈ tblG := tG1 (i := 213) rfl rfl
theorem tw_214 : (Cond.fieldLinkNest "TownBand" (218 : Nat) "TownBand$Loans" "size" "I" "TownBand") ∈ tblN := tN1 (i := 214) rfl rfl
theorem tw_228 : (Cond.classLink "TownBand" (44 : Nat) "TownBand$Cover") ∈ tblG := tG1 (i := 228) rfl rfl
theorem tw_229 : (Cond.instantiable "TownBand$Cover" (4 : Nat)) ∈ tblG := tG1 (i := 229) rfl rfl
theorem tw_230 : (Cond.methodLinkNest "TownBand" (46 : Nat) ({ cls := "TownBand$Cover", name := "<init>", desc := "()V" } : MethodName) "TownBand") ∈ tblN := tN1 (i := 230) rfl rfl
theorem tw_231 : (Cond.instanceMethod ({ cls := "TownBand$Cover", name := "<init>", desc := "()V" } : MethodName)) ∈ tblG := tG1 (i := 231) rfl rfl
theorem tw_232 : (Cond.code ({ cls := "TownBand$Cover", name := "<init>", desc := "()V" } : MethodName) prog_2_method_1_code (1 : Nat) (Option.none : Option FieldType)) ∈ tblG := tG1 (i := 232) rfl rfl
theorem tw_233 : (Cond.methodLink "TownBand$Cover" (3 : Nat) ({ cls := "java/lang/Object", name := "<init>", desc := "()V" } : MethodName)) ∈ tblG := tG1 (i := 233) rfl rfl
theorem tw_234 : (Cond.fieldLink "TownBand$Cover" (9 : Nat) "TownBand$Cover" "able" "[I") ∈ tblG := tG1 (i := 234) rfl rfl
theorem tw_235 : (Cond.fieldLink "TownBand$Cover" (15 : Nat) "TownBand$Cover" "partOf" "[I") ∈ tblG := tG1 (i := 235) rfl rfl
theorem tw_236 : (Cond.fieldLink "TownBand$Cover" (18 : Nat) "TownBand$Cover" "ableForSet" "[I") ∈ tblG := tG1 (i := 236) rfl rfl
theorem tw_237 : (Cond.fieldLink "TownBand$Cover" (37 : Nat) "TownBand$Cover" "asked" "I") ∈ tblG := tG1 (i := 237) rfl rfl
theorem tw_247 : (Cond.classLink "TownBand" (51 : Nat) "TownBand$Seater") ∈ tblG := tG2 (i := 7) rfl rfl
theorem tw_248 : (Cond.instantiable "TownBand$Seater" (7 : Nat)) ∈ tblG := tG2 (i := 8) rfl rfl
theorem tw_249 : (Cond.methodLinkNest "TownBand" (53 : Nat) ({ cls := "TownBand$Seater", name := "<init>", desc := "()V" } : MethodName) "TownBand") ∈ tblN := tN2 (i := 9) rfl rfl
theorem tw_250 : (Cond.instanceMethod ({ cls := "TownBand$Seater", name := "<init>", desc := "()V" } : MethodName)) ∈ tblG := tG2 (i := 10) rfl rfl
theorem tw_251 : (Cond.code ({ cls := "TownBand$Seater", name := "<init>", desc := "()V" } : MethodName) prog_9_method_1_code (1 : Nat) (Option.none : Option FieldType)) ∈ tblG := tG2 (i := 11) rfl rfl
theorem tw_252 : (Cond.methodLink "TownBand$Seater" (7 : Nat) ({ cls := "java/lang/Object", name := "<init>", desc := "()V" } : MethodName)) ∈ tblG := tG2 (i := 12) rfl rfl
theorem tw_253 : (Cond.fieldLink "TownBand$Seater" (13 : Nat) "TownBand$Seater" "weights" "[J") ∈ tblG := tG2 (i := 13) rfl rfl
theorem tw_254 : (Cond.fieldLink "TownBand$Seater" (17 : Nat) "TownBand$Seater" "rowPrice" "[J") ∈ tblG := tG2 (i := 14) rfl rfl
theorem tw_255 : (Cond.fieldLink "TownBand$Seater" (20 : Nat) "TownBand$Seater" "columnPrice" "[J") ∈ tblG := tG2 (i := 15) rfl rfl
theorem tw_256 : (Cond.fieldLink "TownBand$Seater" (23 : Nat) "TownBand$Seater" "slack" "[J") ∈ tblG := tG2 (i := 16) rfl rfl
theorem tw_257 : (Cond.fieldLink "TownBand$Seater" (26 : Nat) "TownBand$Seater" "rowOf" "[I") ∈ tblG := tG2 (i := 17) rfl rfl
theorem tw_258 : (Cond.fieldLink "TownBand$Seater" (30 : Nat) "TownBand$Seater" "cameFrom" "[I") ∈ tblG := tG2 (i := 18) rfl rfl
theorem tw_259 : (Cond.fieldLink "TownBand$Seater" (85 : Nat) "TownBand$Seater" "columns" "I") ∈ tblG := tG2 (i := 19) rfl rfl
theorem tw_275 : (Cond.arrayClass FieldType.long) ∈ tblG := tG2 (i := 35) rfl rfl
theorem tw_276 : (Cond.classLink "TownBand" (58 : Nat) "TownBand$Planner") ∈ tblG := tG2 (i := 36) rfl rfl
theorem tw_277 : (Cond.instantiable "TownBand$Planner" (9 : Nat)) ∈ tblG := tG2 (i := 37) rfl rfl
theorem tw_278 : (Cond.methodLinkNest "TownBand" (60 : Nat) ({ cls := "TownBand$Planner", name := "<init>", desc := "()V" } : MethodName) "TownBand") ∈ tblN := tN2 (i := 38) rfl rfl
theorem tw_279 : (Cond.instanceMethod ({ cls := "TownBand$Planner", name := "<init>", desc := "()V" } : MethodName)) ∈ tblG := tG2 (i := 39) rfl rfl
theorem tw_280 : (Cond.code ({ cls := "TownBand$Planner", name := "<init>", desc := "()V" } : MethodName) prog_6_method_1_code (1 : Nat) (Option.none : Option FieldType)) ∈ tblG := tG2 (i := 40) rfl rfl
theorem tw_281 : (Cond.methodLink "TownBand$Planner" (5 : Nat) ({ cls := "java/lang/Object", name := "<init>", desc := "()V" } : MethodName)) ∈ tblG := tG2 (i := 41) rfl rfl
theorem tw_282 : (Cond.fieldLink "TownBand$Planner" (11 : Nat) "TownBand$Planner" "row" "[I") ∈ tblG := tG2 (i := 42) rfl rfl
theorem tw_283 : (Cond.fieldLinkNest "TownBand" (202 : Nat) "TownBand$Planner" "row" "[I" "TownBand") ∈ tblN := tN2 (i := 43) rfl rfl
theorem tw_284 : (Cond.fieldLink "TownBand$Planner" (88 : Nat) "TownBand$Planner" "planned" "I") ∈ tblG := tG2 (i := 44) rfl rfl
theorem tw_285 : (Cond.fieldLinkNest "TownBand" (199 : Nat) "TownBand$Planner" "planned" "I" "TownBand") ∈ tblN := tN2 (i := 45) rfl rfl
theorem tw_286 : (Cond.fieldLink "TownBand$Planner" (91 : Nat) "TownBand$Planner" "rowStrain" "I") ∈ tblG := tG2 (i := 46) rfl rfl
theorem tw_287 : (Cond.fieldLinkNest "TownBand" (205 : Nat) "TownBand$Planner" "rowStrain" "I" "TownBand") ∈ tblN := tN2 (i := 47) rfl rfl
theorem tw_288 : (Cond.fieldLink "TownBand$Planner" (17 : Nat) "TownBand$Planner" "number" "[I") ∈ tblG := tG2 (i := 48) rfl rfl
theorem tw_289 : (Cond.fieldLink "TownBand$Planner" (20 : Nat) "TownBand$Planner" "minutes" "[I") ∈ tblG := tG2 (i := 49) rfl rfl
theorem tw_290 : (Cond.fieldLink "TownBand$Planner" (23 : Nat) "TownBand$Planner" "lips" "[I") ∈ tblG := tG2 (i := 50) rfl rfl
theorem tw_291 : (Cond.fieldLink "TownBand$Planner" (26 : Nat) "TownBand$Planner" "key" "[I") ∈ tblG := tG2 (i := 51) rfl rfl
theorem tw_292 : (Cond.fieldLink "TownBand$Planner" (33 : Nat) "TownBand$Planner" "choices" "I") ∈ tblG := tG2 (i := 52) rfl rfl
theorem tw_293 : (Cond.fieldLink "TownBand$Planner" (29 : Nat) "TownBand$Planner" "best" "[J") ∈ tblG := tG2 (i := 53) rfl rfl
theorem tw_313 : (Cond.fieldLink "TownBand" (12 : Nat) "TownBand" "players" "LTownBand$Players;") ∈ tblG := tG2 (i := 73) rfl rfl
theorem tw_314 : (Cond.fieldLink "TownBand" (19 : Nat) "TownBand" "library" "LTownBand$Library;") ∈ tblG := tG2 (i := 74) rfl rfl
theorem tw_315 : (Cond.fieldLink "TownBand" (26 : Nat) "TownBand" "tape" "LTownBand$Tape;") ∈ tblG := tG2 (i := 75) rfl rfl
theorem tw_316 : (Cond.fieldLink "TownBand" (33 : Nat) "TownBand" "contestRule" "LTownBand$Rule;") ∈ tblG := tG2 (i := 76) rfl rfl
theorem tw_317 : (Cond.fieldLink "TownBand" (40 : Nat) "TownBand" "loans" "LTownBand$Loans;") ∈ tblG := tG2 (i := 77) rfl rfl
theorem tw_318 : (Cond.fieldLink "TownBand" (47 : Nat) "TownBand" "cover" "LTownBand$Cover;") ∈ tblG := tG2 (i := 78) rfl rfl
theorem tw_319 : (Cond.fieldLink "TownBand" (54 : Nat) "TownBand" "seater" "LTownBand$Seater;") ∈ tblG := tG2 (i := 79) rfl rfl
theorem tw_320 : (Cond.fieldLink "TownBand" (61 : Nat) "TownBand" "planner" "LTownBand$Planner;") ∈ tblG := tG2 (i := 80) rfl rfl
theorem tw_338 : (Cond.methodLink "TownBandLaw" (13 : Nat) ({ cls := "TownBand", name := "player", desc := "(II)I" } : MethodName)) ∈ tblG := tG2 (i := 98) rfl rfl
theorem tw_339 : (Cond.instanceMethod ({ cls := "TownBand", name := "player", desc := "(II)I" } : MethodName)) ∈ tblG := tG2 (i := 99) rfl rfl
theorem tw_340 : (Cond.selects "TownBand" ({ cls := "TownBand", name := "player", desc := "(II)I" } : MethodName) ({ cls := "TownBand", name := "player", desc := "(II)I" } : MethodName)) ∈ tblG := tG2 (i := 100) rfl rfl
theorem tw_341 : (Cond.code ({ cls := "TownBand", name := "player", desc := "(II)I" } : MethodName) prog_1_method_2_code (3 : Nat) (Option.some FieldType.int)) ∈ tblG := tG2 (i := 101) rfl rfl
theorem tw_342 : (Cond.methodLink "TownBand" (65 : Nat) ({ cls := "TownBand", name := "isWithin", desc := "(III)Z" } : MethodName)) ∈ tblG := tG2 (i := 102) rfl rfl
theorem tw_343 : (Cond.static ({ cls := "TownBand", name := "isWithin", desc := "(III)Z" } : MethodName)) ∈ tblG := tG2 (i := 103) rfl rfl
theorem tw_344 : (Cond.code ({ cls := "TownBand", name := "isWithin", desc := "(III)Z" } : MethodName) prog_1_method_30_code (3 : Nat) (Option.some FieldType.boolean)) ∈ tblG := tG2 (i := 104) rfl rfl
theorem tw_345 : (Cond.methodLink "TownBand" (69 : Nat) ({ cls := "TownBand", name := "isDay", desc := "(I)Z" } : MethodName)) ∈ tblG := tG2 (i := 105) rfl rfl
theorem tw_346 : (Cond.static ({ cls := "TownBand", name := "isDay", desc := "(I)Z" } : MethodName)) ∈ tblG := tG2 (i := 106) rfl rfl
theorem tw_347 : (Cond.code ({ cls := "TownBand", name := "isDay", desc := "(I)Z" } : MethodName) prog_1_method_31_code (1 : Nat) (Option.some FieldType.boolean)) ∈ tblG := tG2 (i := 107) rfl rfl
theorem tw_348 : (Cond.methodLinkNest "TownBand" (73 : Nat) ({ cls := "TownBand$Players", name := "join", desc := "(II)I" } : MethodName) "TownBand") ∈ tblN := tN2 (i := 108) rfl rfl
theorem tw_350 : (Cond.instanceMethod ({ cls := "TownBand$Players", name := "join", desc := "(II)I" } : MethodName)) ∈ tblG := tG2 (i := 110) rfl rfl
theorem tw_351 : (Cond.code ({ cls := "TownBand$Players", name := "join", desc := "(II)I" } : MethodName) prog_7_method_3_code (3 : Nat) (Option.some FieldType.int)) ∈ tblG := tG2 (i := 111) rfl rfl
theorem tw_352 : (Cond.methodLink "TownBandLaw" (18 : Nat) ({ cls := "TownBand", name := "plays", desc := "(III)Z" } : MethodName)) ∈ tblG := tG2 (i := 112) rfl rfl
theorem tw_353 : (Cond.instanceMethod ({ cls := "TownBand", name := "plays", desc := "(III)Z" } : MethodName)) ∈ tblG := tG2 (i := 113) rfl rfl
theorem tw_354 : (Cond.selects "TownBand" ({ cls := "TownBand", name := "plays", desc := "(III)Z" } : MethodName) ({ cls := "TownBand", name := "plays", desc := "(III)Z" } : MethodName)) ∈ tblG := tG2 (i := 114) rfl rfl
theorem tw_355 : (Cond.code ({ cls := "TownBand", name := "plays", desc := "(III)Z" } : MethodName) prog_1_method_3_code (4 : Nat) (Option.some FieldType.boolean)) ∈ tblG := tG2 (i := 115) rfl rfl
theorem tw_356 : (Cond.methodLinkNest "TownBand" (77 : Nat) ({ cls := "TownBand$Players", name := "has", desc := "(I)Z" } : MethodName) "TownBand") ∈ tblN := tN2 (i := 116) rfl rfl
theorem tw_358 : (Cond.instanceMethod ({ cls := "TownBand$Players", name := "has", desc := "(I)Z" } : MethodName)) ∈ tblG := tG2 (i := 118) rfl rfl
theorem tw_359 : (Cond.code ({ cls := "TownBand$Players", name := "has", desc := "(I)Z" } : MethodName) prog_7_method_2_code (2 : Nat) (Option.some FieldType.boolean)) ∈ tblG := tG2 (i := 119) rfl rfl
theorem tw_360 : (Cond.methodLink "TownBand" (80 : Nat) ({ cls := "TownBand", name := "isInstrument", desc := "(I)Z" } : MethodName)) ∈ tblG := tG2 (i := 120) rfl rfl
theorem tw_361 : (Cond.static ({ cls := "TownBand", name := "isInstrument", desc := "(I)Z" } : MethodName)) ∈ tblG := tG2 (i := 121) rfl rfl
theorem tw_362 : (Cond.code ({ cls := "TownBand", name := "isInstrument", desc := "(I)Z" } : MethodName) prog_1_method_32_code (1 : Nat) (Option.some FieldType.boolean)) ∈ tblG := tG2 (i := 122) rfl rfl
theorem tw_363 : (Cond.methodLinkNest "TownBand" (83 : Nat) ({ cls := "TownBand$Players", name := "learn", desc := "(III)V" } : MethodName) "TownBand") ∈ tblN := tN2 (i := 123) rfl rfl
theorem tw_365 : (Cond.instanceMethod ({ cls := "TownBand$Players", name := "learn", desc := "(III)V" } : MethodName)) ∈ tblG := tG2 (i := 125) rfl rfl
theorem tw_366 : (Cond.code ({ cls := "TownBand$Players", name := "learn", desc := "(III)V" } : MethodName) prog_7_method_4_code (4 : Nat) (Option.none : Option FieldType)) ∈ tblG := tG2 (i := 126) rfl rfl
theorem tw_367 : (Cond.methodLink "TownBandLaw" (23 : Nat) ({ cls := "TownBand", name := "cost", desc := "(II)I" } : MethodName)) ∈ tblG := tG2 (i := 127) rfl rfl
theorem tw_368 : (Cond.instanceMethod ({ cls := "TownBand", name := "cost", desc := "(II)I" } : MethodName)) ∈ tblG := tG2 (i := 128) rfl rfl
theorem tw_369 : (Cond.selects "TownBand" ({ cls := "TownBand", name := "cost", desc := "(II)I" } : MethodName) ({ cls := "TownBand", name := "cost", desc := "(II)I" } : MethodName)) ∈ tblG := tG2 (i := 129) rfl rfl
theorem tw_370 : (Cond.code ({ cls := "TownBand", name := "cost", desc := "(II)I" } : MethodName) prog_1_method_4_code (3 : Nat) (Option.some FieldType.int)) ∈ tblG := tG2 (i := 130) rfl rfl
theorem tw_371 : (Cond.methodLinkNest "TownBand" (87 : Nat) ({ cls := "TownBand$Players", name := "costOf", desc := "(II)I" } : MethodName) "TownBand") ∈ tblN := tN2 (i := 131) rfl rfl
theorem tw_373 : (Cond.instanceMethod ({ cls := "TownBand$Players", name := "costOf", desc := "(II)I" } : MethodName)) ∈ tblG := tG2 (i := 133) rfl rfl
theorem tw_374 : (Cond.code ({ cls := "TownBand$Players", name := "costOf", desc := "(II)I" } : MethodName) prog_7_method_5_code (3 : Nat) (Option.some FieldType.int)) ∈ tblG := tG2 (i := 134) rfl rfl
theorem tw_375 : (Cond.methodLink "TownBandLaw" (27 : Nat) ({ cls := "TownBand", name := "here", desc := "(IZ)Z" } : MethodName)) ∈ tblG := tG2 (i := 135) rfl rfl
theorem tw_376 : (Cond.instanceMethod ({ cls := "TownBand", name := "here", desc := "(IZ)Z" } : MethodName)) ∈ tblG := tG2 (i := 136) rfl rfl
theorem tw_377 : (Cond.selects "TownBand" ({ cls := "TownBand", name := "here", desc := "(IZ)Z" } : MethodName) ({ cls := "TownBand", name := "here", desc := "(IZ)Z" } : MethodName)) ∈ tblG := tG2 (i := 137) rfl rfl
theorem tw_378 : (Cond.code ({ cls := "TownBand", name := "here", desc := "(IZ)Z" } : MethodName) prog_1_method_5_code (3 : Nat) (Option.some FieldType.boolean)) ∈ tblG := tG2 (i := 138) rfl rfl
theorem tw_379 : (Cond.methodLinkNest "TownBand" (90 : Nat) ({ cls := "TownBand$Players", name := "mark", desc := "(IZ)V" } : MethodName) "TownBand") ∈ tblN := tN2 (i := 139) rfl rfl
theorem tw_381 : (Cond.instanceMethod ({ cls := "TownBand$Players", name := "mark", desc := "(IZ)V" } : MethodName)) ∈ tblG := tG2 (i := 141) rfl rfl
theorem tw_382 : (Cond.code ({ cls := "TownBand$Players", name := "mark", desc := "(IZ)V" } : MethodName) prog_7_method_6_code (4 : Nat) (Option.none : Option FieldType)) ∈ tblG := tG2 (i := 142) rfl rfl
theorem tw_383 : (Cond.methodLink "TownBandLaw" (32 : Nat) ({ cls := "TownBand", name := "feed", desc := "(IIIII)I" } : MethodName)) ∈ tblG := tG2 (i := 143) rfl rfl
theorem tw_384 : (Cond.instanceMethod ({ cls := "TownBand", name := "feed", desc := "(IIIII)I" } : MethodName)) ∈ tblG := tG2 (i := 144) rfl rfl
theorem tw_385 : (Cond.selects "TownBand" ({ cls := "TownBand", name := "feed", desc := "(IIIII)I" } : MethodName) ({ cls := "TownBand", name := "feed", desc := "(IIIII)I" } : MethodName)) ∈ tblG := tG2 (i := 145) rfl rfl
theorem tw_386 : (Cond.code ({ cls := "TownBand", name := "feed", desc := "(IIIII)I" } : MethodName) prog_1_method_6_code (6 : Nat) (Option.some FieldType.int)) ∈ tblG := tG2 (i := 146) rfl rfl
theorem tw_387 : (Cond.methodLinkNest "TownBand" (94 : Nat) ({ cls := "TownBand$Tape", name := "hasRoom", desc := "()Z" } : MethodName) "TownBand") ∈ tblN := tN2 (i := 147) rfl rfl
theorem tw_389 : (Cond.instanceMethod ({ cls := "TownBand$Tape", name := "hasRoom", desc := "()Z" } : MethodName)) ∈ tblG := tG2 (i := 149) rfl rfl
theorem tw_390 : (Cond.code ({ cls := "TownBand$Tape", name := "hasRoom", desc := "()Z" } : MethodName) prog_10_method_2_code (1 : Nat) (Option.some FieldType.boolean)) ∈ tblG := tG2 (i := 150) rfl rfl
theorem tw_391 : (Cond.methodLinkNest "TownBand" (98 : Nat) ({ cls := "TownBand$Tape", name := "append", desc := "(I)V" } : MethodName) "TownBand") ∈ tblN := tN2 (i := 151) rfl rfl
theorem tw_393 : (Cond.instanceMethod ({ cls := "TownBand$Tape", name := "append", desc := "(I)V" } : MethodName)) ∈ tblG := tG2 (i := 153) rfl rfl
theorem tw_394 : (Cond.code ({ cls := "TownBand$Tape", name := "append", desc := "(I)V" } : MethodName) prog_10_method_3_code (3 : Nat) (Option.none : Option FieldType)) ∈ tblG := tG2 (i := 154) rfl rfl
theorem tw_395 : (Cond.methodLink "TownBandLaw" (37 : Nat) ({ cls := "TownBand", name := "end", desc := "(I)I" } : MethodName)) ∈ tblG := tG2 (i := 155) rfl rfl
theorem tw_396 : (Cond.instanceMethod ({ cls := "TownBand", name := "end", desc := "(I)I" } : MethodName)) ∈ tblG := tG2 (i := 156) rfl rfl
theorem tw_397 : (Cond.selects "TownBand" ({ cls := "TownBand", name := "end", desc := "(I)I" } : MethodName) ({ cls := "TownBand", name := "end", desc := "(I)I" } : MethodName)) ∈ tblG := tG2 (i := 157) rfl rfl
theorem tw_398 : (Cond.code ({ cls := "TownBand", name := "end", desc := "(I)I" } : MethodName) prog_1_method_7_code (2 : Nat) (Option.some FieldType.int)) ∈ tblG := tG2 (i := 158) rfl rfl
theorem tw_399 : (Cond.methodLink "TownBandLaw" (42 : Nat) ({ cls := "TownBand", name := "load", desc := "()I" } : MethodName)) ∈ tblG := tG2 (i := 159) rfl rfl
theorem tw_400 : (Cond.instanceMethod ({ cls := "TownBand", name := "load", desc := "()I" } : MethodName)) ∈ tblG := tG2 (i := 160) rfl rfl
theorem tw_401 : (Cond.selects "TownBand" ({ cls := "TownBand", name := "load", desc := "()I" } : MethodName) ({ cls := "TownBand", name := "load", desc := "()I" } : MethodName)) ∈ tblG := tG2 (i := 161) rfl rfl
theorem tw_402 : (Cond.code ({ cls := "TownBand", name := "load", desc := "()I" } : MethodName) prog_1_method_8_code (1 : Nat) (Option.some FieldType.int)) ∈ tblG := tG2 (i := 162) rfl rfl
theorem tw_403 : (Cond.methodLinkNest "TownBand" (106 : Nat) ({ cls := "TownBand$Library", name := "readText", desc := "(LTownBand$Tape;)Z" } : MethodName) "TownBand") ∈ tblN := tN2 (i := 163) rfl rfl
theorem tw_405 : (Cond.instanceMethod ({ cls := "TownBand$Library", name := "readText", desc := "(LTownBand$Tape;)Z" } : MethodName)) ∈ tblG := tG2 (i := 165) rfl rfl
theorem tw_406 : (Cond.code ({ cls := "TownBand$Library", name := "readText", desc := "(LTownBand$Tape;)Z" } : MethodName) prog_3_method_3_code (3 : Nat) (Option.some FieldType.boolean)) ∈ tblG := tG2 (i := 166) rfl rfl
theorem tw_407 : (Cond.methodLinkNest "TownBand$Library" (25 : Nat) ({ cls := "TownBand$Tape", name := "begin", desc := "(I)V" } : MethodName) "TownBand") ∈ tblN := tN2 (i := 167) rfl rfl
theorem tw_409 : (Cond.instanceMethod ({ cls := "TownBand$Tape", name := "begin", desc := "(I)V" } : MethodName)) ∈ tblG := tG2 (i := 169) rfl rfl
theorem tw_410 : (Cond.code ({ cls := "TownBand$Tape", name := "begin", desc := "(I)V" } : MethodName) prog_10_method_4_code (2 : Nat) (Option.none : Option FieldType)) ∈ tblG := tG2 (i := 170) rfl rfl
theorem tw_411 : (Cond.methodLink "TownBand$Tape" (37 : Nat) ({ cls := "TownBand$Tape", name := "advance", desc := "()V" } : MethodName)) ∈ tblG := tG2 (i := 171) rfl rfl
theorem tw_413 : (Cond.instanceMethod ({ cls := "TownBand$Tape", name := "advance", desc := "()V" } : MethodName)) ∈ tblG := tG2 (i := 173) rfl rfl
theorem tw_414 : (Cond.code ({ cls := "TownBand$Tape", name := "advance", desc := "()V" } : MethodName) prog_10_method_7_code (1 : Nat) (Option.none : Option FieldType)) ∈ tblG := tG2 (i := 174) rfl rfl
theorem tw_416 : (Cond.methodLinkNest "TownBand$Library" (33 : Nat) ({ cls := "TownBand$Tape", name := "reads", desc := "(Ljava/lang/String;)Z" } : MethodName) "TownBand") ∈ tblN := tN2 (i := 176) rfl rfl
theorem tw_418 : (Cond.instanceMethod ({ cls := "TownBand$Tape", name := "reads", desc := "(Ljava/lang/String;)Z" } : MethodName)) ∈ tblG := tG2 (i := 178) rfl rfl
theorem tw_419 : (Cond.code ({ cls := "TownBand$Tape", name := "reads", desc := "(Ljava/lang/String;)Z" } : MethodName) prog_10_method_9_code (3 : Nat) (Option.some FieldType.boolean)) ∈ tblG := tG2 (i := 179) rfl rfl
theorem tw_420 : (Cond.methodLink "TownBand$Tape" (50 : Nat) ({ cls := "java/lang/String", name := "length", desc := "()I" } : MethodName)) ∈ tblG := tG2 (i := 180) rfl rfl
theorem tw_421 : (Cond.instanceMethod ({ cls := "java/lang/String", name := "length", desc := "()I" } : MethodName)) ∈ tblG := tG2 (i := 181) rfl rfl
theorem tw_422 : (Cond.selects "java/lang/String" ({ cls := "java/lang/String", name := "length", desc := "()I" } : MethodName) ({ cls := "java/lang/String", name := "length", desc := "()I" } : MethodName)) ∈ tblG := tG2 (i := 182) rfl rfl
theorem tw_423 : (Cond.code ({ cls := "java/lang/String", name := "length", desc := "()I" } : MethodName) prog_15_method_54_code (1 : Nat) (Option.some FieldType.int)) ∈ tblG := tG2 (i := 183) rfl rfl
theorem tw_424 : (Cond.methodLink "java/lang/String" (335 : Nat) ({ cls := "java/lang/String", name := "coder", desc := "()B" } : MethodName)) ∈ tblG := tG2 (i := 184) rfl rfl
theorem tw_425 : (Cond.instanceMethod ({ cls := "java/lang/String", name := "coder", desc := "()B" } : MethodName)) ∈ tblG := tG2 (i := 185) rfl rfl
theorem tw_426 : (Cond.selects "java/lang/String" ({ cls := "java/lang/String", name := "coder", desc := "()B" } : MethodName) ({ cls := "java/lang/String", name := "coder", desc := "()B" } : MethodName)) ∈ tblG := tG2 (i := 186) rfl rfl
theorem tw_427 : (Cond.code ({ cls := "java/lang/String", name := "coder", desc := "()B" } : MethodName) prog_15_method_152_code (1 : Nat) (Option.some FieldType.byte)) ∈ tblG := tG2 (i := 187) rfl rfl
theorem tw_428 : (Cond.fieldLink "java/lang/String" (38 : Nat) "java/lang/String" "COMPACT_STRINGS" "Z") ∈ tblG := tG2 (i := 188) rfl rfl
theorem tw_430 : (Cond.methodLink "TownBand$Tape" (55 : Nat) ({ cls := "java/lang/String", name := "charAt", desc := "(I)C" } : MethodName)) ∈ tblG := tG2 (i := 190) rfl rfl
theorem tw_431 : (Cond.instanceMethod ({ cls := "java/lang/String", name := "charAt", desc := "(I)C" } : MethodName)) ∈ tblG := tG2 (i := 191) rfl rfl
theorem tw_432 : (Cond.selects "java/lang/String" ({ cls := "java/lang/String", name := "charAt", desc := "(I)C" } : MethodName) ({ cls := "java/lang/String", name := "charAt", desc := "(I)C" } : MethodName)) ∈ tblG := tG2 (i := 192) rfl rfl
theorem tw_433 : (Cond.code ({ cls := "java/lang/String", name := "charAt", desc := "(I)C" } : MethodName) prog_15_method_56_code (2 : Nat) (Option.some FieldType.char)) ∈ tblG := tG2 (i := 193) rfl rfl
theorem tw_434 : (Cond.methodLink "java/lang/String" (492 : Nat) ({ cls := "java/lang/String", name := "isLatin1", desc := "()Z" } : MethodName)) ∈ tblG := tG2 (i := 194) rfl rfl
theorem tw_435 : (Cond.instanceMethod ({ cls := "java/lang/String", name := "isLatin1", desc := "()Z" } : MethodName)) ∈ tblG := tG2 (i := 195) rfl rfl
theorem tw_436 : (Cond.selects "java/lang/String" ({ cls := "java/lang/String", name := "isLatin1", desc := "()Z" } : MethodName) ({ cls := "java/lang/String", name := "isLatin1", desc := "()Z" } : MethodName)) ∈ tblG := tG2 (i := 196) rfl rfl
theorem tw_437 : (Cond.code ({ cls := "java/lang/String", name := "isLatin1", desc := "()Z" } : MethodName) prog_15_method_154_code (1 : Nat) (Option.some FieldType.boolean)) ∈ tblG := tG2 (i := 197) rfl rfl
theorem tw_438 : (Cond.methodLink "java/lang/String" (495 : Nat) ({ cls := "java/lang/StringLatin1", name := "charAt", desc := "([BI)C" } : MethodName)) ∈ tblG := tG2 (i := 198) rfl rfl
theorem tw_439 : (Cond.static ({ cls := "java/lang/StringLatin1", name := "charAt", desc := "([BI)C" } : MethodName)) ∈ tblG := tG2 (i := 199) rfl rfl
theorem tw_440 : (Cond.code ({ cls := "java/lang/StringLatin1", name := "charAt", desc := "([BI)C" } : MethodName) prog_16_method_2_code (2 : Nat) (Option.some FieldType.char)) ∈ tblG := tG2 (i := 200) rfl rfl
theorem tw_441 : (Cond.methodLink "java/lang/StringLatin1" (9 : Nat) ({ cls := "java/lang/String", name := "checkIndex", desc := "(II)V" } : MethodName)) ∈ tblG := tG2 (i := 201) rfl rfl
theorem tw_442 : (Cond.static ({ cls := "java/lang/String", name := "checkIndex", desc := "(II)V" } : MethodName)) ∈ tblG := tG2 (i := 202) rfl rfl
theorem tw_443 : (Cond.code ({ cls := "java/lang/String", name := "checkIndex", desc := "(II)V" } : MethodName) prog_15_method_155_code (2 : Nat) (Option.none : Option FieldType)) ∈ tblG := tG2 (i := 203) rfl rfl
theorem tw_444 : (Cond.fieldLink "java/lang/String" (1053 : Nat) "jdk/internal/util/Preconditions" "SIOOBE_FORMATTER" "Ljava/util/function/BiFunction;") ∈ tblG := tG2 (i := 204) rfl rfl
theorem tw_446 : (Cond.methodLink "java/lang/String" (1059 : Nat) ({ cls := "jdk/internal/util/Preconditions", name := "checkIndex", desc := "(IILjava/util/function/BiFunction;)I" } : MethodName)) ∈ tblG := tG2 (i := 206) rfl rfl
theorem tw_447 : (Cond.static ({ cls := "jdk/internal/util/Preconditions", name := "checkIndex", desc := "(IILjava/util/function/BiFunction;)I" } : MethodName)) ∈ tblG := tG2 (i := 207) rfl rfl
theorem tw_448 : (Cond.code ({ cls := "jdk/internal/util/Preconditions", name := "checkIndex", desc := "(IILjava/util/function/BiFunction;)I" } : MethodName) prog_19_method_11_code (3 : Nat) (Option.some FieldType.int)) ∈ tblG := tG2 (i := 208) rfl rfl
theorem tw_449 : (Cond.methodLink "java/lang/String" (498 : Nat) ({ cls := "java/lang/StringUTF16", name := "charAt", desc := "([BI)C" } : MethodName)) ∈ tblG := tG2 (i := 209) rfl rfl
theorem tw_450 : (Cond.static ({ cls := "java/lang/StringUTF16", name := "charAt", desc := "([BI)C" } : MethodName)) ∈ tblG := tG2 (i := 210) rfl rfl
theorem tw_451 : (Cond.code ({ cls := "java/lang/StringUTF16", name := "charAt", desc := "([BI)C" } : MethodName) prog_17_method_83_code (2 : Nat) (Option.some FieldType.char)) ∈ tblG := tG2 (i := 211) rfl rfl
theorem tw_452 : (Cond.methodLink "java/lang/StringUTF16" (67 : Nat) ({ cls := "java/lang/StringUTF16", name := "checkIndex", desc := "(I[B)V" } : MethodName)) ∈ tblG := tG2 (i := 212) rfl rfl
theorem tw_453 : (Cond.static ({ cls := "java/lang/StringUTF16", name := "checkIndex", desc := "(I[B)V" } : MethodName)) ∈ tblG := tG2 (i := 213) rfl rfl
theorem tw_454 : (Cond.code ({ cls := "java/lang/StringUTF16", name := "checkIndex", desc := "(I[B)V" } : MethodName) prog_17_method_91_code (2 : Nat) (Option.none : Option FieldType)) ∈ tblG := tG2 (i := 214) rfl rfl
theorem tw_455 : (Cond.methodLink "java/lang/StringUTF16" (48 : Nat) ({ cls := "java/lang/StringUTF16", name := "length", desc := "([B)I" } : MethodName)) ∈ tblG := tG2 (i := 215) rfl rfl
theorem tw_456 : (Cond.static ({ cls := "java/lang/StringUTF16", name := "length", desc := "([B)I" } : MethodName)) ∈ tblG := tG2 (i := 216) rfl rfl
theorem tw_457 : (Cond.code ({ cls := "java/lang/StringUTF16", name := "length", desc := "([B)I" } : MethodName) prog_17_method_6_code (1 : Nat) (Option.some FieldType.int)) ∈ tblG := tG2 (i := 217) rfl rfl
theorem tw_458 : (Cond.methodLink "java/lang/StringUTF16" (414 : Nat) ({ cls := "java/lang/String", name := "checkIndex", desc := "(II)V" } : MethodName)) ∈ tblG := tG2 (i := 218) rfl rfl
theorem tw_459 : (Cond.methodLink "java/lang/StringUTF16" (71 : Nat) ({ cls := "java/lang/StringUTF16", name := "getChar", desc := "([BI)C" } : MethodName)) ∈ tblG := tG2 (i := 219) rfl rfl
theorem tw_460 : (Cond.static ({ cls := "java/lang/StringUTF16", name := "getChar", desc := "([BI)C" } : MethodName)) ∈ tblG := tG2 (i := 220) rfl rfl
theorem tw_461 : (Cond.code ({ cls := "java/lang/StringUTF16", name := "getChar", desc := "([BI)C" } : MethodName) prog_17_method_5_code (2 : Nat) (Option.some FieldType.char)) ∈ tblG := tG2 (i := 221) rfl rfl
theorem tw_462 : (Cond.fieldLink "java/lang/StringUTF16" (44 : Nat) "java/lang/StringUTF16" "$assertionsDisabled" "Z") ∈ tblG := tG2 (i := 222) rfl rfl
theorem tw_464 : (Cond.fieldLink "java/lang/StringUTF16" (59 : Nat) "java/lang/StringUTF16" "HI_BYTE_SHIFT" "I") ∈ tblG := tG2 (i := 224) rfl rfl
theorem tw_466 : (Cond.fieldLink "java/lang/StringUTF16" (63 : Nat) "java/lang/StringUTF16" "LO_BYTE_SHIFT" "I") ∈ tblG := tG2 (i := 226) rfl rfl
theorem tw_468 : (Cond.methodLink "TownBand$Library" (37 : Nat) ({ cls := "TownBand$Library", name := "readPiece", desc := "(LTownBand$Tape;)V" } : MethodName)) ∈ tblG := tG2 (i := 228) rfl rfl
theorem tw_470 : (Cond.instanceMethod ({ cls := "TownBand$Library", name := "readPiece", desc := "(LTownBand$Tape;)V" } : MethodName)) ∈ tblG := tG2 (i := 230) rfl rfl
theorem tw_471 : (Cond.code ({ cls := "TownBand$Library", name := "readPiece", desc := "(LTownBand$Tape;)V" } : MethodName) prog_3_method_4_code (4 : Nat) (Option.none : Option FieldType)) ∈ tblG := tG2 (i := 231) rfl rfl
theorem tw_472 : (Cond.methodLinkNest "TownBand$Library" (45 : Nat) ({ cls := "TownBand$Tape", name := "fail", desc := "(I)V" } : MethodName) "TownBand") ∈ tblN := tN2 (i := 232) rfl rfl
theorem tw_474 : (Cond.instanceMethod ({ cls := "TownBand$Tape", name := "fail", desc := "(I)V" } : MethodName)) ∈ tblG := tG2 (i := 234) rfl rfl
theorem tw_475 : (Cond.code ({ cls := "TownBand$Tape", name := "fail", desc := "(I)V" } : MethodName) prog_10_method_6_code (2 : Nat) (Option.none : Option FieldType)) ∈ tblG := tG2 (i := 235) rfl rfl
theorem tw_476 : (Cond.methodLinkNest "TownBand$Library" (48 : Nat) ({ cls := "TownBand$Piece", name := "clear", desc := "()V" } : MethodName) "TownBand") ∈ tblN := tN2 (i := 236) rfl rfl
theorem tw_478 : (Cond.instanceMethod ({ cls := "TownBand$Piece", name := "clear", desc := "()V" } : MethodName)) ∈ tblG := tG2 (i := 238) rfl rfl
theorem tw_479 : (Cond.code ({ cls := "TownBand$Piece", name := "clear", desc := "()V" } : MethodName) prog_5_method_2_code (1 : Nat) (Option.none : Option FieldType)) ∈ tblG := tG2 (i := 239) rfl rfl
theorem tw_480 : (Cond.methodLink "TownBand$Piece" (28 : Nat) ({ cls := "java/util/Arrays", name := "fill", desc := "([II)V" } : MethodName)) ∈ tblG := tG3 (i := 0) rfl rfl
theorem tw_481 : (Cond.methodLinkNest "TownBand$Library" (51 : Nat) ({ cls := "TownBand$Tape", name := "advance", desc := "()V" } : MethodName) "TownBand") ∈ tblN := tN3 (i := 1) rfl rfl
theorem tw_482 : (Cond.methodLink "TownBand$Library" (54 : Nat) ({ cls := "TownBand$Library", name := "readName", desc := "(LTownBand$Tape;)I" } : MethodName)) ∈ tblG := tG3 (i := 2) rfl rfl
theorem tw_484 : (Cond.instanceMethod ({ cls := "TownBand$Library", name := "readName", desc := "(LTownBand$Tape;)I" } : MethodName)) ∈ tblG := tG3 (i := 4) rfl rfl
theorem tw_485 : (Cond.code ({ cls := "TownBand$Library", name := "readName", desc := "(LTownBand$Tape;)I" } : MethodName) prog_3_method_5_code (3 : Nat) (Option.some FieldType.int)) ∈ tblG := tG3 (i := 5) rfl rfl
theorem tw_486 : (Cond.methodLink "TownBand$Library" (87 : Nat) ({ cls := "TownBand$Library", name := "isWord", desc := "(LTownBand$Tape;)Z" } : MethodName)) ∈ tblG := tG3 (i := 6) rfl rfl
theorem tw_487 : (Cond.static ({ cls := "TownBand$Library", name := "isWord", desc := "(LTownBand$Tape;)Z" } : MethodName)) ∈ tblG := tG3 (i := 7) rfl rfl
theorem tw_488 : (Cond.code ({ cls := "TownBand$Library", name := "isWord", desc := "(LTownBand$Tape;)Z" } : MethodName) prog_3_method_6_code (1 : Nat) (Option.some FieldType.boolean)) ∈ tblG := tG3 (i := 8) rfl rfl
theorem tw_492 : (Cond.methodLink "TownBand$Library" (91 : Nat) ({ cls := "TownBand$Library", name := "hasName", desc := "(I)Z" } : MethodName)) ∈ tblG := tG3 (i := 12) rfl rfl
theorem tw_494 : (Cond.instanceMethod ({ cls := "TownBand$Library", name := "hasName", desc := "(I)Z" } : MethodName)) ∈ tblG := tG3 (i := 14) rfl rfl
theorem tw_495 : (Cond.code ({ cls := "TownBand$Library", name := "hasName", desc := "(I)Z" } : MethodName) prog_3_method_7_code (3 : Nat) (Option.some FieldType.boolean)) ∈ tblG := tG3 (i := 15) rfl rfl
theorem tw_496 : (Cond.methodLinkNest "TownBand$Library" (61 : Nat) ({ cls := "TownBand$Tape", name := "take", desc := "(I)V" } : MethodName) "TownBand") ∈ tblN := tN3 (i := 16) rfl rfl
theorem tw_498 : (Cond.instanceMethod ({ cls := "TownBand$Tape", name := "take", desc := "(I)V" } : MethodName)) ∈ tblG := tG3 (i := 18) rfl rfl
theorem tw_499 : (Cond.code ({ cls := "TownBand$Tape", name := "take", desc := "(I)V" } : MethodName) prog_10_method_8_code (2 : Nat) (Option.none : Option FieldType)) ∈ tblG := tG3 (i := 19) rfl rfl
theorem tw_500 : (Cond.methodLink "TownBand$Tape" (40 : Nat) ({ cls := "TownBand$Tape", name := "fail", desc := "(I)V" } : MethodName)) ∈ tblG := tG3 (i := 20) rfl rfl
theorem tw_501 : (Cond.methodLink "TownBand$Library" (64 : Nat) ({ cls := "TownBand$Library", name := "readNumber", desc := "(LTownBand$Tape;II)I" } : MethodName)) ∈ tblG := tG3 (i := 21) rfl rfl
theorem tw_502 : (Cond.static ({ cls := "TownBand$Library", name := "readNumber", desc := "(LTownBand$Tape;II)I" } : MethodName)) ∈ tblG := tG3 (i := 22) rfl rfl
theorem tw_503 : (Cond.code ({ cls := "TownBand$Library", name := "readNumber", desc := "(LTownBand$Tape;II)I" } : MethodName) prog_3_method_8_code (4 : Nat) (Option.some FieldType.int)) ∈ tblG := tG3 (i := 23) rfl rfl
theorem tw_504 : (Cond.methodLinkNest "TownBand$Library" (101 : Nat) ({ cls := "TownBand", name := "isWithin", desc := "(III)Z" } : MethodName) "TownBand") ∈ tblN := tN3 (i := 24) rfl rfl
theorem tw_505 : (Cond.methodLink "TownBand$Library" (80 : Nat) ({ cls := "TownBand$Library", name := "readPart", desc := "(LTownBand$Tape;LTownBand$Piece;)V" } : MethodName)) ∈ tblG := tG3 (i := 25) rfl rfl
theorem tw_506 : (Cond.static ({ cls := "TownBand$Library", name := "readPart", desc := "(LTownBand$Tape;LTownBand$Piece;)V" } : MethodName)) ∈ tblG := tG3 (i := 26) rfl rfl
theorem tw_507 : (Cond.code ({ cls := "TownBand$Library", name := "readPart", desc := "(LTownBand$Tape;LTownBand$Piece;)V" } : MethodName) prog_3_method_9_code (4 : Nat) (Option.none : Option FieldType)) ∈ tblG := tG3 (i := 27) rfl rfl
theorem tw_508 : (Cond.methodLinkNest "TownBand$Library" (108 : Nat) ({ cls := "TownBand$Piece", name := "addPart", desc := "(Z)V" } : MethodName) "TownBand") ∈ tblN := tN3 (i := 28) rfl rfl
theorem tw_510 : (Cond.instanceMethod ({ cls := "TownBand$Piece", name := "addPart", desc := "(Z)V" } : MethodName)) ∈ tblG := tG3 (i := 30) rfl rfl
theorem tw_511 : (Cond.code ({ cls := "TownBand$Piece", name := "addPart", desc := "(Z)V" } : MethodName) prog_5_method_5_code (2 : Nat) (Option.none : Option FieldType)) ∈ tblG := tG3 (i := 31) rfl rfl
theorem tw_512 : (Cond.methodLink "TownBand$Library" (112 : Nat) ({ cls := "TownBand$Library", name := "readInstrument", desc := "(LTownBand$Tape;LTownBand$Piece;I)V" } : MethodName)) ∈ tblG := tG3 (i := 32) rfl rfl
theorem tw_513 : (Cond.static ({ cls := "TownBand$Library", name := "readInstrument", desc := "(LTownBand$Tape;LTownBand$Piece;I)V" } : MethodName)) ∈ tblG := tG3 (i := 33) rfl rfl
theorem tw_514 : (Cond.code ({ cls := "TownBand$Library", name := "readInstrument", desc := "(LTownBand$Tape;LTownBand$Piece;I)V" } : MethodName) prog_3_method_10_code (3 : Nat) (Option.none : Option FieldType)) ∈ tblG := tG3 (i := 34) rfl rfl
theorem tw_515 : (Cond.methodLinkNest "TownBand$Library" (116 : Nat) ({ cls := "TownBand$Piece", name := "hasInstrument", desc := "(II)Z" } : MethodName) "TownBand") ∈ tblN := tN3 (i := 35) rfl rfl
theorem tw_517 : (Cond.instanceMethod ({ cls := "TownBand$Piece", name := "hasInstrument", desc := "(II)Z" } : MethodName)) ∈ tblG := tG3 (i := 37) rfl rfl
theorem tw_518 : (Cond.code ({ cls := "TownBand$Piece", name := "hasInstrument", desc := "(II)Z" } : MethodName) prog_5_method_7_code (4 : Nat) (Option.some FieldType.boolean)) ∈ tblG := tG3 (i := 38) rfl rfl
theorem tw_519 : (Cond.methodLink "TownBand$Piece" (34 : Nat) ({ cls := "TownBand$Piece", name := "instrument", desc := "(II)I" } : MethodName)) ∈ tblG := tG3 (i := 39) rfl rfl
theorem tw_521 : (Cond.instanceMethod ({ cls := "TownBand$Piece", name := "instrument", desc := "(II)I" } : MethodName)) ∈ tblG := tG3 (i := 41) rfl rfl
theorem tw_522 : (Cond.code ({ cls := "TownBand$Piece", name := "instrument", desc := "(II)I" } : MethodName) prog_5_method_6_code (3 : Nat) (Option.some FieldType.int)) ∈ tblG := tG3 (i := 42) rfl rfl
theorem tw_523 : (Cond.methodLinkNest "TownBand$Library" (120 : Nat) ({ cls := "TownBand$Piece", name := "addInstrument", desc := "(II)V" } : MethodName) "TownBand") ∈ tblN := tN3 (i := 43) rfl rfl
theorem tw_525 : (Cond.instanceMethod ({ cls := "TownBand$Piece", name := "addInstrument", desc := "(II)V" } : MethodName)) ∈ tblG := tG3 (i := 45) rfl rfl
theorem tw_526 : (Cond.code ({ cls := "TownBand$Piece", name := "addInstrument", desc := "(II)V" } : MethodName) prog_5_method_8_code (3 : Nat) (Option.none : Option FieldType)) ∈ tblG := tG3 (i := 46) rfl rfl
theorem tw_527 : (Cond.methodLinkNest "TownBand$Library" (41 : Nat) ({ cls := "TownBand$Tape", name := "finish", desc := "()Z" } : MethodName) "TownBand") ∈ tblN := tN3 (i := 47) rfl rfl
theorem tw_529 : (Cond.instanceMethod ({ cls := "TownBand$Tape", name := "finish", desc := "()Z" } : MethodName)) ∈ tblG := tG3 (i := 49) rfl rfl
theorem tw_530 : (Cond.code ({ cls := "TownBand$Tape", name := "finish", desc := "()Z" } : MethodName) prog_10_method_5_code (1 : Nat) (Option.some FieldType.boolean)) ∈ tblG := tG3 (i := 50) rfl rfl
theorem tw_531 : (Cond.arrayClass FieldType.byte) ∈ tblG := tG3 (i := 51) rfl rfl
theorem tw_532 : (Cond.methodLink "TownBandLaw" (47 : Nat) ({ cls := "TownBand", name := "rule", desc := "()I" } : MethodName)) ∈ tblG := tG3 (i := 52) rfl rfl
theorem tw_533 : (Cond.instanceMethod ({ cls := "TownBand", name := "rule", desc := "()I" } : MethodName)) ∈ tblG := tG3 (i := 53) rfl rfl
theorem tw_534 : (Cond.selects "TownBand" ({ cls := "TownBand", name := "rule", desc := "()I" } : MethodName) ({ cls := "TownBand", name := "rule", desc := "()I" } : MethodName)) ∈ tblG := tG3 (i := 54) rfl rfl
theorem tw_535 : (Cond.code ({ cls := "TownBand", name := "rule", desc := "()I" } : MethodName) prog_1_method_9_code (1 : Nat) (Option.some FieldType.int)) ∈ tblG := tG3 (i := 55) rfl rfl
theorem tw_536 : (Cond.methodLinkNest "TownBand" (113 : Nat) ({ cls := "TownBand$Rule", name := "beginDraft", desc := "()V" } : MethodName) "TownBand") ∈ tblN := tN3 (i := 56) rfl rfl
theorem tw_538 : (Cond.instanceMethod ({ cls := "TownBand$Rule", name := "beginDraft", desc := "()V" } : MethodName)) ∈ tblG := tG3 (i := 58) rfl rfl
theorem tw_539 : (Cond.code ({ cls := "TownBand$Rule", name := "beginDraft", desc := "()V" } : MethodName) prog_8_method_2_code (1 : Nat) (Option.none : Option FieldType)) ∈ tblG := tG3 (i := 59) rfl rfl
theorem tw_540 : (Cond.methodLinkNest "TownBand" (116 : Nat) ({ cls := "TownBand$Tape", name := "begin", desc := "(I)V" } : MethodName) "TownBand") ∈ tblN := tN3 (i := 60) rfl rfl
theorem tw_541 : (Cond.methodLinkNest "TownBand" (119 : Nat) ({ cls := "TownBand$Rule", name := "readEither", desc := "(LTownBand$Tape;I)V" } : MethodName) "TownBand") ∈ tblN := tN3 (i := 61) rfl rfl
theorem tw_543 : (Cond.instanceMethod ({ cls := "TownBand$Rule", name := "readEither", desc := "(LTownBand$Tape;I)V" } : MethodName)) ∈ tblG := tG3 (i := 63) rfl rfl
theorem tw_544 : (Cond.code ({ cls := "TownBand$Rule", name := "readEither", desc := "(LTownBand$Tape;I)V" } : MethodName) prog_8_method_4_code (4 : Nat) (Option.none : Option FieldType)) ∈ tblG := tG3 (i := 64) rfl rfl
theorem tw_545 : (Cond.methodLink "TownBand$Rule" (31 : Nat) ({ cls := "TownBand$Rule", name := "readBoth", desc := "(LTownBand$Tape;I)V" } : MethodName)) ∈ tblG := tG3 (i := 65) rfl rfl
theorem tw_547 : (Cond.instanceMethod ({ cls := "TownBand$Rule", name := "readBoth", desc := "(LTownBand$Tape;I)V" } : MethodName)) ∈ tblG := tG3 (i := 67) rfl rfl
theorem tw_548 : (Cond.code ({ cls := "TownBand$Rule", name := "readBoth", desc := "(LTownBand$Tape;I)V" } : MethodName) prog_8_method_5_code (4 : Nat) (Option.none : Option FieldType)) ∈ tblG := tG3 (i := 68) rfl rfl
theorem tw_549 : (Cond.methodLink "TownBand$Rule" (47 : Nat) ({ cls := "TownBand$Rule", name := "readOne", desc := "(LTownBand$Tape;I)V" } : MethodName)) ∈ tblG := tG3 (i := 69) rfl rfl
theorem tw_551 : (Cond.instanceMethod ({ cls := "TownBand$Rule", name := "readOne", desc := "(LTownBand$Tape;I)V" } : MethodName)) ∈ tblG := tG3 (i := 71) rfl rfl
theorem tw_552 : (Cond.code ({ cls := "TownBand$Rule", name := "readOne", desc := "(LTownBand$Tape;I)V" } : MethodName) prog_8_method_6_code (4 : Nat) (Option.none : Option FieldType)) ∈ tblG := tG3 (i := 72) rfl rfl
theorem tw_553 : (Cond.methodLink "TownBand$Rule" (50 : Nat) ({ cls := "TownBand$Rule", name := "readComparison", desc := "(LTownBand$Tape;)V" } : MethodName)) ∈ tblG := tG3 (i := 73) rfl rfl
theorem tw_555 : (Cond.instanceMethod ({ cls := "TownBand$Rule", name := "readComparison", desc := "(LTownBand$Tape;)V" } : MethodName)) ∈ tblG := tG3 (i := 75) rfl rfl
theorem tw_556 : (Cond.code ({ cls := "TownBand$Rule", name := "readComparison", desc := "(LTownBand$Tape;)V" } : MethodName) prog_8_method_7_code (3 : Nat) (Option.none : Option FieldType)) ∈ tblG := tG3 (i := 76) rfl rfl
theorem tw_557 : (Cond.methodLink "TownBand$Rule" (63 : Nat) ({ cls := "TownBand$Rule", name := "readSum", desc := "(LTownBand$Tape;)V" } : MethodName)) ∈ tblG := tG3 (i := 77) rfl rfl
theorem tw_559 : (Cond.instanceMethod ({ cls := "TownBand$Rule", name := "readSum", desc := "(LTownBand$Tape;)V" } : MethodName)) ∈ tblG := tG3 (i := 79) rfl rfl
theorem tw_560 : (Cond.code ({ cls := "TownBand$Rule", name := "readSum", desc := "(LTownBand$Tape;)V" } : MethodName) prog_8_method_8_code (4 : Nat) (Option.none : Option FieldType)) ∈ tblG := tG3 (i := 80) rfl rfl
theorem tw_561 : (Cond.methodLink "TownBand$Rule" (66 : Nat) ({ cls := "TownBand$Rule", name := "readValue", desc := "(LTownBand$Tape;)V" } : MethodName)) ∈ tblG := tG3 (i := 81) rfl rfl
theorem tw_563 : (Cond.instanceMethod ({ cls := "TownBand$Rule", name := "readValue", desc := "(LTownBand$Tape;)V" } : MethodName)) ∈ tblG := tG3 (i := 83) rfl rfl
theorem tw_564 : (Cond.code ({ cls := "TownBand$Rule", name := "readValue", desc := "(LTownBand$Tape;)V" } : MethodName) prog_8_method_9_code (2 : Nat) (Option.none : Option FieldType)) ∈ tblG := tG3 (i := 84) rfl rfl
theorem tw_565 : (Cond.methodLink "TownBand$Rule" (43 : Nat) ({ cls := "TownBand$Rule", name := "write", desc := "(I)V" } : MethodName)) ∈ tblG := tG3 (i := 85) rfl rfl
theorem tw_567 : (Cond.instanceMethod ({ cls := "TownBand$Rule", name := "write", desc := "(I)V" } : MethodName)) ∈ tblG := tG3 (i := 87) rfl rfl
theorem tw_568 : (Cond.code ({ cls := "TownBand$Rule", name := "write", desc := "(I)V" } : MethodName) prog_8_method_10_code (2 : Nat) (Option.none : Option FieldType)) ∈ tblG := tG3 (i := 88) rfl rfl
theorem tw_570 : (Cond.methodLinkNest "TownBand$Rule" (74 : Nat) ({ cls := "TownBand$Tape", name := "reads", desc := "(Ljava/lang/String;)Z" } : MethodName) "TownBand") ∈ tblN := tN3 (i := 90) rfl rfl
theorem tw_575 : (Cond.methodLinkNest "TownBand$Rule" (54 : Nat) ({ cls := "TownBand$Tape", name := "fail", desc := "(I)V" } : MethodName) "TownBand") ∈ tblN := tN3 (i := 95) rfl rfl
theorem tw_576 : (Cond.methodLinkNest "TownBand$Rule" (40 : Nat) ({ cls := "TownBand$Tape", name := "advance", desc := "()V" } : MethodName) "TownBand") ∈ tblN := tN3 (i := 96) rfl rfl
theorem tw_577 : (Cond.methodLink "TownBand$Rule" (57 : Nat) ({ cls := "TownBand$Rule", name := "readEither", desc := "(LTownBand$Tape;I)V" } : MethodName)) ∈ tblG := tG3 (i := 97) rfl rfl
theorem tw_578 : (Cond.methodLinkNest "TownBand$Rule" (60 : Nat) ({ cls := "TownBand$Tape", name := "take", desc := "(I)V" } : MethodName) "TownBand") ∈ tblN := tN3 (i := 98) rfl rfl
theorem tw_579 : (Cond.methodLinkNest "TownBand" (123 : Nat) ({ cls := "TownBand$Tape", name := "finish", desc := "()Z" } : MethodName) "TownBand") ∈ tblN := tN3 (i := 99) rfl rfl
theorem tw_580 : (Cond.methodLinkNest "TownBand" (126 : Nat) ({ cls := "TownBand$Rule", name := "adoptDraft", desc := "()V" } : MethodName) "TownBand") ∈ tblN := tN3 (i := 100) rfl rfl
theorem tw_582 : (Cond.instanceMethod ({ cls := "TownBand$Rule", name := "adoptDraft", desc := "()V" } : MethodName)) ∈ tblG := tG3 (i := 102) rfl rfl
theorem tw_583 : (Cond.code ({ cls := "TownBand$Rule", name := "adoptDraft", desc := "()V" } : MethodName) prog_8_method_3_code (2 : Nat) (Option.none : Option FieldType)) ∈ tblG := tG3 (i := 103) rfl rfl
theorem tw_584 : (Cond.methodLink "TownBandLaw" (51 : Nat) ({ cls := "TownBand", name := "fault", desc := "(I)I" } : MethodName)) ∈ tblG := tG3 (i := 104) rfl rfl
theorem tw_585 : (Cond.instanceMethod ({ cls := "TownBand", name := "fault", desc := "(I)I" } : MethodName)) ∈ tblG := tG3 (i := 105) rfl rfl
theorem tw_586 : (Cond.selects "TownBand" ({ cls := "TownBand", name := "fault", desc := "(I)I" } : MethodName) ({ cls := "TownBand", name := "fault", desc := "(I)I" } : MethodName)) ∈ tblG := tG3 (i := 106) rfl rfl
theorem tw_587 : (Cond.code ({ cls := "TownBand", name := "fault", desc := "(I)I" } : MethodName) prog_1_method_10_code (2 : Nat) (Option.some FieldType.int)) ∈ tblG := tG3 (i := 107) rfl rfl
theorem tw_588 : (Cond.methodLink "TownBandLaw" (55 : Nat) ({ cls := "TownBand", name := "piece", desc := "(II)I" } : MethodName)) ∈ tblG := tG3 (i := 108) rfl rfl
theorem tw_589 : (Cond.instanceMethod ({ cls := "TownBand", name := "piece", desc := "(II)I" } : MethodName)) ∈ tblG := tG3 (i := 109) rfl rfl
theorem tw_590 : (Cond.selects "TownBand" ({ cls := "TownBand", name := "piece", desc := "(II)I" } : MethodName) ({ cls := "TownBand", name := "piece", desc := "(II)I" } : MethodName)) ∈ tblG := tG3 (i := 110) rfl rfl
theorem tw_591 : (Cond.code ({ cls := "TownBand", name := "piece", desc := "(II)I" } : MethodName) prog_1_method_11_code (4 : Nat) (Option.some FieldType.int)) ∈ tblG := tG3 (i := 111) rfl rfl
theorem tw_592 : (Cond.methodLinkNest "TownBand" (138 : Nat) ({ cls := "TownBand$Library", name := "find", desc := "(I)LTownBand$Piece;" } : MethodName) "TownBand") ∈ tblN := tN3 (i := 112) rfl rfl
theorem tw_594 : (Cond.instanceMethod ({ cls := "TownBand$Library", name := "find", desc := "(I)LTownBand$Piece;" } : MethodName)) ∈ tblG := tG3 (i := 114) rfl rfl
theorem tw_595 : (Cond.code ({ cls := "TownBand$Library", name := "find", desc := "(I)LTownBand$Piece;" } : MethodName) prog_3_method_2_code (2 : Nat) (Option.some (FieldType.object "TownBand$Piece"))) ∈ tblG := tG3 (i := 115) rfl rfl
theorem tw_596 : (Cond.methodLinkNest "TownBand" (142 : Nat) ({ cls := "TownBand$Piece", name := "detail", desc := "(I)I" } : MethodName) "TownBand") ∈ tblN := tN3 (i := 116) rfl rfl
theorem tw_598 : (Cond.instanceMethod ({ cls := "TownBand$Piece", name := "detail", desc := "(I)I" } : MethodName)) ∈ tblG := tG3 (i := 118) rfl rfl
theorem tw_599 : (Cond.code ({ cls := "TownBand$Piece", name := "detail", desc := "(I)I" } : MethodName) prog_5_method_9_code (2 : Nat) (Option.some FieldType.int)) ∈ tblG := tG3 (i := 119) rfl rfl
theorem tw_600 : (Cond.methodLink "TownBand$Piece" (47 : Nat) ({ cls := "TownBand$Piece", name := "partDetail", desc := "(I)I" } : MethodName)) ∈ tblG := tG3 (i := 120) rfl rfl
theorem tw_602 : (Cond.instanceMethod ({ cls := "TownBand$Piece", name := "partDetail", desc := "(I)I" } : MethodName)) ∈ tblG := tG3 (i := 122) rfl rfl
theorem tw_603 : (Cond.code ({ cls := "TownBand$Piece", name := "partDetail", desc := "(I)I" } : MethodName) prog_5_method_10_code (4 : Nat) (Option.some FieldType.int)) ∈ tblG := tG3 (i := 123) rfl rfl
theorem tw_604 : (Cond.methodLink "TownBand$Piece" (51 : Nat) ({ cls := "TownBand$Piece", name := "hasPart", desc := "(I)Z" } : MethodName)) ∈ tblG := tG3 (i := 124) rfl rfl
theorem tw_606 : (Cond.instanceMethod ({ cls := "TownBand$Piece", name := "hasPart", desc := "(I)Z" } : MethodName)) ∈ tblG := tG3 (i := 126) rfl rfl
theorem tw_607 : (Cond.code ({ cls := "TownBand$Piece", name := "hasPart", desc := "(I)Z" } : MethodName) prog_5_method_3_code (2 : Nat) (Option.some FieldType.boolean)) ∈ tblG := tG3 (i := 127) rfl rfl
theorem tw_608 : (Cond.methodLink "TownBandLaw" (59 : Nat) ({ cls := "TownBand", name := "playable", desc := "(I)I" } : MethodName)) ∈ tblG := tG3 (i := 128) rfl rfl
theorem tw_609 : (Cond.instanceMethod ({ cls := "TownBand", name := "playable", desc := "(I)I" } : MethodName)) ∈ tblG := tG3 (i := 129) rfl rfl
theorem tw_610 : (Cond.selects "TownBand" ({ cls := "TownBand", name := "playable", desc := "(I)I" } : MethodName) ({ cls := "TownBand", name := "playable", desc := "(I)I" } : MethodName)) ∈ tblG := tG3 (i := 130) rfl rfl
theorem tw_611 : (Cond.code ({ cls := "TownBand", name := "playable", desc := "(I)I" } : MethodName) prog_1_method_12_code (3 : Nat) (Option.some FieldType.int)) ∈ tblG := tG3 (i := 131) rfl rfl
theorem tw_612 : (Cond.methodLinkNest "TownBand" (148 : Nat) ({ cls := "TownBand$Cover", name := "coversMust", desc := "(LTownBand$Piece;LTownBand$Players;)Z" } : MethodName) "TownBand") ∈ tblN := tN3 (i := 132) rfl rfl
theorem tw_614 : (Cond.instanceMethod ({ cls := "TownBand$Cover", name := "coversMust", desc := "(LTownBand$Piece;LTownBand$Players;)Z" } : MethodName)) ∈ tblG := tG3 (i := 134) rfl rfl
theorem tw_615 : (Cond.code ({ cls := "TownBand$Cover", name := "coversMust", desc := "(LTownBand$Piece;LTownBand$Players;)Z" } : MethodName) prog_2_method_2_code (4 : Nat) (Option.some FieldType.boolean)) ∈ tblG := tG3 (i := 135) rfl rfl
theorem tw_616 : (Cond.methodLink "TownBand$Cover" (21 : Nat) ({ cls := "TownBand$Cover", name := "findAble", desc := "(LTownBand$Piece;LTownBand$Players;)V" } : MethodName)) ∈ tblG := tG3 (i := 136) rfl rfl
theorem tw_618 : (Cond.instanceMethod ({ cls := "TownBand$Cover", name := "findAble", desc := "(LTownBand$Piece;LTownBand$Players;)V" } : MethodName)) ∈ tblG := tG3 (i := 138) rfl rfl
theorem tw_619 : (Cond.code ({ cls := "TownBand$Cover", name := "findAble", desc := "(LTownBand$Piece;LTownBand$Players;)V" } : MethodName) prog_2_method_3_code (4 : Nat) (Option.none : Option FieldType)) ∈ tblG := tG3 (i := 139) rfl rfl
theorem tw_620 : (Cond.methodLinkNest "TownBand$Cover" (40 : Nat) ({ cls := "TownBand$Piece", name := "isMust", desc := "(I)Z" } : MethodName) "TownBand") ∈ tblN := tN3 (i := 140) rfl rfl
theorem tw_622 : (Cond.instanceMethod ({ cls := "TownBand$Piece", name := "isMust", desc := "(I)Z" } : MethodName)) ∈ tblG := tG3 (i := 142) rfl rfl
theorem tw_623 : (Cond.code ({ cls := "TownBand$Piece", name := "isMust", desc := "(I)Z" } : MethodName) prog_5_method_4_code (2 : Nat) (Option.some FieldType.boolean)) ∈ tblG := tG3 (i := 143) rfl rfl
theorem tw_624 : (Cond.methodLinkNest "TownBand$Cover" (48 : Nat) ({ cls := "TownBand$Players", name := "presentFor", desc := "(LTownBand$Piece;I)I" } : MethodName) "TownBand") ∈ tblN := tN3 (i := 144) rfl rfl
theorem tw_626 : (Cond.instanceMethod ({ cls := "TownBand$Players", name := "presentFor", desc := "(LTownBand$Piece;I)I" } : MethodName)) ∈ tblG := tG3 (i := 146) rfl rfl
theorem tw_627 : (Cond.code ({ cls := "TownBand$Players", name := "presentFor", desc := "(LTownBand$Piece;I)I" } : MethodName) prog_7_method_10_code (5 : Nat) (Option.some FieldType.int)) ∈ tblG := tG3 (i := 147) rfl rfl
theorem tw_628 : (Cond.methodLink "TownBand$Players" (49 : Nat) ({ cls := "TownBand$Players", name := "isPresent", desc := "(I)Z" } : MethodName)) ∈ tblG := tG3 (i := 148) rfl rfl
theorem tw_630 : (Cond.instanceMethod ({ cls := "TownBand$Players", name := "isPresent", desc := "(I)Z" } : MethodName)) ∈ tblG := tG3 (i := 150) rfl rfl
theorem tw_631 : (Cond.code ({ cls := "TownBand$Players", name := "isPresent", desc := "(I)Z" } : MethodName) prog_7_method_7_code (2 : Nat) (Option.some FieldType.boolean)) ∈ tblG := tG3 (i := 151) rfl rfl
theorem tw_632 : (Cond.methodLink "TownBand$Players" (53 : Nat) ({ cls := "TownBand$Players", name := "partCost", desc := "(ILTownBand$Piece;I)I" } : MethodName)) ∈ tblG := tG3 (i := 152) rfl rfl
theorem tw_634 : (Cond.instanceMethod ({ cls := "TownBand$Players", name := "partCost", desc := "(ILTownBand$Piece;I)I" } : MethodName)) ∈ tblG := tG3 (i := 154) rfl rfl
theorem tw_635 : (Cond.code ({ cls := "TownBand$Players", name := "partCost", desc := "(ILTownBand$Piece;I)I" } : MethodName) prog_7_method_9_code (7 : Nat) (Option.some FieldType.int)) ∈ tblG := tG3 (i := 155) rfl rfl
theorem tw_636 : (Cond.methodLinkNest "TownBand$Players" (42 : Nat) ({ cls := "TownBand$Piece", name := "instrument", desc := "(II)I" } : MethodName) "TownBand") ∈ tblN := tN3 (i := 156) rfl rfl
theorem tw_637 : (Cond.methodLink "TownBand$Players" (46 : Nat) ({ cls := "TownBand$Players", name := "costOf", desc := "(II)I" } : MethodName)) ∈ tblG := tG3 (i := 157) rfl rfl
theorem tw_638 : (Cond.methodLink "TownBand$Cover" (25 : Nat) ({ cls := "java/util/Arrays", name := "fill", desc := "([II)V" } : MethodName)) ∈ tblG := tG3 (i := 158) rfl rfl
theorem tw_639 : (Cond.methodLink "TownBand$Cover" (44 : Nat) ({ cls := "TownBand$Cover", name := "findPlayer", desc := "(II)Z" } : MethodName)) ∈ tblG := tG3 (i := 159) rfl rfl
theorem tw_641 : (Cond.instanceMethod ({ cls := "TownBand$Cover", name := "findPlayer", desc := "(II)Z" } : MethodName)) ∈ tblG := tG3 (i := 161) rfl rfl
theorem tw_642 : (Cond.code ({ cls := "TownBand$Cover", name := "findPlayer", desc := "(II)Z" } : MethodName) prog_2_method_4_code (5 : Nat) (Option.some FieldType.boolean)) ∈ tblG := tG3 (i := 162) rfl rfl
theorem tw_643 : (Cond.methodLink "TownBandLaw" (63 : Nat) ({ cls := "TownBand", name := "lacks", desc := "(I)I" } : MethodName)) ∈ tblG := tG3 (i := 163) rfl rfl
theorem tw_644 : (Cond.instanceMethod ({ cls := "TownBand", name := "lacks", desc := "(I)I" } : MethodName)) ∈ tblG := tG3 (i := 164) rfl rfl
theorem tw_645 : (Cond.selects "TownBand" ({ cls := "TownBand", name := "lacks", desc := "(I)I" } : MethodName) ({ cls := "TownBand", name := "lacks", desc := "(I)I" } : MethodName)) ∈ tblG := tG3 (i := 165) rfl rfl
theorem tw_646 : (Cond.code ({ cls := "TownBand", name := "lacks", desc := "(I)I" } : MethodName) prog_1_method_13_code (3 : Nat) (Option.some FieldType.int)) ∈ tblG := tG3 (i := 166) rfl rfl
theorem tw_647 : (Cond.methodLinkNest "TownBand" (152 : Nat) ({ cls := "TownBand$Cover", name := "leastLack", desc := "(LTownBand$Piece;LTownBand$Players;)I" } : MethodName) "TownBand") ∈ tblN := tN3 (i := 167) rfl rfl
theorem tw_649 : (Cond.instanceMethod ({ cls := "TownBand$Cover", name := "leastLack", desc := "(LTownBand$Piece;LTownBand$Players;)I" } : MethodName)) ∈ tblG := tG3 (i := 169) rfl rfl
theorem tw_650 : (Cond.code ({ cls := "TownBand$Cover", name := "leastLack", desc := "(LTownBand$Piece;LTownBand$Players;)I" } : MethodName) prog_2_method_5_code (10 : Nat) (Option.some FieldType.int)) ∈ tblG := tG3 (i := 170) rfl rfl
theorem tw_651 : (Cond.methodLink "TownBand$Cover" (54 : Nat) ({ cls := "java/lang/Integer", name := "bitCount", desc := "(I)I" } : MethodName)) ∈ tblG := tG3 (i := 171) rfl rfl
theorem tw_652 : (Cond.static ({ cls := "java/lang/Integer", name := "bitCount", desc := "(I)I" } : MethodName)) ∈ tblG := tG3 (i := 172) rfl rfl
theorem tw_653 : (Cond.code ({ cls := "java/lang/Integer", name := "bitCount", desc := "(I)I" } : MethodName) prog_13_method_49_code (1 : Nat) (Option.some FieldType.int)) ∈ tblG := tG3 (i := 173) rfl rfl
theorem tw_654 : (Cond.constant "java/lang/Integer" (265 : Nat) (1431655765 : Int32)) ∈ tblG := tG3 (i := 174) rfl rfl
theorem tw_655 : (Cond.constant "java/lang/Integer" (266 : Nat) (858993459 : Int32)) ∈ tblG := tG3 (i := 175) rfl rfl
theorem tw_656 : (Cond.constant "java/lang/Integer" (267 : Nat) (252645135 : Int32)) ∈ tblG := tG3 (i := 176) rfl rfl
theorem tw_657 : (Cond.methodLink "TownBandLaw" (67 : Nat) ({ cls := "TownBand", name := "seat", desc := "(I)I" } : MethodName)) ∈ tblG := tG3 (i := 177) rfl rfl
theorem tw_658 : (Cond.instanceMethod ({ cls := "TownBand", name := "seat", desc := "(I)I" } : MethodName)) ∈ tblG := tG3 (i := 178) rfl rfl
theorem tw_659 : (Cond.selects "TownBand" ({ cls := "TownBand", name := "seat", desc := "(I)I" } : MethodName) ({ cls := "TownBand", name := "seat", desc := "(I)I" } : MethodName)) ∈ tblG := tG3 (i := 179) rfl rfl
theorem tw_660 : (Cond.code ({ cls := "TownBand", name := "seat", desc := "(I)I" } : MethodName) prog_1_method_14_code (3 : Nat) (Option.some FieldType.int)) ∈ tblG := tG3 (i := 180) rfl rfl
theorem tw_661 : (Cond.methodLinkNest "TownBand" (156 : Nat) ({ cls := "TownBand$Seater", name := "seatAnew", desc := "(LTownBand$Piece;LTownBand$Players;)V" } : MethodName) "TownBand") ∈ tblN := tN3 (i := 181) rfl rfl
theorem tw_663 : (Cond.instanceMethod ({ cls := "TownBand$Seater", name := "seatAnew", desc := "(LTownBand$Piece;LTownBand$Players;)V" } : MethodName)) ∈ tblG := tG3 (i := 183) rfl rfl
theorem tw_664 : (Cond.code ({ cls := "TownBand$Seater", name := "seatAnew", desc := "(LTownBand$Piece;LTownBand$Players;)V" } : MethodName) prog_9_method_2_code (6 : Nat) (Option.none : Option FieldType)) ∈ tblG := tG3 (i := 184) rfl rfl
theorem tw_665 : (Cond.methodLinkNest "TownBand$Seater" (44 : Nat) ({ cls := "TownBand$Players", name := "isPresent", desc := "(I)Z" } : MethodName) "TownBand") ∈ tblN := tN3 (i := 185) rfl rfl
theorem tw_666 : (Cond.methodLinkNest "TownBand$Seater" (48 : Nat) ({ cls := "TownBand$Players", name := "partCost", desc := "(ILTownBand$Piece;I)I" } : MethodName) "TownBand") ∈ tblN := tN3 (i := 186) rfl rfl
theorem tw_667 : (Cond.constantLong "TownBand$Seater" (52 : Nat) (5766503906250000 : Int64)) ∈ tblG := tG3 (i := 187) rfl rfl
theorem tw_668 : (Cond.constantLong "TownBand$Seater" (54 : Nat) (576650390625 : Int64)) ∈ tblG := tG3 (i := 188) rfl rfl
theorem tw_669 : (Cond.fieldLink "TownBand$Seater" (56 : Nat) "TownBand$Seater" "DIGIT" "[J") ∈ tblG := tG3 (i := 189) rfl rfl
theorem tw_671 : (Cond.methodLink "TownBand$Seater" (59 : Nat) ({ cls := "TownBand$Seater", name := "weigh", desc := "(IIJ)V" } : MethodName)) ∈ tblG := tG3 (i := 191) rfl rfl
theorem tw_673 : (Cond.instanceMethod ({ cls := "TownBand$Seater", name := "weigh", desc := "(IIJ)V" } : MethodName)) ∈ tblG := tG3 (i := 193) rfl rfl
theorem tw_674 : (Cond.code ({ cls := "TownBand$Seater", name := "weigh", desc := "(IIJ)V" } : MethodName) prog_9_method_4_code (5 : Nat) (Option.none : Option FieldType)) ∈ tblG := tG3 (i := 194) rfl rfl
theorem tw_675 : (Cond.constantLong "TownBand$Seater" (63 : Nat) (57665039062500 : Int64)) ∈ tblG := tG3 (i := 195) rfl rfl
theorem tw_676 : (Cond.methodLink "TownBand$Seater" (65 : Nat) ({ cls := "TownBand$Seater", name := "weighEmpty", desc := "(LTownBand$Piece;LTownBand$Players;IJ)V" } : MethodName)) ∈ tblG := tG3 (i := 196) rfl rfl
theorem tw_678 : (Cond.instanceMethod ({ cls := "TownBand$Seater", name := "weighEmpty", desc := "(LTownBand$Piece;LTownBand$Players;IJ)V" } : MethodName)) ∈ tblG := tG3 (i := 198) rfl rfl
theorem tw_679 : (Cond.code ({ cls := "TownBand$Seater", name := "weighEmpty", desc := "(LTownBand$Piece;LTownBand$Players;IJ)V" } : MethodName) prog_9_method_5_code (9 : Nat) (Option.none : Option FieldType)) ∈ tblG := tG3 (i := 199) rfl rfl
theorem tw_680 : (Cond.methodLinkNest "TownBand$Seater" (80 : Nat) ({ cls := "TownBand$Piece", name := "isMust", desc := "(I)Z" } : MethodName) "TownBand") ∈ tblN := tN3 (i := 200) rfl rfl
theorem tw_681 : (Cond.constantLong "TownBand$Seater" (83 : Nat) (14 : Int64)) ∈ tblG := tG3 (i := 201) rfl rfl
theorem tw_682 : (Cond.methodLink "TownBand$Seater" (69 : Nat) ({ cls := "TownBand$Seater", name := "match", desc := "(II)V" } : MethodName)) ∈ tblG := tG3 (i := 202) rfl rfl
theorem tw_684 : (Cond.instanceMethod ({ cls := "TownBand$Seater", name := "match", desc := "(II)V" } : MethodName)) ∈ tblG := tG3 (i := 204) rfl rfl
theorem tw_685 : (Cond.code ({ cls := "TownBand$Seater", name := "match", desc := "(II)V" } : MethodName) prog_9_method_6_code (4 : Nat) (Option.none : Option FieldType)) ∈ tblG := tG3 (i := 205) rfl rfl
theorem tw_686 : (Cond.methodLink "TownBand$Seater" (88 : Nat) ({ cls := "java/util/Arrays", name := "fill", desc := "([JJ)V" } : MethodName)) ∈ tblG := tG3 (i := 206) rfl rfl
theorem tw_687 : (Cond.static ({ cls := "java/util/Arrays", name := "fill", desc := "([JJ)V" } : MethodName)) ∈ tblG := tG3 (i := 207) rfl rfl
theorem tw_688 : (Cond.code ({ cls := "java/util/Arrays", name := "fill", desc := "([JJ)V" } : MethodName) prog_18_method_101_code (5 : Nat) (Option.none : Option FieldType)) ∈ tblG := tG3 (i := 208) rfl rfl
theorem tw_689 : (Cond.methodLink "TownBand$Seater" (94 : Nat) ({ cls := "java/util/Arrays", name := "fill", desc := "([II)V" } : MethodName)) ∈ tblG := tG3 (i := 209) rfl rfl
theorem tw_690 : (Cond.methodLink "TownBand$Seater" (97 : Nat) ({ cls := "TownBand$Seater", name := "placeRow", desc := "(I)V" } : MethodName)) ∈ tblG := tG3 (i := 210) rfl rfl
theorem tw_692 : (Cond.instanceMethod ({ cls := "TownBand$Seater", name := "placeRow", desc := "(I)V" } : MethodName)) ∈ tblG := tG3 (i := 212) rfl rfl
theorem tw_693 : (Cond.code ({ cls := "TownBand$Seater", name := "placeRow", desc := "(I)V" } : MethodName) prog_9_method_7_code (6 : Nat) (Option.none : Option FieldType)) ∈ tblG := tG3 (i := 213) rfl rfl
theorem tw_694 : (Cond.constantLong "TownBand$Seater" (101 : Nat) (9223372036854775807 : Int64)) ∈ tblG := tG3 (i := 214) rfl rfl
theorem tw_695 : (Cond.methodLink "TownBand$Seater" (103 : Nat) ({ cls := "TownBand$Seater", name := "nearestColumn", desc := "(II)I" } : MethodName)) ∈ tblG := tG3 (i := 215) rfl rfl
theorem tw_697 : (Cond.instanceMethod ({ cls := "TownBand$Seater", name := "nearestColumn", desc := "(II)I" } : MethodName)) ∈ tblG := tG3 (i := 217) rfl rfl
theorem tw_698 : (Cond.code ({ cls := "TownBand$Seater", name := "nearestColumn", desc := "(II)I" } : MethodName) prog_9_method_8_code (10 : Nat) (Option.some FieldType.int)) ∈ tblG := tG3 (i := 218) rfl rfl
theorem tw_699 : (Cond.methodLink "TownBand$Seater" (107 : Nat) ({ cls := "TownBand$Seater", name := "shiftPrices", desc := "(IJ)V" } : MethodName)) ∈ tblG := tG3 (i := 219) rfl rfl
theorem tw_701 : (Cond.instanceMethod ({ cls := "TownBand$Seater", name := "shiftPrices", desc := "(IJ)V" } : MethodName)) ∈ tblG := tG3 (i := 221) rfl rfl
theorem tw_702 : (Cond.code ({ cls := "TownBand$Seater", name := "shiftPrices", desc := "(IJ)V" } : MethodName) prog_9_method_9_code (5 : Nat) (Option.none : Option FieldType)) ∈ tblG := tG3 (i := 222) rfl rfl
theorem tw_703 : (Cond.methodLink "TownBand$Seater" (73 : Nat) ({ cls := "TownBand$Seater", name := "takeChairs", desc := "(LTownBand$Piece;I)I" } : MethodName)) ∈ tblG := tG3 (i := 223) rfl rfl
theorem tw_705 : (Cond.instanceMethod ({ cls := "TownBand$Seater", name := "takeChairs", desc := "(LTownBand$Piece;I)I" } : MethodName)) ∈ tblG := tG3 (i := 225) rfl rfl
theorem tw_706 : (Cond.code ({ cls := "TownBand$Seater", name := "takeChairs", desc := "(LTownBand$Piece;I)I" } : MethodName) prog_9_method_10_code (7 : Nat) (Option.some FieldType.int)) ∈ tblG := tG3 (i := 226) rfl rfl
theorem tw_707 : (Cond.methodLinkNest "TownBand$Seater" (111 : Nat) ({ cls := "TownBand$Piece", name := "hasPart", desc := "(I)Z" } : MethodName) "TownBand") ∈ tblN := tN3 (i := 227) rfl rfl
theorem tw_708 : (Cond.methodLinkNest "TownBand" (160 : Nat) ({ cls := "TownBand$Piece", name := "seated", desc := "()I" } : MethodName) "TownBand") ∈ tblN := tN3 (i := 228) rfl rfl
theorem tw_710 : (Cond.instanceMethod ({ cls := "TownBand$Piece", name := "seated", desc := "()I" } : MethodName)) ∈ tblG := tG3 (i := 230) rfl rfl
theorem tw_711 : (Cond.code ({ cls := "TownBand$Piece", name := "seated", desc := "()I" } : MethodName) prog_5_method_11_code (3 : Nat) (Option.some FieldType.int)) ∈ tblG := tG3 (i := 231) rfl rfl
theorem tw_712 : (Cond.methodLink "TownBandLaw" (71 : Nat) ({ cls := "TownBand", name := "again", desc := "(I)I" } : MethodName)) ∈ tblG := tG3 (i := 232) rfl rfl
theorem tw_713 : (Cond.instanceMethod ({ cls := "TownBand", name := "again", desc := "(I)I" } : MethodName)) ∈ tblG := tG3 (i := 233) rfl rfl
theorem tw_714 : (Cond.selects "TownBand" ({ cls := "TownBand", name := "again", desc := "(I)I" } : MethodName) ({ cls := "TownBand", name := "again", desc := "(I)I" } : MethodName)) ∈ tblG := tG3 (i := 234) rfl rfl
theorem tw_715 : (Cond.code ({ cls := "TownBand", name := "again", desc := "(I)I" } : MethodName) prog_1_method_15_code (3 : Nat) (Option.some FieldType.int)) ∈ tblG := tG3 (i := 235) rfl rfl
theorem tw_716 : (Cond.methodLinkNest "TownBand" (164 : Nat) ({ cls := "TownBand$Seater", name := "seatWithFewestChanges", desc := "(LTownBand$Piece;LTownBand$Players;)I" } : MethodName) "TownBand") ∈ tblN := tN3 (i := 236) rfl rfl
theorem tw_718 : (Cond.instanceMethod ({ cls := "TownBand$Seater", name := "seatWithFewestChanges", desc := "(LTownBand$Piece;LTownBand$Players;)I" } : MethodName)) ∈ tblG := tG3 (i := 238) rfl rfl
theorem tw_719 : (Cond.code ({ cls := "TownBand$Seater", name := "seatWithFewestChanges", desc := "(LTownBand$Piece;LTownBand$Players;)I" } : MethodName) prog_9_method_3_code (8 : Nat) (Option.some FieldType.int)) ∈ tblG := tG3 (i := 239) rfl rfl
theorem tw_720 : (Cond.methodLink "TownBandLaw" (75 : Nat) ({ cls := "TownBand", name := "chair", desc := "(II)I" } : MethodName)) ∈ tblG := tG4 (i := 0) rfl rfl
theorem tw_721 : (Cond.instanceMethod ({ cls := "TownBand", name := "chair", desc := "(II)I" } : MethodName)) ∈ tblG := tG4 (i := 1) rfl rfl
theorem tw_722 : (Cond.selects "TownBand" ({ cls := "TownBand", name := "chair", desc := "(II)I" } : MethodName) ({ cls := "TownBand", name := "chair", desc := "(II)I" } : MethodName)) ∈ tblG := tG4 (i := 2) rfl rfl
theorem tw_723 : (Cond.code ({ cls := "TownBand", name := "chair", desc := "(II)I" } : MethodName) prog_1_method_16_code (4 : Nat) (Option.some FieldType.int)) ∈ tblG := tG4 (i := 3) rfl rfl
theorem tw_724 : (Cond.methodLinkNest "TownBand" (167 : Nat) ({ cls := "TownBand$Piece", name := "hasPart", desc := "(I)Z" } : MethodName) "TownBand") ∈ tblN := tN4 (i := 4) rfl rfl
theorem tw_725 : (Cond.methodLink "TownBandLaw" (79 : Nat) ({ cls := "TownBand", name := "sit", desc := "(III)Z" } : MethodName)) ∈ tblG := tG4 (i := 5) rfl rfl
theorem tw_726 : (Cond.instanceMethod ({ cls := "TownBand", name := "sit", desc := "(III)Z" } : MethodName)) ∈ tblG := tG4 (i := 6) rfl rfl
theorem tw_727 : (Cond.selects "TownBand" ({ cls := "TownBand", name := "sit", desc := "(III)Z" } : MethodName) ({ cls := "TownBand", name := "sit", desc := "(III)Z" } : MethodName)) ∈ tblG := tG4 (i := 7) rfl rfl
theorem tw_728 : (Cond.code ({ cls := "TownBand", name := "sit", desc := "(III)Z" } : MethodName) prog_1_method_17_code (5 : Nat) (Option.some FieldType.boolean)) ∈ tblG := tG4 (i := 8) rfl rfl
theorem tw_729 : (Cond.methodLinkNest "TownBand" (174 : Nat) ({ cls := "TownBand$Players", name := "partCost", desc := "(ILTownBand$Piece;I)I" } : MethodName) "TownBand") ∈ tblN := tN4 (i := 9) rfl rfl
theorem tw_730 : (Cond.methodLinkNest "TownBand" (178 : Nat) ({ cls := "TownBand$Piece", name := "seatsElsewhere", desc := "(II)Z" } : MethodName) "TownBand") ∈ tblN := tN4 (i := 10) rfl rfl
theorem tw_732 : (Cond.instanceMethod ({ cls := "TownBand$Piece", name := "seatsElsewhere", desc := "(II)Z" } : MethodName)) ∈ tblG := tG4 (i := 12) rfl rfl
theorem tw_733 : (Cond.code ({ cls := "TownBand$Piece", name := "seatsElsewhere", desc := "(II)Z" } : MethodName) prog_5_method_12_code (4 : Nat) (Option.some FieldType.boolean)) ∈ tblG := tG4 (i := 13) rfl rfl
theorem tw_734 : (Cond.methodLink "TownBandLaw" (83 : Nat) ({ cls := "TownBand", name := "seating", desc := "(II)I" } : MethodName)) ∈ tblG := tG4 (i := 14) rfl rfl
theorem tw_735 : (Cond.instanceMethod ({ cls := "TownBand", name := "seating", desc := "(II)I" } : MethodName)) ∈ tblG := tG4 (i := 15) rfl rfl
theorem tw_736 : (Cond.selects "TownBand" ({ cls := "TownBand", name := "seating", desc := "(II)I" } : MethodName) ({ cls := "TownBand", name := "seating", desc := "(II)I" } : MethodName)) ∈ tblG := tG4 (i := 16) rfl rfl
theorem tw_737 : (Cond.code ({ cls := "TownBand", name := "seating", desc := "(II)I" } : MethodName) prog_1_method_18_code (4 : Nat) (Option.some FieldType.int)) ∈ tblG := tG4 (i := 17) rfl rfl
theorem tw_738 : (Cond.methodLinkNest "TownBand" (182 : Nat) ({ cls := "TownBand$Players", name := "seatingCost", desc := "(LTownBand$Piece;)I" } : MethodName) "TownBand") ∈ tblN := tN4 (i := 18) rfl rfl
theorem tw_740 : (Cond.instanceMethod ({ cls := "TownBand$Players", name := "seatingCost", desc := "(LTownBand$Piece;)I" } : MethodName)) ∈ tblG := tG4 (i := 20) rfl rfl
theorem tw_741 : (Cond.code ({ cls := "TownBand$Players", name := "seatingCost", desc := "(LTownBand$Piece;)I" } : MethodName) prog_7_method_11_code (5 : Nat) (Option.some FieldType.int)) ∈ tblG := tG4 (i := 21) rfl rfl
theorem tw_742 : (Cond.methodLink "TownBand$Players" (63 : Nat) ({ cls := "TownBand$Players", name := "has", desc := "(I)Z" } : MethodName)) ∈ tblG := tG4 (i := 22) rfl rfl
theorem tw_743 : (Cond.methodLink "TownBand$Players" (66 : Nat) ({ cls := "java/lang/Math", name := "max", desc := "(II)I" } : MethodName)) ∈ tblG := tG4 (i := 23) rfl rfl
theorem tw_744 : (Cond.static ({ cls := "java/lang/Math", name := "max", desc := "(II)I" } : MethodName)) ∈ tblG := tG4 (i := 24) rfl rfl
theorem tw_745 : (Cond.code ({ cls := "java/lang/Math", name := "max", desc := "(II)I" } : MethodName) prog_14_method_65_code (2 : Nat) (Option.some FieldType.int)) ∈ tblG := tG4 (i := 25) rfl rfl
theorem tw_746 : (Cond.methodLinkNest "TownBand" (186 : Nat) ({ cls := "TownBand$Players", name := "seatedButAway", desc := "(LTownBand$Piece;)I" } : MethodName) "TownBand") ∈ tblN := tN4 (i := 26) rfl rfl
theorem tw_748 : (Cond.instanceMethod ({ cls := "TownBand$Players", name := "seatedButAway", desc := "(LTownBand$Piece;)I" } : MethodName)) ∈ tblG := tG4 (i := 28) rfl rfl
theorem tw_749 : (Cond.code ({ cls := "TownBand$Players", name := "seatedButAway", desc := "(LTownBand$Piece;)I" } : MethodName) prog_7_method_12_code (5 : Nat) (Option.some FieldType.int)) ∈ tblG := tG4 (i := 29) rfl rfl
theorem tw_750 : (Cond.methodLink "TownBandLaw" (87 : Nat) ({ cls := "TownBand", name := "programme", desc := "(II)I" } : MethodName)) ∈ tblG := tG4 (i := 30) rfl rfl
theorem tw_751 : (Cond.instanceMethod ({ cls := "TownBand", name := "programme", desc := "(II)I" } : MethodName)) ∈ tblG := tG4 (i := 31) rfl rfl
theorem tw_752 : (Cond.selects "TownBand" ({ cls := "TownBand", name := "programme", desc := "(II)I" } : MethodName) ({ cls := "TownBand", name := "programme", desc := "(II)I" } : MethodName)) ∈ tblG := tG4 (i := 32) rfl rfl
theorem tw_753 : (Cond.code ({ cls := "TownBand", name := "programme", desc := "(II)I" } : MethodName) prog_1_method_19_code (5 : Nat) (Option.some FieldType.int)) ∈ tblG := tG4 (i := 33) rfl rfl
theorem tw_754 : (Cond.methodLinkNest "TownBand" (189 : Nat) ({ cls := "TownBand$Planner", name := "forgetChoices", desc := "()V" } : MethodName) "TownBand") ∈ tblN := tN4 (i := 34) rfl rfl
theorem tw_756 : (Cond.instanceMethod ({ cls := "TownBand$Planner", name := "forgetChoices", desc := "()V" } : MethodName)) ∈ tblG := tG4 (i := 36) rfl rfl
theorem tw_757 : (Cond.code ({ cls := "TownBand$Planner", name := "forgetChoices", desc := "()V" } : MethodName) prog_6_method_2_code (1 : Nat) (Option.none : Option FieldType)) ∈ tblG := tG4 (i := 37) rfl rfl
theorem tw_758 : (Cond.methodLinkNest "TownBand" (192 : Nat) ({ cls := "TownBand$Planner", name := "offer", desc := "(ILTownBand$Piece;)V" } : MethodName) "TownBand") ∈ tblN := tN4 (i := 38) rfl rfl
theorem tw_760 : (Cond.instanceMethod ({ cls := "TownBand$Planner", name := "offer", desc := "(ILTownBand$Piece;)V" } : MethodName)) ∈ tblG := tG4 (i := 40) rfl rfl
theorem tw_761 : (Cond.code ({ cls := "TownBand$Planner", name := "offer", desc := "(ILTownBand$Piece;)V" } : MethodName) prog_6_method_3_code (3 : Nat) (Option.none : Option FieldType)) ∈ tblG := tG4 (i := 41) rfl rfl
theorem tw_762 : (Cond.methodLinkNest "TownBand" (196 : Nat) ({ cls := "TownBand$Planner", name := "arrange", desc := "(II)I" } : MethodName) "TownBand") ∈ tblN := tN4 (i := 42) rfl rfl
theorem tw_764 : (Cond.instanceMethod ({ cls := "TownBand$Planner", name := "arrange", desc := "(II)I" } : MethodName)) ∈ tblG := tG4 (i := 44) rfl rfl
theorem tw_765 : (Cond.code ({ cls := "TownBand$Planner", name := "arrange", desc := "(II)I" } : MethodName) prog_6_method_4_code (12 : Nat) (Option.some FieldType.int)) ∈ tblG := tG4 (i := 45) rfl rfl
theorem tw_766 : (Cond.methodLink "TownBand$Planner" (45 : Nat) ({ cls := "TownBand$Planner", name := "minutesOf", desc := "(I)I" } : MethodName)) ∈ tblG := tG4 (i := 46) rfl rfl
theorem tw_768 : (Cond.instanceMethod ({ cls := "TownBand$Planner", name := "minutesOf", desc := "(I)I" } : MethodName)) ∈ tblG := tG4 (i := 48) rfl rfl
theorem tw_769 : (Cond.code ({ cls := "TownBand$Planner", name := "minutesOf", desc := "(I)I" } : MethodName) prog_6_method_5_code (4 : Nat) (Option.some FieldType.int)) ∈ tblG := tG4 (i := 49) rfl rfl
theorem tw_770 : (Cond.methodLink "TownBand$Planner" (49 : Nat) ({ cls := "TownBand$Planner", name := "fillSet", desc := "(IZI)J" } : MethodName)) ∈ tblG := tG4 (i := 50) rfl rfl
theorem tw_772 : (Cond.instanceMethod ({ cls := "TownBand$Planner", name := "fillSet", desc := "(IZI)J" } : MethodName)) ∈ tblG := tG4 (i := 52) rfl rfl
theorem tw_773 : (Cond.code ({ cls := "TownBand$Planner", name := "fillSet", desc := "(IZI)J" } : MethodName) prog_6_method_6_code (10 : Nat) (Option.some FieldType.long)) ∈ tblG := tG4 (i := 53) rfl rfl
theorem tw_774 : (Cond.constantLong "TownBand$Planner" (53 : Nat) (9223372036854775807 : Int64)) ∈ tblG := tG4 (i := 54) rfl rfl
theorem tw_775 : (Cond.methodLink "TownBand$Planner" (64 : Nat) ({ cls := "TownBand$Planner", name := "bestEndingWith", desc := "(III)J" } : MethodName)) ∈ tblG := tG4 (i := 55) rfl rfl
theorem tw_777 : (Cond.instanceMethod ({ cls := "TownBand$Planner", name := "bestEndingWith", desc := "(III)J" } : MethodName)) ∈ tblG := tG4 (i := 57) rfl rfl
theorem tw_778 : (Cond.code ({ cls := "TownBand$Planner", name := "bestEndingWith", desc := "(III)J" } : MethodName) prog_6_method_7_code (12 : Nat) (Option.some FieldType.long)) ∈ tblG := tG4 (i := 58) rfl rfl
theorem tw_779 : (Cond.fieldLink "TownBand$Planner" (74 : Nat) "TownBand$Planner" "DIGIT" "[J") ∈ tblG := tG4 (i := 59) rfl rfl
theorem tw_781 : (Cond.methodLink "TownBand$Planner" (55 : Nat) ({ cls := "java/lang/Integer", name := "bitCount", desc := "(I)I" } : MethodName)) ∈ tblG := tG4 (i := 61) rfl rfl
theorem tw_782 : (Cond.methodLink "TownBand$Planner" (77 : Nat) ({ cls := "TownBand$Planner", name := "keyGap", desc := "(II)I" } : MethodName)) ∈ tblG := tG4 (i := 62) rfl rfl
theorem tw_784 : (Cond.instanceMethod ({ cls := "TownBand$Planner", name := "keyGap", desc := "(II)I" } : MethodName)) ∈ tblG := tG4 (i := 64) rfl rfl
theorem tw_785 : (Cond.code ({ cls := "TownBand$Planner", name := "keyGap", desc := "(II)I" } : MethodName) prog_6_method_8_code (4 : Nat) (Option.some FieldType.int)) ∈ tblG := tG4 (i := 65) rfl rfl
theorem tw_786 : (Cond.methodLink "TownBand$Planner" (83 : Nat) ({ cls := "java/lang/Math", name := "abs", desc := "(I)I" } : MethodName)) ∈ tblG := tG4 (i := 66) rfl rfl
theorem tw_787 : (Cond.static ({ cls := "java/lang/Math", name := "abs", desc := "(I)I" } : MethodName)) ∈ tblG := tG4 (i := 67) rfl rfl
theorem tw_788 : (Cond.code ({ cls := "java/lang/Math", name := "abs", desc := "(I)I" } : MethodName) prog_14_method_59_code (1 : Nat) (Option.some FieldType.int)) ∈ tblG := tG4 (i := 68) rfl rfl
theorem tw_789 : (Cond.methodLink "TownBand$Planner" (86 : Nat) ({ cls := "java/lang/Math", name := "min", desc := "(II)I" } : MethodName)) ∈ tblG := tG4 (i := 69) rfl rfl
theorem tw_790 : (Cond.static ({ cls := "java/lang/Math", name := "min", desc := "(II)I" } : MethodName)) ∈ tblG := tG4 (i := 70) rfl rfl
theorem tw_791 : (Cond.code ({ cls := "java/lang/Math", name := "min", desc := "(II)I" } : MethodName) prog_14_method_69_code (2 : Nat) (Option.some FieldType.int)) ∈ tblG := tG4 (i := 71) rfl rfl
theorem tw_792 : (Cond.constantLong "TownBand$Planner" (81 : Nat) (10000000000 : Int64)) ∈ tblG := tG4 (i := 72) rfl rfl
theorem tw_793 : (Cond.methodLink "TownBand$Planner" (68 : Nat) ({ cls := "java/lang/Math", name := "min", desc := "(JJ)J" } : MethodName)) ∈ tblG := tG4 (i := 73) rfl rfl
theorem tw_794 : (Cond.static ({ cls := "java/lang/Math", name := "min", desc := "(JJ)J" } : MethodName)) ∈ tblG := tG4 (i := 74) rfl rfl
theorem tw_795 : (Cond.code ({ cls := "java/lang/Math", name := "min", desc := "(JJ)J" } : MethodName) prog_14_method_70_code (4 : Nat) (Option.some FieldType.long)) ∈ tblG := tG4 (i := 75) rfl rfl
theorem tw_796 : (Cond.methodLink "TownBand$Planner" (60 : Nat) ({ cls := "TownBand$Planner", name := "keepRow", desc := "(IJ)V" } : MethodName)) ∈ tblG := tG4 (i := 76) rfl rfl
theorem tw_798 : (Cond.instanceMethod ({ cls := "TownBand$Planner", name := "keepRow", desc := "(IJ)V" } : MethodName)) ∈ tblG := tG4 (i := 78) rfl rfl
theorem tw_799 : (Cond.code ({ cls := "TownBand$Planner", name := "keepRow", desc := "(IJ)V" } : MethodName) prog_6_method_9_code (5 : Nat) (Option.none : Option FieldType)) ∈ tblG := tG4 (i := 79) rfl rfl
theorem tw_800 : (Cond.constantLong "TownBand$Planner" (94 : Nat) (10 : Int64)) ∈ tblG := tG4 (i := 80) rfl rfl
theorem tw_801 : (Cond.methodLink "TownBandLaw" (91 : Nat) ({ cls := "TownBand", name := "plan", desc := "(I)I" } : MethodName)) ∈ tblG := tG4 (i := 81) rfl rfl
theorem tw_802 : (Cond.instanceMethod ({ cls := "TownBand", name := "plan", desc := "(I)I" } : MethodName)) ∈ tblG := tG4 (i := 82) rfl rfl
theorem tw_803 : (Cond.selects "TownBand" ({ cls := "TownBand", name := "plan", desc := "(I)I" } : MethodName) ({ cls := "TownBand", name := "plan", desc := "(I)I" } : MethodName)) ∈ tblG := tG4 (i := 83) rfl rfl
theorem tw_804 : (Cond.code ({ cls := "TownBand", name := "plan", desc := "(I)I" } : MethodName) prog_1_method_20_code (2 : Nat) (Option.some FieldType.int)) ∈ tblG := tG4 (i := 84) rfl rfl
theorem tw_805 : (Cond.methodLink "TownBandLaw" (95 : Nat) ({ cls := "TownBand", name := "strain", desc := "()I" } : MethodName)) ∈ tblG := tG4 (i := 85) rfl rfl
theorem tw_806 : (Cond.instanceMethod ({ cls := "TownBand", name := "strain", desc := "()I" } : MethodName)) ∈ tblG := tG4 (i := 86) rfl rfl
theorem tw_807 : (Cond.selects "TownBand" ({ cls := "TownBand", name := "strain", desc := "()I" } : MethodName) ({ cls := "TownBand", name := "strain", desc := "()I" } : MethodName)) ∈ tblG := tG4 (i := 87) rfl rfl
theorem tw_808 : (Cond.code ({ cls := "TownBand", name := "strain", desc := "()I" } : MethodName) prog_1_method_21_code (1 : Nat) (Option.some FieldType.int)) ∈ tblG := tG4 (i := 88) rfl rfl
theorem tw_809 : (Cond.methodLink "TownBandLaw" (99 : Nat) ({ cls := "TownBand", name := "tell", desc := "(III)I" } : MethodName)) ∈ tblG := tG4 (i := 89) rfl rfl
theorem tw_810 : (Cond.instanceMethod ({ cls := "TownBand", name := "tell", desc := "(III)I" } : MethodName)) ∈ tblG := tG4 (i := 90) rfl rfl
theorem tw_811 : (Cond.selects "TownBand" ({ cls := "TownBand", name := "tell", desc := "(III)I" } : MethodName) ({ cls := "TownBand", name := "tell", desc := "(III)I" } : MethodName)) ∈ tblG := tG4 (i := 91) rfl rfl
theorem tw_812 : (Cond.code ({ cls := "TownBand", name := "tell", desc := "(III)I" } : MethodName) prog_1_method_22_code (4 : Nat) (Option.some FieldType.int)) ∈ tblG := tG4 (i := 92) rfl rfl
theorem tw_813 : (Cond.methodLink "TownBand" (208 : Nat) ({ cls := "TownBand", name := "isCopy", desc := "(I)Z" } : MethodName)) ∈ tblG := tG4 (i := 93) rfl rfl
theorem tw_814 : (Cond.static ({ cls := "TownBand", name := "isCopy", desc := "(I)Z" } : MethodName)) ∈ tblG := tG4 (i := 94) rfl rfl
theorem tw_815 : (Cond.code ({ cls := "TownBand", name := "isCopy", desc := "(I)Z" } : MethodName) prog_1_method_33_code (1 : Nat) (Option.some FieldType.boolean)) ∈ tblG := tG4 (i := 95) rfl rfl
theorem tw_816 : (Cond.methodLink "TownBand" (211 : Nat) ({ cls := "TownBand", name := "isPlace", desc := "(I)Z" } : MethodName)) ∈ tblG := tG4 (i := 96) rfl rfl
theorem tw_818 : (Cond.instanceMethod ({ cls := "TownBand", name := "isPlace", desc := "(I)Z" } : MethodName)) ∈ tblG := tG4 (i := 98) rfl rfl
theorem tw_819 : (Cond.code ({ cls := "TownBand", name := "isPlace", desc := "(I)Z" } : MethodName) prog_1_method_29_code (2 : Nat) (Option.some FieldType.boolean)) ∈ tblG := tG4 (i := 99) rfl rfl
theorem tw_820 : (Cond.methodLinkNest "TownBand" (214 : Nat) ({ cls := "TownBand$Loans", name := "note", desc := "(III)I" } : MethodName) "TownBand") ∈ tblN := tN4 (i := 100) rfl rfl
theorem tw_822 : (Cond.instanceMethod ({ cls := "TownBand$Loans", name := "note", desc := "(III)I" } : MethodName)) ∈ tblG := tG4 (i := 102) rfl rfl
theorem tw_823 : (Cond.code ({ cls := "TownBand$Loans", name := "note", desc := "(III)I" } : MethodName) prog_4_method_2_code (4 : Nat) (Option.some FieldType.int)) ∈ tblG := tG4 (i := 103) rfl rfl
theorem tw_824 : (Cond.methodLink "TownBandLaw" (104 : Nat) ({ cls := "TownBand", name := "where", desc := "(III)I" } : MethodName)) ∈ tblG := tG4 (i := 104) rfl rfl
theorem tw_825 : (Cond.instanceMethod ({ cls := "TownBand", name := "where", desc := "(III)I" } : MethodName)) ∈ tblG := tG4 (i := 105) rfl rfl
theorem tw_826 : (Cond.selects "TownBand" ({ cls := "TownBand", name := "where", desc := "(III)I" } : MethodName) ({ cls := "TownBand", name := "where", desc := "(III)I" } : MethodName)) ∈ tblG := tG4 (i := 106) rfl rfl
theorem tw_827 : (Cond.code ({ cls := "TownBand", name := "where", desc := "(III)I" } : MethodName) prog_1_method_23_code (4 : Nat) (Option.some FieldType.int)) ∈ tblG := tG4 (i := 107) rfl rfl
theorem tw_828 : (Cond.methodLinkNest "TownBand" (219 : Nat) ({ cls := "TownBand$Loans", name := "placeOf", desc := "(III)I" } : MethodName) "TownBand") ∈ tblN := tN4 (i := 108) rfl rfl
theorem tw_830 : (Cond.instanceMethod ({ cls := "TownBand$Loans", name := "placeOf", desc := "(III)I" } : MethodName)) ∈ tblG := tG4 (i := 110) rfl rfl
theorem tw_831 : (Cond.code ({ cls := "TownBand$Loans", name := "placeOf", desc := "(III)I" } : MethodName) prog_4_method_3_code (4 : Nat) (Option.some FieldType.int)) ∈ tblG := tG4 (i := 111) rfl rfl
theorem tw_832 : (Cond.methodLink "TownBand$Loans" (31 : Nat) ({ cls := "TownBand$Loans", name := "settle", desc := "(II)V" } : MethodName)) ∈ tblG := tG4 (i := 112) rfl rfl
theorem tw_834 : (Cond.instanceMethod ({ cls := "TownBand$Loans", name := "settle", desc := "(II)V" } : MethodName)) ∈ tblG := tG4 (i := 114) rfl rfl
theorem tw_835 : (Cond.code ({ cls := "TownBand$Loans", name := "settle", desc := "(II)V" } : MethodName) prog_4_method_5_code (5 : Nat) (Option.none : Option FieldType)) ∈ tblG := tG4 (i := 115) rfl rfl
theorem tw_836 : (Cond.methodLink "TownBand$Loans" (35 : Nat) ({ cls := "java/util/Arrays", name := "fill", desc := "([II)V" } : MethodName)) ∈ tblG := tG4 (i := 116) rfl rfl
theorem tw_837 : (Cond.methodLink "TownBandLaw" (108 : Nat) ({ cls := "TownBand", name := "copies", desc := "(III)I" } : MethodName)) ∈ tblG := tG4 (i := 117) rfl rfl
theorem tw_838 : (Cond.instanceMethod ({ cls := "TownBand", name := "copies", desc := "(III)I" } : MethodName)) ∈ tblG := tG4 (i := 118) rfl rfl
theorem tw_839 : (Cond.selects "TownBand" ({ cls := "TownBand", name := "copies", desc := "(III)I" } : MethodName) ({ cls := "TownBand", name := "copies", desc := "(III)I" } : MethodName)) ∈ tblG := tG4 (i := 119) rfl rfl
theorem tw_840 : (Cond.code ({ cls := "TownBand", name := "copies", desc := "(III)I" } : MethodName) prog_1_method_24_code (4 : Nat) (Option.some FieldType.int)) ∈ tblG := tG4 (i := 120) rfl rfl
theorem tw_841 : (Cond.methodLinkNest "TownBand" (222 : Nat) ({ cls := "TownBand$Loans", name := "copiesAt", desc := "(III)I" } : MethodName) "TownBand") ∈ tblN := tN4 (i := 121) rfl rfl
theorem tw_843 : (Cond.instanceMethod ({ cls := "TownBand$Loans", name := "copiesAt", desc := "(III)I" } : MethodName)) ∈ tblG := tG4 (i := 123) rfl rfl
theorem tw_844 : (Cond.code ({ cls := "TownBand$Loans", name := "copiesAt", desc := "(III)I" } : MethodName) prog_4_method_4_code (6 : Nat) (Option.some FieldType.int)) ∈ tblG := tG4 (i := 124) rfl rfl
theorem tw_845 : (Cond.methodLink "TownBandLaw" (112 : Nat) ({ cls := "TownBand", name := "contest", desc := "(I)I" } : MethodName)) ∈ tblG := tG4 (i := 125) rfl rfl
theorem tw_846 : (Cond.instanceMethod ({ cls := "TownBand", name := "contest", desc := "(I)I" } : MethodName)) ∈ tblG := tG4 (i := 126) rfl rfl
theorem tw_847 : (Cond.selects "TownBand" ({ cls := "TownBand", name := "contest", desc := "(I)I" } : MethodName) ({ cls := "TownBand", name := "contest", desc := "(I)I" } : MethodName)) ∈ tblG := tG4 (i := 127) rfl rfl
theorem tw_848 : (Cond.code ({ cls := "TownBand", name := "contest", desc := "(I)I" } : MethodName) prog_1_method_25_code (2 : Nat) (Option.some FieldType.int)) ∈ tblG := tG4 (i := 128) rfl rfl
theorem tw_849 : (Cond.methodLinkNest "TownBand" (225 : Nat) ({ cls := "TownBand$Players", name := "compete", desc := "(I)I" } : MethodName) "TownBand") ∈ tblN := tN4 (i := 129) rfl rfl
theorem tw_851 : (Cond.instanceMethod ({ cls := "TownBand$Players", name := "compete", desc := "(I)I" } : MethodName)) ∈ tblG := tG4 (i := 131) rfl rfl
theorem tw_852 : (Cond.code ({ cls := "TownBand$Players", name := "compete", desc := "(I)I" } : MethodName) prog_7_method_8_code (2 : Nat) (Option.some FieldType.int)) ∈ tblG := tG4 (i := 132) rfl rfl
theorem tw_853 : (Cond.methodLink "TownBandLaw" (116 : Nat) ({ cls := "TownBand", name := "may", desc := "(II)I" } : MethodName)) ∈ tblG := tG4 (i := 133) rfl rfl
theorem tw_854 : (Cond.instanceMethod ({ cls := "TownBand", name := "may", desc := "(II)I" } : MethodName)) ∈ tblG := tG4 (i := 134) rfl rfl
theorem tw_855 : (Cond.selects "TownBand" ({ cls := "TownBand", name := "may", desc := "(II)I" } : MethodName) ({ cls := "TownBand", name := "may", desc := "(II)I" } : MethodName)) ∈ tblG := tG4 (i := 135) rfl rfl
theorem tw_856 : (Cond.code ({ cls := "TownBand", name := "may", desc := "(II)I" } : MethodName) prog_1_method_26_code (3 : Nat) (Option.some FieldType.int)) ∈ tblG := tG4 (i := 136) rfl rfl
theorem tw_857 : (Cond.methodLinkNest "TownBand" (234 : Nat) ({ cls := "TownBand$Rule", name := "setPlayer", desc := "(III)V" } : MethodName) "TownBand") ∈ tblN := tN4 (i := 137) rfl rfl
theorem tw_859 : (Cond.instanceMethod ({ cls := "TownBand$Rule", name := "setPlayer", desc := "(III)V" } : MethodName)) ∈ tblG := tG4 (i := 139) rfl rfl
theorem tw_860 : (Cond.code ({ cls := "TownBand$Rule", name := "setPlayer", desc := "(III)V" } : MethodName) prog_8_method_11_code (4 : Nat) (Option.none : Option FieldType)) ∈ tblG := tG4 (i := 140) rfl rfl
theorem tw_861 : (Cond.methodLinkNest "TownBand" (240 : Nat) ({ cls := "TownBand$Rule", name := "setDay", desc := "(II)V" } : MethodName) "TownBand") ∈ tblN := tN4 (i := 141) rfl rfl
theorem tw_863 : (Cond.instanceMethod ({ cls := "TownBand$Rule", name := "setDay", desc := "(II)V" } : MethodName)) ∈ tblG := tG4 (i := 143) rfl rfl
theorem tw_864 : (Cond.code ({ cls := "TownBand$Rule", name := "setDay", desc := "(II)V" } : MethodName) prog_8_method_12_code (3 : Nat) (Option.none : Option FieldType)) ∈ tblG := tG4 (i := 144) rfl rfl
theorem tw_865 : (Cond.methodLinkNest "TownBand" (244 : Nat) ({ cls := "TownBand$Rule", name := "allows", desc := "()Z" } : MethodName) "TownBand") ∈ tblN := tN4 (i := 145) rfl rfl
theorem tw_867 : (Cond.instanceMethod ({ cls := "TownBand$Rule", name := "allows", desc := "()Z" } : MethodName)) ∈ tblG := tG4 (i := 147) rfl rfl
theorem tw_868 : (Cond.code ({ cls := "TownBand$Rule", name := "allows", desc := "()Z" } : MethodName) prog_8_method_13_code (2 : Nat) (Option.some FieldType.boolean)) ∈ tblG := tG4 (i := 148) rfl rfl
theorem tw_869 : (Cond.methodLink "TownBand$Rule" (89 : Nat) ({ cls := "TownBand$Rule", name := "work", desc := "(I)V" } : MethodName)) ∈ tblG := tG4 (i := 149) rfl rfl
theorem tw_871 : (Cond.instanceMethod ({ cls := "TownBand$Rule", name := "work", desc := "(I)V" } : MethodName)) ∈ tblG := tG4 (i := 151) rfl rfl
theorem tw_872 : (Cond.code ({ cls := "TownBand$Rule", name := "work", desc := "(I)V" } : MethodName) prog_8_method_14_code (4 : Nat) (Option.none : Option FieldType)) ∈ tblG := tG4 (i := 152) rfl rfl
theorem tw_873 : (Cond.methodLink "TownBand$Rule" (96 : Nat) ({ cls := "TownBand$Rule", name := "push", desc := "(I)V" } : MethodName)) ∈ tblG := tG4 (i := 153) rfl rfl
theorem tw_875 : (Cond.instanceMethod ({ cls := "TownBand$Rule", name := "push", desc := "(I)V" } : MethodName)) ∈ tblG := tG4 (i := 155) rfl rfl
theorem tw_876 : (Cond.code ({ cls := "TownBand$Rule", name := "push", desc := "(I)V" } : MethodName) prog_8_method_16_code (2 : Nat) (Option.none : Option FieldType)) ∈ tblG := tG4 (i := 156) rfl rfl
theorem tw_877 : (Cond.methodLink "TownBand$Rule" (92 : Nat) ({ cls := "TownBand$Rule", name := "pop", desc := "()I" } : MethodName)) ∈ tblG := tG4 (i := 157) rfl rfl
theorem tw_879 : (Cond.instanceMethod ({ cls := "TownBand$Rule", name := "pop", desc := "()I" } : MethodName)) ∈ tblG := tG4 (i := 159) rfl rfl
theorem tw_880 : (Cond.code ({ cls := "TownBand$Rule", name := "pop", desc := "()I" } : MethodName) prog_8_method_17_code (1 : Nat) (Option.some FieldType.int)) ∈ tblG := tG4 (i := 160) rfl rfl
theorem tw_881 : (Cond.methodLink "TownBand$Rule" (99 : Nat) ({ cls := "TownBand$Rule", name := "join", desc := "(III)I" } : MethodName)) ∈ tblG := tG4 (i := 161) rfl rfl
theorem tw_882 : (Cond.static ({ cls := "TownBand$Rule", name := "join", desc := "(III)I" } : MethodName)) ∈ tblG := tG4 (i := 162) rfl rfl
theorem tw_883 : (Cond.code ({ cls := "TownBand$Rule", name := "join", desc := "(III)I" } : MethodName) prog_8_method_15_code (3 : Nat) (Option.some FieldType.int)) ∈ tblG := tG4 (i := 163) rfl rfl
theorem tw_884 : (Cond.methodLink "TownBandLaw" (120 : Nat) ({ cls := "TownBand", name := "count", desc := "(I)I" } : MethodName)) ∈ tblG := tG4 (i := 164) rfl rfl
theorem tw_885 : (Cond.instanceMethod ({ cls := "TownBand", name := "count", desc := "(I)I" } : MethodName)) ∈ tblG := tG4 (i := 165) rfl rfl
theorem tw_886 : (Cond.selects "TownBand" ({ cls := "TownBand", name := "count", desc := "(I)I" } : MethodName) ({ cls := "TownBand", name := "count", desc := "(I)I" } : MethodName)) ∈ tblG := tG4 (i := 166) rfl rfl
theorem tw_887 : (Cond.code ({ cls := "TownBand", name := "count", desc := "(I)I" } : MethodName) prog_1_method_27_code (2 : Nat) (Option.some FieldType.int)) ∈ tblG := tG4 (i := 167) rfl rfl
theorem tw_888 : (Cond.methodLink "TownBand" (251 : Nat) ({ cls := "java/lang/Integer", name := "bitCount", desc := "(I)I" } : MethodName)) ∈ tblG := tG4 (i := 168) rfl rfl
theorem tw_889 : (Cond.methodLink "TownBand" (256 : Nat) ({ cls := "TownBand", name := "playablePieces", desc := "()I" } : MethodName)) ∈ tblG := tG4 (i := 169) rfl rfl
theorem tw_891 : (Cond.instanceMethod ({ cls := "TownBand", name := "playablePieces", desc := "()I" } : MethodName)) ∈ tblG := tG4 (i := 171) rfl rfl
theorem tw_892 : (Cond.code ({ cls := "TownBand", name := "playablePieces", desc := "()I" } : MethodName) prog_1_method_28_code (4 : Nat) (Option.some FieldType.int)) ∈ tblG := tG4 (i := 172) rfl rfl
theorem tw_893 : (Cond.classLink "TownBandLaw" (10 : Nat) "TownBandModel") ∈ tblG := tG4 (i := 173) rfl rfl
theorem tw_894 : (Cond.instantiable "TownBandModel" (48 : Nat)) ∈ tblG := tG4 (i := 174) rfl rfl
theorem tw_895 : (Cond.methodLink "TownBandLaw" (12 : Nat) ({ cls := "TownBandModel", name := "<init>", desc := "()V" } : MethodName)) ∈ tblG := tG4 (i := 175) rfl rfl
theorem tw_896 : (Cond.instanceMethod ({ cls := "TownBandModel", name := "<init>", desc := "()V" } : MethodName)) ∈ tblG := tG4 (i := 176) rfl rfl
theorem tw_897 : (Cond.code ({ cls := "TownBandModel", name := "<init>", desc := "()V" } : MethodName) prog_12_method_1_code (1 : Nat) (Option.none : Option FieldType)) ∈ tblG := tG4 (i := 177) rfl rfl
theorem tw_898 : (Cond.methodLink "TownBandModel" (1 : Nat) ({ cls := "java/lang/Object", name := "<init>", desc := "()V" } : MethodName)) ∈ tblG := tG4 (i := 178) rfl rfl
theorem tw_899 : (Cond.constant "TownBandModel" (54 : Nat) (180224 : Int32)) ∈ tblG := tG4 (i := 179) rfl rfl
theorem tw_900 : (Cond.fieldLink "TownBandModel" (104 : Nat) "TownBandModel" "told" "I") ∈ tblG := tG4 (i := 180) rfl rfl
theorem tw_901 : (Cond.fieldLink "TownBandModel" (107 : Nat) "TownBandModel" "players" "I") ∈ tblG := tG4 (i := 181) rfl rfl
theorem tw_902 : (Cond.fieldLink "TownBandModel" (7 : Nat) "TownBandModel" "age" "[I") ∈ tblG := tG4 (i := 182) rfl rfl
theorem tw_903 : (Cond.fieldLink "TownBandModel" (13 : Nat) "TownBandModel" "joined" "[I") ∈ tblG := tG4 (i := 183) rfl rfl
theorem tw_904 : (Cond.fieldLink "TownBandModel" (16 : Nat) "TownBandModel" "past" "[I") ∈ tblG := tG4 (i := 184) rfl rfl
theorem tw_905 : (Cond.fieldLink "TownBandModel" (19 : Nat) "TownBandModel" "isHere" "[Z") ∈ tblG := tG4 (i := 185) rfl rfl
theorem tw_906 : (Cond.fieldLink "TownBandModel" (23 : Nat) "TownBandModel" "costs" "[I") ∈ tblG := tG4 (i := 186) rfl rfl
theorem tw_907 : (Cond.fieldLink "TownBandModel" (117 : Nat) "TownBandModel" "pieces" "I") ∈ tblG := tG4 (i := 187) rfl rfl
theorem tw_908 : (Cond.fieldLink "TownBandModel" (26 : Nat) "TownBandModel" "name" "[J") ∈ tblG := tG4 (i := 188) rfl rfl
theorem tw_909 : (Cond.fieldLink "TownBandModel" (30 : Nat) "TownBandModel" "minutes" "[I") ∈ tblG := tG4 (i := 189) rfl rfl
theorem tw_910 : (Cond.fieldLink "TownBandModel" (33 : Nat) "TownBandModel" "lips" "[I") ∈ tblG := tG4 (i := 190) rfl rfl
theorem tw_911 : (Cond.fieldLink "TownBandModel" (36 : Nat) "TownBandModel" "key" "[I") ∈ tblG := tG4 (i := 191) rfl rfl
theorem tw_912 : (Cond.fieldLink "TownBandModel" (39 : Nat) "TownBandModel" "parts" "[I") ∈ tblG := tG4 (i := 192) rfl rfl
theorem tw_913 : (Cond.fieldLink "TownBandModel" (42 : Nat) "TownBandModel" "must" "[I") ∈ tblG := tG4 (i := 193) rfl rfl
theorem tw_914 : (Cond.fieldLink "TownBandModel" (45 : Nat) "TownBandModel" "many" "[I") ∈ tblG := tG4 (i := 194) rfl rfl
theorem tw_915 : (Cond.fieldLink "TownBandModel" (48 : Nat) "TownBandModel" "which" "[I") ∈ tblG := tG4 (i := 195) rfl rfl
theorem tw_916 : (Cond.fieldLink "TownBandModel" (51 : Nat) "TownBandModel" "chairs" "[I") ∈ tblG := tG4 (i := 196) rfl rfl
theorem tw_917 : (Cond.fieldLink "TownBandModel" (55 : Nat) "TownBandModel" "best" "[I") ∈ tblG := tG4 (i := 197) rfl rfl
theorem tw_918 : (Cond.fieldLink "TownBandModel" (176 : Nat) "TownBandModel" "planLong" "I") ∈ tblG := tG4 (i := 198) rfl rfl
theorem tw_919 : (Cond.fieldLink "TownBandModel" (173 : Nat) "TownBandModel" "planStrain" "I") ∈ tblG := tG4 (i := 199) rfl rfl
theorem tw_920 : (Cond.fieldLink "TownBandModel" (58 : Nat) "TownBandModel" "plan" "[I") ∈ tblG := tG4 (i := 200) rfl rfl
theorem tw_921 : (Cond.fieldLink "TownBandModel" (61 : Nat) "TownBandModel" "left" "[I") ∈ tblG := tG4 (i := 201) rfl rfl
theorem tw_922 : (Cond.fieldLink "TownBandModel" (64 : Nat) "TownBandModel" "can" "[Z") ∈ tblG := tG4 (i := 202) rfl rfl
theorem tw_923 : (Cond.fieldLink "TownBandModel" (67 : Nat) "TownBandModel" "isGood" "[Z") ∈ tblG := tG4 (i := 203) rfl rfl
theorem tw_924 : (Cond.fieldLink "TownBandModel" (185 : Nat) "TownBandModel" "words" "I") ∈ tblG := tG4 (i := 204) rfl rfl
theorem tw_925 : (Cond.fieldLink "TownBandModel" (70 : Nat) "TownBandModel" "wordCopy" "[I") ∈ tblG := tG4 (i := 205) rfl rfl
theorem tw_926 : (Cond.fieldLink "TownBandModel" (73 : Nat) "TownBandModel" "wordDay" "[I") ∈ tblG := tG4 (i := 206) rfl rfl
theorem tw_927 : (Cond.fieldLink "TownBandModel" (76 : Nat) "TownBandModel" "wordThere" "[I") ∈ tblG := tG4 (i := 207) rfl rfl
theorem tw_928 : (Cond.fieldLink "TownBandModel" (79 : Nat) "TownBandModel" "tape" "[I") ∈ tblG := tG4 (i := 208) rfl rfl
theorem tw_929 : (Cond.fieldLink "TownBandModel" (194 : Nat) "TownBandModel" "taped" "I") ∈ tblG := tG4 (i := 209) rfl rfl
theorem tw_930 : (Cond.fieldLink "TownBandModel" (204 : Nat) "TownBandModel" "reads" "I") ∈ tblG := tG4 (i := 210) rfl rfl
theorem tw_931 : (Cond.fieldLink "TownBandModel" (219 : Nat) "TownBandModel" "from" "I") ∈ tblG := tG4 (i := 211) rfl rfl
theorem tw_932 : (Cond.fieldLink "TownBandModel" (222 : Nat) "TownBandModel" "token" "I") ∈ tblG := tG4 (i := 212) rfl rfl
theorem tw_933 : (Cond.fieldLink "TownBandModel" (235 : Nat) "TownBandModel" "number" "I") ∈ tblG := tG4 (i := 213) rfl rfl
theorem tw_934 : (Cond.fieldLink "TownBandModel" (207 : Nat) "TownBandModel" "letters" "J") ∈ tblG := tG4 (i := 214) rfl rfl
theorem tw_935 : (Cond.fieldLink "TownBandModel" (201 : Nat) "TownBandModel" "faultKind" "I") ∈ tblG := tG4 (i := 215) rfl rfl
theorem tw_936 : (Cond.fieldLink "TownBandModel" (82 : Nat) "TownBandModel" "faultPlace" "I") ∈ tblG := tG4 (i := 216) rfl rfl
theorem tw_937 : (Cond.fieldLink "TownBandModel" (245 : Nat) "TownBandModel" "newPieces" "I") ∈ tblG := tG4 (i := 217) rfl rfl
theorem tw_938 : (Cond.fieldLink "TownBandModel" (306 : Nat) "TownBandModel" "acts" "I") ∈ tblG := tG4 (i := 218) rfl rfl
theorem tw_939 : (Cond.fieldLink "TownBandModel" (86 : Nat) "TownBandModel" "act" "[I") ∈ tblG := tG4 (i := 219) rfl rfl
theorem tw_940 : (Cond.fieldLink "TownBandModel" (89 : Nat) "TownBandModel" "worth" "[I") ∈ tblG := tG4 (i := 220) rfl rfl
theorem tw_941 : (Cond.fieldLink "TownBandModel" (272 : Nat) "TownBandModel" "newActs" "I") ∈ tblG := tG4 (i := 221) rfl rfl
theorem tw_942 : (Cond.fieldLink "TownBandModel" (92 : Nat) "TownBandModel" "newAct" "[I") ∈ tblG := tG4 (i := 222) rfl rfl
theorem tw_943 : (Cond.fieldLink "TownBandModel" (95 : Nat) "TownBandModel" "newWorth" "[I") ∈ tblG := tG4 (i := 223) rfl rfl
theorem tw_944 : (Cond.fieldLink "TownBandModel" (275 : Nat) "TownBandModel" "waiting" "I") ∈ tblG := tG4 (i := 224) rfl rfl
theorem tw_945 : (Cond.fieldLink "TownBandModel" (98 : Nat) "TownBandModel" "waits" "[I") ∈ tblG := tG4 (i := 225) rfl rfl
theorem tw_946 : (Cond.fieldLink "TownBandModel" (101 : Nat) "TownBandModel" "pile" "[I") ∈ tblG := tG4 (i := 226) rfl rfl
theorem tw_947 : (Cond.fieldLink "TownBandModel" (285 : Nat) "TownBandModel" "tokens" "I") ∈ tblG := tG4 (i := 227) rfl rfl
theorem tw_1045 : (Cond.arrayClass FieldType.boolean) ∈ tblG := tG5 (i := 85) rfl rfl
theorem tw_1046 : (Cond.methodLink "TownBandLaw" (17 : Nat) ({ cls := "TownBandModel", name := "player", desc := "(II)I" } : MethodName)) ∈ tblG := tG5 (i := 86) rfl rfl
theorem tw_1047 : (Cond.instanceMethod ({ cls := "TownBandModel", name := "player", desc := "(II)I" } : MethodName)) ∈ tblG := tG5 (i := 87) rfl rfl
theorem tw_1048 : (Cond.selects "TownBandModel" ({ cls := "TownBandModel", name := "player", desc := "(II)I" } : MethodName) ({ cls := "TownBandModel", name := "player", desc := "(II)I" } : MethodName)) ∈ tblG := tG5 (i := 88) rfl rfl
theorem tw_1049 : (Cond.code ({ cls := "TownBandModel", name := "player", desc := "(II)I" } : MethodName) prog_12_method_4_code (3 : Nat) (Option.some FieldType.int)) ∈ tblG := tG5 (i := 89) rfl rfl
theorem tw_1050 : (Cond.methodLink "TownBandLaw" (22 : Nat) ({ cls := "TownBandModel", name := "plays", desc := "(III)Z" } : MethodName)) ∈ tblG := tG5 (i := 90) rfl rfl
theorem tw_1051 : (Cond.instanceMethod ({ cls := "TownBandModel", name := "plays", desc := "(III)Z" } : MethodName)) ∈ tblG := tG5 (i := 91) rfl rfl
theorem tw_1052 : (Cond.selects "TownBandModel" ({ cls := "TownBandModel", name := "plays", desc := "(III)Z" } : MethodName) ({ cls := "TownBandModel", name := "plays", desc := "(III)Z" } : MethodName)) ∈ tblG := tG5 (i := 92) rfl rfl
theorem tw_1053 : (Cond.code ({ cls := "TownBandModel", name := "plays", desc := "(III)Z" } : MethodName) prog_12_method_6_code (4 : Nat) (Option.some FieldType.boolean)) ∈ tblG := tG5 (i := 93) rfl rfl
theorem tw_1054 : (Cond.methodLink "TownBandModel" (110 : Nat) ({ cls := "TownBandModel", name := "isPlayer", desc := "(I)Z" } : MethodName)) ∈ tblG := tG5 (i := 94) rfl rfl
theorem tw_1056 : (Cond.instanceMethod ({ cls := "TownBandModel", name := "isPlayer", desc := "(I)Z" } : MethodName)) ∈ tblG := tG5 (i := 96) rfl rfl
theorem tw_1057 : (Cond.code ({ cls := "TownBandModel", name := "isPlayer", desc := "(I)Z" } : MethodName) prog_12_method_3_code (2 : Nat) (Option.some FieldType.boolean)) ∈ tblG := tG5 (i := 97) rfl rfl
theorem tw_1058 : (Cond.methodLink "TownBandModel" (114 : Nat) ({ cls := "TownBandModel", name := "isInstrument", desc := "(I)Z" } : MethodName)) ∈ tblG := tG5 (i := 98) rfl rfl
theorem tw_1060 : (Cond.instanceMethod ({ cls := "TownBandModel", name := "isInstrument", desc := "(I)Z" } : MethodName)) ∈ tblG := tG5 (i := 100) rfl rfl
theorem tw_1061 : (Cond.code ({ cls := "TownBandModel", name := "isInstrument", desc := "(I)Z" } : MethodName) prog_12_method_5_code (2 : Nat) (Option.some FieldType.boolean)) ∈ tblG := tG5 (i := 101) rfl rfl
theorem tw_1062 : (Cond.methodLink "TownBandLaw" (26 : Nat) ({ cls := "TownBandModel", name := "cost", desc := "(II)I" } : MethodName)) ∈ tblG := tG5 (i := 102) rfl rfl
theorem tw_1063 : (Cond.instanceMethod ({ cls := "TownBandModel", name := "cost", desc := "(II)I" } : MethodName)) ∈ tblG := tG5 (i := 103) rfl rfl
theorem tw_1064 : (Cond.selects "TownBandModel" ({ cls := "TownBandModel", name := "cost", desc := "(II)I" } : MethodName) ({ cls := "TownBandModel", name := "cost", desc := "(II)I" } : MethodName)) ∈ tblG := tG5 (i := 104) rfl rfl
theorem tw_1065 : (Cond.code ({ cls := "TownBandModel", name := "cost", desc := "(II)I" } : MethodName) prog_12_method_7_code (3 : Nat) (Option.some FieldType.int)) ∈ tblG := tG5 (i := 105) rfl rfl
theorem tw_1066 : (Cond.methodLink "TownBandLaw" (31 : Nat) ({ cls := "TownBandModel", name := "here", desc := "(IZ)Z" } : MethodName)) ∈ tblG := tG5 (i := 106) rfl rfl
theorem tw_1067 : (Cond.instanceMethod ({ cls := "TownBandModel", name := "here", desc := "(IZ)Z" } : MethodName)) ∈ tblG := tG5 (i := 107) rfl rfl
theorem tw_1068 : (Cond.selects "TownBandModel" ({ cls := "TownBandModel", name := "here", desc := "(IZ)Z" } : MethodName) ({ cls := "TownBandModel", name := "here", desc := "(IZ)Z" } : MethodName)) ∈ tblG := tG5 (i := 108) rfl rfl
theorem tw_1069 : (Cond.code ({ cls := "TownBandModel", name := "here", desc := "(IZ)Z" } : MethodName) prog_12_method_8_code (3 : Nat) (Option.some FieldType.boolean)) ∈ tblG := tG5 (i := 109) rfl rfl
theorem tw_1070 : (Cond.methodLink "TownBandLaw" (58 : Nat) ({ cls := "TownBandModel", name := "piece", desc := "(II)I" } : MethodName)) ∈ tblG := tG5 (i := 110) rfl rfl
theorem tw_1071 : (Cond.instanceMethod ({ cls := "TownBandModel", name := "piece", desc := "(II)I" } : MethodName)) ∈ tblG := tG5 (i := 111) rfl rfl
theorem tw_1072 : (Cond.selects "TownBandModel" ({ cls := "TownBandModel", name := "piece", desc := "(II)I" } : MethodName) ({ cls := "TownBandModel", name := "piece", desc := "(II)I" } : MethodName)) ∈ tblG := tG5 (i := 112) rfl rfl
theorem tw_1073 : (Cond.code ({ cls := "TownBandModel", name := "piece", desc := "(II)I" } : MethodName) prog_12_method_12_code (5 : Nat) (Option.some FieldType.int)) ∈ tblG := tG5 (i := 113) rfl rfl
theorem tw_1074 : (Cond.methodLink "TownBandModel" (120 : Nat) ({ cls := "TownBandModel", name := "isPiece", desc := "(I)Z" } : MethodName)) ∈ tblG := tG5 (i := 114) rfl rfl
theorem tw_1076 : (Cond.instanceMethod ({ cls := "TownBandModel", name := "isPiece", desc := "(I)Z" } : MethodName)) ∈ tblG := tG5 (i := 116) rfl rfl
theorem tw_1077 : (Cond.code ({ cls := "TownBandModel", name := "isPiece", desc := "(I)Z" } : MethodName) prog_12_method_9_code (2 : Nat) (Option.some FieldType.boolean)) ∈ tblG := tG5 (i := 117) rfl rfl
theorem tw_1078 : (Cond.methodLink "TownBandLaw" (62 : Nat) ({ cls := "TownBandModel", name := "playable", desc := "(I)I" } : MethodName)) ∈ tblG := tG5 (i := 118) rfl rfl
theorem tw_1079 : (Cond.instanceMethod ({ cls := "TownBandModel", name := "playable", desc := "(I)I" } : MethodName)) ∈ tblG := tG5 (i := 119) rfl rfl
theorem tw_1080 : (Cond.selects "TownBandModel" ({ cls := "TownBandModel", name := "playable", desc := "(I)I" } : MethodName) ({ cls := "TownBandModel", name := "playable", desc := "(I)I" } : MethodName)) ∈ tblG := tG5 (i := 120) rfl rfl
theorem tw_1081 : (Cond.code ({ cls := "TownBandModel", name := "playable", desc := "(I)I" } : MethodName) prog_12_method_15_code (2 : Nat) (Option.some FieldType.int)) ∈ tblG := tG5 (i := 121) rfl rfl
theorem tw_1082 : (Cond.methodLink "TownBandModel" (131 : Nat) ({ cls := "TownBandModel", name := "lacking", desc := "(I)I" } : MethodName)) ∈ tblG := tG5 (i := 122) rfl rfl
theorem tw_1084 : (Cond.instanceMethod ({ cls := "TownBandModel", name := "lacking", desc := "(I)I" } : MethodName)) ∈ tblG := tG5 (i := 124) rfl rfl
theorem tw_1085 : (Cond.code ({ cls := "TownBandModel", name := "lacking", desc := "(I)I" } : MethodName) prog_12_method_14_code (8 : Nat) (Option.some FieldType.int)) ∈ tblG := tG5 (i := 125) rfl rfl
theorem tw_1086 : (Cond.methodLink "TownBandModel" (123 : Nat) ({ cls := "TownBandModel", name := "costOf", desc := "(III)I" } : MethodName)) ∈ tblG := tG5 (i := 126) rfl rfl
theorem tw_1088 : (Cond.instanceMethod ({ cls := "TownBandModel", name := "costOf", desc := "(III)I" } : MethodName)) ∈ tblG := tG5 (i := 128) rfl rfl
theorem tw_1089 : (Cond.code ({ cls := "TownBandModel", name := "costOf", desc := "(III)I" } : MethodName) prog_12_method_10_code (7 : Nat) (Option.some FieldType.int)) ∈ tblG := tG5 (i := 129) rfl rfl
theorem tw_1090 : (Cond.methodLink "TownBandModel" (127 : Nat) ({ cls := "TownBandModel", name := "ones", desc := "(I)I" } : MethodName)) ∈ tblG := tG5 (i := 130) rfl rfl
theorem tw_1092 : (Cond.instanceMethod ({ cls := "TownBandModel", name := "ones", desc := "(I)I" } : MethodName)) ∈ tblG := tG5 (i := 132) rfl rfl
theorem tw_1093 : (Cond.code ({ cls := "TownBandModel", name := "ones", desc := "(I)I" } : MethodName) prog_12_method_13_code (4 : Nat) (Option.some FieldType.int)) ∈ tblG := tG5 (i := 133) rfl rfl
theorem tw_1094 : (Cond.methodLink "TownBandLaw" (66 : Nat) ({ cls := "TownBandModel", name := "lacks", desc := "(I)I" } : MethodName)) ∈ tblG := tG5 (i := 134) rfl rfl
theorem tw_1095 : (Cond.instanceMethod ({ cls := "TownBandModel", name := "lacks", desc := "(I)I" } : MethodName)) ∈ tblG := tG5 (i := 135) rfl rfl
theorem tw_1096 : (Cond.selects "TownBandModel" ({ cls := "TownBandModel", name := "lacks", desc := "(I)I" } : MethodName) ({ cls := "TownBandModel", name := "lacks", desc := "(I)I" } : MethodName)) ∈ tblG := tG5 (i := 136) rfl rfl
theorem tw_1097 : (Cond.code ({ cls := "TownBandModel", name := "lacks", desc := "(I)I" } : MethodName) prog_12_method_16_code (2 : Nat) (Option.some FieldType.int)) ∈ tblG := tG5 (i := 137) rfl rfl
theorem tw_1098 : (Cond.methodLink "TownBandLaw" (70 : Nat) ({ cls := "TownBandModel", name := "seat", desc := "(I)I" } : MethodName)) ∈ tblG := tG5 (i := 138) rfl rfl
theorem tw_1099 : (Cond.instanceMethod ({ cls := "TownBandModel", name := "seat", desc := "(I)I" } : MethodName)) ∈ tblG := tG5 (i := 139) rfl rfl
theorem tw_1100 : (Cond.selects "TownBandModel" ({ cls := "TownBandModel", name := "seat", desc := "(I)I" } : MethodName) ({ cls := "TownBandModel", name := "seat", desc := "(I)I" } : MethodName)) ∈ tblG := tG5 (i := 140) rfl rfl
theorem tw_1101 : (Cond.code ({ cls := "TownBandModel", name := "seat", desc := "(I)I" } : MethodName) prog_12_method_22_code (2 : Nat) (Option.some FieldType.int)) ∈ tblG := tG5 (i := 141) rfl rfl
theorem tw_1102 : (Cond.methodLink "TownBandModel" (155 : Nat) ({ cls := "TownBandModel", name := "seats", desc := "(IZ)I" } : MethodName)) ∈ tblG := tG5 (i := 142) rfl rfl
theorem tw_1104 : (Cond.instanceMethod ({ cls := "TownBandModel", name := "seats", desc := "(IZ)I" } : MethodName)) ∈ tblG := tG5 (i := 144) rfl rfl
theorem tw_1105 : (Cond.code ({ cls := "TownBandModel", name := "seats", desc := "(IZ)I" } : MethodName) prog_12_method_20_code (8 : Nat) (Option.some FieldType.int)) ∈ tblG := tG5 (i := 145) rfl rfl
theorem tw_1106 : (Cond.methodLink "TownBandModel" (147 : Nat) ({ cls := "TownBandModel", name := "finds", desc := "(IZ)V" } : MethodName)) ∈ tblG := tG5 (i := 146) rfl rfl
theorem tw_1108 : (Cond.instanceMethod ({ cls := "TownBandModel", name := "finds", desc := "(IZ)V" } : MethodName)) ∈ tblG := tG5 (i := 148) rfl rfl
theorem tw_1109 : (Cond.code ({ cls := "TownBandModel", name := "finds", desc := "(IZ)V" } : MethodName) prog_12_method_19_code (10 : Nat) (Option.none : Option FieldType)) ∈ tblG := tG5 (i := 149) rfl rfl
theorem tw_1110 : (Cond.constant "TownBandModel" (138 : Nat) (1000000 : Int32)) ∈ tblG := tG5 (i := 150) rfl rfl
theorem tw_1111 : (Cond.methodLink "TownBandModel" (139 : Nat) ({ cls := "TownBandModel", name := "mayBe", desc := "(III)Z" } : MethodName)) ∈ tblG := tG5 (i := 151) rfl rfl
theorem tw_1113 : (Cond.instanceMethod ({ cls := "TownBandModel", name := "mayBe", desc := "(III)Z" } : MethodName)) ∈ tblG := tG5 (i := 153) rfl rfl
theorem tw_1114 : (Cond.code ({ cls := "TownBandModel", name := "mayBe", desc := "(III)Z" } : MethodName) prog_12_method_18_code (4 : Nat) (Option.some FieldType.boolean)) ∈ tblG := tG5 (i := 154) rfl rfl
theorem tw_1115 : (Cond.methodLink "TownBandModel" (134 : Nat) ({ cls := "TownBandModel", name := "isMust", desc := "(II)Z" } : MethodName)) ∈ tblG := tG5 (i := 155) rfl rfl
theorem tw_1117 : (Cond.instanceMethod ({ cls := "TownBandModel", name := "isMust", desc := "(II)Z" } : MethodName)) ∈ tblG := tG5 (i := 157) rfl rfl
theorem tw_1118 : (Cond.code ({ cls := "TownBandModel", name := "isMust", desc := "(II)Z" } : MethodName) prog_12_method_11_code (3 : Nat) (Option.some FieldType.boolean)) ∈ tblG := tG5 (i := 158) rfl rfl
theorem tw_1119 : (Cond.methodLink "TownBandModel" (143 : Nat) ({ cls := "TownBandModel", name := "counts", desc := "(IIIZ)I" } : MethodName)) ∈ tblG := tG5 (i := 159) rfl rfl
theorem tw_1121 : (Cond.instanceMethod ({ cls := "TownBandModel", name := "counts", desc := "(IIIZ)I" } : MethodName)) ∈ tblG := tG5 (i := 161) rfl rfl
theorem tw_1122 : (Cond.code ({ cls := "TownBandModel", name := "counts", desc := "(IIIZ)I" } : MethodName) prog_12_method_17_code (5 : Nat) (Option.some FieldType.int)) ∈ tblG := tG5 (i := 162) rfl rfl
theorem tw_1123 : (Cond.methodLink "TownBandModel" (151 : Nat) ({ cls := "TownBandModel", name := "fits", desc := "(IIIIZ)Z" } : MethodName)) ∈ tblG := tG5 (i := 163) rfl rfl
theorem tw_1125 : (Cond.instanceMethod ({ cls := "TownBandModel", name := "fits", desc := "(IIIIZ)Z" } : MethodName)) ∈ tblG := tG5 (i := 165) rfl rfl
theorem tw_1126 : (Cond.code ({ cls := "TownBandModel", name := "fits", desc := "(IIIIZ)Z" } : MethodName) prog_12_method_21_code (7 : Nat) (Option.some FieldType.boolean)) ∈ tblG := tG5 (i := 166) rfl rfl
theorem tw_1127 : (Cond.methodLink "TownBandLaw" (74 : Nat) ({ cls := "TownBandModel", name := "again", desc := "(I)I" } : MethodName)) ∈ tblG := tG5 (i := 167) rfl rfl
theorem tw_1128 : (Cond.instanceMethod ({ cls := "TownBandModel", name := "again", desc := "(I)I" } : MethodName)) ∈ tblG := tG5 (i := 168) rfl rfl
theorem tw_1129 : (Cond.selects "TownBandModel" ({ cls := "TownBandModel", name := "again", desc := "(I)I" } : MethodName) ({ cls := "TownBandModel", name := "again", desc := "(I)I" } : MethodName)) ∈ tblG := tG5 (i := 169) rfl rfl
theorem tw_1130 : (Cond.code ({ cls := "TownBandModel", name := "again", desc := "(I)I" } : MethodName) prog_12_method_23_code (2 : Nat) (Option.some FieldType.int)) ∈ tblG := tG5 (i := 170) rfl rfl
theorem tw_1131 : (Cond.methodLink "TownBandLaw" (78 : Nat) ({ cls := "TownBandModel", name := "chair", desc := "(II)I" } : MethodName)) ∈ tblG := tG5 (i := 171) rfl rfl
theorem tw_1132 : (Cond.instanceMethod ({ cls := "TownBandModel", name := "chair", desc := "(II)I" } : MethodName)) ∈ tblG := tG5 (i := 172) rfl rfl
theorem tw_1133 : (Cond.selects "TownBandModel" ({ cls := "TownBandModel", name := "chair", desc := "(II)I" } : MethodName) ({ cls := "TownBandModel", name := "chair", desc := "(II)I" } : MethodName)) ∈ tblG := tG5 (i := 173) rfl rfl
theorem tw_1134 : (Cond.code ({ cls := "TownBandModel", name := "chair", desc := "(II)I" } : MethodName) prog_12_method_25_code (3 : Nat) (Option.some FieldType.int)) ∈ tblG := tG5 (i := 174) rfl rfl
theorem tw_1135 : (Cond.methodLink "TownBandModel" (159 : Nat) ({ cls := "TownBandModel", name := "isPart", desc := "(II)Z" } : MethodName)) ∈ tblG := tG5 (i := 175) rfl rfl
theorem tw_1137 : (Cond.instanceMethod ({ cls := "TownBandModel", name := "isPart", desc := "(II)Z" } : MethodName)) ∈ tblG := tG5 (i := 177) rfl rfl
theorem tw_1138 : (Cond.code ({ cls := "TownBandModel", name := "isPart", desc := "(II)Z" } : MethodName) prog_12_method_24_code (3 : Nat) (Option.some FieldType.boolean)) ∈ tblG := tG5 (i := 178) rfl rfl
theorem tw_1139 : (Cond.methodLink "TownBandLaw" (82 : Nat) ({ cls := "TownBandModel", name := "sit", desc := "(III)Z" } : MethodName)) ∈ tblG := tG5 (i := 179) rfl rfl
theorem tw_1140 : (Cond.instanceMethod ({ cls := "TownBandModel", name := "sit", desc := "(III)Z" } : MethodName)) ∈ tblG := tG5 (i := 180) rfl rfl
theorem tw_1141 : (Cond.selects "TownBandModel" ({ cls := "TownBandModel", name := "sit", desc := "(III)Z" } : MethodName) ({ cls := "TownBandModel", name := "sit", desc := "(III)Z" } : MethodName)) ∈ tblG := tG5 (i := 181) rfl rfl
theorem tw_1142 : (Cond.code ({ cls := "TownBandModel", name := "sit", desc := "(III)Z" } : MethodName) prog_12_method_26_code (5 : Nat) (Option.some FieldType.boolean)) ∈ tblG := tG5 (i := 182) rfl rfl
theorem tw_1143 : (Cond.methodLink "TownBandLaw" (86 : Nat) ({ cls := "TownBandModel", name := "seating", desc := "(II)I" } : MethodName)) ∈ tblG := tG5 (i := 183) rfl rfl
theorem tw_1144 : (Cond.instanceMethod ({ cls := "TownBandModel", name := "seating", desc := "(II)I" } : MethodName)) ∈ tblG := tG5 (i := 184) rfl rfl
theorem tw_1145 : (Cond.selects "TownBandModel" ({ cls := "TownBandModel", name := "seating", desc := "(II)I" } : MethodName) ({ cls := "TownBandModel", name := "seating", desc := "(II)I" } : MethodName)) ∈ tblG := tG5 (i := 185) rfl rfl
theorem tw_1146 : (Cond.code ({ cls := "TownBandModel", name := "seating", desc := "(II)I" } : MethodName) prog_12_method_27_code (9 : Nat) (Option.some FieldType.int)) ∈ tblG := tG5 (i := 186) rfl rfl
theorem tw_1147 : (Cond.methodLink "TownBandLaw" (90 : Nat) ({ cls := "TownBandModel", name := "programme", desc := "(II)I" } : MethodName)) ∈ tblG := tG5 (i := 187) rfl rfl
theorem tw_1148 : (Cond.instanceMethod ({ cls := "TownBandModel", name := "programme", desc := "(II)I" } : MethodName)) ∈ tblG := tG5 (i := 188) rfl rfl
theorem tw_1149 : (Cond.selects "TownBandModel" ({ cls := "TownBandModel", name := "programme", desc := "(II)I" } : MethodName) ({ cls := "TownBandModel", name := "programme", desc := "(II)I" } : MethodName)) ∈ tblG := tG5 (i := 189) rfl rfl
theorem tw_1150 : (Cond.code ({ cls := "TownBandModel", name := "programme", desc := "(II)I" } : MethodName) prog_12_method_31_code (10 : Nat) (Option.some FieldType.int)) ∈ tblG := tG5 (i := 190) rfl rfl
theorem tw_1151 : (Cond.methodLink "TownBandModel" (162 : Nat) ({ cls := "TownBandModel", name := "sumOf", desc := "(I)I" } : MethodName)) ∈ tblG := tG5 (i := 191) rfl rfl
theorem tw_1153 : (Cond.instanceMethod ({ cls := "TownBandModel", name := "sumOf", desc := "(I)I" } : MethodName)) ∈ tblG := tG5 (i := 193) rfl rfl
theorem tw_1154 : (Cond.code ({ cls := "TownBandModel", name := "sumOf", desc := "(I)I" } : MethodName) prog_12_method_28_code (4 : Nat) (Option.some FieldType.int)) ∈ tblG := tG5 (i := 194) rfl rfl
theorem tw_1155 : (Cond.methodLink "TownBandModel" (165 : Nat) ({ cls := "TownBandModel", name := "goes", desc := "(IIII)Z" } : MethodName)) ∈ tblG := tG5 (i := 195) rfl rfl
theorem tw_1157 : (Cond.instanceMethod ({ cls := "TownBandModel", name := "goes", desc := "(IIII)Z" } : MethodName)) ∈ tblG := tG5 (i := 197) rfl rfl
theorem tw_1158 : (Cond.code ({ cls := "TownBandModel", name := "goes", desc := "(IIII)Z" } : MethodName) prog_12_method_30_code (5 : Nat) (Option.some FieldType.boolean)) ∈ tblG := tG5 (i := 198) rfl rfl
theorem tw_1159 : (Cond.methodLink "TownBandModel" (169 : Nat) ({ cls := "TownBandModel", name := "strainOf", desc := "(II)I" } : MethodName)) ∈ tblG := tG5 (i := 199) rfl rfl
theorem tw_1161 : (Cond.instanceMethod ({ cls := "TownBandModel", name := "strainOf", desc := "(II)I" } : MethodName)) ∈ tblG := tG5 (i := 201) rfl rfl
theorem tw_1162 : (Cond.code ({ cls := "TownBandModel", name := "strainOf", desc := "(II)I" } : MethodName) prog_12_method_29_code (4 : Nat) (Option.some FieldType.int)) ∈ tblG := tG5 (i := 202) rfl rfl
theorem tw_1163 : (Cond.methodLink "TownBandLaw" (94 : Nat) ({ cls := "TownBandModel", name := "plan", desc := "(I)I" } : MethodName)) ∈ tblG := tG5 (i := 203) rfl rfl
theorem tw_1164 : (Cond.instanceMethod ({ cls := "TownBandModel", name := "plan", desc := "(I)I" } : MethodName)) ∈ tblG := tG5 (i := 204) rfl rfl
theorem tw_1165 : (Cond.selects "TownBandModel" ({ cls := "TownBandModel", name := "plan", desc := "(I)I" } : MethodName) ({ cls := "TownBandModel", name := "plan", desc := "(I)I" } : MethodName)) ∈ tblG := tG5 (i := 205) rfl rfl
theorem tw_1166 : (Cond.code ({ cls := "TownBandModel", name := "plan", desc := "(I)I" } : MethodName) prog_12_method_32_code (2 : Nat) (Option.some FieldType.int)) ∈ tblG := tG5 (i := 206) rfl rfl
theorem tw_1167 : (Cond.methodLink "TownBandLaw" (98 : Nat) ({ cls := "TownBandModel", name := "strain", desc := "()I" } : MethodName)) ∈ tblG := tG5 (i := 207) rfl rfl
theorem tw_1168 : (Cond.instanceMethod ({ cls := "TownBandModel", name := "strain", desc := "()I" } : MethodName)) ∈ tblG := tG5 (i := 208) rfl rfl
theorem tw_1169 : (Cond.selects "TownBandModel" ({ cls := "TownBandModel", name := "strain", desc := "()I" } : MethodName) ({ cls := "TownBandModel", name := "strain", desc := "()I" } : MethodName)) ∈ tblG := tG5 (i := 209) rfl rfl
theorem tw_1170 : (Cond.code ({ cls := "TownBandModel", name := "strain", desc := "()I" } : MethodName) prog_12_method_33_code (1 : Nat) (Option.some FieldType.int)) ∈ tblG := tG5 (i := 210) rfl rfl
theorem tw_1171 : (Cond.methodLink "TownBandLaw" (103 : Nat) ({ cls := "TownBandModel", name := "tell", desc := "(III)I" } : MethodName)) ∈ tblG := tG5 (i := 211) rfl rfl
theorem tw_1172 : (Cond.instanceMethod ({ cls := "TownBandModel", name := "tell", desc := "(III)I" } : MethodName)) ∈ tblG := tG5 (i := 212) rfl rfl
theorem tw_1173 : (Cond.selects "TownBandModel" ({ cls := "TownBandModel", name := "tell", desc := "(III)I" } : MethodName) ({ cls := "TownBandModel", name := "tell", desc := "(III)I" } : MethodName)) ∈ tblG := tG5 (i := 213) rfl rfl
theorem tw_1174 : (Cond.code ({ cls := "TownBandModel", name := "tell", desc := "(III)I" } : MethodName) prog_12_method_36_code (4 : Nat) (Option.some FieldType.int)) ∈ tblG := tG5 (i := 214) rfl rfl
theorem tw_1175 : (Cond.methodLink "TownBandModel" (179 : Nat) ({ cls := "TownBandModel", name := "isDay", desc := "(I)Z" } : MethodName)) ∈ tblG := tG5 (i := 215) rfl rfl
theorem tw_1177 : (Cond.instanceMethod ({ cls := "TownBandModel", name := "isDay", desc := "(I)Z" } : MethodName)) ∈ tblG := tG5 (i := 217) rfl rfl
theorem tw_1178 : (Cond.code ({ cls := "TownBandModel", name := "isDay", desc := "(I)Z" } : MethodName) prog_12_method_34_code (2 : Nat) (Option.some FieldType.boolean)) ∈ tblG := tG5 (i := 218) rfl rfl
theorem tw_1179 : (Cond.methodLink "TownBandModel" (182 : Nat) ({ cls := "TownBandModel", name := "isThere", desc := "(I)Z" } : MethodName)) ∈ tblG := tG5 (i := 219) rfl rfl
theorem tw_1181 : (Cond.instanceMethod ({ cls := "TownBandModel", name := "isThere", desc := "(I)Z" } : MethodName)) ∈ tblG := tG5 (i := 221) rfl rfl
theorem tw_1182 : (Cond.code ({ cls := "TownBandModel", name := "isThere", desc := "(I)Z" } : MethodName) prog_12_method_35_code (2 : Nat) (Option.some FieldType.boolean)) ∈ tblG := tG5 (i := 222) rfl rfl
theorem tw_1183 : (Cond.methodLink "TownBandLaw" (107 : Nat) ({ cls := "TownBandModel", name := "where", desc := "(III)I" } : MethodName)) ∈ tblG := tG5 (i := 223) rfl rfl
theorem tw_1184 : (Cond.instanceMethod ({ cls := "TownBandModel", name := "where", desc := "(III)I" } : MethodName)) ∈ tblG := tG5 (i := 224) rfl rfl
theorem tw_1185 : (Cond.selects "TownBandModel" ({ cls := "TownBandModel", name := "where", desc := "(III)I" } : MethodName) ({ cls := "TownBandModel", name := "where", desc := "(III)I" } : MethodName)) ∈ tblG := tG5 (i := 225) rfl rfl
theorem tw_1186 : (Cond.code ({ cls := "TownBandModel", name := "where", desc := "(III)I" } : MethodName) prog_12_method_38_code (4 : Nat) (Option.some FieldType.int)) ∈ tblG := tG5 (i := 226) rfl rfl
theorem tw_1187 : (Cond.methodLink "TownBandModel" (188 : Nat) ({ cls := "TownBandModel", name := "whereIs", desc := "(III)I" } : MethodName)) ∈ tblG := tG5 (i := 227) rfl rfl
theorem tw_1189 : (Cond.instanceMethod ({ cls := "TownBandModel", name := "whereIs", desc := "(III)I" } : MethodName)) ∈ tblG := tG5 (i := 229) rfl rfl
theorem tw_1190 : (Cond.code ({ cls := "TownBandModel", name := "whereIs", desc := "(III)I" } : MethodName) prog_12_method_37_code (7 : Nat) (Option.some FieldType.int)) ∈ tblG := tG5 (i := 230) rfl rfl
theorem tw_1191 : (Cond.methodLink "TownBandLaw" (111 : Nat) ({ cls := "TownBandModel", name := "copies", desc := "(III)I" } : MethodName)) ∈ tblG := tG5 (i := 231) rfl rfl
theorem tw_1192 : (Cond.instanceMethod ({ cls := "TownBandModel", name := "copies", desc := "(III)I" } : MethodName)) ∈ tblG := tG5 (i := 232) rfl rfl
theorem tw_1193 : (Cond.selects "TownBandModel" ({ cls := "TownBandModel", name := "copies", desc := "(III)I" } : MethodName) ({ cls := "TownBandModel", name := "copies", desc := "(III)I" } : MethodName)) ∈ tblG := tG5 (i := 233) rfl rfl
theorem tw_1194 : (Cond.code ({ cls := "TownBandModel", name := "copies", desc := "(III)I" } : MethodName) prog_12_method_40_code (4 : Nat) (Option.some FieldType.int)) ∈ tblG := tG5 (i := 234) rfl rfl
theorem tw_1195 : (Cond.methodLink "TownBandModel" (191 : Nat) ({ cls := "TownBandModel", name := "copiesAt", desc := "(III)I" } : MethodName)) ∈ tblG := tG5 (i := 235) rfl rfl
theorem tw_1197 : (Cond.instanceMethod ({ cls := "TownBandModel", name := "copiesAt", desc := "(III)I" } : MethodName)) ∈ tblG := tG5 (i := 237) rfl rfl
theorem tw_1198 : (Cond.code ({ cls := "TownBandModel", name := "copiesAt", desc := "(III)I" } : MethodName) prog_12_method_39_code (6 : Nat) (Option.some FieldType.int)) ∈ tblG := tG5 (i := 238) rfl rfl
theorem tw_1199 : (Cond.methodLink "TownBandLaw" (115 : Nat) ({ cls := "TownBandModel", name := "contest", desc := "(I)I" } : MethodName)) ∈ tblG := tG5 (i := 239) rfl rfl
theorem tw_1200 : (Cond.instanceMethod ({ cls := "TownBandModel", name := "contest", desc := "(I)I" } : MethodName)) ∈ tblG := tG6 (i := 0) rfl rfl
theorem tw_1201 : (Cond.selects "TownBandModel" ({ cls := "TownBandModel", name := "contest", desc := "(I)I" } : MethodName) ({ cls := "TownBandModel", name := "contest", desc := "(I)I" } : MethodName)) ∈ tblG := tG6 (i := 1) rfl rfl
theorem tw_1202 : (Cond.code ({ cls := "TownBandModel", name := "contest", desc := "(I)I" } : MethodName) prog_12_method_41_code (2 : Nat) (Option.some FieldType.int)) ∈ tblG := tG6 (i := 2) rfl rfl
theorem tw_1203 : (Cond.methodLink "TownBandLaw" (123 : Nat) ({ cls := "TownBandModel", name := "count", desc := "(I)I" } : MethodName)) ∈ tblG := tG6 (i := 3) rfl rfl
theorem tw_1204 : (Cond.instanceMethod ({ cls := "TownBandModel", name := "count", desc := "(I)I" } : MethodName)) ∈ tblG := tG6 (i := 4) rfl rfl
theorem tw_1205 : (Cond.selects "TownBandModel" ({ cls := "TownBandModel", name := "count", desc := "(I)I" } : MethodName) ({ cls := "TownBandModel", name := "count", desc := "(I)I" } : MethodName)) ∈ tblG := tG6 (i := 5) rfl rfl
theorem tw_1206 : (Cond.code ({ cls := "TownBandModel", name := "count", desc := "(I)I" } : MethodName) prog_12_method_42_code (4 : Nat) (Option.some FieldType.int)) ∈ tblG := tG6 (i := 6) rfl rfl
theorem tw_1207 : (Cond.methodLink "TownBandLaw" (36 : Nat) ({ cls := "TownBandModel", name := "feed", desc := "(IIIII)I" } : MethodName)) ∈ tblG := tG6 (i := 7) rfl rfl
theorem tw_1208 : (Cond.instanceMethod ({ cls := "TownBandModel", name := "feed", desc := "(IIIII)I" } : MethodName)) ∈ tblG := tG6 (i := 8) rfl rfl
theorem tw_1209 : (Cond.selects "TownBandModel" ({ cls := "TownBandModel", name := "feed", desc := "(IIIII)I" } : MethodName) ({ cls := "TownBandModel", name := "feed", desc := "(IIIII)I" } : MethodName)) ∈ tblG := tG6 (i := 9) rfl rfl
theorem tw_1210 : (Cond.code ({ cls := "TownBandModel", name := "feed", desc := "(IIIII)I" } : MethodName) prog_12_method_44_code (6 : Nat) (Option.some FieldType.int)) ∈ tblG := tG6 (i := 10) rfl rfl
theorem tw_1211 : (Cond.methodLink "TownBandModel" (197 : Nat) ({ cls := "TownBandModel", name := "lay", desc := "(I)V" } : MethodName)) ∈ tblG := tG6 (i := 11) rfl rfl
theorem tw_1213 : (Cond.instanceMethod ({ cls := "TownBandModel", name := "lay", desc := "(I)V" } : MethodName)) ∈ tblG := tG6 (i := 13) rfl rfl
theorem tw_1214 : (Cond.code ({ cls := "TownBandModel", name := "lay", desc := "(I)V" } : MethodName) prog_12_method_43_code (3 : Nat) (Option.none : Option FieldType)) ∈ tblG := tG6 (i := 14) rfl rfl
theorem tw_1215 : (Cond.methodLink "TownBandLaw" (41 : Nat) ({ cls := "TownBandModel", name := "end", desc := "(I)I" } : MethodName)) ∈ tblG := tG6 (i := 15) rfl rfl
theorem tw_1216 : (Cond.instanceMethod ({ cls := "TownBandModel", name := "end", desc := "(I)I" } : MethodName)) ∈ tblG := tG6 (i := 16) rfl rfl
theorem tw_1217 : (Cond.selects "TownBandModel" ({ cls := "TownBandModel", name := "end", desc := "(I)I" } : MethodName) ({ cls := "TownBandModel", name := "end", desc := "(I)I" } : MethodName)) ∈ tblG := tG6 (i := 17) rfl rfl
theorem tw_1218 : (Cond.code ({ cls := "TownBandModel", name := "end", desc := "(I)I" } : MethodName) prog_12_method_45_code (2 : Nat) (Option.some FieldType.int)) ∈ tblG := tG6 (i := 18) rfl rfl
theorem tw_1219 : (Cond.methodLink "TownBandLaw" (54 : Nat) ({ cls := "TownBandModel", name := "fault", desc := "(I)I" } : MethodName)) ∈ tblG := tG6 (i := 19) rfl rfl
theorem tw_1220 : (Cond.instanceMethod ({ cls := "TownBandModel", name := "fault", desc := "(I)I" } : MethodName)) ∈ tblG := tG6 (i := 20) rfl rfl
theorem tw_1221 : (Cond.selects "TownBandModel" ({ cls := "TownBandModel", name := "fault", desc := "(I)I" } : MethodName) ({ cls := "TownBandModel", name := "fault", desc := "(I)I" } : MethodName)) ∈ tblG := tG6 (i := 21) rfl rfl
theorem tw_1222 : (Cond.code ({ cls := "TownBandModel", name := "fault", desc := "(I)I" } : MethodName) prog_12_method_46_code (2 : Nat) (Option.some FieldType.int)) ∈ tblG := tG6 (i := 22) rfl rfl
theorem tw_1223 : (Cond.methodLink "TownBandLaw" (46 : Nat) ({ cls := "TownBandModel", name := "load", desc := "()I" } : MethodName)) ∈ tblG := tG6 (i := 23) rfl rfl
theorem tw_1224 : (Cond.instanceMethod ({ cls := "TownBandModel", name := "load", desc := "()I" } : MethodName)) ∈ tblG := tG6 (i := 24) rfl rfl
theorem tw_1225 : (Cond.selects "TownBandModel" ({ cls := "TownBandModel", name := "load", desc := "()I" } : MethodName) ({ cls := "TownBandModel", name := "load", desc := "()I" } : MethodName)) ∈ tblG := tG6 (i := 25) rfl rfl
theorem tw_1226 : (Cond.code ({ cls := "TownBandModel", name := "load", desc := "()I" } : MethodName) prog_12_method_61_code (2 : Nat) (Option.some FieldType.int)) ∈ tblG := tG6 (i := 26) rfl rfl
theorem tw_1227 : (Cond.methodLink "TownBandModel" (269 : Nat) ({ cls := "TownBandModel", name := "readText", desc := "()Z" } : MethodName)) ∈ tblG := tG6 (i := 27) rfl rfl
theorem tw_1229 : (Cond.instanceMethod ({ cls := "TownBandModel", name := "readText", desc := "()Z" } : MethodName)) ∈ tblG := tG6 (i := 29) rfl rfl
theorem tw_1230 : (Cond.code ({ cls := "TownBandModel", name := "readText", desc := "()Z" } : MethodName) prog_12_method_60_code (1 : Nat) (Option.some FieldType.boolean)) ∈ tblG := tG6 (i := 30) rfl rfl
theorem tw_1231 : (Cond.methodLink "TownBandModel" (248 : Nat) ({ cls := "TownBandModel", name := "next", desc := "(Z)V" } : MethodName)) ∈ tblG := tG6 (i := 31) rfl rfl
theorem tw_1233 : (Cond.instanceMethod ({ cls := "TownBandModel", name := "next", desc := "(Z)V" } : MethodName)) ∈ tblG := tG6 (i := 33) rfl rfl
theorem tw_1234 : (Cond.code ({ cls := "TownBandModel", name := "next", desc := "(Z)V" } : MethodName) prog_12_method_53_code (5 : Nat) (Option.none : Option FieldType)) ∈ tblG := tG6 (i := 34) rfl rfl
theorem tw_1235 : (Cond.methodLink "TownBandModel" (215 : Nat) ({ cls := "TownBandModel", name := "raw", desc := "()I" } : MethodName)) ∈ tblG := tG6 (i := 35) rfl rfl
theorem tw_1237 : (Cond.instanceMethod ({ cls := "TownBandModel", name := "raw", desc := "()I" } : MethodName)) ∈ tblG := tG6 (i := 37) rfl rfl
theorem tw_1238 : (Cond.code ({ cls := "TownBandModel", name := "raw", desc := "()I" } : MethodName) prog_12_method_47_code (1 : Nat) (Option.some FieldType.int)) ∈ tblG := tG6 (i := 38) rfl rfl
theorem tw_1239 : (Cond.methodLink "TownBandModel" (225 : Nat) ({ cls := "TownBandModel", name := "isSmall", desc := "(I)Z" } : MethodName)) ∈ tblG := tG6 (i := 39) rfl rfl
theorem tw_1241 : (Cond.instanceMethod ({ cls := "TownBandModel", name := "isSmall", desc := "(I)Z" } : MethodName)) ∈ tblG := tG6 (i := 41) rfl rfl
theorem tw_1242 : (Cond.code ({ cls := "TownBandModel", name := "isSmall", desc := "(I)Z" } : MethodName) prog_12_method_48_code (2 : Nat) (Option.some FieldType.boolean)) ∈ tblG := tG6 (i := 42) rfl rfl
theorem tw_1243 : (Cond.methodLink "TownBandModel" (228 : Nat) ({ cls := "TownBandModel", name := "isWordOf", desc := "(Z)Z" } : MethodName)) ∈ tblG := tG6 (i := 43) rfl rfl
theorem tw_1245 : (Cond.instanceMethod ({ cls := "TownBandModel", name := "isWordOf", desc := "(Z)Z" } : MethodName)) ∈ tblG := tG6 (i := 45) rfl rfl
theorem tw_1246 : (Cond.code ({ cls := "TownBandModel", name := "isWordOf", desc := "(Z)Z" } : MethodName) prog_12_method_51_code (2 : Nat) (Option.some FieldType.boolean)) ∈ tblG := tG6 (i := 46) rfl rfl
theorem tw_1247 : (Cond.methodLink "TownBandModel" (211 : Nat) ({ cls := "TownBandModel", name := "word", desc := "(IIIII)J" } : MethodName)) ∈ tblG := tG6 (i := 47) rfl rfl
theorem tw_1249 : (Cond.instanceMethod ({ cls := "TownBandModel", name := "word", desc := "(IIIII)J" } : MethodName)) ∈ tblG := tG6 (i := 49) rfl rfl
theorem tw_1250 : (Cond.code ({ cls := "TownBandModel", name := "word", desc := "(IIIII)J" } : MethodName) prog_12_method_50_code (8 : Nat) (Option.some FieldType.long)) ∈ tblG := tG6 (i := 50) rfl rfl
theorem tw_1251 : (Cond.methodLink "TownBandModel" (232 : Nat) ({ cls := "TownBandModel", name := "isDigit", desc := "(I)Z" } : MethodName)) ∈ tblG := tG6 (i := 51) rfl rfl
theorem tw_1253 : (Cond.instanceMethod ({ cls := "TownBandModel", name := "isDigit", desc := "(I)Z" } : MethodName)) ∈ tblG := tG6 (i := 53) rfl rfl
theorem tw_1254 : (Cond.code ({ cls := "TownBandModel", name := "isDigit", desc := "(I)Z" } : MethodName) prog_12_method_49_code (2 : Nat) (Option.some FieldType.boolean)) ∈ tblG := tG6 (i := 54) rfl rfl
theorem tw_1255 : (Cond.methodLink "TownBandModel" (238 : Nat) ({ cls := "TownBandModel", name := "isSignOf", desc := "(IZ)Z" } : MethodName)) ∈ tblG := tG6 (i := 55) rfl rfl
theorem tw_1257 : (Cond.instanceMethod ({ cls := "TownBandModel", name := "isSignOf", desc := "(IZ)Z" } : MethodName)) ∈ tblG := tG6 (i := 57) rfl rfl
theorem tw_1258 : (Cond.code ({ cls := "TownBandModel", name := "isSignOf", desc := "(IZ)Z" } : MethodName) prog_12_method_52_code (3 : Nat) (Option.some FieldType.boolean)) ∈ tblG := tG6 (i := 58) rfl rfl
theorem tw_1259 : (Cond.methodLink "TownBandModel" (261 : Nat) ({ cls := "TownBandModel", name := "isWord", desc := "(IIIII)Z" } : MethodName)) ∈ tblG := tG6 (i := 59) rfl rfl
theorem tw_1261 : (Cond.instanceMethod ({ cls := "TownBandModel", name := "isWord", desc := "(IIIII)Z" } : MethodName)) ∈ tblG := tG6 (i := 61) rfl rfl
theorem tw_1262 : (Cond.code ({ cls := "TownBandModel", name := "isWord", desc := "(IIIII)Z" } : MethodName) prog_12_method_55_code (6 : Nat) (Option.some FieldType.boolean)) ∈ tblG := tG6 (i := 62) rfl rfl
theorem tw_1263 : (Cond.methodLink "TownBandModel" (265 : Nat) ({ cls := "TownBandModel", name := "readPiece", desc := "()Z" } : MethodName)) ∈ tblG := tG6 (i := 63) rfl rfl
theorem tw_1265 : (Cond.instanceMethod ({ cls := "TownBandModel", name := "readPiece", desc := "()Z" } : MethodName)) ∈ tblG := tG6 (i := 65) rfl rfl
theorem tw_1266 : (Cond.code ({ cls := "TownBandModel", name := "readPiece", desc := "()Z" } : MethodName) prog_12_method_58_code (3 : Nat) (Option.some FieldType.boolean)) ∈ tblG := tG6 (i := 66) rfl rfl
theorem tw_1267 : (Cond.methodLink "TownBandModel" (242 : Nat) ({ cls := "TownBandModel", name := "fails", desc := "(I)Z" } : MethodName)) ∈ tblG := tG6 (i := 67) rfl rfl
theorem tw_1269 : (Cond.instanceMethod ({ cls := "TownBandModel", name := "fails", desc := "(I)Z" } : MethodName)) ∈ tblG := tG6 (i := 69) rfl rfl
theorem tw_1270 : (Cond.code ({ cls := "TownBandModel", name := "fails", desc := "(I)Z" } : MethodName) prog_12_method_54_code (2 : Nat) (Option.some FieldType.boolean)) ∈ tblG := tG6 (i := 70) rfl rfl
theorem tw_1271 : (Cond.methodLink "TownBandModel" (252 : Nat) ({ cls := "TownBandModel", name := "isSign", desc := "(I)Z" } : MethodName)) ∈ tblG := tG6 (i := 71) rfl rfl
theorem tw_1273 : (Cond.instanceMethod ({ cls := "TownBandModel", name := "isSign", desc := "(I)Z" } : MethodName)) ∈ tblG := tG6 (i := 73) rfl rfl
theorem tw_1274 : (Cond.code ({ cls := "TownBandModel", name := "isSign", desc := "(I)Z" } : MethodName) prog_12_method_56_code (2 : Nat) (Option.some FieldType.boolean)) ∈ tblG := tG6 (i := 74) rfl rfl
theorem tw_1275 : (Cond.methodLink "TownBandModel" (255 : Nat) ({ cls := "TownBandModel", name := "takes", desc := "(II)Z" } : MethodName)) ∈ tblG := tG6 (i := 75) rfl rfl
theorem tw_1277 : (Cond.instanceMethod ({ cls := "TownBandModel", name := "takes", desc := "(II)Z" } : MethodName)) ∈ tblG := tG6 (i := 77) rfl rfl
theorem tw_1278 : (Cond.code ({ cls := "TownBandModel", name := "takes", desc := "(II)Z" } : MethodName) prog_12_method_57_code (3 : Nat) (Option.some FieldType.boolean)) ∈ tblG := tG6 (i := 78) rfl rfl
theorem tw_1279 : (Cond.methodLink "TownBandModel" (258 : Nat) ({ cls := "TownBandModel", name := "readPart", desc := "(I)Z" } : MethodName)) ∈ tblG := tG6 (i := 79) rfl rfl
theorem tw_1281 : (Cond.instanceMethod ({ cls := "TownBandModel", name := "readPart", desc := "(I)Z" } : MethodName)) ∈ tblG := tG6 (i := 81) rfl rfl
theorem tw_1282 : (Cond.code ({ cls := "TownBandModel", name := "readPart", desc := "(I)Z" } : MethodName) prog_12_method_59_code (6 : Nat) (Option.some FieldType.boolean)) ∈ tblG := tG6 (i := 82) rfl rfl
theorem tw_1283 : (Cond.methodLink "TownBandLaw" (50 : Nat) ({ cls := "TownBandModel", name := "rule", desc := "()I" } : MethodName)) ∈ tblG := tG6 (i := 83) rfl rfl
theorem tw_1284 : (Cond.instanceMethod ({ cls := "TownBandModel", name := "rule", desc := "()I" } : MethodName)) ∈ tblG := tG6 (i := 84) rfl rfl
theorem tw_1285 : (Cond.selects "TownBandModel" ({ cls := "TownBandModel", name := "rule", desc := "()I" } : MethodName) ({ cls := "TownBandModel", name := "rule", desc := "()I" } : MethodName)) ∈ tblG := tG6 (i := 85) rfl rfl
theorem tw_1286 : (Cond.code ({ cls := "TownBandModel", name := "rule", desc := "()I" } : MethodName) prog_12_method_70_code (3 : Nat) (Option.some FieldType.int)) ∈ tblG := tG6 (i := 86) rfl rfl
theorem tw_1287 : (Cond.methodLink "TownBandModel" (303 : Nat) ({ cls := "TownBandModel", name := "readRule", desc := "()Z" } : MethodName)) ∈ tblG := tG6 (i := 87) rfl rfl
theorem tw_1289 : (Cond.instanceMethod ({ cls := "TownBandModel", name := "readRule", desc := "()Z" } : MethodName)) ∈ tblG := tG6 (i := 89) rfl rfl
theorem tw_1290 : (Cond.code ({ cls := "TownBandModel", name := "readRule", desc := "()Z" } : MethodName) prog_12_method_69_code (2 : Nat) (Option.some FieldType.boolean)) ∈ tblG := tG6 (i := 90) rfl rfl
theorem tw_1291 : (Cond.methodLink "TownBandModel" (297 : Nat) ({ cls := "TownBandModel", name := "open", desc := "()I" } : MethodName)) ∈ tblG := tG6 (i := 91) rfl rfl
theorem tw_1293 : (Cond.instanceMethod ({ cls := "TownBandModel", name := "open", desc := "()I" } : MethodName)) ∈ tblG := tG6 (i := 93) rfl rfl
theorem tw_1294 : (Cond.code ({ cls := "TownBandModel", name := "open", desc := "()I" } : MethodName) prog_12_method_65_code (3 : Nat) (Option.some FieldType.int)) ∈ tblG := tG6 (i := 94) rfl rfl
theorem tw_1295 : (Cond.methodLink "TownBandModel" (291 : Nat) ({ cls := "TownBandModel", name := "step", desc := "()V" } : MethodName)) ∈ tblG := tG6 (i := 95) rfl rfl
theorem tw_1297 : (Cond.instanceMethod ({ cls := "TownBandModel", name := "step", desc := "()V" } : MethodName)) ∈ tblG := tG6 (i := 97) rfl rfl
theorem tw_1298 : (Cond.code ({ cls := "TownBandModel", name := "step", desc := "()V" } : MethodName) prog_12_method_67_code (1 : Nat) (Option.none : Option FieldType)) ∈ tblG := tG6 (i := 98) rfl rfl
theorem tw_1299 : (Cond.methodLink "TownBandModel" (300 : Nat) ({ cls := "TownBandModel", name := "readSums", desc := "()Z" } : MethodName)) ∈ tblG := tG6 (i := 99) rfl rfl
theorem tw_1301 : (Cond.instanceMethod ({ cls := "TownBandModel", name := "readSums", desc := "()Z" } : MethodName)) ∈ tblG := tG6 (i := 101) rfl rfl
theorem tw_1302 : (Cond.code ({ cls := "TownBandModel", name := "readSums", desc := "()Z" } : MethodName) prog_12_method_68_code (2 : Nat) (Option.some FieldType.boolean)) ∈ tblG := tG6 (i := 102) rfl rfl
theorem tw_1303 : (Cond.methodLink "TownBandModel" (288 : Nat) ({ cls := "TownBandModel", name := "value", desc := "()Z" } : MethodName)) ∈ tblG := tG6 (i := 103) rfl rfl
theorem tw_1305 : (Cond.instanceMethod ({ cls := "TownBandModel", name := "value", desc := "()Z" } : MethodName)) ∈ tblG := tG6 (i := 105) rfl rfl
theorem tw_1306 : (Cond.code ({ cls := "TownBandModel", name := "value", desc := "()Z" } : MethodName) prog_12_method_66_code (1 : Nat) (Option.some FieldType.boolean)) ∈ tblG := tG6 (i := 106) rfl rfl
theorem tw_1307 : (Cond.methodLink "TownBandModel" (281 : Nat) ({ cls := "TownBandModel", name := "does", desc := "(II)V" } : MethodName)) ∈ tblG := tG6 (i := 107) rfl rfl
theorem tw_1309 : (Cond.instanceMethod ({ cls := "TownBandModel", name := "does", desc := "(II)V" } : MethodName)) ∈ tblG := tG6 (i := 109) rfl rfl
theorem tw_1310 : (Cond.code ({ cls := "TownBandModel", name := "does", desc := "(II)V" } : MethodName) prog_12_method_62_code (3 : Nat) (Option.none : Option FieldType)) ∈ tblG := tG6 (i := 110) rfl rfl
theorem tw_1311 : (Cond.methodLink "TownBandModel" (294 : Nat) ({ cls := "TownBandModel", name := "settles", desc := "(I)V" } : MethodName)) ∈ tblG := tG6 (i := 111) rfl rfl
theorem tw_1313 : (Cond.instanceMethod ({ cls := "TownBandModel", name := "settles", desc := "(I)V" } : MethodName)) ∈ tblG := tG6 (i := 113) rfl rfl
theorem tw_1314 : (Cond.code ({ cls := "TownBandModel", name := "settles", desc := "(I)V" } : MethodName) prog_12_method_64_code (2 : Nat) (Option.none : Option FieldType)) ∈ tblG := tG6 (i := 114) rfl rfl
theorem tw_1315 : (Cond.methodLink "TownBandModel" (278 : Nat) ({ cls := "TownBandModel", name := "rank", desc := "(I)I" } : MethodName)) ∈ tblG := tG6 (i := 115) rfl rfl
theorem tw_1317 : (Cond.instanceMethod ({ cls := "TownBandModel", name := "rank", desc := "(I)I" } : MethodName)) ∈ tblG := tG6 (i := 117) rfl rfl
theorem tw_1318 : (Cond.code ({ cls := "TownBandModel", name := "rank", desc := "(I)I" } : MethodName) prog_12_method_63_code (2 : Nat) (Option.some FieldType.int)) ∈ tblG := tG6 (i := 118) rfl rfl
theorem tw_1319 : (Cond.methodLink "TownBandLaw" (119 : Nat) ({ cls := "TownBandModel", name := "may", desc := "(II)I" } : MethodName)) ∈ tblG := tG6 (i := 119) rfl rfl
theorem tw_1320 : (Cond.instanceMethod ({ cls := "TownBandModel", name := "may", desc := "(II)I" } : MethodName)) ∈ tblG := tG6 (i := 120) rfl rfl
theorem tw_1321 : (Cond.selects "TownBandModel" ({ cls := "TownBandModel", name := "may", desc := "(II)I" } : MethodName) ({ cls := "TownBandModel", name := "may", desc := "(II)I" } : MethodName)) ∈ tblG := tG6 (i := 121) rfl rfl
theorem tw_1322 : (Cond.code ({ cls := "TownBandModel", name := "may", desc := "(II)I" } : MethodName) prog_12_method_72_code (6 : Nat) (Option.some FieldType.int)) ∈ tblG := tG6 (i := 122) rfl rfl
theorem tw_1323 : (Cond.methodLink "TownBandModel" (309 : Nat) ({ cls := "TownBandModel", name := "done", desc := "(III)I" } : MethodName)) ∈ tblG := tG6 (i := 123) rfl rfl
theorem tw_1325 : (Cond.instanceMethod ({ cls := "TownBandModel", name := "done", desc := "(III)I" } : MethodName)) ∈ tblG := tG6 (i := 125) rfl rfl
theorem tw_1326 : (Cond.code ({ cls := "TownBandModel", name := "done", desc := "(III)I" } : MethodName) prog_12_method_71_code (5 : Nat) (Option.some FieldType.int)) ∈ tblG := tG6 (i := 126) rfl rfl
theorem tw_1327 : (Cond.fieldLink "java/lang/String" (9 : Nat) "java/lang/String" "value" "[B") ∈ tblG := tG6 (i := 127) rfl rfl
theorem tw_1328 : (Cond.fieldLink "java/lang/String" (15 : Nat) "java/lang/String" "coder" "B") ∈ tblG := tG6 (i := 128) rfl rfl
theorem ts_0 : Cond.selects "TownBand$Players" ⟨"TownBand$Players", "join", "(II)I"⟩ ⟨"TownBand$Players", "join", "(II)I"⟩ ∈ tblG := tS (i := 0) (q := (⟨"TownBand$Players", "join", "(II)I"⟩, 6)) rfl
theorem ts_1 : Cond.selects "TownBand$Players" ⟨"TownBand$Players", "has", "(I)Z"⟩ ⟨"TownBand$Players", "has", "(I)Z"⟩ ∈ tblG := tS (i := 1) (q := (⟨"TownBand$Players", "has", "(I)Z"⟩, 6)) rfl
theorem ts_2 : Cond.selects "TownBand$Players" ⟨"TownBand$Players", "learn", "(III)V"⟩ ⟨"TownBand$Players", "learn", "(III)V"⟩ ∈ tblG := tS (i := 2) (q := (⟨"TownBand$Players", "learn", "(III)V"⟩, 6)) rfl
theorem ts_3 : Cond.selects "TownBand$Players" ⟨"TownBand$Players", "costOf", "(II)I"⟩ ⟨"TownBand$Players", "costOf", "(II)I"⟩ ∈ tblG := tS (i := 3) (q := (⟨"TownBand$Players", "costOf", "(II)I"⟩, 6)) rfl
theorem ts_4 : Cond.selects "TownBand$Players" ⟨"TownBand$Players", "mark", "(IZ)V"⟩ ⟨"TownBand$Players", "mark", "(IZ)V"⟩ ∈ tblG := tS (i := 4) (q := (⟨"TownBand$Players", "mark", "(IZ)V"⟩, 6)) rfl
theorem ts_5 : Cond.selects "TownBand$Tape" ⟨"TownBand$Tape", "hasRoom", "()Z"⟩ ⟨"TownBand$Tape", "hasRoom", "()Z"⟩ ∈ tblG := tS (i := 5) (q := (⟨"TownBand$Tape", "hasRoom", "()Z"⟩, 10)) rfl
theorem ts_6 : Cond.selects "TownBand$Tape" ⟨"TownBand$Tape", "append", "(I)V"⟩ ⟨"TownBand$Tape", "append", "(I)V"⟩ ∈ tblG := tS (i := 6) (q := (⟨"TownBand$Tape", "append", "(I)V"⟩, 10)) rfl
theorem ts_7 : Cond.selects "TownBand$Library" ⟨"TownBand$Library", "readText", "(LTownBand$Tape;)Z"⟩ ⟨"TownBand$Library", "readText", "(LTownBand$Tape;)Z"⟩ ∈ tblG := tS (i := 7) (q := (⟨"TownBand$Library", "readText", "(LTownBand$Tape;)Z"⟩, 3)) rfl
theorem ts_8 : Cond.selects "TownBand$Tape" ⟨"TownBand$Tape", "begin", "(I)V"⟩ ⟨"TownBand$Tape", "begin", "(I)V"⟩ ∈ tblG := tS (i := 8) (q := (⟨"TownBand$Tape", "begin", "(I)V"⟩, 10)) rfl
theorem ts_9 : Cond.selects "TownBand$Tape" ⟨"TownBand$Tape", "advance", "()V"⟩ ⟨"TownBand$Tape", "advance", "()V"⟩ ∈ tblG := tS (i := 9) (q := (⟨"TownBand$Tape", "advance", "()V"⟩, 10)) rfl
theorem ts_10 : Cond.selects "TownBand$Tape" ⟨"TownBand$Tape", "reads", "(Ljava/lang/String;)Z"⟩ ⟨"TownBand$Tape", "reads", "(Ljava/lang/String;)Z"⟩ ∈ tblG := tS (i := 10) (q := (⟨"TownBand$Tape", "reads", "(Ljava/lang/String;)Z"⟩, 10)) rfl
theorem ts_11 : Cond.selects "TownBand$Library" ⟨"TownBand$Library", "readPiece", "(LTownBand$Tape;)V"⟩ ⟨"TownBand$Library", "readPiece", "(LTownBand$Tape;)V"⟩ ∈ tblG := tS (i := 11) (q := (⟨"TownBand$Library", "readPiece", "(LTownBand$Tape;)V"⟩, 3)) rfl
theorem ts_12 : Cond.selects "TownBand$Tape" ⟨"TownBand$Tape", "fail", "(I)V"⟩ ⟨"TownBand$Tape", "fail", "(I)V"⟩ ∈ tblG := tS (i := 12) (q := (⟨"TownBand$Tape", "fail", "(I)V"⟩, 10)) rfl
theorem ts_13 : Cond.selects "TownBand$Piece" ⟨"TownBand$Piece", "clear", "()V"⟩ ⟨"TownBand$Piece", "clear", "()V"⟩ ∈ tblG := tS (i := 13) (q := (⟨"TownBand$Piece", "clear", "()V"⟩, 9)) rfl
theorem ts_14 : Cond.selects "TownBand$Library" ⟨"TownBand$Library", "readName", "(LTownBand$Tape;)I"⟩ ⟨"TownBand$Library", "readName", "(LTownBand$Tape;)I"⟩ ∈ tblG := tS (i := 14) (q := (⟨"TownBand$Library", "readName", "(LTownBand$Tape;)I"⟩, 3)) rfl
theorem ts_15 : Cond.selects "TownBand$Library" ⟨"TownBand$Library", "hasName", "(I)Z"⟩ ⟨"TownBand$Library", "hasName", "(I)Z"⟩ ∈ tblG := tS (i := 15) (q := (⟨"TownBand$Library", "hasName", "(I)Z"⟩, 3)) rfl
theorem ts_16 : Cond.selects "TownBand$Tape" ⟨"TownBand$Tape", "take", "(I)V"⟩ ⟨"TownBand$Tape", "take", "(I)V"⟩ ∈ tblG := tS (i := 16) (q := (⟨"TownBand$Tape", "take", "(I)V"⟩, 10)) rfl
theorem ts_17 : Cond.selects "TownBand$Piece" ⟨"TownBand$Piece", "addPart", "(Z)V"⟩ ⟨"TownBand$Piece", "addPart", "(Z)V"⟩ ∈ tblG := tS (i := 17) (q := (⟨"TownBand$Piece", "addPart", "(Z)V"⟩, 9)) rfl
theorem ts_18 : Cond.selects "TownBand$Piece" ⟨"TownBand$Piece", "hasInstrument", "(II)Z"⟩ ⟨"TownBand$Piece", "hasInstrument", "(II)Z"⟩ ∈ tblG := tS (i := 18) (q := (⟨"TownBand$Piece", "hasInstrument", "(II)Z"⟩, 9)) rfl
theorem ts_19 : Cond.selects "TownBand$Piece" ⟨"TownBand$Piece", "instrument", "(II)I"⟩ ⟨"TownBand$Piece", "instrument", "(II)I"⟩ ∈ tblG := tS (i := 19) (q := (⟨"TownBand$Piece", "instrument", "(II)I"⟩, 9)) rfl
theorem ts_20 : Cond.selects "TownBand$Piece" ⟨"TownBand$Piece", "addInstrument", "(II)V"⟩ ⟨"TownBand$Piece", "addInstrument", "(II)V"⟩ ∈ tblG := tS (i := 20) (q := (⟨"TownBand$Piece", "addInstrument", "(II)V"⟩, 9)) rfl
theorem ts_21 : Cond.selects "TownBand$Tape" ⟨"TownBand$Tape", "finish", "()Z"⟩ ⟨"TownBand$Tape", "finish", "()Z"⟩ ∈ tblG := tS (i := 21) (q := (⟨"TownBand$Tape", "finish", "()Z"⟩, 10)) rfl
theorem ts_22 : Cond.selects "TownBand$Rule" ⟨"TownBand$Rule", "beginDraft", "()V"⟩ ⟨"TownBand$Rule", "beginDraft", "()V"⟩ ∈ tblG := tS (i := 22) (q := (⟨"TownBand$Rule", "beginDraft", "()V"⟩, 7)) rfl
theorem ts_23 : Cond.selects "TownBand$Rule" ⟨"TownBand$Rule", "readEither", "(LTownBand$Tape;I)V"⟩ ⟨"TownBand$Rule", "readEither", "(LTownBand$Tape;I)V"⟩ ∈ tblG := tS (i := 23) (q := (⟨"TownBand$Rule", "readEither", "(LTownBand$Tape;I)V"⟩, 7)) rfl
theorem ts_24 : Cond.selects "TownBand$Rule" ⟨"TownBand$Rule", "readBoth", "(LTownBand$Tape;I)V"⟩ ⟨"TownBand$Rule", "readBoth", "(LTownBand$Tape;I)V"⟩ ∈ tblG := tS (i := 24) (q := (⟨"TownBand$Rule", "readBoth", "(LTownBand$Tape;I)V"⟩, 7)) rfl
theorem ts_25 : Cond.selects "TownBand$Rule" ⟨"TownBand$Rule", "readOne", "(LTownBand$Tape;I)V"⟩ ⟨"TownBand$Rule", "readOne", "(LTownBand$Tape;I)V"⟩ ∈ tblG := tS (i := 25) (q := (⟨"TownBand$Rule", "readOne", "(LTownBand$Tape;I)V"⟩, 7)) rfl
theorem ts_26 : Cond.selects "TownBand$Rule" ⟨"TownBand$Rule", "readComparison", "(LTownBand$Tape;)V"⟩ ⟨"TownBand$Rule", "readComparison", "(LTownBand$Tape;)V"⟩ ∈ tblG := tS (i := 26) (q := (⟨"TownBand$Rule", "readComparison", "(LTownBand$Tape;)V"⟩, 7)) rfl
theorem ts_27 : Cond.selects "TownBand$Rule" ⟨"TownBand$Rule", "readSum", "(LTownBand$Tape;)V"⟩ ⟨"TownBand$Rule", "readSum", "(LTownBand$Tape;)V"⟩ ∈ tblG := tS (i := 27) (q := (⟨"TownBand$Rule", "readSum", "(LTownBand$Tape;)V"⟩, 7)) rfl
theorem ts_28 : Cond.selects "TownBand$Rule" ⟨"TownBand$Rule", "readValue", "(LTownBand$Tape;)V"⟩ ⟨"TownBand$Rule", "readValue", "(LTownBand$Tape;)V"⟩ ∈ tblG := tS (i := 28) (q := (⟨"TownBand$Rule", "readValue", "(LTownBand$Tape;)V"⟩, 7)) rfl
theorem ts_29 : Cond.selects "TownBand$Rule" ⟨"TownBand$Rule", "write", "(I)V"⟩ ⟨"TownBand$Rule", "write", "(I)V"⟩ ∈ tblG := tS (i := 29) (q := (⟨"TownBand$Rule", "write", "(I)V"⟩, 7)) rfl
theorem ts_30 : Cond.selects "TownBand$Rule" ⟨"TownBand$Rule", "adoptDraft", "()V"⟩ ⟨"TownBand$Rule", "adoptDraft", "()V"⟩ ∈ tblG := tS (i := 30) (q := (⟨"TownBand$Rule", "adoptDraft", "()V"⟩, 7)) rfl
theorem ts_31 : Cond.selects "TownBand$Library" ⟨"TownBand$Library", "find", "(I)LTownBand$Piece;"⟩ ⟨"TownBand$Library", "find", "(I)LTownBand$Piece;"⟩ ∈ tblG := tS (i := 31) (q := (⟨"TownBand$Library", "find", "(I)LTownBand$Piece;"⟩, 3)) rfl
theorem ts_32 : Cond.selects "TownBand$Piece" ⟨"TownBand$Piece", "detail", "(I)I"⟩ ⟨"TownBand$Piece", "detail", "(I)I"⟩ ∈ tblG := tS (i := 32) (q := (⟨"TownBand$Piece", "detail", "(I)I"⟩, 9)) rfl
theorem ts_33 : Cond.selects "TownBand$Piece" ⟨"TownBand$Piece", "partDetail", "(I)I"⟩ ⟨"TownBand$Piece", "partDetail", "(I)I"⟩ ∈ tblG := tS (i := 33) (q := (⟨"TownBand$Piece", "partDetail", "(I)I"⟩, 9)) rfl
theorem ts_34 : Cond.selects "TownBand$Piece" ⟨"TownBand$Piece", "hasPart", "(I)Z"⟩ ⟨"TownBand$Piece", "hasPart", "(I)Z"⟩ ∈ tblG := tS (i := 34) (q := (⟨"TownBand$Piece", "hasPart", "(I)Z"⟩, 9)) rfl
theorem ts_35 : Cond.selects "TownBand$Cover" ⟨"TownBand$Cover", "coversMust", "(LTownBand$Piece;LTownBand$Players;)Z"⟩ ⟨"TownBand$Cover", "coversMust", "(LTownBand$Piece;LTownBand$Players;)Z"⟩ ∈ tblG := tS (i := 35) (q := (⟨"TownBand$Cover", "coversMust", "(LTownBand$Piece;LTownBand$Players;)Z"⟩, 4)) rfl
theorem ts_36 : Cond.selects "TownBand$Cover" ⟨"TownBand$Cover", "findAble", "(LTownBand$Piece;LTownBand$Players;)V"⟩ ⟨"TownBand$Cover", "findAble", "(LTownBand$Piece;LTownBand$Players;)V"⟩ ∈ tblG := tS (i := 36) (q := (⟨"TownBand$Cover", "findAble", "(LTownBand$Piece;LTownBand$Players;)V"⟩, 4)) rfl
theorem ts_37 : Cond.selects "TownBand$Piece" ⟨"TownBand$Piece", "isMust", "(I)Z"⟩ ⟨"TownBand$Piece", "isMust", "(I)Z"⟩ ∈ tblG := tS (i := 37) (q := (⟨"TownBand$Piece", "isMust", "(I)Z"⟩, 9)) rfl
theorem ts_38 : Cond.selects "TownBand$Players" ⟨"TownBand$Players", "presentFor", "(LTownBand$Piece;I)I"⟩ ⟨"TownBand$Players", "presentFor", "(LTownBand$Piece;I)I"⟩ ∈ tblG := tS (i := 38) (q := (⟨"TownBand$Players", "presentFor", "(LTownBand$Piece;I)I"⟩, 6)) rfl
theorem ts_39 : Cond.selects "TownBand$Players" ⟨"TownBand$Players", "isPresent", "(I)Z"⟩ ⟨"TownBand$Players", "isPresent", "(I)Z"⟩ ∈ tblG := tS (i := 39) (q := (⟨"TownBand$Players", "isPresent", "(I)Z"⟩, 6)) rfl
theorem ts_40 : Cond.selects "TownBand$Players" ⟨"TownBand$Players", "partCost", "(ILTownBand$Piece;I)I"⟩ ⟨"TownBand$Players", "partCost", "(ILTownBand$Piece;I)I"⟩ ∈ tblG := tS (i := 40) (q := (⟨"TownBand$Players", "partCost", "(ILTownBand$Piece;I)I"⟩, 6)) rfl
theorem ts_41 : Cond.selects "TownBand$Cover" ⟨"TownBand$Cover", "findPlayer", "(II)Z"⟩ ⟨"TownBand$Cover", "findPlayer", "(II)Z"⟩ ∈ tblG := tS (i := 41) (q := (⟨"TownBand$Cover", "findPlayer", "(II)Z"⟩, 4)) rfl
theorem ts_42 : Cond.selects "TownBand$Cover" ⟨"TownBand$Cover", "leastLack", "(LTownBand$Piece;LTownBand$Players;)I"⟩ ⟨"TownBand$Cover", "leastLack", "(LTownBand$Piece;LTownBand$Players;)I"⟩ ∈ tblG := tS (i := 42) (q := (⟨"TownBand$Cover", "leastLack", "(LTownBand$Piece;LTownBand$Players;)I"⟩, 4)) rfl
theorem ts_43 : Cond.selects "TownBand$Seater" ⟨"TownBand$Seater", "seatAnew", "(LTownBand$Piece;LTownBand$Players;)V"⟩ ⟨"TownBand$Seater", "seatAnew", "(LTownBand$Piece;LTownBand$Players;)V"⟩ ∈ tblG := tS (i := 43) (q := (⟨"TownBand$Seater", "seatAnew", "(LTownBand$Piece;LTownBand$Players;)V"⟩, 7)) rfl
theorem ts_44 : Cond.selects "TownBand$Seater" ⟨"TownBand$Seater", "weigh", "(IIJ)V"⟩ ⟨"TownBand$Seater", "weigh", "(IIJ)V"⟩ ∈ tblG := tS (i := 44) (q := (⟨"TownBand$Seater", "weigh", "(IIJ)V"⟩, 7)) rfl
theorem ts_45 : Cond.selects "TownBand$Seater" ⟨"TownBand$Seater", "weighEmpty", "(LTownBand$Piece;LTownBand$Players;IJ)V"⟩ ⟨"TownBand$Seater", "weighEmpty", "(LTownBand$Piece;LTownBand$Players;IJ)V"⟩ ∈ tblG := tS (i := 45) (q := (⟨"TownBand$Seater", "weighEmpty", "(LTownBand$Piece;LTownBand$Players;IJ)V"⟩, 7)) rfl
theorem ts_46 : Cond.selects "TownBand$Seater" ⟨"TownBand$Seater", "match", "(II)V"⟩ ⟨"TownBand$Seater", "match", "(II)V"⟩ ∈ tblG := tS (i := 46) (q := (⟨"TownBand$Seater", "match", "(II)V"⟩, 7)) rfl
theorem ts_47 : Cond.selects "TownBand$Seater" ⟨"TownBand$Seater", "placeRow", "(I)V"⟩ ⟨"TownBand$Seater", "placeRow", "(I)V"⟩ ∈ tblG := tS (i := 47) (q := (⟨"TownBand$Seater", "placeRow", "(I)V"⟩, 7)) rfl
theorem ts_48 : Cond.selects "TownBand$Seater" ⟨"TownBand$Seater", "nearestColumn", "(II)I"⟩ ⟨"TownBand$Seater", "nearestColumn", "(II)I"⟩ ∈ tblG := tS (i := 48) (q := (⟨"TownBand$Seater", "nearestColumn", "(II)I"⟩, 7)) rfl
theorem ts_49 : Cond.selects "TownBand$Seater" ⟨"TownBand$Seater", "shiftPrices", "(IJ)V"⟩ ⟨"TownBand$Seater", "shiftPrices", "(IJ)V"⟩ ∈ tblG := tS (i := 49) (q := (⟨"TownBand$Seater", "shiftPrices", "(IJ)V"⟩, 7)) rfl
theorem ts_50 : Cond.selects "TownBand$Seater" ⟨"TownBand$Seater", "takeChairs", "(LTownBand$Piece;I)I"⟩ ⟨"TownBand$Seater", "takeChairs", "(LTownBand$Piece;I)I"⟩ ∈ tblG := tS (i := 50) (q := (⟨"TownBand$Seater", "takeChairs", "(LTownBand$Piece;I)I"⟩, 7)) rfl
theorem ts_51 : Cond.selects "TownBand$Piece" ⟨"TownBand$Piece", "seated", "()I"⟩ ⟨"TownBand$Piece", "seated", "()I"⟩ ∈ tblG := tS (i := 51) (q := (⟨"TownBand$Piece", "seated", "()I"⟩, 9)) rfl
theorem ts_52 : Cond.selects "TownBand$Seater" ⟨"TownBand$Seater", "seatWithFewestChanges", "(LTownBand$Piece;LTownBand$Players;)I"⟩ ⟨"TownBand$Seater", "seatWithFewestChanges", "(LTownBand$Piece;LTownBand$Players;)I"⟩ ∈ tblG := tS (i := 52) (q := (⟨"TownBand$Seater", "seatWithFewestChanges", "(LTownBand$Piece;LTownBand$Players;)I"⟩, 7)) rfl
theorem ts_53 : Cond.selects "TownBand$Piece" ⟨"TownBand$Piece", "seatsElsewhere", "(II)Z"⟩ ⟨"TownBand$Piece", "seatsElsewhere", "(II)Z"⟩ ∈ tblG := tS (i := 53) (q := (⟨"TownBand$Piece", "seatsElsewhere", "(II)Z"⟩, 9)) rfl
theorem ts_54 : Cond.selects "TownBand$Players" ⟨"TownBand$Players", "seatingCost", "(LTownBand$Piece;)I"⟩ ⟨"TownBand$Players", "seatingCost", "(LTownBand$Piece;)I"⟩ ∈ tblG := tS (i := 54) (q := (⟨"TownBand$Players", "seatingCost", "(LTownBand$Piece;)I"⟩, 6)) rfl
theorem ts_55 : Cond.selects "TownBand$Players" ⟨"TownBand$Players", "seatedButAway", "(LTownBand$Piece;)I"⟩ ⟨"TownBand$Players", "seatedButAway", "(LTownBand$Piece;)I"⟩ ∈ tblG := tS (i := 55) (q := (⟨"TownBand$Players", "seatedButAway", "(LTownBand$Piece;)I"⟩, 6)) rfl
theorem ts_56 : Cond.selects "TownBand$Planner" ⟨"TownBand$Planner", "forgetChoices", "()V"⟩ ⟨"TownBand$Planner", "forgetChoices", "()V"⟩ ∈ tblG := tS (i := 56) (q := (⟨"TownBand$Planner", "forgetChoices", "()V"⟩, 9)) rfl
theorem ts_57 : Cond.selects "TownBand$Planner" ⟨"TownBand$Planner", "offer", "(ILTownBand$Piece;)V"⟩ ⟨"TownBand$Planner", "offer", "(ILTownBand$Piece;)V"⟩ ∈ tblG := tS (i := 57) (q := (⟨"TownBand$Planner", "offer", "(ILTownBand$Piece;)V"⟩, 9)) rfl
theorem ts_58 : Cond.selects "TownBand$Planner" ⟨"TownBand$Planner", "arrange", "(II)I"⟩ ⟨"TownBand$Planner", "arrange", "(II)I"⟩ ∈ tblG := tS (i := 58) (q := (⟨"TownBand$Planner", "arrange", "(II)I"⟩, 9)) rfl
theorem ts_59 : Cond.selects "TownBand$Planner" ⟨"TownBand$Planner", "minutesOf", "(I)I"⟩ ⟨"TownBand$Planner", "minutesOf", "(I)I"⟩ ∈ tblG := tS (i := 59) (q := (⟨"TownBand$Planner", "minutesOf", "(I)I"⟩, 9)) rfl
theorem ts_60 : Cond.selects "TownBand$Planner" ⟨"TownBand$Planner", "fillSet", "(IZI)J"⟩ ⟨"TownBand$Planner", "fillSet", "(IZI)J"⟩ ∈ tblG := tS (i := 60) (q := (⟨"TownBand$Planner", "fillSet", "(IZI)J"⟩, 9)) rfl
theorem ts_61 : Cond.selects "TownBand$Planner" ⟨"TownBand$Planner", "bestEndingWith", "(III)J"⟩ ⟨"TownBand$Planner", "bestEndingWith", "(III)J"⟩ ∈ tblG := tS (i := 61) (q := (⟨"TownBand$Planner", "bestEndingWith", "(III)J"⟩, 9)) rfl
theorem ts_62 : Cond.selects "TownBand$Planner" ⟨"TownBand$Planner", "keyGap", "(II)I"⟩ ⟨"TownBand$Planner", "keyGap", "(II)I"⟩ ∈ tblG := tS (i := 62) (q := (⟨"TownBand$Planner", "keyGap", "(II)I"⟩, 9)) rfl
theorem ts_63 : Cond.selects "TownBand$Planner" ⟨"TownBand$Planner", "keepRow", "(IJ)V"⟩ ⟨"TownBand$Planner", "keepRow", "(IJ)V"⟩ ∈ tblG := tS (i := 63) (q := (⟨"TownBand$Planner", "keepRow", "(IJ)V"⟩, 9)) rfl
theorem ts_64 : Cond.selects "TownBand" ⟨"TownBand", "isPlace", "(I)Z"⟩ ⟨"TownBand", "isPlace", "(I)Z"⟩ ∈ tblG := tS (i := 64) (q := (⟨"TownBand", "isPlace", "(I)Z"⟩, 8)) rfl
theorem ts_65 : Cond.selects "TownBand$Loans" ⟨"TownBand$Loans", "note", "(III)I"⟩ ⟨"TownBand$Loans", "note", "(III)I"⟩ ∈ tblG := tS (i := 65) (q := (⟨"TownBand$Loans", "note", "(III)I"⟩, 6)) rfl
theorem ts_66 : Cond.selects "TownBand$Loans" ⟨"TownBand$Loans", "placeOf", "(III)I"⟩ ⟨"TownBand$Loans", "placeOf", "(III)I"⟩ ∈ tblG := tS (i := 66) (q := (⟨"TownBand$Loans", "placeOf", "(III)I"⟩, 6)) rfl
theorem ts_67 : Cond.selects "TownBand$Loans" ⟨"TownBand$Loans", "settle", "(II)V"⟩ ⟨"TownBand$Loans", "settle", "(II)V"⟩ ∈ tblG := tS (i := 67) (q := (⟨"TownBand$Loans", "settle", "(II)V"⟩, 6)) rfl
theorem ts_68 : Cond.selects "TownBand$Loans" ⟨"TownBand$Loans", "copiesAt", "(III)I"⟩ ⟨"TownBand$Loans", "copiesAt", "(III)I"⟩ ∈ tblG := tS (i := 68) (q := (⟨"TownBand$Loans", "copiesAt", "(III)I"⟩, 6)) rfl
theorem ts_69 : Cond.selects "TownBand$Players" ⟨"TownBand$Players", "compete", "(I)I"⟩ ⟨"TownBand$Players", "compete", "(I)I"⟩ ∈ tblG := tS (i := 69) (q := (⟨"TownBand$Players", "compete", "(I)I"⟩, 6)) rfl
theorem ts_70 : Cond.selects "TownBand$Rule" ⟨"TownBand$Rule", "setPlayer", "(III)V"⟩ ⟨"TownBand$Rule", "setPlayer", "(III)V"⟩ ∈ tblG := tS (i := 70) (q := (⟨"TownBand$Rule", "setPlayer", "(III)V"⟩, 7)) rfl
theorem ts_71 : Cond.selects "TownBand$Rule" ⟨"TownBand$Rule", "setDay", "(II)V"⟩ ⟨"TownBand$Rule", "setDay", "(II)V"⟩ ∈ tblG := tS (i := 71) (q := (⟨"TownBand$Rule", "setDay", "(II)V"⟩, 7)) rfl
theorem ts_72 : Cond.selects "TownBand$Rule" ⟨"TownBand$Rule", "allows", "()Z"⟩ ⟨"TownBand$Rule", "allows", "()Z"⟩ ∈ tblG := tS (i := 72) (q := (⟨"TownBand$Rule", "allows", "()Z"⟩, 7)) rfl
theorem ts_73 : Cond.selects "TownBand$Rule" ⟨"TownBand$Rule", "work", "(I)V"⟩ ⟨"TownBand$Rule", "work", "(I)V"⟩ ∈ tblG := tS (i := 73) (q := (⟨"TownBand$Rule", "work", "(I)V"⟩, 7)) rfl
theorem ts_74 : Cond.selects "TownBand$Rule" ⟨"TownBand$Rule", "push", "(I)V"⟩ ⟨"TownBand$Rule", "push", "(I)V"⟩ ∈ tblG := tS (i := 74) (q := (⟨"TownBand$Rule", "push", "(I)V"⟩, 7)) rfl
theorem ts_75 : Cond.selects "TownBand$Rule" ⟨"TownBand$Rule", "pop", "()I"⟩ ⟨"TownBand$Rule", "pop", "()I"⟩ ∈ tblG := tS (i := 75) (q := (⟨"TownBand$Rule", "pop", "()I"⟩, 7)) rfl
theorem ts_76 : Cond.selects "TownBand" ⟨"TownBand", "playablePieces", "()I"⟩ ⟨"TownBand", "playablePieces", "()I"⟩ ∈ tblG := tS (i := 76) (q := (⟨"TownBand", "playablePieces", "()I"⟩, 8)) rfl
theorem ts_77 : Cond.selects "TownBandModel" ⟨"TownBandModel", "isPlayer", "(I)Z"⟩ ⟨"TownBandModel", "isPlayer", "(I)Z"⟩ ∈ tblG := tS (i := 77) (q := (⟨"TownBandModel", "isPlayer", "(I)Z"⟩, 48)) rfl
theorem ts_78 : Cond.selects "TownBandModel" ⟨"TownBandModel", "isInstrument", "(I)Z"⟩ ⟨"TownBandModel", "isInstrument", "(I)Z"⟩ ∈ tblG := tS (i := 78) (q := (⟨"TownBandModel", "isInstrument", "(I)Z"⟩, 48)) rfl
theorem ts_79 : Cond.selects "TownBandModel" ⟨"TownBandModel", "isPiece", "(I)Z"⟩ ⟨"TownBandModel", "isPiece", "(I)Z"⟩ ∈ tblG := tS (i := 79) (q := (⟨"TownBandModel", "isPiece", "(I)Z"⟩, 48)) rfl
theorem ts_80 : Cond.selects "TownBandModel" ⟨"TownBandModel", "lacking", "(I)I"⟩ ⟨"TownBandModel", "lacking", "(I)I"⟩ ∈ tblG := tS (i := 80) (q := (⟨"TownBandModel", "lacking", "(I)I"⟩, 48)) rfl
theorem ts_81 : Cond.selects "TownBandModel" ⟨"TownBandModel", "costOf", "(III)I"⟩ ⟨"TownBandModel", "costOf", "(III)I"⟩ ∈ tblG := tS (i := 81) (q := (⟨"TownBandModel", "costOf", "(III)I"⟩, 48)) rfl
theorem ts_82 : Cond.selects "TownBandModel" ⟨"TownBandModel", "ones", "(I)I"⟩ ⟨"TownBandModel", "ones", "(I)I"⟩ ∈ tblG := tS (i := 82) (q := (⟨"TownBandModel", "ones", "(I)I"⟩, 48)) rfl
theorem ts_83 : Cond.selects "TownBandModel" ⟨"TownBandModel", "seats", "(IZ)I"⟩ ⟨"TownBandModel", "seats", "(IZ)I"⟩ ∈ tblG := tS (i := 83) (q := (⟨"TownBandModel", "seats", "(IZ)I"⟩, 48)) rfl
theorem ts_84 : Cond.selects "TownBandModel" ⟨"TownBandModel", "finds", "(IZ)V"⟩ ⟨"TownBandModel", "finds", "(IZ)V"⟩ ∈ tblG := tS (i := 84) (q := (⟨"TownBandModel", "finds", "(IZ)V"⟩, 48)) rfl
theorem ts_85 : Cond.selects "TownBandModel" ⟨"TownBandModel", "mayBe", "(III)Z"⟩ ⟨"TownBandModel", "mayBe", "(III)Z"⟩ ∈ tblG := tS (i := 85) (q := (⟨"TownBandModel", "mayBe", "(III)Z"⟩, 48)) rfl
theorem ts_86 : Cond.selects "TownBandModel" ⟨"TownBandModel", "isMust", "(II)Z"⟩ ⟨"TownBandModel", "isMust", "(II)Z"⟩ ∈ tblG := tS (i := 86) (q := (⟨"TownBandModel", "isMust", "(II)Z"⟩, 48)) rfl
theorem ts_87 : Cond.selects "TownBandModel" ⟨"TownBandModel", "counts", "(IIIZ)I"⟩ ⟨"TownBandModel", "counts", "(IIIZ)I"⟩ ∈ tblG := tS (i := 87) (q := (⟨"TownBandModel", "counts", "(IIIZ)I"⟩, 48)) rfl
theorem ts_88 : Cond.selects "TownBandModel" ⟨"TownBandModel", "fits", "(IIIIZ)Z"⟩ ⟨"TownBandModel", "fits", "(IIIIZ)Z"⟩ ∈ tblG := tS (i := 88) (q := (⟨"TownBandModel", "fits", "(IIIIZ)Z"⟩, 48)) rfl
theorem ts_89 : Cond.selects "TownBandModel" ⟨"TownBandModel", "isPart", "(II)Z"⟩ ⟨"TownBandModel", "isPart", "(II)Z"⟩ ∈ tblG := tS (i := 89) (q := (⟨"TownBandModel", "isPart", "(II)Z"⟩, 48)) rfl
theorem ts_90 : Cond.selects "TownBandModel" ⟨"TownBandModel", "sumOf", "(I)I"⟩ ⟨"TownBandModel", "sumOf", "(I)I"⟩ ∈ tblG := tS (i := 90) (q := (⟨"TownBandModel", "sumOf", "(I)I"⟩, 48)) rfl
theorem ts_91 : Cond.selects "TownBandModel" ⟨"TownBandModel", "goes", "(IIII)Z"⟩ ⟨"TownBandModel", "goes", "(IIII)Z"⟩ ∈ tblG := tS (i := 91) (q := (⟨"TownBandModel", "goes", "(IIII)Z"⟩, 48)) rfl
theorem ts_92 : Cond.selects "TownBandModel" ⟨"TownBandModel", "strainOf", "(II)I"⟩ ⟨"TownBandModel", "strainOf", "(II)I"⟩ ∈ tblG := tS (i := 92) (q := (⟨"TownBandModel", "strainOf", "(II)I"⟩, 48)) rfl
theorem ts_93 : Cond.selects "TownBandModel" ⟨"TownBandModel", "isDay", "(I)Z"⟩ ⟨"TownBandModel", "isDay", "(I)Z"⟩ ∈ tblG := tS (i := 93) (q := (⟨"TownBandModel", "isDay", "(I)Z"⟩, 48)) rfl
theorem ts_94 : Cond.selects "TownBandModel" ⟨"TownBandModel", "isThere", "(I)Z"⟩ ⟨"TownBandModel", "isThere", "(I)Z"⟩ ∈ tblG := tS (i := 94) (q := (⟨"TownBandModel", "isThere", "(I)Z"⟩, 48)) rfl
theorem ts_95 : Cond.selects "TownBandModel" ⟨"TownBandModel", "whereIs", "(III)I"⟩ ⟨"TownBandModel", "whereIs", "(III)I"⟩ ∈ tblG := tS (i := 95) (q := (⟨"TownBandModel", "whereIs", "(III)I"⟩, 48)) rfl
theorem ts_96 : Cond.selects "TownBandModel" ⟨"TownBandModel", "copiesAt", "(III)I"⟩ ⟨"TownBandModel", "copiesAt", "(III)I"⟩ ∈ tblG := tS (i := 96) (q := (⟨"TownBandModel", "copiesAt", "(III)I"⟩, 48)) rfl
theorem ts_97 : Cond.selects "TownBandModel" ⟨"TownBandModel", "lay", "(I)V"⟩ ⟨"TownBandModel", "lay", "(I)V"⟩ ∈ tblG := tS (i := 97) (q := (⟨"TownBandModel", "lay", "(I)V"⟩, 48)) rfl
theorem ts_98 : Cond.selects "TownBandModel" ⟨"TownBandModel", "readText", "()Z"⟩ ⟨"TownBandModel", "readText", "()Z"⟩ ∈ tblG := tS (i := 98) (q := (⟨"TownBandModel", "readText", "()Z"⟩, 48)) rfl
theorem ts_99 : Cond.selects "TownBandModel" ⟨"TownBandModel", "next", "(Z)V"⟩ ⟨"TownBandModel", "next", "(Z)V"⟩ ∈ tblG := tS (i := 99) (q := (⟨"TownBandModel", "next", "(Z)V"⟩, 48)) rfl
theorem ts_100 : Cond.selects "TownBandModel" ⟨"TownBandModel", "raw", "()I"⟩ ⟨"TownBandModel", "raw", "()I"⟩ ∈ tblG := tS (i := 100) (q := (⟨"TownBandModel", "raw", "()I"⟩, 48)) rfl
theorem ts_101 : Cond.selects "TownBandModel" ⟨"TownBandModel", "isSmall", "(I)Z"⟩ ⟨"TownBandModel", "isSmall", "(I)Z"⟩ ∈ tblG := tS (i := 101) (q := (⟨"TownBandModel", "isSmall", "(I)Z"⟩, 48)) rfl
theorem ts_102 : Cond.selects "TownBandModel" ⟨"TownBandModel", "isWordOf", "(Z)Z"⟩ ⟨"TownBandModel", "isWordOf", "(Z)Z"⟩ ∈ tblG := tS (i := 102) (q := (⟨"TownBandModel", "isWordOf", "(Z)Z"⟩, 48)) rfl
theorem ts_103 : Cond.selects "TownBandModel" ⟨"TownBandModel", "word", "(IIIII)J"⟩ ⟨"TownBandModel", "word", "(IIIII)J"⟩ ∈ tblG := tS (i := 103) (q := (⟨"TownBandModel", "word", "(IIIII)J"⟩, 48)) rfl
theorem ts_104 : Cond.selects "TownBandModel" ⟨"TownBandModel", "isDigit", "(I)Z"⟩ ⟨"TownBandModel", "isDigit", "(I)Z"⟩ ∈ tblG := tS (i := 104) (q := (⟨"TownBandModel", "isDigit", "(I)Z"⟩, 48)) rfl
theorem ts_105 : Cond.selects "TownBandModel" ⟨"TownBandModel", "isSignOf", "(IZ)Z"⟩ ⟨"TownBandModel", "isSignOf", "(IZ)Z"⟩ ∈ tblG := tS (i := 105) (q := (⟨"TownBandModel", "isSignOf", "(IZ)Z"⟩, 48)) rfl
theorem ts_106 : Cond.selects "TownBandModel" ⟨"TownBandModel", "isWord", "(IIIII)Z"⟩ ⟨"TownBandModel", "isWord", "(IIIII)Z"⟩ ∈ tblG := tS (i := 106) (q := (⟨"TownBandModel", "isWord", "(IIIII)Z"⟩, 48)) rfl
theorem ts_107 : Cond.selects "TownBandModel" ⟨"TownBandModel", "readPiece", "()Z"⟩ ⟨"TownBandModel", "readPiece", "()Z"⟩ ∈ tblG := tS (i := 107) (q := (⟨"TownBandModel", "readPiece", "()Z"⟩, 48)) rfl
theorem ts_108 : Cond.selects "TownBandModel" ⟨"TownBandModel", "fails", "(I)Z"⟩ ⟨"TownBandModel", "fails", "(I)Z"⟩ ∈ tblG := tS (i := 108) (q := (⟨"TownBandModel", "fails", "(I)Z"⟩, 48)) rfl
theorem ts_109 : Cond.selects "TownBandModel" ⟨"TownBandModel", "isSign", "(I)Z"⟩ ⟨"TownBandModel", "isSign", "(I)Z"⟩ ∈ tblG := tS (i := 109) (q := (⟨"TownBandModel", "isSign", "(I)Z"⟩, 48)) rfl
theorem ts_110 : Cond.selects "TownBandModel" ⟨"TownBandModel", "takes", "(II)Z"⟩ ⟨"TownBandModel", "takes", "(II)Z"⟩ ∈ tblG := tS (i := 110) (q := (⟨"TownBandModel", "takes", "(II)Z"⟩, 48)) rfl
theorem ts_111 : Cond.selects "TownBandModel" ⟨"TownBandModel", "readPart", "(I)Z"⟩ ⟨"TownBandModel", "readPart", "(I)Z"⟩ ∈ tblG := tS (i := 111) (q := (⟨"TownBandModel", "readPart", "(I)Z"⟩, 48)) rfl
theorem ts_112 : Cond.selects "TownBandModel" ⟨"TownBandModel", "readRule", "()Z"⟩ ⟨"TownBandModel", "readRule", "()Z"⟩ ∈ tblG := tS (i := 112) (q := (⟨"TownBandModel", "readRule", "()Z"⟩, 48)) rfl
theorem ts_113 : Cond.selects "TownBandModel" ⟨"TownBandModel", "open", "()I"⟩ ⟨"TownBandModel", "open", "()I"⟩ ∈ tblG := tS (i := 113) (q := (⟨"TownBandModel", "open", "()I"⟩, 48)) rfl
theorem ts_114 : Cond.selects "TownBandModel" ⟨"TownBandModel", "step", "()V"⟩ ⟨"TownBandModel", "step", "()V"⟩ ∈ tblG := tS (i := 114) (q := (⟨"TownBandModel", "step", "()V"⟩, 48)) rfl
theorem ts_115 : Cond.selects "TownBandModel" ⟨"TownBandModel", "readSums", "()Z"⟩ ⟨"TownBandModel", "readSums", "()Z"⟩ ∈ tblG := tS (i := 115) (q := (⟨"TownBandModel", "readSums", "()Z"⟩, 48)) rfl
theorem ts_116 : Cond.selects "TownBandModel" ⟨"TownBandModel", "value", "()Z"⟩ ⟨"TownBandModel", "value", "()Z"⟩ ∈ tblG := tS (i := 116) (q := (⟨"TownBandModel", "value", "()Z"⟩, 48)) rfl
theorem ts_117 : Cond.selects "TownBandModel" ⟨"TownBandModel", "does", "(II)V"⟩ ⟨"TownBandModel", "does", "(II)V"⟩ ∈ tblG := tS (i := 117) (q := (⟨"TownBandModel", "does", "(II)V"⟩, 48)) rfl
theorem ts_118 : Cond.selects "TownBandModel" ⟨"TownBandModel", "settles", "(I)V"⟩ ⟨"TownBandModel", "settles", "(I)V"⟩ ∈ tblG := tS (i := 118) (q := (⟨"TownBandModel", "settles", "(I)V"⟩, 48)) rfl
theorem ts_119 : Cond.selects "TownBandModel" ⟨"TownBandModel", "rank", "(I)I"⟩ ⟨"TownBandModel", "rank", "(I)I"⟩ ∈ tblG := tS (i := 119) (q := (⟨"TownBandModel", "rank", "(I)I"⟩, 48)) rfl
theorem ts_120 : Cond.selects "TownBandModel" ⟨"TownBandModel", "done", "(III)I"⟩ ⟨"TownBandModel", "done", "(III)I"⟩ ∈ tblG := tS (i := 120) (q := (⟨"TownBandModel", "done", "(III)I"⟩, 48)) rfl
theorem i_Cover : ∀ w ∈ u_ws R_Cover F_Cover 4, w ∈ tblG := tU [238, 240, 242, 244] (by decide +kernel) (by decide +kernel)
theorem i_Library : ∀ w ∈ u_ws R_Library F_Library 3, w ∈ tblG := tU [122, 124, 126] (by decide +kernel) (by decide +kernel)
theorem i_Loans : ∀ w ∈ u_ws R_Loans F_Loans 6, w ∈ tblG := tU [215, 217, 219, 221, 223, 225] (by decide +kernel) (by decide +kernel)
theorem i_Piece : ∀ w ∈ u_ws R_Piece F_Piece 9, w ∈ tblG := tU [99, 101, 103, 105, 107, 109, 111, 113, 115] (by decide +kernel) (by decide +kernel)
theorem i_Planner : ∀ w ∈ u_ws R_Planner F_Planner 9, w ∈ tblG := tU [294, 296, 298, 300, 302, 304, 306, 308, 310] (by decide +kernel) (by decide +kernel)
theorem i_Players : ∀ w ∈ u_ws R_Players F_Players 6, w ∈ tblG := tU [48, 50, 52, 54, 56, 58] (by decide +kernel) (by decide +kernel)
theorem i_Rule : ∀ w ∈ u_ws R_Rule F_Rule 7, w ∈ tblG := tU [187, 189, 191, 193, 195, 197, 199] (by decide +kernel) (by decide +kernel)
theorem i_Seater : ∀ w ∈ u_ws R_Seater F_Seater 7, w ∈ tblG := tU [260, 262, 264, 266, 268, 270, 272] (by decide +kernel) (by decide +kernel)
theorem i_Tape : ∀ w ∈ u_ws R_Tape F_Tape 10, w ∈ tblG := tU [153, 155, 157, 159, 161, 163, 165, 167, 169, 171] (by decide +kernel) (by decide +kernel)
theorem i_Band : ∀ w ∈ u_ws R_Band F_Band 8, w ∈ tblG := tU [321, 323, 325, 327, 329, 331, 333, 335] (by decide +kernel) (by decide +kernel)
theorem i_Model : ∀ w ∈ u_ws R_Model F_Model 48, w ∈ tblG := tU [948, 950, 952, 954, 956, 958, 960, 962, 964, 966, 968, 970, 972, 974, 976, 978, 980, 982, 984, 986, 988, 990, 992, 994, 996, 998, 1000, 1002, 1004, 1006, 1008, 1010, 1012, 1014, 1016, 1018, 1020, 1022, 1024, 1026, 1028, 1030, 1032, 1034, 1036, 1038, 1040, 1042] (by decide +kernel) (by decide +kernel)
abbrev m_Cover_init : MI := (y_Cover_init, b_Cover_init, 1, none, R_Cover)
theorem k_Cover_init : CalOk m_Cover_init 0 := ⟨tw_232, tw_9, ⟨by decide, by decide⟩, by decide +kernel, by decide⟩
abbrev m_Cover_coversMust : MI := (y_Cover_coversMust, b_Cover_coversMust, 4, (some .boolean), R_Cover)
theorem k_Cover_coversMust : CalOk m_Cover_coversMust 2 := ⟨tw_615, tw_9, ⟨by decide, by decide⟩, by decide +kernel, by decide⟩
abbrev m_Cover_findAble : MI := (y_Cover_findAble, b_Cover_findAble, 4, none, R_Cover)
theorem k_Cover_findAble : CalOk m_Cover_findAble 2 := ⟨tw_619, tw_9, ⟨by decide, by decide⟩, by decide +kernel, by decide⟩
abbrev m_Cover_findPlayer : MI := (y_Cover_findPlayer, b_Cover_findPlayer, 5, (some .boolean), R_Cover)
theorem k_Cover_findPlayer : CalOk m_Cover_findPlayer 2 := ⟨tw_642, tw_9, ⟨by decide, by decide⟩, by decide +kernel, by decide⟩
abbrev m_Cover_leastLack : MI := (y_Cover_leastLack, b_Cover_leastLack, 10, (some .int), R_Cover)
theorem k_Cover_leastLack : CalOk m_Cover_leastLack 2 := ⟨tw_650, tw_9, ⟨by decide, by decide⟩, by decide +kernel, by decide⟩
abbrev m_Library_init : MI := (y_Library_init, b_Library_init, 2, none, R_Library)
theorem k_Library_init : CalOk m_Library_init 0 := ⟨tw_66, tw_4, ⟨by decide, by decide⟩, by decide +kernel, by decide⟩
abbrev m_Library_find : MI := (y_Library_find, b_Library_find, 2, (some (.object "TownBand$Piece")), R_Library)
theorem k_Library_find : CalOk m_Library_find 1 := ⟨tw_595, tw_4, ⟨by decide, by decide⟩, by decide +kernel, by decide⟩
abbrev m_Library_readText : MI := (y_Library_readText, b_Library_readText, 3, (some .boolean), R_Library)
theorem k_Library_readText : CalOk m_Library_readText 1 := ⟨tw_406, tw_4, ⟨by decide, by decide⟩, by decide +kernel, by decide⟩
abbrev m_Library_readPiece : MI := (y_Library_readPiece, b_Library_readPiece, 4, none, R_Library)
theorem k_Library_readPiece : CalOk m_Library_readPiece 1 := ⟨tw_471, tw_4, ⟨by decide, by decide⟩, by decide +kernel, by decide⟩
abbrev m_Library_readName : MI := (y_Library_readName, b_Library_readName, 3, (some .int), R_Library)
theorem k_Library_readName : CalOk m_Library_readName 1 := ⟨tw_485, tw_4, ⟨by decide, by decide⟩, by decide +kernel, by decide⟩
abbrev m_Library_isWord : MI := (y_Library_isWord, b_Library_isWord, 1, (some .boolean), R_Library)
theorem k_Library_isWord : CalOk m_Library_isWord 1 := ⟨tw_488, tw_4, ⟨by decide, by decide⟩, by decide +kernel, by decide⟩
abbrev m_Library_hasName : MI := (y_Library_hasName, b_Library_hasName, 3, (some .boolean), R_Library)
theorem k_Library_hasName : CalOk m_Library_hasName 1 := ⟨tw_495, tw_4, ⟨by decide, by decide⟩, by decide +kernel, by decide⟩
abbrev m_Library_readNumber : MI := (y_Library_readNumber, b_Library_readNumber, 4, (some .int), R_Library)
theorem k_Library_readNumber : CalOk m_Library_readNumber 3 := ⟨tw_503, tw_4, ⟨by decide, by decide⟩, by decide +kernel, by decide⟩
abbrev m_Library_readPart : MI := (y_Library_readPart, b_Library_readPart, 4, none, R_Library)
theorem k_Library_readPart : CalOk m_Library_readPart 2 := ⟨tw_507, tw_4, ⟨by decide, by decide⟩, by decide +kernel, by decide⟩
abbrev m_Library_readInstrument : MI := (y_Library_readInstrument, b_Library_readInstrument, 3, none, R_Library)
theorem k_Library_readInstrument : CalOk m_Library_readInstrument 3 := ⟨tw_514, tw_4, ⟨by decide, by decide⟩, by decide +kernel, by decide⟩
abbrev m_Loans_init : MI := (y_Loans_init, b_Loans_init, 1, none, R_Loans)
theorem k_Loans_init : CalOk m_Loans_init 0 := ⟨tw_206, tw_8, ⟨by decide, by decide⟩, by decide +kernel, by decide⟩
abbrev m_Loans_note : MI := (y_Loans_note, b_Loans_note, 4, (some .int), R_Loans)
theorem k_Loans_note : CalOk m_Loans_note 3 := ⟨tw_823, tw_8, ⟨by decide, by decide⟩, by decide +kernel, by decide⟩
abbrev m_Loans_placeOf : MI := (y_Loans_placeOf, b_Loans_placeOf, 4, (some .int), R_Loans)
theorem k_Loans_placeOf : CalOk m_Loans_placeOf 3 := ⟨tw_831, tw_8, ⟨by decide, by decide⟩, by decide +kernel, by decide⟩
abbrev m_Loans_copiesAt : MI := (y_Loans_copiesAt, b_Loans_copiesAt, 6, (some .int), R_Loans)
theorem k_Loans_copiesAt : CalOk m_Loans_copiesAt 3 := ⟨tw_844, tw_8, ⟨by decide, by decide⟩, by decide +kernel, by decide⟩
abbrev m_Loans_settle : MI := (y_Loans_settle, b_Loans_settle, 5, none, R_Loans)
theorem k_Loans_settle : CalOk m_Loans_settle 2 := ⟨tw_835, tw_8, ⟨by decide, by decide⟩, by decide +kernel, by decide⟩
abbrev m_Piece_init : MI := (y_Piece_init, b_Piece_init, 1, none, R_Piece)
theorem k_Piece_init : CalOk m_Piece_init 0 := ⟨tw_73, tw_5, ⟨by decide, by decide⟩, by decide +kernel, by decide⟩
abbrev m_Piece_clear : MI := (y_Piece_clear, b_Piece_clear, 1, none, R_Piece)
theorem k_Piece_clear : CalOk m_Piece_clear 0 := ⟨tw_479, tw_5, ⟨by decide, by decide⟩, by decide +kernel, by decide⟩
abbrev m_Piece_hasPart : MI := (y_Piece_hasPart, b_Piece_hasPart, 2, (some .boolean), R_Piece)
theorem k_Piece_hasPart : CalOk m_Piece_hasPart 1 := ⟨tw_607, tw_5, ⟨by decide, by decide⟩, by decide +kernel, by decide⟩
abbrev m_Piece_isMust : MI := (y_Piece_isMust, b_Piece_isMust, 2, (some .boolean), R_Piece)
theorem k_Piece_isMust : CalOk m_Piece_isMust 1 := ⟨tw_623, tw_5, ⟨by decide, by decide⟩, by decide +kernel, by decide⟩
abbrev m_Piece_addPart : MI := (y_Piece_addPart, b_Piece_addPart, 2, none, R_Piece)
theorem k_Piece_addPart : CalOk m_Piece_addPart 1 := ⟨tw_511, tw_5, ⟨by decide, by decide⟩, by decide +kernel, by decide⟩
abbrev m_Piece_instrument : MI := (y_Piece_instrument, b_Piece_instrument, 3, (some .int), R_Piece)
theorem k_Piece_instrument : CalOk m_Piece_instrument 2 := ⟨tw_522, tw_5, ⟨by decide, by decide⟩, by decide +kernel, by decide⟩
abbrev m_Piece_hasInstrument : MI := (y_Piece_hasInstrument, b_Piece_hasInstrument, 4, (some .boolean), R_Piece)
theorem k_Piece_hasInstrument : CalOk m_Piece_hasInstrument 2 := ⟨tw_518, tw_5, ⟨by decide, by decide⟩, by decide +kernel, by decide⟩
abbrev m_Piece_addInstrument : MI := (y_Piece_addInstrument, b_Piece_addInstrument, 3, none, R_Piece)
theorem k_Piece_addInstrument : CalOk m_Piece_addInstrument 2 := ⟨tw_526, tw_5, ⟨by decide, by decide⟩, by decide +kernel, by decide⟩
abbrev m_Piece_detail : MI := (y_Piece_detail, b_Piece_detail, 2, (some .int), R_Piece)
theorem k_Piece_detail : CalOk m_Piece_detail 1 := ⟨tw_599, tw_5, ⟨by decide, by decide⟩, by decide +kernel, by decide⟩
abbrev m_Piece_partDetail : MI := (y_Piece_partDetail, b_Piece_partDetail, 4, (some .int), R_Piece)
theorem k_Piece_partDetail : CalOk m_Piece_partDetail 1 := ⟨tw_603, tw_5, ⟨by decide, by decide⟩, by decide +kernel, by decide⟩
abbrev m_Piece_seated : MI := (y_Piece_seated, b_Piece_seated, 3, (some .int), R_Piece)
theorem k_Piece_seated : CalOk m_Piece_seated 0 := ⟨tw_711, tw_5, ⟨by decide, by decide⟩, by decide +kernel, by decide⟩
abbrev m_Piece_seatsElsewhere : MI := (y_Piece_seatsElsewhere, b_Piece_seatsElsewhere, 4, (some .boolean), R_Piece)
theorem k_Piece_seatsElsewhere : CalOk m_Piece_seatsElsewhere 2 := ⟨tw_733, tw_5, ⟨by decide, by decide⟩, by decide +kernel, by decide⟩
abbrev m_Planner_init : MI := (y_Planner_init, b_Planner_init, 1, none, R_Planner)
theorem k_Planner_init : CalOk m_Planner_init 0 := ⟨tw_280, tw_11, ⟨by decide, by decide⟩, by decide +kernel, by decide⟩
abbrev m_Planner_forgetChoices : MI := (y_Planner_forgetChoices, b_Planner_forgetChoices, 1, none, R_Planner)
theorem k_Planner_forgetChoices : CalOk m_Planner_forgetChoices 0 := ⟨tw_757, tw_11, ⟨by decide, by decide⟩, by decide +kernel, by decide⟩
abbrev m_Planner_offer : MI := (y_Planner_offer, b_Planner_offer, 3, none, R_Planner)
theorem k_Planner_offer : CalOk m_Planner_offer 2 := ⟨tw_761, tw_11, ⟨by decide, by decide⟩, by decide +kernel, by decide⟩
abbrev m_Planner_arrange : MI := (y_Planner_arrange, b_Planner_arrange, 12, (some .int), R_Planner)
theorem k_Planner_arrange : CalOk m_Planner_arrange 2 := ⟨tw_765, tw_11, ⟨by decide, by decide⟩, by decide +kernel, by decide⟩
abbrev m_Planner_minutesOf : MI := (y_Planner_minutesOf, b_Planner_minutesOf, 4, (some .int), R_Planner)
theorem k_Planner_minutesOf : CalOk m_Planner_minutesOf 1 := ⟨tw_769, tw_11, ⟨by decide, by decide⟩, by decide +kernel, by decide⟩
abbrev m_Planner_fillSet : MI := (y_Planner_fillSet, b_Planner_fillSet, 10, (some .long), R_Planner)
theorem k_Planner_fillSet : CalOk m_Planner_fillSet 3 := ⟨tw_773, tw_11, ⟨by decide, by decide⟩, by decide +kernel, by decide⟩
abbrev m_Planner_bestEndingWith : MI := (y_Planner_bestEndingWith, b_Planner_bestEndingWith, 12, (some .long), R_Planner)
theorem k_Planner_bestEndingWith : CalOk m_Planner_bestEndingWith 3 := ⟨tw_778, tw_11, ⟨by decide, by decide⟩, by decide +kernel, by decide⟩
abbrev m_Planner_keyGap : MI := (y_Planner_keyGap, b_Planner_keyGap, 4, (some .int), R_Planner)
theorem k_Planner_keyGap : CalOk m_Planner_keyGap 2 := ⟨tw_785, tw_11, ⟨by decide, by decide⟩, by decide +kernel, by decide⟩
abbrev m_Planner_keepRow : MI := (y_Planner_keepRow, b_Planner_keepRow, 5, none, R_Planner)
theorem k_Planner_keepRow : CalOk m_Planner_keepRow 2 := ⟨tw_799, tw_11, ⟨by decide, by decide⟩, by decide +kernel, by decide⟩
abbrev m_Players_init : MI := (y_Players_init, b_Players_init, 1, none, R_Players)
theorem k_Players_init : CalOk m_Players_init 0 := ⟨tw_31, tw_2, ⟨by decide, by decide⟩, by decide +kernel, by decide⟩
abbrev m_Players_has : MI := (y_Players_has, b_Players_has, 2, (some .boolean), R_Players)
theorem k_Players_has : CalOk m_Players_has 1 := ⟨tw_359, tw_2, ⟨by decide, by decide⟩, by decide +kernel, by decide⟩
abbrev m_Players_join : MI := (y_Players_join, b_Players_join, 3, (some .int), R_Players)
theorem k_Players_join : CalOk m_Players_join 2 := ⟨tw_351, tw_2, ⟨by decide, by decide⟩, by decide +kernel, by decide⟩
abbrev m_Players_learn : MI := (y_Players_learn, b_Players_learn, 4, none, R_Players)
theorem k_Players_learn : CalOk m_Players_learn 3 := ⟨tw_366, tw_2, ⟨by decide, by decide⟩, by decide +kernel, by decide⟩
abbrev m_Players_costOf : MI := (y_Players_costOf, b_Players_costOf, 3, (some .int), R_Players)
theorem k_Players_costOf : CalOk m_Players_costOf 2 := ⟨tw_374, tw_2, ⟨by decide, by decide⟩, by decide +kernel, by decide⟩
abbrev m_Players_mark : MI := (y_Players_mark, b_Players_mark, 4, none, R_Players)
theorem k_Players_mark : CalOk m_Players_mark 2 := ⟨tw_382, tw_2, ⟨by decide, by decide⟩, by decide +kernel, by decide⟩
abbrev m_Players_isPresent : MI := (y_Players_isPresent, b_Players_isPresent, 2, (some .boolean), R_Players)
theorem k_Players_isPresent : CalOk m_Players_isPresent 1 := ⟨tw_631, tw_2, ⟨by decide, by decide⟩, by decide +kernel, by decide⟩
abbrev m_Players_compete : MI := (y_Players_compete, b_Players_compete, 2, (some .int), R_Players)
theorem k_Players_compete : CalOk m_Players_compete 1 := ⟨tw_852, tw_2, ⟨by decide, by decide⟩, by decide +kernel, by decide⟩
abbrev m_Players_partCost : MI := (y_Players_partCost, b_Players_partCost, 7, (some .int), R_Players)
theorem k_Players_partCost : CalOk m_Players_partCost 3 := ⟨tw_635, tw_2, ⟨by decide, by decide⟩, by decide +kernel, by decide⟩
abbrev m_Players_presentFor : MI := (y_Players_presentFor, b_Players_presentFor, 5, (some .int), R_Players)
theorem k_Players_presentFor : CalOk m_Players_presentFor 2 := ⟨tw_627, tw_2, ⟨by decide, by decide⟩, by decide +kernel, by decide⟩
abbrev m_Players_seatingCost : MI := (y_Players_seatingCost, b_Players_seatingCost, 5, (some .int), R_Players)
theorem k_Players_seatingCost : CalOk m_Players_seatingCost 1 := ⟨tw_741, tw_2, ⟨by decide, by decide⟩, by decide +kernel, by decide⟩
abbrev m_Players_seatedButAway : MI := (y_Players_seatedButAway, b_Players_seatedButAway, 5, (some .int), R_Players)
theorem k_Players_seatedButAway : CalOk m_Players_seatedButAway 1 := ⟨tw_749, tw_2, ⟨by decide, by decide⟩, by decide +kernel, by decide⟩
abbrev m_Rule_init : MI := (y_Rule_init, b_Rule_init, 1, none, R_Rule)
theorem k_Rule_init : CalOk m_Rule_init 0 := ⟨tw_178, tw_7, ⟨by decide, by decide⟩, by decide +kernel, by decide⟩
abbrev m_Rule_beginDraft : MI := (y_Rule_beginDraft, b_Rule_beginDraft, 1, none, R_Rule)
theorem k_Rule_beginDraft : CalOk m_Rule_beginDraft 0 := ⟨tw_539, tw_7, ⟨by decide, by decide⟩, by decide +kernel, by decide⟩
abbrev m_Rule_adoptDraft : MI := (y_Rule_adoptDraft, b_Rule_adoptDraft, 2, none, R_Rule)
theorem k_Rule_adoptDraft : CalOk m_Rule_adoptDraft 0 := ⟨tw_583, tw_7, ⟨by decide, by decide⟩, by decide +kernel, by decide⟩
abbrev m_Rule_readEither : MI := (y_Rule_readEither, b_Rule_readEither, 4, none, R_Rule)
theorem k_Rule_readEither : CalOk m_Rule_readEither 2 := ⟨tw_544, tw_7, ⟨by decide, by decide⟩, by decide +kernel, by decide⟩
abbrev m_Rule_readBoth : MI := (y_Rule_readBoth, b_Rule_readBoth, 4, none, R_Rule)
theorem k_Rule_readBoth : CalOk m_Rule_readBoth 2 := ⟨tw_548, tw_7, ⟨by decide, by decide⟩, by decide +kernel, by decide⟩
abbrev m_Rule_readOne : MI := (y_Rule_readOne, b_Rule_readOne, 4, none, R_Rule)
theorem k_Rule_readOne : CalOk m_Rule_readOne 2 := ⟨tw_552, tw_7, ⟨by decide, by decide⟩, by decide +kernel, by decide⟩
abbrev m_Rule_readComparison : MI := (y_Rule_readComparison, b_Rule_readComparison, 3, none, R_Rule)
theorem k_Rule_readComparison : CalOk m_Rule_readComparison 1 := ⟨tw_556, tw_7, ⟨by decide, by decide⟩, by decide +kernel, by decide⟩
abbrev m_Rule_readSum : MI := (y_Rule_readSum, b_Rule_readSum, 4, none, R_Rule)
theorem k_Rule_readSum : CalOk m_Rule_readSum 1 := ⟨tw_560, tw_7, ⟨by decide, by decide⟩, by decide +kernel, by decide⟩
abbrev m_Rule_readValue : MI := (y_Rule_readValue, b_Rule_readValue, 2, none, R_Rule)
theorem k_Rule_readValue : CalOk m_Rule_readValue 1 := ⟨tw_564, tw_7, ⟨by decide, by decide⟩, by decide +kernel, by decide⟩
abbrev m_Rule_write : MI := (y_Rule_write, b_Rule_write, 2, none, R_Rule)
theorem k_Rule_write : CalOk m_Rule_write 1 := ⟨tw_568, tw_7, ⟨by decide, by decide⟩, by decide +kernel, by decide⟩
abbrev m_Rule_setPlayer : MI := (y_Rule_setPlayer, b_Rule_setPlayer, 4, none, R_Rule)
theorem k_Rule_setPlayer : CalOk m_Rule_setPlayer 3 := ⟨tw_860, tw_7, ⟨by decide, by decide⟩, by decide +kernel, by decide⟩
abbrev m_Rule_setDay : MI := (y_Rule_setDay, b_Rule_setDay, 3, none, R_Rule)
theorem k_Rule_setDay : CalOk m_Rule_setDay 2 := ⟨tw_864, tw_7, ⟨by decide, by decide⟩, by decide +kernel, by decide⟩
abbrev m_Rule_allows : MI := (y_Rule_allows, b_Rule_allows, 2, (some .boolean), R_Rule)
theorem k_Rule_allows : CalOk m_Rule_allows 0 := ⟨tw_868, tw_7, ⟨by decide, by decide⟩, by decide +kernel, by decide⟩
abbrev m_Rule_work : MI := (y_Rule_work, b_Rule_work, 4, none, R_Rule)
theorem k_Rule_work : CalOk m_Rule_work 1 := ⟨tw_872, tw_7, ⟨by decide, by decide⟩, by decide +kernel, by decide⟩
abbrev m_Rule_join : MI := (y_Rule_join, b_Rule_join, 3, (some .int), R_Rule)
theorem k_Rule_join : CalOk m_Rule_join 3 := ⟨tw_883, tw_7, ⟨by decide, by decide⟩, by decide +kernel, by decide⟩
abbrev m_Rule_push : MI := (y_Rule_push, b_Rule_push, 2, none, R_Rule)
theorem k_Rule_push : CalOk m_Rule_push 1 := ⟨tw_876, tw_7, ⟨by decide, by decide⟩, by decide +kernel, by decide⟩
abbrev m_Rule_pop : MI := (y_Rule_pop, b_Rule_pop, 1, (some .int), R_Rule)
theorem k_Rule_pop : CalOk m_Rule_pop 0 := ⟨tw_880, tw_7, ⟨by decide, by decide⟩, by decide +kernel, by decide⟩
abbrev m_Seater_init : MI := (y_Seater_init, b_Seater_init, 1, none, R_Seater)
theorem k_Seater_init : CalOk m_Seater_init 0 := ⟨tw_251, tw_10, ⟨by decide, by decide⟩, by decide +kernel, by decide⟩
abbrev m_Seater_seatAnew : MI := (y_Seater_seatAnew, b_Seater_seatAnew, 6, none, R_Seater)
theorem k_Seater_seatAnew : CalOk m_Seater_seatAnew 2 := ⟨tw_664, tw_10, ⟨by decide, by decide⟩, by decide +kernel, by decide⟩
abbrev m_Seater_seatWithFewestChanges : MI := (y_Seater_seatWithFewestChanges, b_Seater_seatWithFewestChanges, 8, (some .int), R_Seater)
theorem k_Seater_seatWithFewestChanges : CalOk m_Seater_seatWithFewestChanges 2 := ⟨tw_719, tw_10, ⟨by decide, by decide⟩, by decide +kernel, by decide⟩
abbrev m_Seater_weigh : MI := (y_Seater_weigh, b_Seater_weigh, 5, none, R_Seater)
theorem k_Seater_weigh : CalOk m_Seater_weigh 3 := ⟨tw_674, tw_10, ⟨by decide, by decide⟩, by decide +kernel, by decide⟩
abbrev m_Seater_weighEmpty : MI := (y_Seater_weighEmpty, b_Seater_weighEmpty, 9, none, R_Seater)
theorem k_Seater_weighEmpty : CalOk m_Seater_weighEmpty 4 := ⟨tw_679, tw_10, ⟨by decide, by decide⟩, by decide +kernel, by decide⟩
abbrev m_Seater_match : MI := (y_Seater_match, b_Seater_match, 4, none, R_Seater)
theorem k_Seater_match : CalOk m_Seater_match 2 := ⟨tw_685, tw_10, ⟨by decide, by decide⟩, by decide +kernel, by decide⟩
abbrev m_Seater_placeRow : MI := (y_Seater_placeRow, b_Seater_placeRow, 6, none, R_Seater)
theorem k_Seater_placeRow : CalOk m_Seater_placeRow 1 := ⟨tw_693, tw_10, ⟨by decide, by decide⟩, by decide +kernel, by decide⟩
abbrev m_Seater_nearestColumn : MI := (y_Seater_nearestColumn, b_Seater_nearestColumn, 10, (some .int), R_Seater)
theorem k_Seater_nearestColumn : CalOk m_Seater_nearestColumn 2 := ⟨tw_698, tw_10, ⟨by decide, by decide⟩, by decide +kernel, by decide⟩
abbrev m_Seater_shiftPrices : MI := (y_Seater_shiftPrices, b_Seater_shiftPrices, 5, none, R_Seater)
theorem k_Seater_shiftPrices : CalOk m_Seater_shiftPrices 2 := ⟨tw_702, tw_10, ⟨by decide, by decide⟩, by decide +kernel, by decide⟩
abbrev m_Seater_takeChairs : MI := (y_Seater_takeChairs, b_Seater_takeChairs, 7, (some .int), R_Seater)
theorem k_Seater_takeChairs : CalOk m_Seater_takeChairs 2 := ⟨tw_706, tw_10, ⟨by decide, by decide⟩, by decide +kernel, by decide⟩
abbrev m_Tape_init : MI := (y_Tape_init, b_Tape_init, 1, none, R_Tape)
theorem k_Tape_init : CalOk m_Tape_init 0 := ⟨tw_133, tw_6, ⟨by decide, by decide⟩, by decide +kernel, by decide⟩
abbrev m_Tape_hasRoom : MI := (y_Tape_hasRoom, b_Tape_hasRoom, 1, (some .boolean), R_Tape)
theorem k_Tape_hasRoom : CalOk m_Tape_hasRoom 0 := ⟨tw_390, tw_6, ⟨by decide, by decide⟩, by decide +kernel, by decide⟩
abbrev m_Tape_append : MI := (y_Tape_append, b_Tape_append, 3, none, R_Tape)
theorem k_Tape_append : CalOk m_Tape_append 1 := ⟨tw_394, tw_6, ⟨by decide, by decide⟩, by decide +kernel, by decide⟩
abbrev m_Tape_begin : MI := (y_Tape_begin, b_Tape_begin, 2, none, R_Tape)
theorem k_Tape_begin : CalOk m_Tape_begin 1 := ⟨tw_410, tw_6, ⟨by decide, by decide⟩, by decide +kernel, by decide⟩
abbrev m_Tape_finish : MI := (y_Tape_finish, b_Tape_finish, 1, (some .boolean), R_Tape)
theorem k_Tape_finish : CalOk m_Tape_finish 0 := ⟨tw_530, tw_6, ⟨by decide, by decide⟩, by decide +kernel, by decide⟩
abbrev m_Tape_fail : MI := (y_Tape_fail, b_Tape_fail, 2, none, R_Tape)
theorem k_Tape_fail : CalOk m_Tape_fail 1 := ⟨tw_475, tw_6, ⟨by decide, by decide⟩, by decide +kernel, by decide⟩
abbrev m_Tape_advance : MI := (y_Tape_advance, b_Tape_advance, 1, none, R_Tape)
theorem k_Tape_advance : CalOk m_Tape_advance 0 := ⟨tw_414, tw_6, ⟨by decide, by decide⟩, by decide +kernel, by decide⟩
abbrev m_Tape_take : MI := (y_Tape_take, b_Tape_take, 2, none, R_Tape)
theorem k_Tape_take : CalOk m_Tape_take 1 := ⟨tw_499, tw_6, ⟨by decide, by decide⟩, by decide +kernel, by decide⟩
abbrev m_Tape_reads : MI := (y_Tape_reads, b_Tape_reads, 3, (some .boolean), R_Tape)
theorem k_Tape_reads : CalOk m_Tape_reads 1 := ⟨tw_419, tw_6, ⟨by decide, by decide⟩, by decide +kernel, by decide⟩
abbrev m_Band_init : MI := (y_Band_init, b_Band_init, 1, none, R_Band)
theorem k_Band_init : CalOk m_Band_init 0 := ⟨tw_23, tw_1, ⟨by decide, by decide⟩, by decide +kernel, by decide⟩
abbrev m_Band_player : MI := (y_Band_player, b_Band_player, 3, (some .int), R_Band)
theorem k_Band_player : CalOk m_Band_player 2 := ⟨tw_341, tw_1, ⟨by decide, by decide⟩, by decide +kernel, by decide⟩
abbrev m_Band_plays : MI := (y_Band_plays, b_Band_plays, 4, (some .boolean), R_Band)
theorem k_Band_plays : CalOk m_Band_plays 3 := ⟨tw_355, tw_1, ⟨by decide, by decide⟩, by decide +kernel, by decide⟩
abbrev m_Band_cost : MI := (y_Band_cost, b_Band_cost, 3, (some .int), R_Band)
theorem k_Band_cost : CalOk m_Band_cost 2 := ⟨tw_370, tw_1, ⟨by decide, by decide⟩, by decide +kernel, by decide⟩
abbrev m_Band_here : MI := (y_Band_here, b_Band_here, 3, (some .boolean), R_Band)
theorem k_Band_here : CalOk m_Band_here 2 := ⟨tw_378, tw_1, ⟨by decide, by decide⟩, by decide +kernel, by decide⟩
abbrev m_Band_feed : MI := (y_Band_feed, b_Band_feed, 6, (some .int), R_Band)
theorem k_Band_feed : CalOk m_Band_feed 5 := ⟨tw_386, tw_1, ⟨by decide, by decide⟩, by decide +kernel, by decide⟩
abbrev m_Band_end : MI := (y_Band_end, b_Band_end, 2, (some .int), R_Band)
theorem k_Band_end : CalOk m_Band_end 1 := ⟨tw_398, tw_1, ⟨by decide, by decide⟩, by decide +kernel, by decide⟩
abbrev m_Band_load : MI := (y_Band_load, b_Band_load, 1, (some .int), R_Band)
theorem k_Band_load : CalOk m_Band_load 0 := ⟨tw_402, tw_1, ⟨by decide, by decide⟩, by decide +kernel, by decide⟩
abbrev m_Band_rule : MI := (y_Band_rule, b_Band_rule, 1, (some .int), R_Band)
theorem k_Band_rule : CalOk m_Band_rule 0 := ⟨tw_535, tw_1, ⟨by decide, by decide⟩, by decide +kernel, by decide⟩
abbrev m_Band_fault : MI := (y_Band_fault, b_Band_fault, 2, (some .int), R_Band)
theorem k_Band_fault : CalOk m_Band_fault 1 := ⟨tw_587, tw_1, ⟨by decide, by decide⟩, by decide +kernel, by decide⟩
abbrev m_Band_piece : MI := (y_Band_piece, b_Band_piece, 4, (some .int), R_Band)
theorem k_Band_piece : CalOk m_Band_piece 2 := ⟨tw_591, tw_1, ⟨by decide, by decide⟩, by decide +kernel, by decide⟩
abbrev m_Band_playable : MI := (y_Band_playable, b_Band_playable, 3, (some .int), R_Band)
theorem k_Band_playable : CalOk m_Band_playable 1 := ⟨tw_611, tw_1, ⟨by decide, by decide⟩, by decide +kernel, by decide⟩
abbrev m_Band_lacks : MI := (y_Band_lacks, b_Band_lacks, 3, (some .int), R_Band)
theorem k_Band_lacks : CalOk m_Band_lacks 1 := ⟨tw_646, tw_1, ⟨by decide, by decide⟩, by decide +kernel, by decide⟩
abbrev m_Band_seat : MI := (y_Band_seat, b_Band_seat, 3, (some .int), R_Band)
theorem k_Band_seat : CalOk m_Band_seat 1 := ⟨tw_660, tw_1, ⟨by decide, by decide⟩, by decide +kernel, by decide⟩
abbrev m_Band_again : MI := (y_Band_again, b_Band_again, 3, (some .int), R_Band)
theorem k_Band_again : CalOk m_Band_again 1 := ⟨tw_715, tw_1, ⟨by decide, by decide⟩, by decide +kernel, by decide⟩
abbrev m_Band_chair : MI := (y_Band_chair, b_Band_chair, 4, (some .int), R_Band)
theorem k_Band_chair : CalOk m_Band_chair 2 := ⟨tw_723, tw_1, ⟨by decide, by decide⟩, by decide +kernel, by decide⟩
abbrev m_Band_sit : MI := (y_Band_sit, b_Band_sit, 5, (some .boolean), R_Band)
theorem k_Band_sit : CalOk m_Band_sit 3 := ⟨tw_728, tw_1, ⟨by decide, by decide⟩, by decide +kernel, by decide⟩
abbrev m_Band_seating : MI := (y_Band_seating, b_Band_seating, 4, (some .int), R_Band)
theorem k_Band_seating : CalOk m_Band_seating 2 := ⟨tw_737, tw_1, ⟨by decide, by decide⟩, by decide +kernel, by decide⟩
abbrev m_Band_programme : MI := (y_Band_programme, b_Band_programme, 5, (some .int), R_Band)
theorem k_Band_programme : CalOk m_Band_programme 2 := ⟨tw_753, tw_1, ⟨by decide, by decide⟩, by decide +kernel, by decide⟩
abbrev m_Band_plan : MI := (y_Band_plan, b_Band_plan, 2, (some .int), R_Band)
theorem k_Band_plan : CalOk m_Band_plan 1 := ⟨tw_804, tw_1, ⟨by decide, by decide⟩, by decide +kernel, by decide⟩
abbrev m_Band_strain : MI := (y_Band_strain, b_Band_strain, 1, (some .int), R_Band)
theorem k_Band_strain : CalOk m_Band_strain 0 := ⟨tw_808, tw_1, ⟨by decide, by decide⟩, by decide +kernel, by decide⟩
abbrev m_Band_tell : MI := (y_Band_tell, b_Band_tell, 4, (some .int), R_Band)
theorem k_Band_tell : CalOk m_Band_tell 3 := ⟨tw_812, tw_1, ⟨by decide, by decide⟩, by decide +kernel, by decide⟩
abbrev m_Band_where : MI := (y_Band_where, b_Band_where, 4, (some .int), R_Band)
theorem k_Band_where : CalOk m_Band_where 3 := ⟨tw_827, tw_1, ⟨by decide, by decide⟩, by decide +kernel, by decide⟩
abbrev m_Band_copies : MI := (y_Band_copies, b_Band_copies, 4, (some .int), R_Band)
theorem k_Band_copies : CalOk m_Band_copies 3 := ⟨tw_840, tw_1, ⟨by decide, by decide⟩, by decide +kernel, by decide⟩
abbrev m_Band_contest : MI := (y_Band_contest, b_Band_contest, 2, (some .int), R_Band)
theorem k_Band_contest : CalOk m_Band_contest 1 := ⟨tw_848, tw_1, ⟨by decide, by decide⟩, by decide +kernel, by decide⟩
abbrev m_Band_may : MI := (y_Band_may, b_Band_may, 3, (some .int), R_Band)
theorem k_Band_may : CalOk m_Band_may 2 := ⟨tw_856, tw_1, ⟨by decide, by decide⟩, by decide +kernel, by decide⟩
abbrev m_Band_count : MI := (y_Band_count, b_Band_count, 2, (some .int), R_Band)
theorem k_Band_count : CalOk m_Band_count 1 := ⟨tw_887, tw_1, ⟨by decide, by decide⟩, by decide +kernel, by decide⟩
abbrev m_Band_playablePieces : MI := (y_Band_playablePieces, b_Band_playablePieces, 4, (some .int), R_Band)
theorem k_Band_playablePieces : CalOk m_Band_playablePieces 0 := ⟨tw_892, tw_1, ⟨by decide, by decide⟩, by decide +kernel, by decide⟩
abbrev m_Band_isPlace : MI := (y_Band_isPlace, b_Band_isPlace, 2, (some .boolean), R_Band)
theorem k_Band_isPlace : CalOk m_Band_isPlace 1 := ⟨tw_819, tw_1, ⟨by decide, by decide⟩, by decide +kernel, by decide⟩
abbrev m_Band_isWithin : MI := (y_Band_isWithin, b_Band_isWithin, 3, (some .boolean), R_Band)
theorem k_Band_isWithin : CalOk m_Band_isWithin 3 := ⟨tw_344, tw_1, ⟨by decide, by decide⟩, by decide +kernel, by decide⟩
abbrev m_Band_isDay : MI := (y_Band_isDay, b_Band_isDay, 1, (some .boolean), R_Band)
theorem k_Band_isDay : CalOk m_Band_isDay 1 := ⟨tw_347, tw_1, ⟨by decide, by decide⟩, by decide +kernel, by decide⟩
abbrev m_Band_isInstrument : MI := (y_Band_isInstrument, b_Band_isInstrument, 1, (some .boolean), R_Band)
theorem k_Band_isInstrument : CalOk m_Band_isInstrument 1 := ⟨tw_362, tw_1, ⟨by decide, by decide⟩, by decide +kernel, by decide⟩
abbrev m_Band_isCopy : MI := (y_Band_isCopy, b_Band_isCopy, 1, (some .boolean), R_Band)
theorem k_Band_isCopy : CalOk m_Band_isCopy 1 := ⟨tw_815, tw_1, ⟨by decide, by decide⟩, by decide +kernel, by decide⟩
abbrev m_Model_init : MI := (y_Model_init, b_Model_init, 1, none, R_Model)
theorem k_Model_init : CalOk m_Model_init 0 := ⟨tw_897, tw_12, ⟨by decide, by decide⟩, by decide +kernel, by decide⟩
abbrev m_Model_isPlayer : MI := (y_Model_isPlayer, b_Model_isPlayer, 2, (some .boolean), R_Model)
theorem k_Model_isPlayer : CalOk m_Model_isPlayer 1 := ⟨tw_1057, tw_12, ⟨by decide, by decide⟩, by decide +kernel, by decide⟩
abbrev m_Model_player : MI := (y_Model_player, b_Model_player, 3, (some .int), R_Model)
theorem k_Model_player : CalOk m_Model_player 2 := ⟨tw_1049, tw_12, ⟨by decide, by decide⟩, by decide +kernel, by decide⟩
abbrev m_Model_isInstrument : MI := (y_Model_isInstrument, b_Model_isInstrument, 2, (some .boolean), R_Model)
theorem k_Model_isInstrument : CalOk m_Model_isInstrument 1 := ⟨tw_1061, tw_12, ⟨by decide, by decide⟩, by decide +kernel, by decide⟩
abbrev m_Model_plays : MI := (y_Model_plays, b_Model_plays, 4, (some .boolean), R_Model)
theorem k_Model_plays : CalOk m_Model_plays 3 := ⟨tw_1053, tw_12, ⟨by decide, by decide⟩, by decide +kernel, by decide⟩
abbrev m_Model_cost : MI := (y_Model_cost, b_Model_cost, 3, (some .int), R_Model)
theorem k_Model_cost : CalOk m_Model_cost 2 := ⟨tw_1065, tw_12, ⟨by decide, by decide⟩, by decide +kernel, by decide⟩
abbrev m_Model_here : MI := (y_Model_here, b_Model_here, 3, (some .boolean), R_Model)
theorem k_Model_here : CalOk m_Model_here 2 := ⟨tw_1069, tw_12, ⟨by decide, by decide⟩, by decide +kernel, by decide⟩
abbrev m_Model_isPiece : MI := (y_Model_isPiece, b_Model_isPiece, 2, (some .boolean), R_Model)
theorem k_Model_isPiece : CalOk m_Model_isPiece 1 := ⟨tw_1077, tw_12, ⟨by decide, by decide⟩, by decide +kernel, by decide⟩
abbrev m_Model_costOf : MI := (y_Model_costOf, b_Model_costOf, 7, (some .int), R_Model)
theorem k_Model_costOf : CalOk m_Model_costOf 3 := ⟨tw_1089, tw_12, ⟨by decide, by decide⟩, by decide +kernel, by decide⟩
abbrev m_Model_isMust : MI := (y_Model_isMust, b_Model_isMust, 3, (some .boolean), R_Model)
theorem k_Model_isMust : CalOk m_Model_isMust 2 := ⟨tw_1118, tw_12, ⟨by decide, by decide⟩, by decide +kernel, by decide⟩
abbrev m_Model_piece : MI := (y_Model_piece, b_Model_piece, 5, (some .int), R_Model)
theorem k_Model_piece : CalOk m_Model_piece 2 := ⟨tw_1073, tw_12, ⟨by decide, by decide⟩, by decide +kernel, by decide⟩
abbrev m_Model_ones : MI := (y_Model_ones, b_Model_ones, 4, (some .int), R_Model)
theorem k_Model_ones : CalOk m_Model_ones 1 := ⟨tw_1093, tw_12, ⟨by decide, by decide⟩, by decide +kernel, by decide⟩
abbrev m_Model_lacking : MI := (y_Model_lacking, b_Model_lacking, 8, (some .int), R_Model)
theorem k_Model_lacking : CalOk m_Model_lacking 1 := ⟨tw_1085, tw_12, ⟨by decide, by decide⟩, by decide +kernel, by decide⟩
abbrev m_Model_playable : MI := (y_Model_playable, b_Model_playable, 2, (some .int), R_Model)
theorem k_Model_playable : CalOk m_Model_playable 1 := ⟨tw_1081, tw_12, ⟨by decide, by decide⟩, by decide +kernel, by decide⟩
abbrev m_Model_lacks : MI := (y_Model_lacks, b_Model_lacks, 2, (some .int), R_Model)
theorem k_Model_lacks : CalOk m_Model_lacks 1 := ⟨tw_1097, tw_12, ⟨by decide, by decide⟩, by decide +kernel, by decide⟩
abbrev m_Model_counts : MI := (y_Model_counts, b_Model_counts, 5, (some .int), R_Model)
theorem k_Model_counts : CalOk m_Model_counts 4 := ⟨tw_1122, tw_12, ⟨by decide, by decide⟩, by decide +kernel, by decide⟩
abbrev m_Model_mayBe : MI := (y_Model_mayBe, b_Model_mayBe, 4, (some .boolean), R_Model)
theorem k_Model_mayBe : CalOk m_Model_mayBe 3 := ⟨tw_1114, tw_12, ⟨by decide, by decide⟩, by decide +kernel, by decide⟩
abbrev m_Model_finds : MI := (y_Model_finds, b_Model_finds, 10, none, R_Model)
theorem k_Model_finds : CalOk m_Model_finds 2 := ⟨tw_1109, tw_12, ⟨by decide, by decide⟩, by decide +kernel, by decide⟩
abbrev m_Model_seats : MI := (y_Model_seats, b_Model_seats, 8, (some .int), R_Model)
theorem k_Model_seats : CalOk m_Model_seats 2 := ⟨tw_1105, tw_12, ⟨by decide, by decide⟩, by decide +kernel, by decide⟩
abbrev m_Model_fits : MI := (y_Model_fits, b_Model_fits, 7, (some .boolean), R_Model)
theorem k_Model_fits : CalOk m_Model_fits 5 := ⟨tw_1126, tw_12, ⟨by decide, by decide⟩, by decide +kernel, by decide⟩
abbrev m_Model_seat : MI := (y_Model_seat, b_Model_seat, 2, (some .int), R_Model)
theorem k_Model_seat : CalOk m_Model_seat 1 := ⟨tw_1101, tw_12, ⟨by decide, by decide⟩, by decide +kernel, by decide⟩
abbrev m_Model_again : MI := (y_Model_again, b_Model_again, 2, (some .int), R_Model)
theorem k_Model_again : CalOk m_Model_again 1 := ⟨tw_1130, tw_12, ⟨by decide, by decide⟩, by decide +kernel, by decide⟩
abbrev m_Model_isPart : MI := (y_Model_isPart, b_Model_isPart, 3, (some .boolean), R_Model)
theorem k_Model_isPart : CalOk m_Model_isPart 2 := ⟨tw_1138, tw_12, ⟨by decide, by decide⟩, by decide +kernel, by decide⟩
abbrev m_Model_chair : MI := (y_Model_chair, b_Model_chair, 3, (some .int), R_Model)
theorem k_Model_chair : CalOk m_Model_chair 2 := ⟨tw_1134, tw_12, ⟨by decide, by decide⟩, by decide +kernel, by decide⟩
abbrev m_Model_sit : MI := (y_Model_sit, b_Model_sit, 5, (some .boolean), R_Model)
theorem k_Model_sit : CalOk m_Model_sit 3 := ⟨tw_1142, tw_12, ⟨by decide, by decide⟩, by decide +kernel, by decide⟩
abbrev m_Model_seating : MI := (y_Model_seating, b_Model_seating, 9, (some .int), R_Model)
theorem k_Model_seating : CalOk m_Model_seating 2 := ⟨tw_1146, tw_12, ⟨by decide, by decide⟩, by decide +kernel, by decide⟩
abbrev m_Model_sumOf : MI := (y_Model_sumOf, b_Model_sumOf, 4, (some .int), R_Model)
theorem k_Model_sumOf : CalOk m_Model_sumOf 1 := ⟨tw_1154, tw_12, ⟨by decide, by decide⟩, by decide +kernel, by decide⟩
abbrev m_Model_strainOf : MI := (y_Model_strainOf, b_Model_strainOf, 4, (some .int), R_Model)
theorem k_Model_strainOf : CalOk m_Model_strainOf 2 := ⟨tw_1162, tw_12, ⟨by decide, by decide⟩, by decide +kernel, by decide⟩
abbrev m_Model_goes : MI := (y_Model_goes, b_Model_goes, 5, (some .boolean), R_Model)
theorem k_Model_goes : CalOk m_Model_goes 4 := ⟨tw_1158, tw_12, ⟨by decide, by decide⟩, by decide +kernel, by decide⟩
abbrev m_Model_programme : MI := (y_Model_programme, b_Model_programme, 10, (some .int), R_Model)
theorem k_Model_programme : CalOk m_Model_programme 2 := ⟨tw_1150, tw_12, ⟨by decide, by decide⟩, by decide +kernel, by decide⟩
abbrev m_Model_plan : MI := (y_Model_plan, b_Model_plan, 2, (some .int), R_Model)
theorem k_Model_plan : CalOk m_Model_plan 1 := ⟨tw_1166, tw_12, ⟨by decide, by decide⟩, by decide +kernel, by decide⟩
abbrev m_Model_strain : MI := (y_Model_strain, b_Model_strain, 1, (some .int), R_Model)
theorem k_Model_strain : CalOk m_Model_strain 0 := ⟨tw_1170, tw_12, ⟨by decide, by decide⟩, by decide +kernel, by decide⟩
abbrev m_Model_isDay : MI := (y_Model_isDay, b_Model_isDay, 2, (some .boolean), R_Model)
theorem k_Model_isDay : CalOk m_Model_isDay 1 := ⟨tw_1178, tw_12, ⟨by decide, by decide⟩, by decide +kernel, by decide⟩
abbrev m_Model_isThere : MI := (y_Model_isThere, b_Model_isThere, 2, (some .boolean), R_Model)
theorem k_Model_isThere : CalOk m_Model_isThere 1 := ⟨tw_1182, tw_12, ⟨by decide, by decide⟩, by decide +kernel, by decide⟩
abbrev m_Model_tell : MI := (y_Model_tell, b_Model_tell, 4, (some .int), R_Model)
theorem k_Model_tell : CalOk m_Model_tell 3 := ⟨tw_1174, tw_12, ⟨by decide, by decide⟩, by decide +kernel, by decide⟩
abbrev m_Model_whereIs : MI := (y_Model_whereIs, b_Model_whereIs, 7, (some .int), R_Model)
theorem k_Model_whereIs : CalOk m_Model_whereIs 3 := ⟨tw_1190, tw_12, ⟨by decide, by decide⟩, by decide +kernel, by decide⟩
abbrev m_Model_where : MI := (y_Model_where, b_Model_where, 4, (some .int), R_Model)
theorem k_Model_where : CalOk m_Model_where 3 := ⟨tw_1186, tw_12, ⟨by decide, by decide⟩, by decide +kernel, by decide⟩
abbrev m_Model_copiesAt : MI := (y_Model_copiesAt, b_Model_copiesAt, 6, (some .int), R_Model)
theorem k_Model_copiesAt : CalOk m_Model_copiesAt 3 := ⟨tw_1198, tw_12, ⟨by decide, by decide⟩, by decide +kernel, by decide⟩
abbrev m_Model_copies : MI := (y_Model_copies, b_Model_copies, 4, (some .int), R_Model)
theorem k_Model_copies : CalOk m_Model_copies 3 := ⟨tw_1194, tw_12, ⟨by decide, by decide⟩, by decide +kernel, by decide⟩
abbrev m_Model_contest : MI := (y_Model_contest, b_Model_contest, 2, (some .int), R_Model)
theorem k_Model_contest : CalOk m_Model_contest 1 := ⟨tw_1202, tw_12, ⟨by decide, by decide⟩, by decide +kernel, by decide⟩
abbrev m_Model_count : MI := (y_Model_count, b_Model_count, 4, (some .int), R_Model)
theorem k_Model_count : CalOk m_Model_count 1 := ⟨tw_1206, tw_12, ⟨by decide, by decide⟩, by decide +kernel, by decide⟩
abbrev m_Model_lay : MI := (y_Model_lay, b_Model_lay, 3, none, R_Model)
theorem k_Model_lay : CalOk m_Model_lay 1 := ⟨tw_1214, tw_12, ⟨by decide, by decide⟩, by decide +kernel, by decide⟩
abbrev m_Model_feed : MI := (y_Model_feed, b_Model_feed, 6, (some .int), R_Model)
theorem k_Model_feed : CalOk m_Model_feed 5 := ⟨tw_1210, tw_12, ⟨by decide, by decide⟩, by decide +kernel, by decide⟩
abbrev m_Model_end : MI := (y_Model_end, b_Model_end, 2, (some .int), R_Model)
theorem k_Model_end : CalOk m_Model_end 1 := ⟨tw_1218, tw_12, ⟨by decide, by decide⟩, by decide +kernel, by decide⟩
abbrev m_Model_fault : MI := (y_Model_fault, b_Model_fault, 2, (some .int), R_Model)
theorem k_Model_fault : CalOk m_Model_fault 1 := ⟨tw_1222, tw_12, ⟨by decide, by decide⟩, by decide +kernel, by decide⟩
abbrev m_Model_raw : MI := (y_Model_raw, b_Model_raw, 1, (some .int), R_Model)
theorem k_Model_raw : CalOk m_Model_raw 0 := ⟨tw_1238, tw_12, ⟨by decide, by decide⟩, by decide +kernel, by decide⟩
abbrev m_Model_isSmall : MI := (y_Model_isSmall, b_Model_isSmall, 2, (some .boolean), R_Model)
theorem k_Model_isSmall : CalOk m_Model_isSmall 1 := ⟨tw_1242, tw_12, ⟨by decide, by decide⟩, by decide +kernel, by decide⟩
abbrev m_Model_isDigit : MI := (y_Model_isDigit, b_Model_isDigit, 2, (some .boolean), R_Model)
theorem k_Model_isDigit : CalOk m_Model_isDigit 1 := ⟨tw_1254, tw_12, ⟨by decide, by decide⟩, by decide +kernel, by decide⟩
abbrev m_Model_word : MI := (y_Model_word, b_Model_word, 8, (some .long), R_Model)
theorem k_Model_word : CalOk m_Model_word 5 := ⟨tw_1250, tw_12, ⟨by decide, by decide⟩, by decide +kernel, by decide⟩
abbrev m_Model_isWordOf : MI := (y_Model_isWordOf, b_Model_isWordOf, 2, (some .boolean), R_Model)
theorem k_Model_isWordOf : CalOk m_Model_isWordOf 1 := ⟨tw_1246, tw_12, ⟨by decide, by decide⟩, by decide +kernel, by decide⟩
abbrev m_Model_isSignOf : MI := (y_Model_isSignOf, b_Model_isSignOf, 3, (some .boolean), R_Model)
theorem k_Model_isSignOf : CalOk m_Model_isSignOf 2 := ⟨tw_1258, tw_12, ⟨by decide, by decide⟩, by decide +kernel, by decide⟩
abbrev m_Model_next : MI := (y_Model_next, b_Model_next, 5, none, R_Model)
theorem k_Model_next : CalOk m_Model_next 1 := ⟨tw_1234, tw_12, ⟨by decide, by decide⟩, by decide +kernel, by decide⟩
abbrev m_Model_fails : MI := (y_Model_fails, b_Model_fails, 2, (some .boolean), R_Model)
theorem k_Model_fails : CalOk m_Model_fails 1 := ⟨tw_1270, tw_12, ⟨by decide, by decide⟩, by decide +kernel, by decide⟩
abbrev m_Model_isWord : MI := (y_Model_isWord, b_Model_isWord, 6, (some .boolean), R_Model)
theorem k_Model_isWord : CalOk m_Model_isWord 5 := ⟨tw_1262, tw_12, ⟨by decide, by decide⟩, by decide +kernel, by decide⟩
abbrev m_Model_isSign : MI := (y_Model_isSign, b_Model_isSign, 2, (some .boolean), R_Model)
theorem k_Model_isSign : CalOk m_Model_isSign 1 := ⟨tw_1274, tw_12, ⟨by decide, by decide⟩, by decide +kernel, by decide⟩
abbrev m_Model_takes : MI := (y_Model_takes, b_Model_takes, 3, (some .boolean), R_Model)
theorem k_Model_takes : CalOk m_Model_takes 2 := ⟨tw_1278, tw_12, ⟨by decide, by decide⟩, by decide +kernel, by decide⟩
abbrev m_Model_readPiece : MI := (y_Model_readPiece, b_Model_readPiece, 3, (some .boolean), R_Model)
theorem k_Model_readPiece : CalOk m_Model_readPiece 0 := ⟨tw_1266, tw_12, ⟨by decide, by decide⟩, by decide +kernel, by decide⟩
abbrev m_Model_readPart : MI := (y_Model_readPart, b_Model_readPart, 6, (some .boolean), R_Model)
theorem k_Model_readPart : CalOk m_Model_readPart 1 := ⟨tw_1282, tw_12, ⟨by decide, by decide⟩, by decide +kernel, by decide⟩
abbrev m_Model_readText : MI := (y_Model_readText, b_Model_readText, 1, (some .boolean), R_Model)
theorem k_Model_readText : CalOk m_Model_readText 0 := ⟨tw_1230, tw_12, ⟨by decide, by decide⟩, by decide +kernel, by decide⟩
abbrev m_Model_load : MI := (y_Model_load, b_Model_load, 2, (some .int), R_Model)
theorem k_Model_load : CalOk m_Model_load 0 := ⟨tw_1226, tw_12, ⟨by decide, by decide⟩, by decide +kernel, by decide⟩
abbrev m_Model_does : MI := (y_Model_does, b_Model_does, 3, none, R_Model)
theorem k_Model_does : CalOk m_Model_does 2 := ⟨tw_1310, tw_12, ⟨by decide, by decide⟩, by decide +kernel, by decide⟩
abbrev m_Model_rank : MI := (y_Model_rank, b_Model_rank, 2, (some .int), R_Model)
theorem k_Model_rank : CalOk m_Model_rank 1 := ⟨tw_1318, tw_12, ⟨by decide, by decide⟩, by decide +kernel, by decide⟩
abbrev m_Model_settles : MI := (y_Model_settles, b_Model_settles, 2, none, R_Model)
theorem k_Model_settles : CalOk m_Model_settles 1 := ⟨tw_1314, tw_12, ⟨by decide, by decide⟩, by decide +kernel, by decide⟩
abbrev m_Model_open : MI := (y_Model_open, b_Model_open, 3, (some .int), R_Model)
theorem k_Model_open : CalOk m_Model_open 0 := ⟨tw_1294, tw_12, ⟨by decide, by decide⟩, by decide +kernel, by decide⟩
abbrev m_Model_value : MI := (y_Model_value, b_Model_value, 1, (some .boolean), R_Model)
theorem k_Model_value : CalOk m_Model_value 0 := ⟨tw_1306, tw_12, ⟨by decide, by decide⟩, by decide +kernel, by decide⟩
abbrev m_Model_step : MI := (y_Model_step, b_Model_step, 1, none, R_Model)
theorem k_Model_step : CalOk m_Model_step 0 := ⟨tw_1298, tw_12, ⟨by decide, by decide⟩, by decide +kernel, by decide⟩
abbrev m_Model_readSums : MI := (y_Model_readSums, b_Model_readSums, 2, (some .boolean), R_Model)
theorem k_Model_readSums : CalOk m_Model_readSums 0 := ⟨tw_1302, tw_12, ⟨by decide, by decide⟩, by decide +kernel, by decide⟩
abbrev m_Model_readRule : MI := (y_Model_readRule, b_Model_readRule, 2, (some .boolean), R_Model)
theorem k_Model_readRule : CalOk m_Model_readRule 0 := ⟨tw_1290, tw_12, ⟨by decide, by decide⟩, by decide +kernel, by decide⟩
abbrev m_Model_rule : MI := (y_Model_rule, b_Model_rule, 3, (some .int), R_Model)
theorem k_Model_rule : CalOk m_Model_rule 0 := ⟨tw_1286, tw_12, ⟨by decide, by decide⟩, by decide +kernel, by decide⟩
abbrev m_Model_done : MI := (y_Model_done, b_Model_done, 5, (some .int), R_Model)
theorem k_Model_done : CalOk m_Model_done 3 := ⟨tw_1326, tw_12, ⟨by decide, by decide⟩, by decide +kernel, by decide⟩
abbrev m_Model_may : MI := (y_Model_may, b_Model_may, 6, (some .int), R_Model)
theorem k_Model_may : CalOk m_Model_may 2 := ⟨tw_1322, tw_12, ⟨by decide, by decide⟩, by decide +kernel, by decide⟩
abbrev m_Integer_bitCount : MI := (y_Integer_bitCount, b_Integer_bitCount, 1, (some .int), R_Integer)
theorem k_Integer_bitCount : CalOk m_Integer_bitCount 1 := ⟨tw_653, tw_17, ⟨by decide, by decide⟩, by decide +kernel, by decide⟩
abbrev m_Math_abs : MI := (y_Math_abs, b_Math_abs, 1, (some .int), R_Math)
theorem k_Math_abs : CalOk m_Math_abs 1 := ⟨tw_788, tw_18, ⟨by decide, by decide⟩, by decide +kernel, by decide⟩
abbrev m_Math_max : MI := (y_Math_max, b_Math_max, 2, (some .int), R_Math)
theorem k_Math_max : CalOk m_Math_max 2 := ⟨tw_745, tw_18, ⟨by decide, by decide⟩, by decide +kernel, by decide⟩
abbrev m_Math_min : MI := (y_Math_min, b_Math_min, 2, (some .int), R_Math)
theorem k_Math_min : CalOk m_Math_min 2 := ⟨tw_791, tw_18, ⟨by decide, by decide⟩, by decide +kernel, by decide⟩
abbrev m_Math_minL : MI := (y_Math_minL, b_Math_minL, 4, (some .long), R_Math)
theorem k_Math_minL : CalOk m_Math_minL 2 := ⟨tw_795, tw_18, ⟨by decide, by decide⟩, by decide +kernel, by decide⟩
abbrev m_String_length : MI := (y_String_length, b_String_length, 1, (some .int), R_String)
theorem k_String_length : CalOk m_String_length 0 := ⟨tw_423, tw_13, ⟨by decide, by decide⟩, by decide +kernel, by decide⟩
abbrev m_String_charAt : MI := (y_String_charAt, b_String_charAt, 2, (some .char), R_String)
theorem k_String_charAt : CalOk m_String_charAt 1 := ⟨tw_433, tw_13, ⟨by decide, by decide⟩, by decide +kernel, by decide⟩
abbrev m_String_coder : MI := (y_String_coder, b_String_coder, 1, (some .byte), R_String)
theorem k_String_coder : CalOk m_String_coder 0 := ⟨tw_427, tw_13, ⟨by decide, by decide⟩, by decide +kernel, by decide⟩
abbrev m_String_isLatin1 : MI := (y_String_isLatin1, b_String_isLatin1, 1, (some .boolean), R_String)
theorem k_String_isLatin1 : CalOk m_String_isLatin1 0 := ⟨tw_437, tw_13, ⟨by decide, by decide⟩, by decide +kernel, by decide⟩
abbrev m_String_checkIndex : MI := (y_String_checkIndex, b_String_checkIndex, 2, none, R_String)
theorem k_String_checkIndex : CalOk m_String_checkIndex 2 := ⟨tw_443, tw_13, ⟨by decide, by decide⟩, by decide +kernel, by decide⟩
abbrev m_Latin_charAt : MI := (y_Latin_charAt, b_Latin_charAt, 2, (some .char), R_Latin)
theorem k_Latin_charAt : CalOk m_Latin_charAt 2 := ⟨tw_440, tw_14, ⟨by decide, by decide⟩, by decide +kernel, by decide⟩
abbrev m_Utf_getChar : MI := (y_Utf_getChar, b_Utf_getChar, 2, (some .char), R_Utf)
theorem k_Utf_getChar : CalOk m_Utf_getChar 2 := ⟨tw_461, tw_16, ⟨by decide, by decide⟩, by decide +kernel, by decide⟩
abbrev m_Utf_length : MI := (y_Utf_length, b_Utf_length, 1, (some .int), R_Utf)
theorem k_Utf_length : CalOk m_Utf_length 1 := ⟨tw_457, tw_16, ⟨by decide, by decide⟩, by decide +kernel, by decide⟩
abbrev m_Utf_charAt : MI := (y_Utf_charAt, b_Utf_charAt, 2, (some .char), R_Utf)
theorem k_Utf_charAt : CalOk m_Utf_charAt 2 := ⟨tw_451, tw_16, ⟨by decide, by decide⟩, by decide +kernel, by decide⟩
abbrev m_Utf_checkIndex : MI := (y_Utf_checkIndex, b_Utf_checkIndex, 2, none, R_Utf)
theorem k_Utf_checkIndex : CalOk m_Utf_checkIndex 2 := ⟨tw_454, tw_16, ⟨by decide, by decide⟩, by decide +kernel, by decide⟩
abbrev m_Arrays_fillL : MI := (y_Arrays_fillL, b_Arrays_fillL, 5, none, R_Arrays)
theorem k_Arrays_fillL : CalOk m_Arrays_fillL 2 := ⟨tw_688, tw_3, ⟨by decide, by decide⟩, by decide +kernel, by decide⟩
abbrev m_Arrays_fillI : MI := (y_Arrays_fillI, b_Arrays_fillI, 4, none, R_Arrays)
theorem k_Arrays_fillI : CalOk m_Arrays_fillI 2 := ⟨tw_35, tw_3, ⟨by decide, by decide⟩, by decide +kernel, by decide⟩
abbrev m_Pre_checkIndex : MI := (y_Pre_checkIndex, b_Pre_checkIndex, 3, (some .int), R_Pre)
theorem k_Pre_checkIndex : CalOk m_Pre_checkIndex 3 := ⟨tw_448, tw_15, ⟨by decide, by decide⟩, by decide +kernel, by decide⟩
abbrev m_Law_law : MI := (y_Law_law, b_Law_law, 4, (some .boolean), R_Law)
