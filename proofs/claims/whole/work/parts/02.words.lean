/-- the words of the tables that a callee can take over -/
def oTB : List Cond := lw_tbl.filter goodWord
theorem oTB_in {w : Cond} (h : w ∈ lw_tbl) (g : goodWord w = true) : w ∈ oTB := List.mem_filter.mpr ⟨h, g⟩
theorem oTB_lw {w : Cond} (h : w ∈ oTB) : w ∈ lw_tbl := (List.mem_filter.mp h).1
theorem oTB_good : ∀ w ∈ oTB, (w.onTables && w.keeps) = true ∨ ∃ ty, w = .arrayClass ty := fun _ h => good_of_word (List.mem_filter.mp h).2
theorem oTB_t {w : Cond} (h : w ∈ tables_1) (g : goodWord w = true) : w ∈ oTB := oTB_in (List.mem_append_right _ h) g
theorem oTB_s {q : MethodName × Nat} (h : q ∈ lw_privs) : Cond.selects q.1.cls q.1 q.1 ∈ oTB := oTB_in (List.mem_append_left _ (List.mem_map.mpr ⟨q, h, rfl⟩)) rfl
theorem oT1 {w : Cond} (i : Nat) (h : tables_1_1[i]? = some w) (g : goodWord w = true) : w ∈ oTB := oTB_t (List.mem_append_left _ (List.mem_of_getElem? h)) g
theorem oT2 {w : Cond} (i : Nat) (h : tables_1_2[i]? = some w) (g : goodWord w = true) : w ∈ oTB := oTB_t (List.mem_append_right _ (List.mem_append_left _ (List.mem_of_getElem? h))) g
theorem oT3 {w : Cond} (i : Nat) (h : tables_1_3[i]? = some w) (g : goodWord w = true) : w ∈ oTB := oTB_t (List.mem_append_right _ (List.mem_append_right _ (List.mem_append_left _ (List.mem_of_getElem? h)))) g
theorem oT4 {w : Cond} (i : Nat) (h : tables_1_4[i]? = some w) (g : goodWord w = true) : w ∈ oTB := oTB_t (List.mem_append_right _ (List.mem_append_right _ (List.mem_append_right _ (List.mem_append_left _ (List.mem_of_getElem? h))))) g
theorem oT5 {w : Cond} (i : Nat) (h : tables_1_5[i]? = some w) (g : goodWord w = true) : w ∈ oTB := oTB_t (List.mem_append_right _ (List.mem_append_right _ (List.mem_append_right _ (List.mem_append_right _ (List.mem_append_left _ (List.mem_of_getElem? h)))))) g
theorem oT6 {w : Cond} (i : Nat) (h : tables_1_6[i]? = some w) (g : goodWord w = true) : w ∈ oTB := oTB_t (List.mem_append_right _ (List.mem_append_right _ (List.mem_append_right _ (List.mem_append_right _ (List.mem_append_right _ (List.mem_of_getElem? h)))))) g
theorem wd_1_0 : Jvm.Cond.initialized "OrreryTrainsLaw" ∈ oTB := oT1 0 rfl rfl
theorem wd_1_1 : Jvm.Cond.initialized "OrreryTrains" ∈ oTB := oT1 1 rfl rfl
theorem wd_1_2 : Jvm.Cond.initialized "OrreryTrains$Orrery" ∈ oTB := oT1 2 rfl rfl
theorem wd_1_3 : Jvm.Cond.initialized "OrreryTrains$Pairs" ∈ oTB := oT1 3 rfl rfl
theorem wd_1_4 : Jvm.Cond.initialized "OrreryTrains$Trains" ∈ oTB := oT1 4 rfl rfl
theorem wd_1_5 : Jvm.Cond.initialized "OrreryTrains$Plan" ∈ oTB := oT1 5 rfl rfl
theorem wd_1_6 : Jvm.Cond.initialized "OrreryTrains$Tape" ∈ oTB := oT1 6 rfl rfl
theorem wd_1_7 : Jvm.Cond.initialized "OrreryTrains$Sheet" ∈ oTB := oT1 7 rfl rfl
theorem wd_1_8 : Jvm.Cond.initialized "OrreryTrains$Rows" ∈ oTB := oT1 8 rfl rfl
theorem wd_1_9 : Jvm.Cond.initialized "OrreryTrains$Finder" ∈ oTB := oT1 9 rfl rfl
theorem wd_1_10 : Jvm.Cond.initialized "OrreryTrainsModel" ∈ oTB := oT1 10 rfl rfl
theorem wd_1_11 : Jvm.Cond.initialized "java/lang/Math" ∈ oTB := oT1 11 rfl rfl
theorem wd_1_12 : Jvm.Cond.initialized "java/lang/String" ∈ oTB := oT1 12 rfl rfl
theorem wd_1_13 : Jvm.Cond.initialized "java/lang/StringLatin1" ∈ oTB := oT1 13 rfl rfl
theorem wd_1_14 : Jvm.Cond.initialized "jdk/internal/util/Preconditions" ∈ oTB := oT1 14 rfl rfl
theorem wd_1_15 : Jvm.Cond.initialized "java/lang/StringUTF16" ∈ oTB := oT1 15 rfl rfl
theorem wd_1_16 : Jvm.Cond.classLink "OrreryTrainsLaw" (7 : Nat) "OrreryTrains" ∈ oTB := oT1 16 rfl rfl
theorem wd_1_17 : Jvm.Cond.instantiable "OrreryTrains" (8 : Nat) ∈ oTB := oT1 17 rfl rfl
theorem wd_1_18 : Jvm.Cond.methodLink "OrreryTrainsLaw" (9 : Nat) ({ cls := "OrreryTrains", name := "<init>", desc := "()V" } : Jvm.MethodName) ∈ oTB := oT1 18 rfl rfl
theorem wd_1_19 : Jvm.Cond.instanceMethod ({ cls := "OrreryTrains", name := "<init>", desc := "()V" } : Jvm.MethodName) ∈ oTB := oT1 19 rfl rfl
theorem wd_1_20 : Jvm.Cond.code ({ cls := "OrreryTrains", name := "<init>", desc := "()V" } : Jvm.MethodName) prog_1_method_1_code (1 : Nat) (Option.none : Option Jvm.ClassFile.FieldType) ∈ oTB := oT1 20 rfl rfl
theorem wd_1_21 : Jvm.Cond.methodLink "OrreryTrains" (3 : Nat) ({ cls := "java/lang/Object", name := "<init>", desc := "()V" } : Jvm.MethodName) ∈ oTB := oT1 21 rfl rfl
theorem wd_1_22 : Jvm.Cond.instanceMethod ({ cls := "java/lang/Object", name := "<init>", desc := "()V" } : Jvm.MethodName) ∈ oTB := oT1 22 rfl rfl
theorem wd_1_23 : Jvm.Cond.code ({ cls := "java/lang/Object", name := "<init>", desc := "()V" } : Jvm.MethodName) object_method_1_code (1 : Nat) (Option.none : Option Jvm.ClassFile.FieldType) ∈ oTB := oT1 23 rfl rfl
theorem wd_1_24 : Jvm.Cond.classLink "OrreryTrains" (9 : Nat) "OrreryTrains$Orrery" ∈ oTB := oT1 24 rfl rfl
theorem wd_1_25 : Jvm.Cond.instantiable "OrreryTrains$Orrery" (10 : Nat) ∈ oTB := oT1 25 rfl rfl
theorem wd_1_27 : Jvm.Cond.instanceMethod ({ cls := "OrreryTrains$Orrery", name := "<init>", desc := "()V" } : Jvm.MethodName) ∈ oTB := oT1 27 rfl rfl
theorem wd_1_28 : Jvm.Cond.code ({ cls := "OrreryTrains$Orrery", name := "<init>", desc := "()V" } : Jvm.MethodName) prog_3_method_1_code (1 : Nat) (Option.none : Option Jvm.ClassFile.FieldType) ∈ oTB := oT1 28 rfl rfl
theorem wd_1_29 : Jvm.Cond.methodLink "OrreryTrains$Orrery" (3 : Nat) ({ cls := "java/lang/Object", name := "<init>", desc := "()V" } : Jvm.MethodName) ∈ oTB := oT1 29 rfl rfl
theorem wd_1_30 : Jvm.Cond.classLink "OrreryTrains$Orrery" (28 : Nat) "OrreryTrains$Pairs" ∈ oTB := oT1 30 rfl rfl
theorem wd_1_31 : Jvm.Cond.instantiable "OrreryTrains$Pairs" (5 : Nat) ∈ oTB := oT1 31 rfl rfl
theorem wd_1_33 : Jvm.Cond.instanceMethod ({ cls := "OrreryTrains$Pairs", name := "<init>", desc := "()V" } : Jvm.MethodName) ∈ oTB := oT1 33 rfl rfl
theorem wd_1_34 : Jvm.Cond.code ({ cls := "OrreryTrains$Pairs", name := "<init>", desc := "()V" } : Jvm.MethodName) prog_4_method_1_code (1 : Nat) (Option.none : Option Jvm.ClassFile.FieldType) ∈ oTB := oT1 34 rfl rfl
theorem wd_1_35 : Jvm.Cond.methodLink "OrreryTrains$Pairs" (3 : Nat) ({ cls := "java/lang/Object", name := "<init>", desc := "()V" } : Jvm.MethodName) ∈ oTB := oT1 35 rfl rfl
theorem wd_1_36 : Jvm.Cond.fieldLink "OrreryTrains$Pairs" (9 : Nat) "OrreryTrains$Pairs" "size" "I" ∈ oTB := oT1 36 rfl rfl
theorem wd_1_37 : Jvm.Cond.fieldLink "OrreryTrains" (139 : Nat) "OrreryTrains$Pairs" "size" "I" ∈ oTB := oT1 37 rfl rfl
theorem wd_1_38 : Jvm.Cond.fieldLink "OrreryTrains$Pairs" (15 : Nat) "OrreryTrains$Pairs" "kinds" "[I" ∈ oTB := oT1 38 rfl rfl
theorem wd_1_39 : Jvm.Cond.fieldLink "OrreryTrains" (151 : Nat) "OrreryTrains$Pairs" "kinds" "[I" ∈ oTB := oT1 39 rfl rfl
theorem wd_1_40 : Jvm.Cond.fieldLink "OrreryTrains$Pairs" (19 : Nat) "OrreryTrains$Pairs" "figures" "[I" ∈ oTB := oT1 40 rfl rfl
theorem wd_1_41 : Jvm.Cond.fieldLink "OrreryTrains" (154 : Nat) "OrreryTrains$Pairs" "figures" "[I" ∈ oTB := oT1 41 rfl rfl
theorem wd_1_42 : Jvm.Cond.fieldLink "OrreryTrains$Pairs" (22 : Nat) "OrreryTrains$Pairs" "drivers" "[I" ∈ oTB := oT1 42 rfl rfl
theorem wd_1_43 : Jvm.Cond.fieldLink "OrreryTrains$Orrery" (86 : Nat) "OrreryTrains$Pairs" "drivers" "[I" ∈ oTB := oT1 43 rfl rfl
theorem wd_1_44 : Jvm.Cond.fieldLink "OrreryTrains" (157 : Nat) "OrreryTrains$Pairs" "drivers" "[I" ∈ oTB := oT1 44 rfl rfl
theorem wd_1_45 : Jvm.Cond.fieldLink "OrreryTrains$Pairs" (25 : Nat) "OrreryTrains$Pairs" "drivens" "[I" ∈ oTB := oT1 45 rfl rfl
theorem wd_1_46 : Jvm.Cond.fieldLink "OrreryTrains$Orrery" (97 : Nat) "OrreryTrains$Pairs" "drivens" "[I" ∈ oTB := oT1 46 rfl rfl
theorem wd_1_47 : Jvm.Cond.fieldLink "OrreryTrains" (160 : Nat) "OrreryTrains$Pairs" "drivens" "[I" ∈ oTB := oT1 47 rfl rfl
theorem wd_1_60 : Jvm.Cond.classLink "OrreryTrains$Orrery" (35 : Nat) "OrreryTrains$Trains" ∈ oTB := oT1 60 rfl rfl
theorem wd_1_61 : Jvm.Cond.instantiable "OrreryTrains$Trains" (2 : Nat) ∈ oTB := oT1 61 rfl rfl
theorem wd_1_63 : Jvm.Cond.instanceMethod ({ cls := "OrreryTrains$Trains", name := "<init>", desc := "()V" } : Jvm.MethodName) ∈ oTB := oT1 63 rfl rfl
theorem wd_1_64 : Jvm.Cond.code ({ cls := "OrreryTrains$Trains", name := "<init>", desc := "()V" } : Jvm.MethodName) prog_9_method_1_code (1 : Nat) (Option.none : Option Jvm.ClassFile.FieldType) ∈ oTB := oT1 64 rfl rfl
theorem wd_1_65 : Jvm.Cond.methodLink "OrreryTrains$Trains" (3 : Nat) ({ cls := "java/lang/Object", name := "<init>", desc := "()V" } : Jvm.MethodName) ∈ oTB := oT1 65 rfl rfl
theorem wd_1_66 : Jvm.Cond.fieldLink "OrreryTrains$Trains" (9 : Nat) "OrreryTrains$Trains" "lengths" "[I" ∈ oTB := oT1 66 rfl rfl
theorem wd_1_67 : Jvm.Cond.fieldLink "OrreryTrains$Trains" (15 : Nat) "OrreryTrains$Trains" "places" "[I" ∈ oTB := oT1 67 rfl rfl
theorem wd_1_73 : Jvm.Cond.classLink "OrreryTrains$Orrery" (49 : Nat) "OrreryTrains$Plan" ∈ oTB := oT1 73 rfl rfl
theorem wd_1_74 : Jvm.Cond.instantiable "OrreryTrains$Plan" (3 : Nat) ∈ oTB := oT1 74 rfl rfl
theorem wd_1_76 : Jvm.Cond.instanceMethod ({ cls := "OrreryTrains$Plan", name := "<init>", desc := "()V" } : Jvm.MethodName) ∈ oTB := oT1 76 rfl rfl
theorem wd_1_77 : Jvm.Cond.code ({ cls := "OrreryTrains$Plan", name := "<init>", desc := "()V" } : Jvm.MethodName) prog_5_method_1_code (1 : Nat) (Option.none : Option Jvm.ClassFile.FieldType) ∈ oTB := oT1 77 rfl rfl
theorem wd_1_78 : Jvm.Cond.methodLink "OrreryTrains$Plan" (3 : Nat) ({ cls := "java/lang/Object", name := "<init>", desc := "()V" } : Jvm.MethodName) ∈ oTB := oT1 78 rfl rfl
theorem wd_1_79 : Jvm.Cond.fieldLink "OrreryTrains$Plan" (9 : Nat) "OrreryTrains$Plan" "size" "I" ∈ oTB := oT1 79 rfl rfl
theorem wd_1_80 : Jvm.Cond.fieldLink "OrreryTrains$Orrery" (137 : Nat) "OrreryTrains$Plan" "size" "I" ∈ oTB := oT1 80 rfl rfl
theorem wd_1_81 : Jvm.Cond.fieldLink "OrreryTrains" (293 : Nat) "OrreryTrains$Plan" "size" "I" ∈ oTB := oT1 81 rfl rfl
theorem wd_1_82 : Jvm.Cond.fieldLink "OrreryTrains$Plan" (15 : Nat) "OrreryTrains$Plan" "whats" "[I" ∈ oTB := oT1 82 rfl rfl
theorem wd_1_83 : Jvm.Cond.fieldLink "OrreryTrains$Orrery" (140 : Nat) "OrreryTrains$Plan" "whats" "[I" ∈ oTB := oT1 83 rfl rfl
theorem wd_1_84 : Jvm.Cond.fieldLink "OrreryTrains$Plan" (19 : Nat) "OrreryTrains$Plan" "values" "[I" ∈ oTB := oT1 84 rfl rfl
theorem wd_1_85 : Jvm.Cond.fieldLink "OrreryTrains$Orrery" (143 : Nat) "OrreryTrains$Plan" "values" "[I" ∈ oTB := oT1 85 rfl rfl
theorem wd_1_93 : Jvm.Cond.fieldLink "OrreryTrains$Orrery" (9 : Nat) "OrreryTrains$Orrery" "bodies" "I" ∈ oTB := oT1 93 rfl rfl
theorem wd_1_94 : Jvm.Cond.fieldLink "OrreryTrains" (60 : Nat) "OrreryTrains$Orrery" "bodies" "I" ∈ oTB := oT1 94 rfl rfl
theorem wd_1_95 : Jvm.Cond.fieldLink "OrreryTrains$Orrery" (15 : Nat) "OrreryTrains$Orrery" "above" "[I" ∈ oTB := oT1 95 rfl rfl
theorem wd_1_96 : Jvm.Cond.fieldLink "OrreryTrains" (72 : Nat) "OrreryTrains$Orrery" "above" "[I" ∈ oTB := oT1 96 rfl rfl
theorem wd_1_97 : Jvm.Cond.fieldLink "OrreryTrains$Orrery" (19 : Nat) "OrreryTrains$Orrery" "below" "[I" ∈ oTB := oT1 97 rfl rfl
theorem wd_1_98 : Jvm.Cond.fieldLink "OrreryTrains" (80 : Nat) "OrreryTrains$Orrery" "below" "[I" ∈ oTB := oT1 98 rfl rfl
theorem wd_1_99 : Jvm.Cond.fieldLink "OrreryTrains$Orrery" (22 : Nat) "OrreryTrains$Orrery" "least" "I" ∈ oTB := oT1 99 rfl rfl
theorem wd_1_100 : Jvm.Cond.fieldLink "OrreryTrains" (105 : Nat) "OrreryTrains$Orrery" "least" "I" ∈ oTB := oT1 100 rfl rfl
theorem wd_1_101 : Jvm.Cond.fieldLink "OrreryTrains$Orrery" (25 : Nat) "OrreryTrains$Orrery" "most" "I" ∈ oTB := oT1 101 rfl rfl
theorem wd_1_102 : Jvm.Cond.fieldLink "OrreryTrains" (108 : Nat) "OrreryTrains$Orrery" "most" "I" ∈ oTB := oT1 102 rfl rfl
theorem wd_1_103 : Jvm.Cond.fieldLink "OrreryTrains$Orrery" (31 : Nat) "OrreryTrains$Orrery" "pairs" "LOrreryTrains$Pairs;" ∈ oTB := oT1 103 rfl rfl
theorem wd_1_104 : Jvm.Cond.fieldLink "OrreryTrains" (135 : Nat) "OrreryTrains$Orrery" "pairs" "LOrreryTrains$Pairs;" ∈ oTB := oT1 104 rfl rfl
theorem wd_1_105 : Jvm.Cond.fieldLink "OrreryTrains$Orrery" (38 : Nat) "OrreryTrains$Orrery" "trains" "LOrreryTrains$Trains;" ∈ oTB := oT1 105 rfl rfl
theorem wd_1_106 : Jvm.Cond.fieldLink "OrreryTrains" (170 : Nat) "OrreryTrains$Orrery" "trains" "LOrreryTrains$Trains;" ∈ oTB := oT1 106 rfl rfl
theorem wd_1_107 : Jvm.Cond.fieldLink "OrreryTrains$Orrery" (42 : Nat) "OrreryTrains$Orrery" "turn" "I" ∈ oTB := oT1 107 rfl rfl
theorem wd_1_108 : Jvm.Cond.fieldLink "OrreryTrains" (260 : Nat) "OrreryTrains$Orrery" "turn" "I" ∈ oTB := oT1 108 rfl rfl
theorem wd_1_109 : Jvm.Cond.fieldLink "OrreryTrains$Orrery" (45 : Nat) "OrreryTrains$Orrery" "back" "Z" ∈ oTB := oT1 109 rfl rfl
theorem wd_1_110 : Jvm.Cond.fieldLink "OrreryTrains" (267 : Nat) "OrreryTrains$Orrery" "back" "Z" ∈ oTB := oT1 110 rfl rfl
theorem wd_1_111 : Jvm.Cond.fieldLink "OrreryTrains$Orrery" (52 : Nat) "OrreryTrains$Orrery" "plan" "LOrreryTrains$Plan;" ∈ oTB := oT1 111 rfl rfl
theorem wd_1_112 : Jvm.Cond.fieldLink "OrreryTrains" (289 : Nat) "OrreryTrains$Orrery" "plan" "LOrreryTrains$Plan;" ∈ oTB := oT1 112 rfl rfl
theorem wd_1_134 : Jvm.Cond.classLink "OrreryTrains" (28 : Nat) "OrreryTrains$Tape" ∈ oTB := oT1 134 rfl rfl
theorem wd_1_135 : Jvm.Cond.instantiable "OrreryTrains$Tape" (2 : Nat) ∈ oTB := oT1 135 rfl rfl
theorem wd_1_137 : Jvm.Cond.instanceMethod ({ cls := "OrreryTrains$Tape", name := "<init>", desc := "()V" } : Jvm.MethodName) ∈ oTB := oT1 137 rfl rfl
theorem wd_1_138 : Jvm.Cond.code ({ cls := "OrreryTrains$Tape", name := "<init>", desc := "()V" } : Jvm.MethodName) prog_8_method_1_code (1 : Nat) (Option.none : Option Jvm.ClassFile.FieldType) ∈ oTB := oT1 138 rfl rfl
theorem wd_1_139 : Jvm.Cond.methodLink "OrreryTrains$Tape" (3 : Nat) ({ cls := "java/lang/Object", name := "<init>", desc := "()V" } : Jvm.MethodName) ∈ oTB := oT1 139 rfl rfl
theorem wd_1_140 : Jvm.Cond.fieldLink "OrreryTrains$Tape" (9 : Nat) "OrreryTrains$Tape" "length" "I" ∈ oTB := oT1 140 rfl rfl
theorem wd_1_141 : Jvm.Cond.fieldLink "OrreryTrains" (118 : Nat) "OrreryTrains$Tape" "length" "I" ∈ oTB := oT1 141 rfl rfl
theorem wd_1_142 : Jvm.Cond.fieldLink "OrreryTrains$Tape" (15 : Nat) "OrreryTrains$Tape" "bytes" "[I" ∈ oTB := oT1 142 rfl rfl
theorem wd_1_143 : Jvm.Cond.fieldLink "OrreryTrains" (121 : Nat) "OrreryTrains$Tape" "bytes" "[I" ∈ oTB := oT1 143 rfl rfl
theorem wd_1_149 : Jvm.Cond.classLink "OrreryTrains" (35 : Nat) "OrreryTrains$Sheet" ∈ oTB := oT1 149 rfl rfl
theorem wd_1_150 : Jvm.Cond.instantiable "OrreryTrains$Sheet" (2 : Nat) ∈ oTB := oT1 150 rfl rfl
theorem wd_1_152 : Jvm.Cond.instanceMethod ({ cls := "OrreryTrains$Sheet", name := "<init>", desc := "()V" } : Jvm.MethodName) ∈ oTB := oT1 152 rfl rfl
theorem wd_1_153 : Jvm.Cond.code ({ cls := "OrreryTrains$Sheet", name := "<init>", desc := "()V" } : Jvm.MethodName) prog_7_method_1_code (1 : Nat) (Option.none : Option Jvm.ClassFile.FieldType) ∈ oTB := oT1 153 rfl rfl
theorem wd_1_154 : Jvm.Cond.methodLink "OrreryTrains$Sheet" (3 : Nat) ({ cls := "java/lang/Object", name := "<init>", desc := "()V" } : Jvm.MethodName) ∈ oTB := oT1 154 rfl rfl
theorem wd_1_155 : Jvm.Cond.fieldLink "OrreryTrains$Sheet" (9 : Nat) "OrreryTrains$Sheet" "length" "I" ∈ oTB := oT1 155 rfl rfl
theorem wd_1_156 : Jvm.Cond.fieldLink "OrreryTrains" (305 : Nat) "OrreryTrains$Sheet" "length" "I" ∈ oTB := oT1 156 rfl rfl
theorem wd_1_157 : Jvm.Cond.fieldLink "OrreryTrains$Sheet" (15 : Nat) "OrreryTrains$Sheet" "bytes" "[I" ∈ oTB := oT1 157 rfl rfl
theorem wd_1_158 : Jvm.Cond.fieldLink "OrreryTrains" (314 : Nat) "OrreryTrains$Sheet" "bytes" "[I" ∈ oTB := oT1 158 rfl rfl
theorem wd_1_164 : Jvm.Cond.classLink "OrreryTrains" (42 : Nat) "OrreryTrains$Rows" ∈ oTB := oT1 164 rfl rfl
theorem wd_1_165 : Jvm.Cond.instantiable "OrreryTrains$Rows" (2 : Nat) ∈ oTB := oT1 165 rfl rfl
theorem wd_1_167 : Jvm.Cond.instanceMethod ({ cls := "OrreryTrains$Rows", name := "<init>", desc := "()V" } : Jvm.MethodName) ∈ oTB := oT1 167 rfl rfl
theorem wd_1_168 : Jvm.Cond.code ({ cls := "OrreryTrains$Rows", name := "<init>", desc := "()V" } : Jvm.MethodName) prog_6_method_1_code (1 : Nat) (Option.none : Option Jvm.ClassFile.FieldType) ∈ oTB := oT1 168 rfl rfl
theorem wd_1_169 : Jvm.Cond.methodLink "OrreryTrains$Rows" (3 : Nat) ({ cls := "java/lang/Object", name := "<init>", desc := "()V" } : Jvm.MethodName) ∈ oTB := oT1 169 rfl rfl
theorem wd_1_170 : Jvm.Cond.fieldLink "OrreryTrains$Rows" (9 : Nat) "OrreryTrains$Rows" "sizes" "[I" ∈ oTB := oT1 170 rfl rfl
theorem wd_1_171 : Jvm.Cond.fieldLink "OrreryTrains$Rows" (15 : Nat) "OrreryTrains$Rows" "cells" "[J" ∈ oTB := oT1 171 rfl rfl
theorem wd_1_178 : Jvm.Cond.classLink "OrreryTrains" (49 : Nat) "OrreryTrains$Finder" ∈ oTB := oT1 178 rfl rfl
theorem wd_1_179 : Jvm.Cond.instantiable "OrreryTrains$Finder" (10 : Nat) ∈ oTB := oT1 179 rfl rfl
theorem wd_1_181 : Jvm.Cond.instanceMethod ({ cls := "OrreryTrains$Finder", name := "<init>", desc := "()V" } : Jvm.MethodName) ∈ oTB := oT1 181 rfl rfl
theorem wd_1_182 : Jvm.Cond.code ({ cls := "OrreryTrains$Finder", name := "<init>", desc := "()V" } : Jvm.MethodName) prog_2_method_1_code (1 : Nat) (Option.none : Option Jvm.ClassFile.FieldType) ∈ oTB := oT1 182 rfl rfl
theorem wd_1_183 : Jvm.Cond.methodLink "OrreryTrains$Finder" (1 : Nat) ({ cls := "java/lang/Object", name := "<init>", desc := "()V" } : Jvm.MethodName) ∈ oTB := oT1 183 rfl rfl
theorem wd_1_184 : Jvm.Cond.fieldLink "OrreryTrains$Finder" (7 : Nat) "OrreryTrains$Finder" "above" "J" ∈ oTB := oT1 184 rfl rfl
theorem wd_1_185 : Jvm.Cond.fieldLink "OrreryTrains$Finder" (13 : Nat) "OrreryTrains$Finder" "below" "J" ∈ oTB := oT1 185 rfl rfl
theorem wd_1_186 : Jvm.Cond.fieldLink "OrreryTrains$Finder" (16 : Nat) "OrreryTrains$Finder" "least" "I" ∈ oTB := oT1 186 rfl rfl
theorem wd_1_187 : Jvm.Cond.fieldLink "OrreryTrains$Finder" (20 : Nat) "OrreryTrains$Finder" "most" "I" ∈ oTB := oT1 187 rfl rfl
theorem wd_1_188 : Jvm.Cond.fieldLink "OrreryTrains$Finder" (23 : Nat) "OrreryTrains$Finder" "lesserDriver" "I" ∈ oTB := oT1 188 rfl rfl
theorem wd_1_189 : Jvm.Cond.fieldLink "OrreryTrains$Finder" (26 : Nat) "OrreryTrains$Finder" "greaterDriver" "I" ∈ oTB := oT1 189 rfl rfl
theorem wd_1_190 : Jvm.Cond.fieldLink "OrreryTrains$Finder" (29 : Nat) "OrreryTrains$Finder" "lesserDriven" "I" ∈ oTB := oT1 190 rfl rfl
theorem wd_1_191 : Jvm.Cond.fieldLink "OrreryTrains$Finder" (32 : Nat) "OrreryTrains$Finder" "greaterDriven" "I" ∈ oTB := oT1 191 rfl rfl
theorem wd_1_192 : Jvm.Cond.fieldLink "OrreryTrains$Finder" (35 : Nat) "OrreryTrains$Finder" "off" "J" ∈ oTB := oT1 192 rfl rfl
theorem wd_1_193 : Jvm.Cond.fieldLink "OrreryTrains$Finder" (38 : Nat) "OrreryTrains$Finder" "drivens" "J" ∈ oTB := oT1 193 rfl rfl
theorem wd_1_215 : Jvm.Cond.fieldLink "OrreryTrains" (12 : Nat) "OrreryTrains" "now" "LOrreryTrains$Orrery;" ∈ oTB := oT1 215 rfl rfl
theorem wd_1_216 : Jvm.Cond.fieldLink "OrreryTrains" (18 : Nat) "OrreryTrains" "kept" "LOrreryTrains$Orrery;" ∈ oTB := oT1 216 rfl rfl
theorem wd_1_217 : Jvm.Cond.fieldLink "OrreryTrains" (21 : Nat) "OrreryTrains" "thought" "LOrreryTrains$Orrery;" ∈ oTB := oT1 217 rfl rfl
theorem wd_1_218 : Jvm.Cond.fieldLink "OrreryTrains" (24 : Nat) "OrreryTrains" "imaged" "Z" ∈ oTB := oT1 218 rfl rfl
theorem wd_1_219 : Jvm.Cond.fieldLink "OrreryTrains" (31 : Nat) "OrreryTrains" "tape" "LOrreryTrains$Tape;" ∈ oTB := oT1 219 rfl rfl
theorem wd_1_220 : Jvm.Cond.fieldLink "OrreryTrains" (38 : Nat) "OrreryTrains" "sheet" "LOrreryTrains$Sheet;" ∈ oTB := oT1 220 rfl rfl
theorem wd_1_221 : Jvm.Cond.fieldLink "OrreryTrains" (45 : Nat) "OrreryTrains" "rows" "LOrreryTrains$Rows;" ∈ oTB := oT1 221 rfl rfl
theorem wd_1_222 : Jvm.Cond.fieldLink "OrreryTrains" (52 : Nat) "OrreryTrains" "finder" "LOrreryTrains$Finder;" ∈ oTB := oT1 222 rfl rfl
theorem wd_2_0 : Jvm.Cond.methodLink "OrreryTrainsLaw" (13 : Nat) ({ cls := "OrreryTrains", name := "body", desc := "(II)I" } : Jvm.MethodName) ∈ oTB := oT2 0 rfl rfl
theorem wd_2_1 : Jvm.Cond.instanceMethod ({ cls := "OrreryTrains", name := "body", desc := "(II)I" } : Jvm.MethodName) ∈ oTB := oT2 1 rfl rfl
theorem wd_2_2 : Jvm.Cond.selects "OrreryTrains" ({ cls := "OrreryTrains", name := "body", desc := "(II)I" } : Jvm.MethodName) ({ cls := "OrreryTrains", name := "body", desc := "(II)I" } : Jvm.MethodName) ∈ oTB := oT2 2 rfl rfl
theorem wd_2_3 : Jvm.Cond.code ({ cls := "OrreryTrains", name := "body", desc := "(II)I" } : Jvm.MethodName) prog_1_method_2_code (3 : Nat) (Option.some Jvm.ClassFile.FieldType.int) ∈ oTB := oT2 3 rfl rfl
theorem wd_2_4 : Jvm.Cond.methodLink "OrreryTrains" (56 : Nat) ({ cls := "OrreryTrains", name := "isRatio", desc := "(II)Z" } : Jvm.MethodName) ∈ oTB := oT2 4 rfl rfl
theorem wd_2_5 : Jvm.Cond.static ({ cls := "OrreryTrains", name := "isRatio", desc := "(II)Z" } : Jvm.MethodName) ∈ oTB := oT2 5 rfl rfl
theorem wd_2_6 : Jvm.Cond.code ({ cls := "OrreryTrains", name := "isRatio", desc := "(II)Z" } : Jvm.MethodName) prog_1_method_51_code (2 : Nat) (Option.some Jvm.ClassFile.FieldType.boolean) ∈ oTB := oT2 6 rfl rfl
theorem wd_2_7 : Jvm.Cond.methodLink "OrreryTrains" (64 : Nat) ({ cls := "OrreryTrains$Orrery", name := "wish", desc := "(III)V" } : Jvm.MethodName) ∈ oTB := oT2 7 rfl rfl
theorem wd_2_8 : Jvm.Cond.instanceMethod ({ cls := "OrreryTrains$Orrery", name := "wish", desc := "(III)V" } : Jvm.MethodName) ∈ oTB := oT2 8 rfl rfl
theorem wd_2_9 : Jvm.Cond.selects "OrreryTrains$Orrery" ({ cls := "OrreryTrains$Orrery", name := "wish", desc := "(III)V" } : Jvm.MethodName) ({ cls := "OrreryTrains$Orrery", name := "wish", desc := "(III)V" } : Jvm.MethodName) ∈ oTB := oT2 9 rfl rfl
theorem wd_2_10 : Jvm.Cond.code ({ cls := "OrreryTrains$Orrery", name := "wish", desc := "(III)V" } : Jvm.MethodName) prog_3_method_5_code (4 : Nat) (Option.none : Option Jvm.ClassFile.FieldType) ∈ oTB := oT2 10 rfl rfl
theorem wd_2_12 : Jvm.Cond.static ({ cls := "OrreryTrains", name := "lowest", desc := "(JJI)J" } : Jvm.MethodName) ∈ oTB := oT2 12 rfl rfl
theorem wd_2_13 : Jvm.Cond.code ({ cls := "OrreryTrains", name := "lowest", desc := "(JJI)J" } : Jvm.MethodName) prog_1_method_65_code (7 : Nat) (Option.some Jvm.ClassFile.FieldType.long) ∈ oTB := oT2 13 rfl rfl
theorem wd_2_14 : Jvm.Cond.methodLink "OrreryTrains" (96 : Nat) ({ cls := "java/lang/Math", name := "abs", desc := "(J)J" } : Jvm.MethodName) ∈ oTB := oT2 14 rfl rfl
theorem wd_2_15 : Jvm.Cond.static ({ cls := "java/lang/Math", name := "abs", desc := "(J)J" } : Jvm.MethodName) ∈ oTB := oT2 15 rfl rfl
theorem wd_2_16 : Jvm.Cond.code ({ cls := "java/lang/Math", name := "abs", desc := "(J)J" } : Jvm.MethodName) prog_12_method_61_code (2 : Nat) (Option.some Jvm.ClassFile.FieldType.long) ∈ oTB := oT2 16 rfl rfl
theorem wd_2_17 : Jvm.Cond.methodLink "OrreryTrains" (273 : Nat) ({ cls := "OrreryTrains", name := "greatestCommon", desc := "(JJ)J" } : Jvm.MethodName) ∈ oTB := oT2 17 rfl rfl
theorem wd_2_18 : Jvm.Cond.static ({ cls := "OrreryTrains", name := "greatestCommon", desc := "(JJ)J" } : Jvm.MethodName) ∈ oTB := oT2 18 rfl rfl
theorem wd_2_19 : Jvm.Cond.code ({ cls := "OrreryTrains", name := "greatestCommon", desc := "(JJ)J" } : Jvm.MethodName) prog_1_method_66_code (11 : Nat) (Option.some Jvm.ClassFile.FieldType.long) ∈ oTB := oT2 19 rfl rfl
theorem wd_2_20 : Jvm.Cond.methodLink "OrreryTrains" (92 : Nat) ({ cls := "OrreryTrains", name := "quotient", desc := "(JJ)J" } : Jvm.MethodName) ∈ oTB := oT2 20 rfl rfl
theorem wd_2_21 : Jvm.Cond.static ({ cls := "OrreryTrains", name := "quotient", desc := "(JJ)J" } : Jvm.MethodName) ∈ oTB := oT2 21 rfl rfl
theorem wd_2_22 : Jvm.Cond.code ({ cls := "OrreryTrains", name := "quotient", desc := "(JJ)J" } : Jvm.MethodName) prog_1_method_64_code (4 : Nat) (Option.some Jvm.ClassFile.FieldType.long) ∈ oTB := oT2 22 rfl rfl
theorem wd_2_24 : Jvm.Cond.static ({ cls := "OrreryTrains", name := "set", desc := "([III)V" } : Jvm.MethodName) ∈ oTB := oT2 24 rfl rfl
theorem wd_2_25 : Jvm.Cond.code ({ cls := "OrreryTrains", name := "set", desc := "([III)V" } : Jvm.MethodName) prog_1_method_62_code (3 : Nat) (Option.none : Option Jvm.ClassFile.FieldType) ∈ oTB := oT2 25 rfl rfl
theorem wd_2_26 : Jvm.Cond.methodLink "OrreryTrainsLaw" (18 : Nat) ({ cls := "OrreryTrains", name := "ratio", desc := "(III)I" } : Jvm.MethodName) ∈ oTB := oT2 26 rfl rfl
theorem wd_2_27 : Jvm.Cond.instanceMethod ({ cls := "OrreryTrains", name := "ratio", desc := "(III)I" } : Jvm.MethodName) ∈ oTB := oT2 27 rfl rfl
theorem wd_2_28 : Jvm.Cond.selects "OrreryTrains" ({ cls := "OrreryTrains", name := "ratio", desc := "(III)I" } : Jvm.MethodName) ({ cls := "OrreryTrains", name := "ratio", desc := "(III)I" } : Jvm.MethodName) ∈ oTB := oT2 28 rfl rfl
theorem wd_2_29 : Jvm.Cond.code ({ cls := "OrreryTrains", name := "ratio", desc := "(III)I" } : Jvm.MethodName) prog_1_method_3_code (5 : Nat) (Option.some Jvm.ClassFile.FieldType.int) ∈ oTB := oT2 29 rfl rfl
theorem wd_2_30 : Jvm.Cond.methodLink "OrreryTrains" (68 : Nat) ({ cls := "OrreryTrains$Orrery", name := "hasBody", desc := "(I)Z" } : Jvm.MethodName) ∈ oTB := oT2 30 rfl rfl
theorem wd_2_31 : Jvm.Cond.instanceMethod ({ cls := "OrreryTrains$Orrery", name := "hasBody", desc := "(I)Z" } : Jvm.MethodName) ∈ oTB := oT2 31 rfl rfl
theorem wd_2_32 : Jvm.Cond.selects "OrreryTrains$Orrery" ({ cls := "OrreryTrains$Orrery", name := "hasBody", desc := "(I)Z" } : Jvm.MethodName) ({ cls := "OrreryTrains$Orrery", name := "hasBody", desc := "(I)Z" } : Jvm.MethodName) ∈ oTB := oT2 32 rfl rfl
theorem wd_2_33 : Jvm.Cond.code ({ cls := "OrreryTrains$Orrery", name := "hasBody", desc := "(I)Z" } : Jvm.MethodName) prog_3_method_3_code (2 : Nat) (Option.some Jvm.ClassFile.FieldType.boolean) ∈ oTB := oT2 33 rfl rfl
theorem wd_2_34 : Jvm.Cond.methodLink "OrreryTrains" (76 : Nat) ({ cls := "OrreryTrains", name := "at", desc := "([II)I" } : Jvm.MethodName) ∈ oTB := oT2 34 rfl rfl
theorem wd_2_35 : Jvm.Cond.static ({ cls := "OrreryTrains", name := "at", desc := "([II)I" } : Jvm.MethodName) ∈ oTB := oT2 35 rfl rfl
theorem wd_2_36 : Jvm.Cond.code ({ cls := "OrreryTrains", name := "at", desc := "([II)I" } : Jvm.MethodName) prog_1_method_61_code (2 : Nat) (Option.some Jvm.ClassFile.FieldType.int) ∈ oTB := oT2 36 rfl rfl
theorem wd_2_37 : Jvm.Cond.methodLink "OrreryTrainsLaw" (23 : Nat) ({ cls := "OrreryTrains", name := "term", desc := "(II)I" } : Jvm.MethodName) ∈ oTB := oT2 37 rfl rfl
theorem wd_2_38 : Jvm.Cond.instanceMethod ({ cls := "OrreryTrains", name := "term", desc := "(II)I" } : Jvm.MethodName) ∈ oTB := oT2 38 rfl rfl
theorem wd_2_39 : Jvm.Cond.selects "OrreryTrains" ({ cls := "OrreryTrains", name := "term", desc := "(II)I" } : Jvm.MethodName) ({ cls := "OrreryTrains", name := "term", desc := "(II)I" } : Jvm.MethodName) ∈ oTB := oT2 39 rfl rfl
theorem wd_2_40 : Jvm.Cond.code ({ cls := "OrreryTrains", name := "term", desc := "(II)I" } : Jvm.MethodName) prog_1_method_4_code (8 : Nat) (Option.some Jvm.ClassFile.FieldType.int) ∈ oTB := oT2 40 rfl rfl
theorem wd_2_41 : Jvm.Cond.methodLink "OrreryTrainsLaw" (27 : Nat) ({ cls := "OrreryTrains", name := "convergent", desc := "(III)J" } : Jvm.MethodName) ∈ oTB := oT2 41 rfl rfl
theorem wd_2_42 : Jvm.Cond.instanceMethod ({ cls := "OrreryTrains", name := "convergent", desc := "(III)J" } : Jvm.MethodName) ∈ oTB := oT2 42 rfl rfl
theorem wd_2_43 : Jvm.Cond.selects "OrreryTrains" ({ cls := "OrreryTrains", name := "convergent", desc := "(III)J" } : Jvm.MethodName) ({ cls := "OrreryTrains", name := "convergent", desc := "(III)J" } : Jvm.MethodName) ∈ oTB := oT2 43 rfl rfl
theorem wd_2_44 : Jvm.Cond.code ({ cls := "OrreryTrains", name := "convergent", desc := "(III)J" } : Jvm.MethodName) prog_1_method_5_code (22 : Nat) (Option.some Jvm.ClassFile.FieldType.long) ∈ oTB := oT2 44 rfl rfl
theorem wd_2_45 : Jvm.Cond.methodLink "OrreryTrains" (83 : Nat) ({ cls := "OrreryTrains", name := "isPart", desc := "(I)Z" } : Jvm.MethodName) ∈ oTB := oT2 45 rfl rfl
theorem wd_2_46 : Jvm.Cond.static ({ cls := "OrreryTrains", name := "isPart", desc := "(I)Z" } : Jvm.MethodName) ∈ oTB := oT2 46 rfl rfl
theorem wd_2_47 : Jvm.Cond.code ({ cls := "OrreryTrains", name := "isPart", desc := "(I)Z" } : Jvm.MethodName) prog_1_method_52_code (1 : Nat) (Option.some Jvm.ClassFile.FieldType.boolean) ∈ oTB := oT2 47 rfl rfl
theorem wd_2_48 : Jvm.Cond.constantLong "OrreryTrains" (86 : Nat) (-9223372036854775808 : Int64) ∈ oTB := oT2 48 rfl rfl
theorem wd_2_49 : Jvm.Cond.methodLink "OrreryTrains" (88 : Nat) ({ cls := "OrreryTrains", name := "lowest", desc := "(JJI)J" } : Jvm.MethodName) ∈ oTB := oT2 49 rfl rfl
theorem wd_2_50 : Jvm.Cond.methodLink "OrreryTrainsLaw" (32 : Nat) ({ cls := "OrreryTrains", name := "near", desc := "(III)J" } : Jvm.MethodName) ∈ oTB := oT2 50 rfl rfl
theorem wd_2_51 : Jvm.Cond.instanceMethod ({ cls := "OrreryTrains", name := "near", desc := "(III)J" } : Jvm.MethodName) ∈ oTB := oT2 51 rfl rfl
theorem wd_2_52 : Jvm.Cond.selects "OrreryTrains" ({ cls := "OrreryTrains", name := "near", desc := "(III)J" } : Jvm.MethodName) ({ cls := "OrreryTrains", name := "near", desc := "(III)J" } : Jvm.MethodName) ∈ oTB := oT2 52 rfl rfl
theorem wd_2_53 : Jvm.Cond.code ({ cls := "OrreryTrains", name := "near", desc := "(III)J" } : Jvm.MethodName) prog_1_method_6_code (18 : Nat) (Option.some Jvm.ClassFile.FieldType.long) ∈ oTB := oT2 53 rfl rfl
theorem wd_2_54 : Jvm.Cond.methodLink "OrreryTrainsLaw" (36 : Nat) ({ cls := "OrreryTrains", name := "bounds", desc := "(II)I" } : Jvm.MethodName) ∈ oTB := oT2 54 rfl rfl
theorem wd_2_55 : Jvm.Cond.instanceMethod ({ cls := "OrreryTrains", name := "bounds", desc := "(II)I" } : Jvm.MethodName) ∈ oTB := oT2 55 rfl rfl
theorem wd_2_56 : Jvm.Cond.selects "OrreryTrains" ({ cls := "OrreryTrains", name := "bounds", desc := "(II)I" } : Jvm.MethodName) ({ cls := "OrreryTrains", name := "bounds", desc := "(II)I" } : Jvm.MethodName) ∈ oTB := oT2 56 rfl rfl
theorem wd_2_57 : Jvm.Cond.code ({ cls := "OrreryTrains", name := "bounds", desc := "(II)I" } : Jvm.MethodName) prog_1_method_7_code (4 : Nat) (Option.some Jvm.ClassFile.FieldType.int) ∈ oTB := oT2 57 rfl rfl
theorem wd_2_58 : Jvm.Cond.methodLink "OrreryTrains" (102 : Nat) ({ cls := "OrreryTrains", name := "isTeeth", desc := "(I)Z" } : Jvm.MethodName) ∈ oTB := oT2 58 rfl rfl
theorem wd_2_59 : Jvm.Cond.static ({ cls := "OrreryTrains", name := "isTeeth", desc := "(I)Z" } : Jvm.MethodName) ∈ oTB := oT2 59 rfl rfl
theorem wd_2_60 : Jvm.Cond.code ({ cls := "OrreryTrains", name := "isTeeth", desc := "(I)Z" } : Jvm.MethodName) prog_1_method_53_code (1 : Nat) (Option.some Jvm.ClassFile.FieldType.boolean) ∈ oTB := oT2 60 rfl rfl
theorem wd_2_61 : Jvm.Cond.methodLink "OrreryTrainsLaw" (40 : Nat) ({ cls := "OrreryTrains", name := "split", desc := "(III)I" } : Jvm.MethodName) ∈ oTB := oT2 61 rfl rfl
theorem wd_2_62 : Jvm.Cond.instanceMethod ({ cls := "OrreryTrains", name := "split", desc := "(III)I" } : Jvm.MethodName) ∈ oTB := oT2 62 rfl rfl
theorem wd_2_63 : Jvm.Cond.selects "OrreryTrains" ({ cls := "OrreryTrains", name := "split", desc := "(III)I" } : Jvm.MethodName) ({ cls := "OrreryTrains", name := "split", desc := "(III)I" } : Jvm.MethodName) ∈ oTB := oT2 63 rfl rfl
theorem wd_2_64 : Jvm.Cond.code ({ cls := "OrreryTrains", name := "split", desc := "(III)I" } : Jvm.MethodName) prog_1_method_8_code (7 : Nat) (Option.some Jvm.ClassFile.FieldType.int) ∈ oTB := oT2 64 rfl rfl
theorem wd_2_65 : Jvm.Cond.methodLink "OrreryTrains" (111 : Nat) ({ cls := "OrreryTrains", name := "splitIntoOne", desc := "(II)I" } : Jvm.MethodName) ∈ oTB := oT2 65 rfl rfl
theorem wd_2_67 : Jvm.Cond.instanceMethod ({ cls := "OrreryTrains", name := "splitIntoOne", desc := "(II)I" } : Jvm.MethodName) ∈ oTB := oT2 67 rfl rfl
theorem wd_2_68 : Jvm.Cond.code ({ cls := "OrreryTrains", name := "splitIntoOne", desc := "(II)I" } : Jvm.MethodName) prog_1_method_46_code (3 : Nat) (Option.some Jvm.ClassFile.FieldType.int) ∈ oTB := oT2 68 rfl rfl
theorem wd_2_69 : Jvm.Cond.methodLink "OrreryTrains" (115 : Nat) ({ cls := "OrreryTrains", name := "splitIntoTwo", desc := "(II)I" } : Jvm.MethodName) ∈ oTB := oT2 69 rfl rfl
theorem wd_2_71 : Jvm.Cond.instanceMethod ({ cls := "OrreryTrains", name := "splitIntoTwo", desc := "(II)I" } : Jvm.MethodName) ∈ oTB := oT2 71 rfl rfl
theorem wd_2_72 : Jvm.Cond.code ({ cls := "OrreryTrains", name := "splitIntoTwo", desc := "(II)I" } : Jvm.MethodName) prog_1_method_47_code (4 : Nat) (Option.some Jvm.ClassFile.FieldType.int) ∈ oTB := oT2 72 rfl rfl
theorem wd_2_73 : Jvm.Cond.methodLink "OrreryTrainsLaw" (44 : Nat) ({ cls := "OrreryTrains", name := "prime", desc := "(II)I" } : Jvm.MethodName) ∈ oTB := oT2 73 rfl rfl
theorem wd_2_74 : Jvm.Cond.instanceMethod ({ cls := "OrreryTrains", name := "prime", desc := "(II)I" } : Jvm.MethodName) ∈ oTB := oT2 74 rfl rfl
theorem wd_2_75 : Jvm.Cond.selects "OrreryTrains" ({ cls := "OrreryTrains", name := "prime", desc := "(II)I" } : Jvm.MethodName) ({ cls := "OrreryTrains", name := "prime", desc := "(II)I" } : Jvm.MethodName) ∈ oTB := oT2 75 rfl rfl
theorem wd_2_76 : Jvm.Cond.code ({ cls := "OrreryTrains", name := "prime", desc := "(II)I" } : Jvm.MethodName) prog_1_method_9_code (7 : Nat) (Option.some Jvm.ClassFile.FieldType.int) ∈ oTB := oT2 76 rfl rfl
theorem wd_2_77 : Jvm.Cond.methodLink "OrreryTrainsLaw" (48 : Nat) ({ cls := "OrreryTrains", name := "feed", desc := "(I)I" } : Jvm.MethodName) ∈ oTB := oT2 77 rfl rfl
theorem wd_2_78 : Jvm.Cond.instanceMethod ({ cls := "OrreryTrains", name := "feed", desc := "(I)I" } : Jvm.MethodName) ∈ oTB := oT2 78 rfl rfl
theorem wd_2_79 : Jvm.Cond.selects "OrreryTrains" ({ cls := "OrreryTrains", name := "feed", desc := "(I)I" } : Jvm.MethodName) ({ cls := "OrreryTrains", name := "feed", desc := "(I)I" } : Jvm.MethodName) ∈ oTB := oT2 79 rfl rfl
theorem wd_2_80 : Jvm.Cond.code ({ cls := "OrreryTrains", name := "feed", desc := "(I)I" } : Jvm.MethodName) prog_1_method_10_code (2 : Nat) (Option.some Jvm.ClassFile.FieldType.int) ∈ oTB := oT2 80 rfl rfl
theorem wd_2_81 : Jvm.Cond.methodLink "OrreryTrains" (124 : Nat) ({ cls := "OrreryTrains", name := "set", desc := "([III)V" } : Jvm.MethodName) ∈ oTB := oT2 81 rfl rfl
theorem wd_2_82 : Jvm.Cond.methodLink "OrreryTrainsLaw" (53 : Nat) ({ cls := "OrreryTrains", name := "pairs", desc := "()I" } : Jvm.MethodName) ∈ oTB := oT2 82 rfl rfl
theorem wd_2_83 : Jvm.Cond.instanceMethod ({ cls := "OrreryTrains", name := "pairs", desc := "()I" } : Jvm.MethodName) ∈ oTB := oT2 83 rfl rfl
theorem wd_2_84 : Jvm.Cond.selects "OrreryTrains" ({ cls := "OrreryTrains", name := "pairs", desc := "()I" } : Jvm.MethodName) ({ cls := "OrreryTrains", name := "pairs", desc := "()I" } : Jvm.MethodName) ∈ oTB := oT2 84 rfl rfl
theorem wd_2_85 : Jvm.Cond.code ({ cls := "OrreryTrains", name := "pairs", desc := "()I" } : Jvm.MethodName) prog_1_method_11_code (4 : Nat) (Option.some Jvm.ClassFile.FieldType.int) ∈ oTB := oT2 85 rfl rfl
theorem wd_2_86 : Jvm.Cond.methodLink "OrreryTrains" (128 : Nat) ({ cls := "OrreryTrains$Tape", name := "faultAsPairs", desc := "()I" } : Jvm.MethodName) ∈ oTB := oT2 86 rfl rfl
theorem wd_2_87 : Jvm.Cond.instanceMethod ({ cls := "OrreryTrains$Tape", name := "faultAsPairs", desc := "()I" } : Jvm.MethodName) ∈ oTB := oT2 87 rfl rfl
theorem wd_2_88 : Jvm.Cond.selects "OrreryTrains$Tape" ({ cls := "OrreryTrains$Tape", name := "faultAsPairs", desc := "()I" } : Jvm.MethodName) ({ cls := "OrreryTrains$Tape", name := "faultAsPairs", desc := "()I" } : Jvm.MethodName) ∈ oTB := oT2 88 rfl rfl
theorem wd_2_89 : Jvm.Cond.code ({ cls := "OrreryTrains$Tape", name := "faultAsPairs", desc := "()I" } : Jvm.MethodName) prog_8_method_3_code (2 : Nat) (Option.some Jvm.ClassFile.FieldType.int) ∈ oTB := oT2 89 rfl rfl
theorem wd_2_91 : Jvm.Cond.methodLink "OrreryTrains$Tape" (23 : Nat) ({ cls := "OrreryTrains$Tape", name := "fitsClause", desc := "(II)Z" } : Jvm.MethodName) ∈ oTB := oT2 91 rfl rfl
theorem wd_2_92 : Jvm.Cond.static ({ cls := "OrreryTrains$Tape", name := "fitsClause", desc := "(II)Z" } : Jvm.MethodName) ∈ oTB := oT2 92 rfl rfl
theorem wd_2_93 : Jvm.Cond.code ({ cls := "OrreryTrains$Tape", name := "fitsClause", desc := "(II)Z" } : Jvm.MethodName) prog_8_method_4_code (2 : Nat) (Option.some Jvm.ClassFile.FieldType.boolean) ∈ oTB := oT2 93 rfl rfl
theorem wd_2_95 : Jvm.Cond.static ({ cls := "OrreryTrains", name := "kindOf", desc := "(I)I" } : Jvm.MethodName) ∈ oTB := oT2 95 rfl rfl
theorem wd_2_96 : Jvm.Cond.code ({ cls := "OrreryTrains", name := "kindOf", desc := "(I)I" } : Jvm.MethodName) prog_1_method_60_code (2 : Nat) (Option.some Jvm.ClassFile.FieldType.int) ∈ oTB := oT2 96 rfl rfl
theorem wd_2_97 : Jvm.Cond.fieldLink "OrreryTrains" (350 : Nat) "OrreryTrains" "KIND_LETTERS" "[C" ∈ oTB := oT2 97 rfl rfl
theorem wd_2_99 : Jvm.Cond.methodLink "OrreryTrains" (132 : Nat) ({ cls := "OrreryTrains$Tape", name := "clauses", desc := "()I" } : Jvm.MethodName) ∈ oTB := oT2 99 rfl rfl
theorem wd_2_100 : Jvm.Cond.instanceMethod ({ cls := "OrreryTrains$Tape", name := "clauses", desc := "()I" } : Jvm.MethodName) ∈ oTB := oT2 100 rfl rfl
theorem wd_2_101 : Jvm.Cond.selects "OrreryTrains$Tape" ({ cls := "OrreryTrains$Tape", name := "clauses", desc := "()I" } : Jvm.MethodName) ({ cls := "OrreryTrains$Tape", name := "clauses", desc := "()I" } : Jvm.MethodName) ∈ oTB := oT2 101 rfl rfl
theorem wd_2_102 : Jvm.Cond.code ({ cls := "OrreryTrains$Tape", name := "clauses", desc := "()I" } : Jvm.MethodName) prog_8_method_2_code (1 : Nat) (Option.some Jvm.ClassFile.FieldType.int) ∈ oTB := oT2 102 rfl rfl
theorem wd_2_103 : Jvm.Cond.methodLink "OrreryTrains" (144 : Nat) ({ cls := "OrreryTrains$Tape", name := "tellPair", desc := "(ILOrreryTrains$Pairs;)V" } : Jvm.MethodName) ∈ oTB := oT2 103 rfl rfl
theorem wd_2_104 : Jvm.Cond.instanceMethod ({ cls := "OrreryTrains$Tape", name := "tellPair", desc := "(ILOrreryTrains$Pairs;)V" } : Jvm.MethodName) ∈ oTB := oT2 104 rfl rfl
theorem wd_2_105 : Jvm.Cond.selects "OrreryTrains$Tape" ({ cls := "OrreryTrains$Tape", name := "tellPair", desc := "(ILOrreryTrains$Pairs;)V" } : Jvm.MethodName) ({ cls := "OrreryTrains$Tape", name := "tellPair", desc := "(ILOrreryTrains$Pairs;)V" } : Jvm.MethodName) ∈ oTB := oT2 105 rfl rfl
theorem wd_2_106 : Jvm.Cond.code ({ cls := "OrreryTrains$Tape", name := "tellPair", desc := "(ILOrreryTrains$Pairs;)V" } : Jvm.MethodName) prog_8_method_5_code (4 : Nat) (Option.none : Option Jvm.ClassFile.FieldType) ∈ oTB := oT2 106 rfl rfl
theorem wd_2_107 : Jvm.Cond.methodLink "OrreryTrains$Tape" (31 : Nat) ({ cls := "OrreryTrains$Tape", name := "figureAt", desc := "(I)I" } : Jvm.MethodName) ∈ oTB := oT2 107 rfl rfl
theorem wd_2_109 : Jvm.Cond.instanceMethod ({ cls := "OrreryTrains$Tape", name := "figureAt", desc := "(I)I" } : Jvm.MethodName) ∈ oTB := oT2 109 rfl rfl
theorem wd_2_110 : Jvm.Cond.code ({ cls := "OrreryTrains$Tape", name := "figureAt", desc := "(I)I" } : Jvm.MethodName) prog_8_method_6_code (2 : Nat) (Option.some Jvm.ClassFile.FieldType.int) ∈ oTB := oT2 110 rfl rfl
theorem wd_2_111 : Jvm.Cond.methodLink "OrreryTrains$Tape" (34 : Nat) ({ cls := "OrreryTrains$Tape", name := "numberAt", desc := "(I)I" } : Jvm.MethodName) ∈ oTB := oT2 111 rfl rfl
theorem wd_2_113 : Jvm.Cond.instanceMethod ({ cls := "OrreryTrains$Tape", name := "numberAt", desc := "(I)I" } : Jvm.MethodName) ∈ oTB := oT2 113 rfl rfl
theorem wd_2_114 : Jvm.Cond.code ({ cls := "OrreryTrains$Tape", name := "numberAt", desc := "(I)I" } : Jvm.MethodName) prog_8_method_7_code (2 : Nat) (Option.some Jvm.ClassFile.FieldType.int) ∈ oTB := oT2 114 rfl rfl
theorem wd_2_115 : Jvm.Cond.methodLink "OrreryTrains$Tape" (37 : Nat) ({ cls := "OrreryTrains$Pairs", name := "add", desc := "(IIII)V" } : Jvm.MethodName) ∈ oTB := oT2 115 rfl rfl
theorem wd_2_116 : Jvm.Cond.instanceMethod ({ cls := "OrreryTrains$Pairs", name := "add", desc := "(IIII)V" } : Jvm.MethodName) ∈ oTB := oT2 116 rfl rfl
theorem wd_2_117 : Jvm.Cond.selects "OrreryTrains$Pairs" ({ cls := "OrreryTrains$Pairs", name := "add", desc := "(IIII)V" } : Jvm.MethodName) ({ cls := "OrreryTrains$Pairs", name := "add", desc := "(IIII)V" } : Jvm.MethodName) ∈ oTB := oT2 117 rfl rfl
theorem wd_2_118 : Jvm.Cond.code ({ cls := "OrreryTrains$Pairs", name := "add", desc := "(IIII)V" } : Jvm.MethodName) prog_4_method_4_code (5 : Nat) (Option.none : Option Jvm.ClassFile.FieldType) ∈ oTB := oT2 118 rfl rfl
theorem wd_2_120 : Jvm.Cond.methodLink "OrreryTrainsLaw" (58 : Nat) ({ cls := "OrreryTrains", name := "becomes", desc := "(III)I" } : Jvm.MethodName) ∈ oTB := oT2 120 rfl rfl
theorem wd_2_121 : Jvm.Cond.instanceMethod ({ cls := "OrreryTrains", name := "becomes", desc := "(III)I" } : Jvm.MethodName) ∈ oTB := oT2 121 rfl rfl
theorem wd_2_122 : Jvm.Cond.selects "OrreryTrains" ({ cls := "OrreryTrains", name := "becomes", desc := "(III)I" } : Jvm.MethodName) ({ cls := "OrreryTrains", name := "becomes", desc := "(III)I" } : Jvm.MethodName) ∈ oTB := oT2 122 rfl rfl
theorem wd_2_123 : Jvm.Cond.code ({ cls := "OrreryTrains", name := "becomes", desc := "(III)I" } : Jvm.MethodName) prog_1_method_12_code (5 : Nat) (Option.some Jvm.ClassFile.FieldType.int) ∈ oTB := oT2 123 rfl rfl
theorem wd_2_124 : Jvm.Cond.methodLink "OrreryTrains" (148 : Nat) ({ cls := "OrreryTrains$Pairs", name := "has", desc := "(I)Z" } : Jvm.MethodName) ∈ oTB := oT2 124 rfl rfl
theorem wd_2_125 : Jvm.Cond.instanceMethod ({ cls := "OrreryTrains$Pairs", name := "has", desc := "(I)Z" } : Jvm.MethodName) ∈ oTB := oT2 125 rfl rfl
theorem wd_2_126 : Jvm.Cond.selects "OrreryTrains$Pairs" ({ cls := "OrreryTrains$Pairs", name := "has", desc := "(I)Z" } : Jvm.MethodName) ({ cls := "OrreryTrains$Pairs", name := "has", desc := "(I)Z" } : Jvm.MethodName) ∈ oTB := oT2 126 rfl rfl
theorem wd_2_127 : Jvm.Cond.code ({ cls := "OrreryTrains$Pairs", name := "has", desc := "(I)Z" } : Jvm.MethodName) prog_4_method_3_code (2 : Nat) (Option.some Jvm.ClassFile.FieldType.boolean) ∈ oTB := oT2 127 rfl rfl
theorem wd_2_128 : Jvm.Cond.methodLink "OrreryTrainsLaw" (62 : Nat) ({ cls := "OrreryTrains", name := "teeth", desc := "(III)I" } : Jvm.MethodName) ∈ oTB := oT2 128 rfl rfl
theorem wd_2_129 : Jvm.Cond.instanceMethod ({ cls := "OrreryTrains", name := "teeth", desc := "(III)I" } : Jvm.MethodName) ∈ oTB := oT2 129 rfl rfl
theorem wd_2_130 : Jvm.Cond.selects "OrreryTrains" ({ cls := "OrreryTrains", name := "teeth", desc := "(III)I" } : Jvm.MethodName) ({ cls := "OrreryTrains", name := "teeth", desc := "(III)I" } : Jvm.MethodName) ∈ oTB := oT2 130 rfl rfl
theorem wd_2_131 : Jvm.Cond.code ({ cls := "OrreryTrains", name := "teeth", desc := "(III)I" } : Jvm.MethodName) prog_1_method_13_code (6 : Nat) (Option.some Jvm.ClassFile.FieldType.int) ∈ oTB := oT2 131 rfl rfl
theorem wd_2_132 : Jvm.Cond.methodLink "OrreryTrainsLaw" (66 : Nat) ({ cls := "OrreryTrains", name := "pair", desc := "(II)I" } : Jvm.MethodName) ∈ oTB := oT2 132 rfl rfl
theorem wd_2_133 : Jvm.Cond.instanceMethod ({ cls := "OrreryTrains", name := "pair", desc := "(II)I" } : Jvm.MethodName) ∈ oTB := oT2 133 rfl rfl
theorem wd_2_134 : Jvm.Cond.selects "OrreryTrains" ({ cls := "OrreryTrains", name := "pair", desc := "(II)I" } : Jvm.MethodName) ({ cls := "OrreryTrains", name := "pair", desc := "(II)I" } : Jvm.MethodName) ∈ oTB := oT2 134 rfl rfl
theorem wd_2_135 : Jvm.Cond.code ({ cls := "OrreryTrains", name := "pair", desc := "(II)I" } : Jvm.MethodName) prog_1_method_14_code (3 : Nat) (Option.some Jvm.ClassFile.FieldType.int) ∈ oTB := oT2 135 rfl rfl
theorem wd_2_136 : Jvm.Cond.methodLink "OrreryTrains" (163 : Nat) ({ cls := "OrreryTrains$Pairs", name := "play", desc := "(I)I" } : Jvm.MethodName) ∈ oTB := oT2 136 rfl rfl
theorem wd_2_137 : Jvm.Cond.instanceMethod ({ cls := "OrreryTrains$Pairs", name := "play", desc := "(I)I" } : Jvm.MethodName) ∈ oTB := oT2 137 rfl rfl
theorem wd_2_138 : Jvm.Cond.selects "OrreryTrains$Pairs" ({ cls := "OrreryTrains$Pairs", name := "play", desc := "(I)I" } : Jvm.MethodName) ({ cls := "OrreryTrains$Pairs", name := "play", desc := "(I)I" } : Jvm.MethodName) ∈ oTB := oT2 138 rfl rfl
theorem wd_2_139 : Jvm.Cond.code ({ cls := "OrreryTrains$Pairs", name := "play", desc := "(I)I" } : Jvm.MethodName) prog_4_method_6_code (3 : Nat) (Option.some Jvm.ClassFile.FieldType.int) ∈ oTB := oT2 139 rfl rfl
theorem wd_2_141 : Jvm.Cond.methodLink "OrreryTrains" (167 : Nat) ({ cls := "OrreryTrains$Pairs", name := "goesRound", desc := "(I)Z" } : Jvm.MethodName) ∈ oTB := oT2 141 rfl rfl
theorem wd_2_142 : Jvm.Cond.instanceMethod ({ cls := "OrreryTrains$Pairs", name := "goesRound", desc := "(I)Z" } : Jvm.MethodName) ∈ oTB := oT2 142 rfl rfl
theorem wd_2_143 : Jvm.Cond.selects "OrreryTrains$Pairs" ({ cls := "OrreryTrains$Pairs", name := "goesRound", desc := "(I)Z" } : Jvm.MethodName) ({ cls := "OrreryTrains$Pairs", name := "goesRound", desc := "(I)Z" } : Jvm.MethodName) ∈ oTB := oT2 143 rfl rfl
theorem wd_2_144 : Jvm.Cond.code ({ cls := "OrreryTrains$Pairs", name := "goesRound", desc := "(I)Z" } : Jvm.MethodName) prog_4_method_5_code (2 : Nat) (Option.some Jvm.ClassFile.FieldType.boolean) ∈ oTB := oT2 144 rfl rfl
theorem wd_2_145 : Jvm.Cond.methodLink "OrreryTrains" (174 : Nat) ({ cls := "OrreryTrains$Trains", name := "holding", desc := "(I)I" } : Jvm.MethodName) ∈ oTB := oT2 145 rfl rfl
theorem wd_2_146 : Jvm.Cond.instanceMethod ({ cls := "OrreryTrains$Trains", name := "holding", desc := "(I)I" } : Jvm.MethodName) ∈ oTB := oT2 146 rfl rfl
theorem wd_2_147 : Jvm.Cond.selects "OrreryTrains$Trains" ({ cls := "OrreryTrains$Trains", name := "holding", desc := "(I)I" } : Jvm.MethodName) ({ cls := "OrreryTrains$Trains", name := "holding", desc := "(I)I" } : Jvm.MethodName) ∈ oTB := oT2 147 rfl rfl
theorem wd_2_148 : Jvm.Cond.code ({ cls := "OrreryTrains$Trains", name := "holding", desc := "(I)I" } : Jvm.MethodName) prog_9_method_9_code (5 : Nat) (Option.some Jvm.ClassFile.FieldType.int) ∈ oTB := oT2 148 rfl rfl
theorem wd_2_149 : Jvm.Cond.methodLink "OrreryTrains$Trains" (30 : Nat) ({ cls := "OrreryTrains$Trains", name := "length", desc := "(I)I" } : Jvm.MethodName) ∈ oTB := oT2 149 rfl rfl
theorem wd_2_150 : Jvm.Cond.instanceMethod ({ cls := "OrreryTrains$Trains", name := "length", desc := "(I)I" } : Jvm.MethodName) ∈ oTB := oT2 150 rfl rfl
theorem wd_2_151 : Jvm.Cond.selects "OrreryTrains$Trains" ({ cls := "OrreryTrains$Trains", name := "length", desc := "(I)I" } : Jvm.MethodName) ({ cls := "OrreryTrains$Trains", name := "length", desc := "(I)I" } : Jvm.MethodName) ∈ oTB := oT2 151 rfl rfl
theorem wd_2_152 : Jvm.Cond.code ({ cls := "OrreryTrains$Trains", name := "length", desc := "(I)I" } : Jvm.MethodName) prog_9_method_3_code (2 : Nat) (Option.some Jvm.ClassFile.FieldType.int) ∈ oTB := oT2 152 rfl rfl
theorem wd_2_154 : Jvm.Cond.methodLink "OrreryTrains$Trains" (34 : Nat) ({ cls := "OrreryTrains$Trains", name := "pairAt", desc := "(II)I" } : Jvm.MethodName) ∈ oTB := oT2 154 rfl rfl
theorem wd_2_155 : Jvm.Cond.instanceMethod ({ cls := "OrreryTrains$Trains", name := "pairAt", desc := "(II)I" } : Jvm.MethodName) ∈ oTB := oT2 155 rfl rfl
theorem wd_2_156 : Jvm.Cond.selects "OrreryTrains$Trains" ({ cls := "OrreryTrains$Trains", name := "pairAt", desc := "(II)I" } : Jvm.MethodName) ({ cls := "OrreryTrains$Trains", name := "pairAt", desc := "(II)I" } : Jvm.MethodName) ∈ oTB := oT2 156 rfl rfl
theorem wd_2_157 : Jvm.Cond.code ({ cls := "OrreryTrains$Trains", name := "pairAt", desc := "(II)I" } : Jvm.MethodName) prog_9_method_4_code (3 : Nat) (Option.some Jvm.ClassFile.FieldType.int) ∈ oTB := oT2 157 rfl rfl
theorem wd_2_158 : Jvm.Cond.methodLink "OrreryTrainsLaw" (70 : Nat) ({ cls := "OrreryTrains", name := "train", desc := "(I)I" } : Jvm.MethodName) ∈ oTB := oT2 158 rfl rfl
theorem wd_2_159 : Jvm.Cond.instanceMethod ({ cls := "OrreryTrains", name := "train", desc := "(I)I" } : Jvm.MethodName) ∈ oTB := oT2 159 rfl rfl
theorem wd_2_160 : Jvm.Cond.selects "OrreryTrains" ({ cls := "OrreryTrains", name := "train", desc := "(I)I" } : Jvm.MethodName) ({ cls := "OrreryTrains", name := "train", desc := "(I)I" } : Jvm.MethodName) ∈ oTB := oT2 160 rfl rfl
theorem wd_2_161 : Jvm.Cond.code ({ cls := "OrreryTrains", name := "train", desc := "(I)I" } : Jvm.MethodName) prog_1_method_15_code (5 : Nat) (Option.some Jvm.ClassFile.FieldType.int) ∈ oTB := oT2 161 rfl rfl
theorem wd_2_162 : Jvm.Cond.methodLink "OrreryTrains" (179 : Nat) ({ cls := "OrreryTrains$Tape", name := "faultAsTrain", desc := "(I)I" } : Jvm.MethodName) ∈ oTB := oT2 162 rfl rfl
theorem wd_2_163 : Jvm.Cond.instanceMethod ({ cls := "OrreryTrains$Tape", name := "faultAsTrain", desc := "(I)I" } : Jvm.MethodName) ∈ oTB := oT2 163 rfl rfl
theorem wd_2_164 : Jvm.Cond.selects "OrreryTrains$Tape" ({ cls := "OrreryTrains$Tape", name := "faultAsTrain", desc := "(I)I" } : Jvm.MethodName) ({ cls := "OrreryTrains$Tape", name := "faultAsTrain", desc := "(I)I" } : Jvm.MethodName) ∈ oTB := oT2 164 rfl rfl
theorem wd_2_165 : Jvm.Cond.code ({ cls := "OrreryTrains$Tape", name := "faultAsTrain", desc := "(I)I" } : Jvm.MethodName) prog_8_method_9_code (4 : Nat) (Option.some Jvm.ClassFile.FieldType.int) ∈ oTB := oT2 165 rfl rfl
theorem wd_2_166 : Jvm.Cond.methodLink "OrreryTrains$Tape" (43 : Nat) ({ cls := "OrreryTrains$Tape", name := "pairTold", desc := "(I)I" } : Jvm.MethodName) ∈ oTB := oT2 166 rfl rfl
theorem wd_2_167 : Jvm.Cond.instanceMethod ({ cls := "OrreryTrains$Tape", name := "pairTold", desc := "(I)I" } : Jvm.MethodName) ∈ oTB := oT2 167 rfl rfl
theorem wd_2_168 : Jvm.Cond.selects "OrreryTrains$Tape" ({ cls := "OrreryTrains$Tape", name := "pairTold", desc := "(I)I" } : Jvm.MethodName) ({ cls := "OrreryTrains$Tape", name := "pairTold", desc := "(I)I" } : Jvm.MethodName) ∈ oTB := oT2 168 rfl rfl
theorem wd_2_169 : Jvm.Cond.code ({ cls := "OrreryTrains$Tape", name := "pairTold", desc := "(I)I" } : Jvm.MethodName) prog_8_method_8_code (2 : Nat) (Option.some Jvm.ClassFile.FieldType.int) ∈ oTB := oT2 169 rfl rfl
theorem wd_2_170 : Jvm.Cond.methodLink "OrreryTrains$Tape" (46 : Nat) ({ cls := "OrreryTrains$Tape", name := "isToldAhead", desc := "(I)Z" } : Jvm.MethodName) ∈ oTB := oT2 170 rfl rfl
theorem wd_2_172 : Jvm.Cond.instanceMethod ({ cls := "OrreryTrains$Tape", name := "isToldAhead", desc := "(I)Z" } : Jvm.MethodName) ∈ oTB := oT2 172 rfl rfl
theorem wd_2_173 : Jvm.Cond.code ({ cls := "OrreryTrains$Tape", name := "isToldAhead", desc := "(I)Z" } : Jvm.MethodName) prog_8_method_10_code (3 : Nat) (Option.some Jvm.ClassFile.FieldType.boolean) ∈ oTB := oT2 173 rfl rfl
theorem wd_2_174 : Jvm.Cond.methodLink "OrreryTrains" (182 : Nat) ({ cls := "OrreryTrains$Trains", name := "cut", desc := "(II)V" } : Jvm.MethodName) ∈ oTB := oT2 174 rfl rfl
theorem wd_2_175 : Jvm.Cond.instanceMethod ({ cls := "OrreryTrains$Trains", name := "cut", desc := "(II)V" } : Jvm.MethodName) ∈ oTB := oT2 175 rfl rfl
theorem wd_2_176 : Jvm.Cond.selects "OrreryTrains$Trains" ({ cls := "OrreryTrains$Trains", name := "cut", desc := "(II)V" } : Jvm.MethodName) ({ cls := "OrreryTrains$Trains", name := "cut", desc := "(II)V" } : Jvm.MethodName) ∈ oTB := oT2 176 rfl rfl
theorem wd_2_177 : Jvm.Cond.code ({ cls := "OrreryTrains$Trains", name := "cut", desc := "(II)V" } : Jvm.MethodName) prog_9_method_5_code (3 : Nat) (Option.none : Option Jvm.ClassFile.FieldType) ∈ oTB := oT2 177 rfl rfl
theorem wd_2_179 : Jvm.Cond.methodLink "OrreryTrains" (186 : Nat) ({ cls := "OrreryTrains$Tape", name := "pairTold", desc := "(I)I" } : Jvm.MethodName) ∈ oTB := oT2 179 rfl rfl
theorem wd_2_180 : Jvm.Cond.methodLink "OrreryTrains" (189 : Nat) ({ cls := "OrreryTrains$Trains", name := "become", desc := "(III)V" } : Jvm.MethodName) ∈ oTB := oT2 180 rfl rfl
theorem wd_2_181 : Jvm.Cond.instanceMethod ({ cls := "OrreryTrains$Trains", name := "become", desc := "(III)V" } : Jvm.MethodName) ∈ oTB := oT2 181 rfl rfl
theorem wd_2_182 : Jvm.Cond.selects "OrreryTrains$Trains" ({ cls := "OrreryTrains$Trains", name := "become", desc := "(III)V" } : Jvm.MethodName) ({ cls := "OrreryTrains$Trains", name := "become", desc := "(III)V" } : Jvm.MethodName) ∈ oTB := oT2 182 rfl rfl
theorem wd_2_183 : Jvm.Cond.code ({ cls := "OrreryTrains$Trains", name := "become", desc := "(III)V" } : Jvm.MethodName) prog_9_method_6_code (4 : Nat) (Option.none : Option Jvm.ClassFile.FieldType) ∈ oTB := oT2 183 rfl rfl
theorem wd_2_184 : Jvm.Cond.methodLink "OrreryTrainsLaw" (74 : Nat) ({ cls := "OrreryTrains", name := "drop", desc := "(I)I" } : Jvm.MethodName) ∈ oTB := oT2 184 rfl rfl
theorem wd_2_185 : Jvm.Cond.instanceMethod ({ cls := "OrreryTrains", name := "drop", desc := "(I)I" } : Jvm.MethodName) ∈ oTB := oT2 185 rfl rfl
theorem wd_2_186 : Jvm.Cond.selects "OrreryTrains" ({ cls := "OrreryTrains", name := "drop", desc := "(I)I" } : Jvm.MethodName) ({ cls := "OrreryTrains", name := "drop", desc := "(I)I" } : Jvm.MethodName) ∈ oTB := oT2 186 rfl rfl
theorem wd_2_187 : Jvm.Cond.code ({ cls := "OrreryTrains", name := "drop", desc := "(I)I" } : Jvm.MethodName) prog_1_method_16_code (3 : Nat) (Option.some Jvm.ClassFile.FieldType.int) ∈ oTB := oT2 187 rfl rfl
theorem wd_2_188 : Jvm.Cond.methodLink "OrreryTrains" (192 : Nat) ({ cls := "OrreryTrains$Orrery", name := "hasTrain", desc := "(I)Z" } : Jvm.MethodName) ∈ oTB := oT2 188 rfl rfl
theorem wd_2_189 : Jvm.Cond.instanceMethod ({ cls := "OrreryTrains$Orrery", name := "hasTrain", desc := "(I)Z" } : Jvm.MethodName) ∈ oTB := oT2 189 rfl rfl
theorem wd_2_190 : Jvm.Cond.selects "OrreryTrains$Orrery" ({ cls := "OrreryTrains$Orrery", name := "hasTrain", desc := "(I)Z" } : Jvm.MethodName) ({ cls := "OrreryTrains$Orrery", name := "hasTrain", desc := "(I)Z" } : Jvm.MethodName) ∈ oTB := oT2 190 rfl rfl
theorem wd_2_191 : Jvm.Cond.code ({ cls := "OrreryTrains$Orrery", name := "hasTrain", desc := "(I)Z" } : Jvm.MethodName) prog_3_method_4_code (2 : Nat) (Option.some Jvm.ClassFile.FieldType.boolean) ∈ oTB := oT2 191 rfl rfl
theorem wd_2_192 : Jvm.Cond.methodLink "OrreryTrains$Orrery" (70 : Nat) ({ cls := "OrreryTrains$Orrery", name := "hasBody", desc := "(I)Z" } : Jvm.MethodName) ∈ oTB := oT2 192 rfl rfl
theorem wd_2_193 : Jvm.Cond.methodLink "OrreryTrains$Orrery" (74 : Nat) ({ cls := "OrreryTrains$Trains", name := "length", desc := "(I)I" } : Jvm.MethodName) ∈ oTB := oT2 193 rfl rfl
theorem wd_2_194 : Jvm.Cond.methodLink "OrreryTrains" (195 : Nat) ({ cls := "OrreryTrains$Trains", name := "length", desc := "(I)I" } : Jvm.MethodName) ∈ oTB := oT2 194 rfl rfl
theorem wd_2_195 : Jvm.Cond.methodLink "OrreryTrainsLaw" (78 : Nat) ({ cls := "OrreryTrains", name := "of", desc := "(II)I" } : Jvm.MethodName) ∈ oTB := oT2 195 rfl rfl
theorem wd_2_196 : Jvm.Cond.instanceMethod ({ cls := "OrreryTrains", name := "of", desc := "(II)I" } : Jvm.MethodName) ∈ oTB := oT2 196 rfl rfl
theorem wd_2_197 : Jvm.Cond.selects "OrreryTrains" ({ cls := "OrreryTrains", name := "of", desc := "(II)I" } : Jvm.MethodName) ({ cls := "OrreryTrains", name := "of", desc := "(II)I" } : Jvm.MethodName) ∈ oTB := oT2 197 rfl rfl
theorem wd_2_198 : Jvm.Cond.code ({ cls := "OrreryTrains", name := "of", desc := "(II)I" } : Jvm.MethodName) prog_1_method_17_code (3 : Nat) (Option.some Jvm.ClassFile.FieldType.int) ∈ oTB := oT2 198 rfl rfl
theorem wd_2_199 : Jvm.Cond.methodLink "OrreryTrains" (197 : Nat) ({ cls := "OrreryTrains", name := "asksPlace", desc := "(I)Z" } : Jvm.MethodName) ∈ oTB := oT2 199 rfl rfl
theorem wd_2_200 : Jvm.Cond.static ({ cls := "OrreryTrains", name := "asksPlace", desc := "(I)Z" } : Jvm.MethodName) ∈ oTB := oT2 200 rfl rfl
theorem wd_2_201 : Jvm.Cond.code ({ cls := "OrreryTrains", name := "asksPlace", desc := "(I)Z" } : Jvm.MethodName) prog_1_method_56_code (1 : Nat) (Option.some Jvm.ClassFile.FieldType.boolean) ∈ oTB := oT2 201 rfl rfl
theorem wd_2_202 : Jvm.Cond.methodLink "OrreryTrains" (200 : Nat) ({ cls := "OrreryTrains$Orrery", name := "isRound", desc := "(I)Z" } : Jvm.MethodName) ∈ oTB := oT2 202 rfl rfl
theorem wd_2_203 : Jvm.Cond.instanceMethod ({ cls := "OrreryTrains$Orrery", name := "isRound", desc := "(I)Z" } : Jvm.MethodName) ∈ oTB := oT2 203 rfl rfl
theorem wd_2_204 : Jvm.Cond.selects "OrreryTrains$Orrery" ({ cls := "OrreryTrains$Orrery", name := "isRound", desc := "(I)Z" } : Jvm.MethodName) ({ cls := "OrreryTrains$Orrery", name := "isRound", desc := "(I)Z" } : Jvm.MethodName) ∈ oTB := oT2 204 rfl rfl
theorem wd_2_205 : Jvm.Cond.code ({ cls := "OrreryTrains$Orrery", name := "isRound", desc := "(I)Z" } : Jvm.MethodName) prog_3_method_10_code (4 : Nat) (Option.some Jvm.ClassFile.FieldType.boolean) ∈ oTB := oT2 205 rfl rfl
theorem wd_2_206 : Jvm.Cond.methodLink "OrreryTrains$Orrery" (89 : Nat) ({ cls := "OrreryTrains$Trains", name := "pairAt", desc := "(II)I" } : Jvm.MethodName) ∈ oTB := oT2 206 rfl rfl
theorem wd_2_207 : Jvm.Cond.methodLink "OrreryTrains$Orrery" (105 : Nat) ({ cls := "OrreryTrains$Pairs", name := "goesRound", desc := "(I)Z" } : Jvm.MethodName) ∈ oTB := oT2 207 rfl rfl
theorem wd_2_208 : Jvm.Cond.methodLink "OrreryTrains" (203 : Nat) ({ cls := "OrreryTrains$Trains", name := "pairAt", desc := "(II)I" } : Jvm.MethodName) ∈ oTB := oT2 208 rfl rfl
theorem wd_2_209 : Jvm.Cond.methodLink "OrreryTrainsLaw" (82 : Nat) ({ cls := "OrreryTrains", name := "turns", desc := "(II)J" } : Jvm.MethodName) ∈ oTB := oT2 209 rfl rfl
theorem wd_2_210 : Jvm.Cond.instanceMethod ({ cls := "OrreryTrains", name := "turns", desc := "(II)J" } : Jvm.MethodName) ∈ oTB := oT2 210 rfl rfl
theorem wd_2_211 : Jvm.Cond.selects "OrreryTrains" ({ cls := "OrreryTrains", name := "turns", desc := "(II)J" } : Jvm.MethodName) ({ cls := "OrreryTrains", name := "turns", desc := "(II)J" } : Jvm.MethodName) ∈ oTB := oT2 211 rfl rfl
theorem wd_2_212 : Jvm.Cond.code ({ cls := "OrreryTrains", name := "turns", desc := "(II)J" } : Jvm.MethodName) prog_1_method_18_code (3 : Nat) (Option.some Jvm.ClassFile.FieldType.long) ∈ oTB := oT2 212 rfl rfl
theorem wd_2_213 : Jvm.Cond.methodLink "OrreryTrains" (206 : Nat) ({ cls := "OrreryTrains$Orrery", name := "drivers", desc := "(I)J" } : Jvm.MethodName) ∈ oTB := oT2 213 rfl rfl
theorem wd_2_214 : Jvm.Cond.instanceMethod ({ cls := "OrreryTrains$Orrery", name := "drivers", desc := "(I)J" } : Jvm.MethodName) ∈ oTB := oT2 214 rfl rfl
theorem wd_2_215 : Jvm.Cond.selects "OrreryTrains$Orrery" ({ cls := "OrreryTrains$Orrery", name := "drivers", desc := "(I)J" } : Jvm.MethodName) ({ cls := "OrreryTrains$Orrery", name := "drivers", desc := "(I)J" } : Jvm.MethodName) ∈ oTB := oT2 215 rfl rfl
theorem wd_2_216 : Jvm.Cond.code ({ cls := "OrreryTrains$Orrery", name := "drivers", desc := "(I)J" } : Jvm.MethodName) prog_3_method_6_code (5 : Nat) (Option.some Jvm.ClassFile.FieldType.long) ∈ oTB := oT2 216 rfl rfl
theorem wd_2_218 : Jvm.Cond.methodLink "OrreryTrains" (209 : Nat) ({ cls := "OrreryTrains$Orrery", name := "drivens", desc := "(I)J" } : Jvm.MethodName) ∈ oTB := oT2 218 rfl rfl
theorem wd_2_219 : Jvm.Cond.instanceMethod ({ cls := "OrreryTrains$Orrery", name := "drivens", desc := "(I)J" } : Jvm.MethodName) ∈ oTB := oT2 219 rfl rfl
theorem wd_2_220 : Jvm.Cond.selects "OrreryTrains$Orrery" ({ cls := "OrreryTrains$Orrery", name := "drivens", desc := "(I)J" } : Jvm.MethodName) ({ cls := "OrreryTrains$Orrery", name := "drivens", desc := "(I)J" } : Jvm.MethodName) ∈ oTB := oT2 220 rfl rfl
theorem wd_2_221 : Jvm.Cond.code ({ cls := "OrreryTrains$Orrery", name := "drivens", desc := "(I)J" } : Jvm.MethodName) prog_3_method_7_code (5 : Nat) (Option.some Jvm.ClassFile.FieldType.long) ∈ oTB := oT2 221 rfl rfl
theorem wd_2_222 : Jvm.Cond.methodLink "OrreryTrainsLaw" (87 : Nat) ({ cls := "OrreryTrains", name := "wrong", desc := "(II)J" } : Jvm.MethodName) ∈ oTB := oT2 222 rfl rfl
theorem wd_2_223 : Jvm.Cond.instanceMethod ({ cls := "OrreryTrains", name := "wrong", desc := "(II)J" } : Jvm.MethodName) ∈ oTB := oT2 223 rfl rfl
theorem wd_2_224 : Jvm.Cond.selects "OrreryTrains" ({ cls := "OrreryTrains", name := "wrong", desc := "(II)J" } : Jvm.MethodName) ({ cls := "OrreryTrains", name := "wrong", desc := "(II)J" } : Jvm.MethodName) ∈ oTB := oT2 224 rfl rfl
theorem wd_2_225 : Jvm.Cond.code ({ cls := "OrreryTrains", name := "wrong", desc := "(II)J" } : Jvm.MethodName) prog_1_method_19_code (3 : Nat) (Option.some Jvm.ClassFile.FieldType.long) ∈ oTB := oT2 225 rfl rfl
theorem wd_2_226 : Jvm.Cond.methodLink "OrreryTrains" (211 : Nat) ({ cls := "OrreryTrains$Orrery", name := "wrongAbove", desc := "(I)J" } : Jvm.MethodName) ∈ oTB := oT2 226 rfl rfl
theorem wd_2_227 : Jvm.Cond.instanceMethod ({ cls := "OrreryTrains$Orrery", name := "wrongAbove", desc := "(I)J" } : Jvm.MethodName) ∈ oTB := oT2 227 rfl rfl
theorem wd_2_228 : Jvm.Cond.selects "OrreryTrains$Orrery" ({ cls := "OrreryTrains$Orrery", name := "wrongAbove", desc := "(I)J" } : Jvm.MethodName) ({ cls := "OrreryTrains$Orrery", name := "wrongAbove", desc := "(I)J" } : Jvm.MethodName) ∈ oTB := oT2 228 rfl rfl
theorem wd_2_229 : Jvm.Cond.code ({ cls := "OrreryTrains$Orrery", name := "wrongAbove", desc := "(I)J" } : Jvm.MethodName) prog_3_method_8_code (2 : Nat) (Option.some Jvm.ClassFile.FieldType.long) ∈ oTB := oT2 229 rfl rfl
theorem wd_2_230 : Jvm.Cond.methodLink "OrreryTrains$Orrery" (100 : Nat) ({ cls := "OrreryTrains$Orrery", name := "drivers", desc := "(I)J" } : Jvm.MethodName) ∈ oTB := oT2 230 rfl rfl
theorem wd_2_231 : Jvm.Cond.methodLink "OrreryTrains$Orrery" (103 : Nat) ({ cls := "OrreryTrains$Orrery", name := "drivens", desc := "(I)J" } : Jvm.MethodName) ∈ oTB := oT2 231 rfl rfl
theorem wd_2_232 : Jvm.Cond.methodLink "OrreryTrains" (214 : Nat) ({ cls := "OrreryTrains$Orrery", name := "wrongBelow", desc := "(I)J" } : Jvm.MethodName) ∈ oTB := oT2 232 rfl rfl
theorem wd_2_233 : Jvm.Cond.instanceMethod ({ cls := "OrreryTrains$Orrery", name := "wrongBelow", desc := "(I)J" } : Jvm.MethodName) ∈ oTB := oT2 233 rfl rfl
theorem wd_2_234 : Jvm.Cond.selects "OrreryTrains$Orrery" ({ cls := "OrreryTrains$Orrery", name := "wrongBelow", desc := "(I)J" } : Jvm.MethodName) ({ cls := "OrreryTrains$Orrery", name := "wrongBelow", desc := "(I)J" } : Jvm.MethodName) ∈ oTB := oT2 234 rfl rfl
theorem wd_2_235 : Jvm.Cond.code ({ cls := "OrreryTrains$Orrery", name := "wrongBelow", desc := "(I)J" } : Jvm.MethodName) prog_3_method_9_code (2 : Nat) (Option.some Jvm.ClassFile.FieldType.long) ∈ oTB := oT2 235 rfl rfl
theorem wd_2_236 : Jvm.Cond.methodLink "OrreryTrainsLaw" (91 : Nat) ({ cls := "OrreryTrains", name := "backlash", desc := "(II)J" } : Jvm.MethodName) ∈ oTB := oT2 236 rfl rfl
theorem wd_2_237 : Jvm.Cond.instanceMethod ({ cls := "OrreryTrains", name := "backlash", desc := "(II)J" } : Jvm.MethodName) ∈ oTB := oT2 237 rfl rfl
theorem wd_2_238 : Jvm.Cond.selects "OrreryTrains" ({ cls := "OrreryTrains", name := "backlash", desc := "(II)J" } : Jvm.MethodName) ({ cls := "OrreryTrains", name := "backlash", desc := "(II)J" } : Jvm.MethodName) ∈ oTB := oT2 238 rfl rfl
theorem wd_2_239 : Jvm.Cond.code ({ cls := "OrreryTrains", name := "backlash", desc := "(II)J" } : Jvm.MethodName) prog_1_method_20_code (3 : Nat) (Option.some Jvm.ClassFile.FieldType.long) ∈ oTB := oT2 239 rfl rfl
theorem wd_3_0 : Jvm.Cond.methodLink "OrreryTrains" (217 : Nat) ({ cls := "OrreryTrains$Orrery", name := "slackAbove", desc := "(I)J" } : Jvm.MethodName) ∈ oTB := oT3 0 rfl rfl
theorem wd_3_1 : Jvm.Cond.instanceMethod ({ cls := "OrreryTrains$Orrery", name := "slackAbove", desc := "(I)J" } : Jvm.MethodName) ∈ oTB := oT3 1 rfl rfl
theorem wd_3_2 : Jvm.Cond.selects "OrreryTrains$Orrery" ({ cls := "OrreryTrains$Orrery", name := "slackAbove", desc := "(I)J" } : Jvm.MethodName) ({ cls := "OrreryTrains$Orrery", name := "slackAbove", desc := "(I)J" } : Jvm.MethodName) ∈ oTB := oT3 2 rfl rfl
theorem wd_3_3 : Jvm.Cond.code ({ cls := "OrreryTrains$Orrery", name := "slackAbove", desc := "(I)J" } : Jvm.MethodName) prog_3_method_11_code (8 : Nat) (Option.some Jvm.ClassFile.FieldType.long) ∈ oTB := oT3 3 rfl rfl
theorem wd_3_4 : Jvm.Cond.methodLink "OrreryTrains$Orrery" (108 : Nat) ({ cls := "OrreryTrains$Pairs", name := "play", desc := "(I)I" } : Jvm.MethodName) ∈ oTB := oT3 4 rfl rfl
theorem wd_3_5 : Jvm.Cond.methodLink "OrreryTrains" (220 : Nat) ({ cls := "OrreryTrains$Orrery", name := "slackBelow", desc := "(I)J" } : Jvm.MethodName) ∈ oTB := oT3 5 rfl rfl
theorem wd_3_6 : Jvm.Cond.instanceMethod ({ cls := "OrreryTrains$Orrery", name := "slackBelow", desc := "(I)J" } : Jvm.MethodName) ∈ oTB := oT3 6 rfl rfl
theorem wd_3_7 : Jvm.Cond.selects "OrreryTrains$Orrery" ({ cls := "OrreryTrains$Orrery", name := "slackBelow", desc := "(I)J" } : Jvm.MethodName) ({ cls := "OrreryTrains$Orrery", name := "slackBelow", desc := "(I)J" } : Jvm.MethodName) ∈ oTB := oT3 7 rfl rfl
theorem wd_3_8 : Jvm.Cond.code ({ cls := "OrreryTrains$Orrery", name := "slackBelow", desc := "(I)J" } : Jvm.MethodName) prog_3_method_12_code (2 : Nat) (Option.some Jvm.ClassFile.FieldType.long) ∈ oTB := oT3 8 rfl rfl
theorem wd_3_9 : Jvm.Cond.constantLong "OrreryTrains$Orrery" (111 : Nat) (100 : Int64) ∈ oTB := oT3 9 rfl rfl
theorem wd_3_10 : Jvm.Cond.methodLink "OrreryTrainsLaw" (95 : Nat) ({ cls := "OrreryTrains", name := "share", desc := "(II)I" } : Jvm.MethodName) ∈ oTB := oT3 10 rfl rfl
theorem wd_3_11 : Jvm.Cond.instanceMethod ({ cls := "OrreryTrains", name := "share", desc := "(II)I" } : Jvm.MethodName) ∈ oTB := oT3 11 rfl rfl
theorem wd_3_12 : Jvm.Cond.selects "OrreryTrains" ({ cls := "OrreryTrains", name := "share", desc := "(II)I" } : Jvm.MethodName) ({ cls := "OrreryTrains", name := "share", desc := "(II)I" } : Jvm.MethodName) ∈ oTB := oT3 12 rfl rfl
theorem wd_3_13 : Jvm.Cond.code ({ cls := "OrreryTrains", name := "share", desc := "(II)I" } : Jvm.MethodName) prog_1_method_21_code (3 : Nat) (Option.some Jvm.ClassFile.FieldType.int) ∈ oTB := oT3 13 rfl rfl
theorem wd_3_14 : Jvm.Cond.methodLink "OrreryTrains" (223 : Nat) ({ cls := "OrreryTrains", name := "areTwo", desc := "(II)Z" } : Jvm.MethodName) ∈ oTB := oT3 14 rfl rfl
theorem wd_3_16 : Jvm.Cond.instanceMethod ({ cls := "OrreryTrains", name := "areTwo", desc := "(II)Z" } : Jvm.MethodName) ∈ oTB := oT3 16 rfl rfl
theorem wd_3_17 : Jvm.Cond.code ({ cls := "OrreryTrains", name := "areTwo", desc := "(II)Z" } : Jvm.MethodName) prog_1_method_45_code (3 : Nat) (Option.some Jvm.ClassFile.FieldType.boolean) ∈ oTB := oT3 17 rfl rfl
theorem wd_3_18 : Jvm.Cond.methodLink "OrreryTrains" (226 : Nat) ({ cls := "OrreryTrains$Trains", name := "shared", desc := "(II)I" } : Jvm.MethodName) ∈ oTB := oT3 18 rfl rfl
theorem wd_3_19 : Jvm.Cond.instanceMethod ({ cls := "OrreryTrains$Trains", name := "shared", desc := "(II)I" } : Jvm.MethodName) ∈ oTB := oT3 19 rfl rfl
theorem wd_3_20 : Jvm.Cond.selects "OrreryTrains$Trains" ({ cls := "OrreryTrains$Trains", name := "shared", desc := "(II)I" } : Jvm.MethodName) ({ cls := "OrreryTrains$Trains", name := "shared", desc := "(II)I" } : Jvm.MethodName) ∈ oTB := oT3 20 rfl rfl
theorem wd_3_21 : Jvm.Cond.code ({ cls := "OrreryTrains$Trains", name := "shared", desc := "(II)I" } : Jvm.MethodName) prog_9_method_10_code (5 : Nat) (Option.some Jvm.ClassFile.FieldType.int) ∈ oTB := oT3 21 rfl rfl
theorem wd_3_22 : Jvm.Cond.methodLink "OrreryTrains$Trains" (42 : Nat) ({ cls := "java/lang/Math", name := "min", desc := "(II)I" } : Jvm.MethodName) ∈ oTB := oT3 22 rfl rfl
theorem wd_3_23 : Jvm.Cond.static ({ cls := "java/lang/Math", name := "min", desc := "(II)I" } : Jvm.MethodName) ∈ oTB := oT3 23 rfl rfl
theorem wd_3_24 : Jvm.Cond.code ({ cls := "java/lang/Math", name := "min", desc := "(II)I" } : Jvm.MethodName) prog_12_method_69_code (2 : Nat) (Option.some Jvm.ClassFile.FieldType.int) ∈ oTB := oT3 24 rfl rfl
theorem wd_3_25 : Jvm.Cond.methodLink "OrreryTrainsLaw" (99 : Nat) ({ cls := "OrreryTrains", name := "order", desc := "(II)I" } : Jvm.MethodName) ∈ oTB := oT3 25 rfl rfl
theorem wd_3_26 : Jvm.Cond.instanceMethod ({ cls := "OrreryTrains", name := "order", desc := "(II)I" } : Jvm.MethodName) ∈ oTB := oT3 26 rfl rfl
theorem wd_3_27 : Jvm.Cond.selects "OrreryTrains" ({ cls := "OrreryTrains", name := "order", desc := "(II)I" } : Jvm.MethodName) ({ cls := "OrreryTrains", name := "order", desc := "(II)I" } : Jvm.MethodName) ∈ oTB := oT3 27 rfl rfl
theorem wd_3_28 : Jvm.Cond.code ({ cls := "OrreryTrains", name := "order", desc := "(II)I" } : Jvm.MethodName) prog_1_method_22_code (4 : Nat) (Option.some Jvm.ClassFile.FieldType.int) ∈ oTB := oT3 28 rfl rfl
theorem wd_3_29 : Jvm.Cond.methodLink "OrreryTrains" (229 : Nat) ({ cls := "OrreryTrains", name := "bestOrder", desc := "(I)I" } : Jvm.MethodName) ∈ oTB := oT3 29 rfl rfl
theorem wd_3_31 : Jvm.Cond.instanceMethod ({ cls := "OrreryTrains", name := "bestOrder", desc := "(I)I" } : Jvm.MethodName) ∈ oTB := oT3 31 rfl rfl
theorem wd_3_32 : Jvm.Cond.code ({ cls := "OrreryTrains", name := "bestOrder", desc := "(I)I" } : Jvm.MethodName) prog_1_method_48_code (6 : Nat) (Option.some Jvm.ClassFile.FieldType.int) ∈ oTB := oT3 32 rfl rfl
theorem wd_3_33 : Jvm.Cond.methodLink "OrreryTrains" (232 : Nat) ({ cls := "OrreryTrains", name := "wheelsBy", desc := "(II)I" } : Jvm.MethodName) ∈ oTB := oT3 33 rfl rfl
theorem wd_3_35 : Jvm.Cond.instanceMethod ({ cls := "OrreryTrains", name := "wheelsBy", desc := "(II)I" } : Jvm.MethodName) ∈ oTB := oT3 35 rfl rfl
theorem wd_3_36 : Jvm.Cond.code ({ cls := "OrreryTrains", name := "wheelsBy", desc := "(II)I" } : Jvm.MethodName) prog_1_method_49_code (4 : Nat) (Option.some Jvm.ClassFile.FieldType.int) ∈ oTB := oT3 36 rfl rfl
theorem wd_3_37 : Jvm.Cond.methodLink "OrreryTrains" (282 : Nat) ({ cls := "OrreryTrains$Orrery", name := "copyFrom", desc := "(LOrreryTrains$Orrery;)V" } : Jvm.MethodName) ∈ oTB := oT3 37 rfl rfl
theorem wd_3_38 : Jvm.Cond.instanceMethod ({ cls := "OrreryTrains$Orrery", name := "copyFrom", desc := "(LOrreryTrains$Orrery;)V" } : Jvm.MethodName) ∈ oTB := oT3 38 rfl rfl
theorem wd_3_39 : Jvm.Cond.selects "OrreryTrains$Orrery" ({ cls := "OrreryTrains$Orrery", name := "copyFrom", desc := "(LOrreryTrains$Orrery;)V" } : Jvm.MethodName) ({ cls := "OrreryTrains$Orrery", name := "copyFrom", desc := "(LOrreryTrains$Orrery;)V" } : Jvm.MethodName) ∈ oTB := oT3 39 rfl rfl
theorem wd_3_40 : Jvm.Cond.code ({ cls := "OrreryTrains$Orrery", name := "copyFrom", desc := "(LOrreryTrains$Orrery;)V" } : Jvm.MethodName) prog_3_method_2_code (2 : Nat) (Option.none : Option Jvm.ClassFile.FieldType) ∈ oTB := oT3 40 rfl rfl
theorem wd_3_42 : Jvm.Cond.static ({ cls := "OrreryTrains", name := "copy", desc := "([I[I)V" } : Jvm.MethodName) ∈ oTB := oT3 42 rfl rfl
theorem wd_3_43 : Jvm.Cond.code ({ cls := "OrreryTrains", name := "copy", desc := "([I[I)V" } : Jvm.MethodName) prog_1_method_63_code (3 : Nat) (Option.none : Option Jvm.ClassFile.FieldType) ∈ oTB := oT3 43 rfl rfl
theorem wd_3_44 : Jvm.Cond.methodLink "OrreryTrains$Orrery" (60 : Nat) ({ cls := "OrreryTrains$Pairs", name := "copyFrom", desc := "(LOrreryTrains$Pairs;)V" } : Jvm.MethodName) ∈ oTB := oT3 44 rfl rfl
theorem wd_3_45 : Jvm.Cond.instanceMethod ({ cls := "OrreryTrains$Pairs", name := "copyFrom", desc := "(LOrreryTrains$Pairs;)V" } : Jvm.MethodName) ∈ oTB := oT3 45 rfl rfl
theorem wd_3_46 : Jvm.Cond.selects "OrreryTrains$Pairs" ({ cls := "OrreryTrains$Pairs", name := "copyFrom", desc := "(LOrreryTrains$Pairs;)V" } : Jvm.MethodName) ({ cls := "OrreryTrains$Pairs", name := "copyFrom", desc := "(LOrreryTrains$Pairs;)V" } : Jvm.MethodName) ∈ oTB := oT3 46 rfl rfl
theorem wd_3_47 : Jvm.Cond.code ({ cls := "OrreryTrains$Pairs", name := "copyFrom", desc := "(LOrreryTrains$Pairs;)V" } : Jvm.MethodName) prog_4_method_2_code (2 : Nat) (Option.none : Option Jvm.ClassFile.FieldType) ∈ oTB := oT3 47 rfl rfl
theorem wd_3_49 : Jvm.Cond.methodLink "OrreryTrains$Orrery" (64 : Nat) ({ cls := "OrreryTrains$Trains", name := "copyFrom", desc := "(LOrreryTrains$Trains;)V" } : Jvm.MethodName) ∈ oTB := oT3 49 rfl rfl
theorem wd_3_50 : Jvm.Cond.instanceMethod ({ cls := "OrreryTrains$Trains", name := "copyFrom", desc := "(LOrreryTrains$Trains;)V" } : Jvm.MethodName) ∈ oTB := oT3 50 rfl rfl
theorem wd_3_51 : Jvm.Cond.selects "OrreryTrains$Trains" ({ cls := "OrreryTrains$Trains", name := "copyFrom", desc := "(LOrreryTrains$Trains;)V" } : Jvm.MethodName) ({ cls := "OrreryTrains$Trains", name := "copyFrom", desc := "(LOrreryTrains$Trains;)V" } : Jvm.MethodName) ∈ oTB := oT3 51 rfl rfl
theorem wd_3_52 : Jvm.Cond.code ({ cls := "OrreryTrains$Trains", name := "copyFrom", desc := "(LOrreryTrains$Trains;)V" } : Jvm.MethodName) prog_9_method_2_code (2 : Nat) (Option.none : Option Jvm.ClassFile.FieldType) ∈ oTB := oT3 52 rfl rfl
theorem wd_3_54 : Jvm.Cond.methodLink "OrreryTrains$Orrery" (67 : Nat) ({ cls := "OrreryTrains$Plan", name := "copyFrom", desc := "(LOrreryTrains$Plan;)V" } : Jvm.MethodName) ∈ oTB := oT3 54 rfl rfl
theorem wd_3_55 : Jvm.Cond.instanceMethod ({ cls := "OrreryTrains$Plan", name := "copyFrom", desc := "(LOrreryTrains$Plan;)V" } : Jvm.MethodName) ∈ oTB := oT3 55 rfl rfl
theorem wd_3_56 : Jvm.Cond.selects "OrreryTrains$Plan" ({ cls := "OrreryTrains$Plan", name := "copyFrom", desc := "(LOrreryTrains$Plan;)V" } : Jvm.MethodName) ({ cls := "OrreryTrains$Plan", name := "copyFrom", desc := "(LOrreryTrains$Plan;)V" } : Jvm.MethodName) ∈ oTB := oT3 56 rfl rfl
theorem wd_3_57 : Jvm.Cond.code ({ cls := "OrreryTrains$Plan", name := "copyFrom", desc := "(LOrreryTrains$Plan;)V" } : Jvm.MethodName) prog_5_method_2_code (2 : Nat) (Option.none : Option Jvm.ClassFile.FieldType) ∈ oTB := oT3 57 rfl rfl
theorem wd_3_59 : Jvm.Cond.methodLink "OrreryTrains" (235 : Nat) ({ cls := "OrreryTrains", name := "placeBy", desc := "(II)I" } : Jvm.MethodName) ∈ oTB := oT3 59 rfl rfl
theorem wd_3_60 : Jvm.Cond.static ({ cls := "OrreryTrains", name := "placeBy", desc := "(II)I" } : Jvm.MethodName) ∈ oTB := oT3 60 rfl rfl
theorem wd_3_61 : Jvm.Cond.code ({ cls := "OrreryTrains", name := "placeBy", desc := "(II)I" } : Jvm.MethodName) prog_1_method_58_code (2 : Nat) (Option.some Jvm.ClassFile.FieldType.int) ∈ oTB := oT3 61 rfl rfl
theorem wd_3_62 : Jvm.Cond.fieldLink "OrreryTrains" (338 : Nat) "OrreryTrains" "ORDERS" "[I" ∈ oTB := oT3 62 rfl rfl
theorem wd_3_64 : Jvm.Cond.methodLink "OrreryTrains" (335 : Nat) ({ cls := "OrreryTrains$Trains", name := "wheels", desc := "()I" } : Jvm.MethodName) ∈ oTB := oT3 64 rfl rfl
theorem wd_3_65 : Jvm.Cond.instanceMethod ({ cls := "OrreryTrains$Trains", name := "wheels", desc := "()I" } : Jvm.MethodName) ∈ oTB := oT3 65 rfl rfl
theorem wd_3_66 : Jvm.Cond.selects "OrreryTrains$Trains" ({ cls := "OrreryTrains$Trains", name := "wheels", desc := "()I" } : Jvm.MethodName) ({ cls := "OrreryTrains$Trains", name := "wheels", desc := "()I" } : Jvm.MethodName) ∈ oTB := oT3 66 rfl rfl
theorem wd_3_67 : Jvm.Cond.code ({ cls := "OrreryTrains$Trains", name := "wheels", desc := "()I" } : Jvm.MethodName) prog_9_method_11_code (5 : Nat) (Option.some Jvm.ClassFile.FieldType.int) ∈ oTB := oT3 67 rfl rfl
theorem wd_3_68 : Jvm.Cond.methodLink "OrreryTrains$Trains" (47 : Nat) ({ cls := "OrreryTrains$Trains", name := "shared", desc := "(II)I" } : Jvm.MethodName) ∈ oTB := oT3 68 rfl rfl
theorem wd_3_69 : Jvm.Cond.methodLink "OrreryTrains$Trains" (50 : Nat) ({ cls := "java/lang/Math", name := "max", desc := "(II)I" } : Jvm.MethodName) ∈ oTB := oT3 69 rfl rfl
theorem wd_3_70 : Jvm.Cond.static ({ cls := "java/lang/Math", name := "max", desc := "(II)I" } : Jvm.MethodName) ∈ oTB := oT3 70 rfl rfl
theorem wd_3_71 : Jvm.Cond.code ({ cls := "java/lang/Math", name := "max", desc := "(II)I" } : Jvm.MethodName) prog_12_method_65_code (2 : Nat) (Option.some Jvm.ClassFile.FieldType.int) ∈ oTB := oT3 71 rfl rfl
theorem wd_3_72 : Jvm.Cond.methodLink "OrreryTrains" (341 : Nat) ({ cls := "OrreryTrains", name := "isOrderOf", desc := "(II)Z" } : Jvm.MethodName) ∈ oTB := oT3 72 rfl rfl
theorem wd_3_73 : Jvm.Cond.static ({ cls := "OrreryTrains", name := "isOrderOf", desc := "(II)Z" } : Jvm.MethodName) ∈ oTB := oT3 73 rfl rfl
theorem wd_3_74 : Jvm.Cond.code ({ cls := "OrreryTrains", name := "isOrderOf", desc := "(II)Z" } : Jvm.MethodName) prog_1_method_57_code (3 : Nat) (Option.some Jvm.ClassFile.FieldType.boolean) ∈ oTB := oT3 74 rfl rfl
theorem wd_3_75 : Jvm.Cond.methodLink "OrreryTrainsLaw" (103 : Nat) ({ cls := "OrreryTrains", name := "found", desc := "(II)I" } : Jvm.MethodName) ∈ oTB := oT3 75 rfl rfl
theorem wd_3_76 : Jvm.Cond.instanceMethod ({ cls := "OrreryTrains", name := "found", desc := "(II)I" } : Jvm.MethodName) ∈ oTB := oT3 76 rfl rfl
theorem wd_3_77 : Jvm.Cond.selects "OrreryTrains" ({ cls := "OrreryTrains", name := "found", desc := "(II)I" } : Jvm.MethodName) ({ cls := "OrreryTrains", name := "found", desc := "(II)I" } : Jvm.MethodName) ∈ oTB := oT3 77 rfl rfl
theorem wd_3_78 : Jvm.Cond.code ({ cls := "OrreryTrains", name := "found", desc := "(II)I" } : Jvm.MethodName) prog_1_method_23_code (4 : Nat) (Option.some Jvm.ClassFile.FieldType.int) ∈ oTB := oT3 78 rfl rfl
theorem wd_3_79 : Jvm.Cond.methodLink "OrreryTrains" (238 : Nat) ({ cls := "OrreryTrains$Finder", name := "seek", desc := "(IIII)V" } : Jvm.MethodName) ∈ oTB := oT3 79 rfl rfl
theorem wd_3_80 : Jvm.Cond.instanceMethod ({ cls := "OrreryTrains$Finder", name := "seek", desc := "(IIII)V" } : Jvm.MethodName) ∈ oTB := oT3 80 rfl rfl
theorem wd_3_81 : Jvm.Cond.selects "OrreryTrains$Finder" ({ cls := "OrreryTrains$Finder", name := "seek", desc := "(IIII)V" } : Jvm.MethodName) ({ cls := "OrreryTrains$Finder", name := "seek", desc := "(IIII)V" } : Jvm.MethodName) ∈ oTB := oT3 81 rfl rfl
theorem wd_3_82 : Jvm.Cond.code ({ cls := "OrreryTrains$Finder", name := "seek", desc := "(IIII)V" } : Jvm.MethodName) prog_2_method_2_code (5 : Nat) (Option.none : Option Jvm.ClassFile.FieldType) ∈ oTB := oT3 82 rfl rfl
theorem wd_3_83 : Jvm.Cond.methodLink "OrreryTrains$Finder" (41 : Nat) ({ cls := "OrreryTrains$Finder", name := "seekOnePair", desc := "()V" } : Jvm.MethodName) ∈ oTB := oT3 83 rfl rfl
theorem wd_3_85 : Jvm.Cond.instanceMethod ({ cls := "OrreryTrains$Finder", name := "seekOnePair", desc := "()V" } : Jvm.MethodName) ∈ oTB := oT3 85 rfl rfl
theorem wd_3_86 : Jvm.Cond.code ({ cls := "OrreryTrains$Finder", name := "seekOnePair", desc := "()V" } : Jvm.MethodName) prog_2_method_8_code (3 : Nat) (Option.none : Option Jvm.ClassFile.FieldType) ∈ oTB := oT3 86 rfl rfl
theorem wd_3_87 : Jvm.Cond.methodLink "OrreryTrains$Finder" (47 : Nat) ({ cls := "OrreryTrains$Finder", name := "offer", desc := "(IIII)V" } : Jvm.MethodName) ∈ oTB := oT3 87 rfl rfl
theorem wd_3_89 : Jvm.Cond.instanceMethod ({ cls := "OrreryTrains$Finder", name := "offer", desc := "(IIII)V" } : Jvm.MethodName) ∈ oTB := oT3 89 rfl rfl
theorem wd_3_90 : Jvm.Cond.code ({ cls := "OrreryTrains$Finder", name := "offer", desc := "(IIII)V" } : Jvm.MethodName) prog_2_method_11_code (13 : Nat) (Option.none : Option Jvm.ClassFile.FieldType) ∈ oTB := oT3 90 rfl rfl
theorem wd_3_91 : Jvm.Cond.methodLink "OrreryTrains$Finder" (65 : Nat) ({ cls := "OrreryTrains$Finder", name := "product", desc := "(II)J" } : Jvm.MethodName) ∈ oTB := oT3 91 rfl rfl
theorem wd_3_92 : Jvm.Cond.static ({ cls := "OrreryTrains$Finder", name := "product", desc := "(II)J" } : Jvm.MethodName) ∈ oTB := oT3 92 rfl rfl
theorem wd_3_93 : Jvm.Cond.code ({ cls := "OrreryTrains$Finder", name := "product", desc := "(II)J" } : Jvm.MethodName) prog_2_method_13_code (2 : Nat) (Option.some Jvm.ClassFile.FieldType.long) ∈ oTB := oT3 93 rfl rfl
theorem wd_3_94 : Jvm.Cond.methodLink "OrreryTrains$Finder" (69 : Nat) ({ cls := "java/lang/Math", name := "abs", desc := "(J)J" } : Jvm.MethodName) ∈ oTB := oT3 94 rfl rfl
theorem wd_3_95 : Jvm.Cond.methodLink "OrreryTrains$Finder" (75 : Nat) ({ cls := "OrreryTrains$Finder", name := "isAhead", desc := "(IIII)Z" } : Jvm.MethodName) ∈ oTB := oT3 95 rfl rfl
theorem wd_3_97 : Jvm.Cond.instanceMethod ({ cls := "OrreryTrains$Finder", name := "isAhead", desc := "(IIII)Z" } : Jvm.MethodName) ∈ oTB := oT3 97 rfl rfl
theorem wd_3_98 : Jvm.Cond.code ({ cls := "OrreryTrains$Finder", name := "isAhead", desc := "(IIII)Z" } : Jvm.MethodName) prog_2_method_12_code (6 : Nat) (Option.some Jvm.ClassFile.FieldType.boolean) ∈ oTB := oT3 98 rfl rfl
theorem wd_3_99 : Jvm.Cond.methodLink "OrreryTrains$Finder" (79 : Nat) ({ cls := "OrreryTrains$Finder", name := "isOnePair", desc := "()Z" } : Jvm.MethodName) ∈ oTB := oT3 99 rfl rfl
theorem wd_3_100 : Jvm.Cond.instanceMethod ({ cls := "OrreryTrains$Finder", name := "isOnePair", desc := "()Z" } : Jvm.MethodName) ∈ oTB := oT3 100 rfl rfl
theorem wd_3_101 : Jvm.Cond.selects "OrreryTrains$Finder" ({ cls := "OrreryTrains$Finder", name := "isOnePair", desc := "()Z" } : Jvm.MethodName) ({ cls := "OrreryTrains$Finder", name := "isOnePair", desc := "()Z" } : Jvm.MethodName) ∈ oTB := oT3 101 rfl rfl
theorem wd_3_102 : Jvm.Cond.code ({ cls := "OrreryTrains$Finder", name := "isOnePair", desc := "()Z" } : Jvm.MethodName) prog_2_method_3_code (1 : Nat) (Option.some Jvm.ClassFile.FieldType.boolean) ∈ oTB := oT3 102 rfl rfl
theorem wd_3_103 : Jvm.Cond.methodLink "OrreryTrains$Finder" (83 : Nat) ({ cls := "OrreryTrains$Finder", name := "allTeeth", desc := "()I" } : Jvm.MethodName) ∈ oTB := oT3 103 rfl rfl
theorem wd_3_104 : Jvm.Cond.instanceMethod ({ cls := "OrreryTrains$Finder", name := "allTeeth", desc := "()I" } : Jvm.MethodName) ∈ oTB := oT3 104 rfl rfl
theorem wd_3_105 : Jvm.Cond.selects "OrreryTrains$Finder" ({ cls := "OrreryTrains$Finder", name := "allTeeth", desc := "()I" } : Jvm.MethodName) ({ cls := "OrreryTrains$Finder", name := "allTeeth", desc := "()I" } : Jvm.MethodName) ∈ oTB := oT3 105 rfl rfl
theorem wd_3_106 : Jvm.Cond.code ({ cls := "OrreryTrains$Finder", name := "allTeeth", desc := "()I" } : Jvm.MethodName) prog_2_method_4_code (1 : Nat) (Option.some Jvm.ClassFile.FieldType.int) ∈ oTB := oT3 106 rfl rfl
theorem wd_3_107 : Jvm.Cond.methodLink "OrreryTrains$Finder" (44 : Nat) ({ cls := "OrreryTrains$Finder", name := "seekTwoPairs", desc := "()V" } : Jvm.MethodName) ∈ oTB := oT3 107 rfl rfl
theorem wd_3_109 : Jvm.Cond.instanceMethod ({ cls := "OrreryTrains$Finder", name := "seekTwoPairs", desc := "()V" } : Jvm.MethodName) ∈ oTB := oT3 109 rfl rfl
theorem wd_3_110 : Jvm.Cond.code ({ cls := "OrreryTrains$Finder", name := "seekTwoPairs", desc := "()V" } : Jvm.MethodName) prog_2_method_9_code (4 : Nat) (Option.none : Option Jvm.ClassFile.FieldType) ∈ oTB := oT3 110 rfl rfl
theorem wd_3_111 : Jvm.Cond.methodLink "OrreryTrains$Finder" (51 : Nat) ({ cls := "OrreryTrains$Finder", name := "offerFourth", desc := "(III)V" } : Jvm.MethodName) ∈ oTB := oT3 111 rfl rfl
theorem wd_3_113 : Jvm.Cond.instanceMethod ({ cls := "OrreryTrains$Finder", name := "offerFourth", desc := "(III)V" } : Jvm.MethodName) ∈ oTB := oT3 113 rfl rfl
theorem wd_3_114 : Jvm.Cond.code ({ cls := "OrreryTrains$Finder", name := "offerFourth", desc := "(III)V" } : Jvm.MethodName) prog_2_method_10_code (8 : Nat) (Option.none : Option Jvm.ClassFile.FieldType) ∈ oTB := oT3 114 rfl rfl
theorem wd_3_116 : Jvm.Cond.methodLink "OrreryTrains$Finder" (61 : Nat) ({ cls := "OrreryTrains$Finder", name := "within", desc := "(JII)I" } : Jvm.MethodName) ∈ oTB := oT3 116 rfl rfl
theorem wd_3_117 : Jvm.Cond.static ({ cls := "OrreryTrains$Finder", name := "within", desc := "(JII)I" } : Jvm.MethodName) ∈ oTB := oT3 117 rfl rfl
theorem wd_3_118 : Jvm.Cond.code ({ cls := "OrreryTrains$Finder", name := "within", desc := "(JII)I" } : Jvm.MethodName) prog_2_method_14_code (4 : Nat) (Option.some Jvm.ClassFile.FieldType.int) ∈ oTB := oT3 118 rfl rfl
theorem wd_3_119 : Jvm.Cond.methodLink "OrreryTrains$Finder" (87 : Nat) ({ cls := "java/lang/Math", name := "min", desc := "(JJ)J" } : Jvm.MethodName) ∈ oTB := oT3 119 rfl rfl
theorem wd_3_120 : Jvm.Cond.static ({ cls := "java/lang/Math", name := "min", desc := "(JJ)J" } : Jvm.MethodName) ∈ oTB := oT3 120 rfl rfl
theorem wd_3_121 : Jvm.Cond.code ({ cls := "java/lang/Math", name := "min", desc := "(JJ)J" } : Jvm.MethodName) prog_12_method_70_code (4 : Nat) (Option.some Jvm.ClassFile.FieldType.long) ∈ oTB := oT3 121 rfl rfl
theorem wd_3_122 : Jvm.Cond.methodLink "OrreryTrains$Finder" (90 : Nat) ({ cls := "java/lang/Math", name := "max", desc := "(JJ)J" } : Jvm.MethodName) ∈ oTB := oT3 122 rfl rfl
theorem wd_3_123 : Jvm.Cond.static ({ cls := "java/lang/Math", name := "max", desc := "(JJ)J" } : Jvm.MethodName) ∈ oTB := oT3 123 rfl rfl
theorem wd_3_124 : Jvm.Cond.code ({ cls := "java/lang/Math", name := "max", desc := "(JJ)J" } : Jvm.MethodName) prog_12_method_66_code (4 : Nat) (Option.some Jvm.ClassFile.FieldType.long) ∈ oTB := oT3 124 rfl rfl
theorem wd_3_125 : Jvm.Cond.methodLink "OrreryTrains" (242 : Nat) ({ cls := "OrreryTrains$Finder", name := "isOnePair", desc := "()Z" } : Jvm.MethodName) ∈ oTB := oT3 125 rfl rfl
theorem wd_3_126 : Jvm.Cond.methodLink "OrreryTrains" (246 : Nat) ({ cls := "OrreryTrains$Finder", name := "allTeeth", desc := "()I" } : Jvm.MethodName) ∈ oTB := oT3 126 rfl rfl
theorem wd_3_127 : Jvm.Cond.methodLink "OrreryTrains" (249 : Nat) ({ cls := "OrreryTrains$Finder", name := "wheel", desc := "(I)I" } : Jvm.MethodName) ∈ oTB := oT3 127 rfl rfl
theorem wd_3_128 : Jvm.Cond.instanceMethod ({ cls := "OrreryTrains$Finder", name := "wheel", desc := "(I)I" } : Jvm.MethodName) ∈ oTB := oT3 128 rfl rfl
theorem wd_3_129 : Jvm.Cond.selects "OrreryTrains$Finder" ({ cls := "OrreryTrains$Finder", name := "wheel", desc := "(I)I" } : Jvm.MethodName) ({ cls := "OrreryTrains$Finder", name := "wheel", desc := "(I)I" } : Jvm.MethodName) ∈ oTB := oT3 129 rfl rfl
theorem wd_3_130 : Jvm.Cond.code ({ cls := "OrreryTrains$Finder", name := "wheel", desc := "(I)I" } : Jvm.MethodName) prog_2_method_5_code (2 : Nat) (Option.some Jvm.ClassFile.FieldType.int) ∈ oTB := oT3 130 rfl rfl
theorem wd_3_131 : Jvm.Cond.methodLink "OrreryTrainsLaw" (107 : Nat) ({ cls := "OrreryTrains", name := "foundWrong", desc := "(II)J" } : Jvm.MethodName) ∈ oTB := oT3 131 rfl rfl
theorem wd_3_132 : Jvm.Cond.instanceMethod ({ cls := "OrreryTrains", name := "foundWrong", desc := "(II)J" } : Jvm.MethodName) ∈ oTB := oT3 132 rfl rfl
theorem wd_3_133 : Jvm.Cond.selects "OrreryTrains" ({ cls := "OrreryTrains", name := "foundWrong", desc := "(II)J" } : Jvm.MethodName) ({ cls := "OrreryTrains", name := "foundWrong", desc := "(II)J" } : Jvm.MethodName) ∈ oTB := oT3 133 rfl rfl
theorem wd_3_134 : Jvm.Cond.code ({ cls := "OrreryTrains", name := "foundWrong", desc := "(II)J" } : Jvm.MethodName) prog_1_method_24_code (3 : Nat) (Option.some Jvm.ClassFile.FieldType.long) ∈ oTB := oT3 134 rfl rfl
theorem wd_3_135 : Jvm.Cond.methodLink "OrreryTrains" (252 : Nat) ({ cls := "OrreryTrains$Finder", name := "wrongAbove", desc := "()J" } : Jvm.MethodName) ∈ oTB := oT3 135 rfl rfl
theorem wd_3_136 : Jvm.Cond.instanceMethod ({ cls := "OrreryTrains$Finder", name := "wrongAbove", desc := "()J" } : Jvm.MethodName) ∈ oTB := oT3 136 rfl rfl
theorem wd_3_137 : Jvm.Cond.selects "OrreryTrains$Finder" ({ cls := "OrreryTrains$Finder", name := "wrongAbove", desc := "()J" } : Jvm.MethodName) ({ cls := "OrreryTrains$Finder", name := "wrongAbove", desc := "()J" } : Jvm.MethodName) ∈ oTB := oT3 137 rfl rfl
theorem wd_3_138 : Jvm.Cond.code ({ cls := "OrreryTrains$Finder", name := "wrongAbove", desc := "()J" } : Jvm.MethodName) prog_2_method_6_code (1 : Nat) (Option.some Jvm.ClassFile.FieldType.long) ∈ oTB := oT3 138 rfl rfl
theorem wd_3_139 : Jvm.Cond.methodLink "OrreryTrains" (255 : Nat) ({ cls := "OrreryTrains$Finder", name := "wrongBelow", desc := "()J" } : Jvm.MethodName) ∈ oTB := oT3 139 rfl rfl
theorem wd_3_140 : Jvm.Cond.instanceMethod ({ cls := "OrreryTrains$Finder", name := "wrongBelow", desc := "()J" } : Jvm.MethodName) ∈ oTB := oT3 140 rfl rfl
theorem wd_3_141 : Jvm.Cond.selects "OrreryTrains$Finder" ({ cls := "OrreryTrains$Finder", name := "wrongBelow", desc := "()J" } : Jvm.MethodName) ({ cls := "OrreryTrains$Finder", name := "wrongBelow", desc := "()J" } : Jvm.MethodName) ∈ oTB := oT3 141 rfl rfl
theorem wd_3_142 : Jvm.Cond.code ({ cls := "OrreryTrains$Finder", name := "wrongBelow", desc := "()J" } : Jvm.MethodName) prog_2_method_7_code (1 : Nat) (Option.some Jvm.ClassFile.FieldType.long) ∈ oTB := oT3 142 rfl rfl
theorem wd_3_143 : Jvm.Cond.methodLink "OrreryTrainsLaw" (111 : Nat) ({ cls := "OrreryTrains", name := "turn", desc := "(I)I" } : Jvm.MethodName) ∈ oTB := oT3 143 rfl rfl
theorem wd_3_144 : Jvm.Cond.instanceMethod ({ cls := "OrreryTrains", name := "turn", desc := "(I)I" } : Jvm.MethodName) ∈ oTB := oT3 144 rfl rfl
theorem wd_3_145 : Jvm.Cond.selects "OrreryTrains" ({ cls := "OrreryTrains", name := "turn", desc := "(I)I" } : Jvm.MethodName) ({ cls := "OrreryTrains", name := "turn", desc := "(I)I" } : Jvm.MethodName) ∈ oTB := oT3 145 rfl rfl
theorem wd_3_146 : Jvm.Cond.code ({ cls := "OrreryTrains", name := "turn", desc := "(I)I" } : Jvm.MethodName) prog_1_method_25_code (2 : Nat) (Option.some Jvm.ClassFile.FieldType.int) ∈ oTB := oT3 146 rfl rfl
theorem wd_3_147 : Jvm.Cond.methodLink "OrreryTrains" (257 : Nat) ({ cls := "OrreryTrains", name := "isCranked", desc := "(I)Z" } : Jvm.MethodName) ∈ oTB := oT3 147 rfl rfl
theorem wd_3_148 : Jvm.Cond.static ({ cls := "OrreryTrains", name := "isCranked", desc := "(I)Z" } : Jvm.MethodName) ∈ oTB := oT3 148 rfl rfl
theorem wd_3_149 : Jvm.Cond.code ({ cls := "OrreryTrains", name := "isCranked", desc := "(I)Z" } : Jvm.MethodName) prog_1_method_54_code (1 : Nat) (Option.some Jvm.ClassFile.FieldType.boolean) ∈ oTB := oT3 149 rfl rfl
theorem wd_3_150 : Jvm.Cond.methodLink "OrreryTrains" (263 : Nat) ({ cls := "OrreryTrains$Orrery", name := "crankBy", desc := "(I)V" } : Jvm.MethodName) ∈ oTB := oT3 150 rfl rfl
theorem wd_3_151 : Jvm.Cond.instanceMethod ({ cls := "OrreryTrains$Orrery", name := "crankBy", desc := "(I)V" } : Jvm.MethodName) ∈ oTB := oT3 151 rfl rfl
theorem wd_3_152 : Jvm.Cond.selects "OrreryTrains$Orrery" ({ cls := "OrreryTrains$Orrery", name := "crankBy", desc := "(I)V" } : Jvm.MethodName) ({ cls := "OrreryTrains$Orrery", name := "crankBy", desc := "(I)V" } : Jvm.MethodName) ∈ oTB := oT3 152 rfl rfl
theorem wd_3_153 : Jvm.Cond.code ({ cls := "OrreryTrains$Orrery", name := "crankBy", desc := "(I)V" } : Jvm.MethodName) prog_3_method_15_code (2 : Nat) (Option.none : Option Jvm.ClassFile.FieldType) ∈ oTB := oT3 153 rfl rfl
theorem wd_3_154 : Jvm.Cond.methodLink "OrreryTrains$Orrery" (129 : Nat) ({ cls := "java/lang/Math", name := "min", desc := "(II)I" } : Jvm.MethodName) ∈ oTB := oT3 154 rfl rfl
theorem wd_3_155 : Jvm.Cond.methodLink "OrreryTrains$Orrery" (134 : Nat) ({ cls := "java/lang/Math", name := "max", desc := "(II)I" } : Jvm.MethodName) ∈ oTB := oT3 155 rfl rfl
theorem wd_3_156 : Jvm.Cond.methodLink "OrreryTrainsLaw" (115 : Nat) ({ cls := "OrreryTrains", name := "crank", desc := "(I)I" } : Jvm.MethodName) ∈ oTB := oT3 156 rfl rfl
theorem wd_3_157 : Jvm.Cond.instanceMethod ({ cls := "OrreryTrains", name := "crank", desc := "(I)I" } : Jvm.MethodName) ∈ oTB := oT3 157 rfl rfl
theorem wd_3_158 : Jvm.Cond.selects "OrreryTrains" ({ cls := "OrreryTrains", name := "crank", desc := "(I)I" } : Jvm.MethodName) ({ cls := "OrreryTrains", name := "crank", desc := "(I)I" } : Jvm.MethodName) ∈ oTB := oT3 158 rfl rfl
theorem wd_3_159 : Jvm.Cond.code ({ cls := "OrreryTrains", name := "crank", desc := "(I)I" } : Jvm.MethodName) prog_1_method_26_code (2 : Nat) (Option.some Jvm.ClassFile.FieldType.int) ∈ oTB := oT3 159 rfl rfl
theorem wd_3_160 : Jvm.Cond.methodLink "OrreryTrainsLaw" (119 : Nat) ({ cls := "OrreryTrains", name := "stands", desc := "(I)J" } : Jvm.MethodName) ∈ oTB := oT3 160 rfl rfl
theorem wd_3_161 : Jvm.Cond.instanceMethod ({ cls := "OrreryTrains", name := "stands", desc := "(I)J" } : Jvm.MethodName) ∈ oTB := oT3 161 rfl rfl
theorem wd_3_162 : Jvm.Cond.selects "OrreryTrains" ({ cls := "OrreryTrains", name := "stands", desc := "(I)J" } : Jvm.MethodName) ({ cls := "OrreryTrains", name := "stands", desc := "(I)J" } : Jvm.MethodName) ∈ oTB := oT3 162 rfl rfl
theorem wd_3_163 : Jvm.Cond.code ({ cls := "OrreryTrains", name := "stands", desc := "(I)J" } : Jvm.MethodName) prog_1_method_27_code (2 : Nat) (Option.some Jvm.ClassFile.FieldType.long) ∈ oTB := oT3 163 rfl rfl
theorem wd_3_164 : Jvm.Cond.methodLink "OrreryTrains" (270 : Nat) ({ cls := "OrreryTrains$Orrery", name := "standing", desc := "(I)J" } : Jvm.MethodName) ∈ oTB := oT3 164 rfl rfl
theorem wd_3_165 : Jvm.Cond.instanceMethod ({ cls := "OrreryTrains$Orrery", name := "standing", desc := "(I)J" } : Jvm.MethodName) ∈ oTB := oT3 165 rfl rfl
theorem wd_3_166 : Jvm.Cond.selects "OrreryTrains$Orrery" ({ cls := "OrreryTrains$Orrery", name := "standing", desc := "(I)J" } : Jvm.MethodName) ({ cls := "OrreryTrains$Orrery", name := "standing", desc := "(I)J" } : Jvm.MethodName) ∈ oTB := oT3 166 rfl rfl
theorem wd_3_167 : Jvm.Cond.code ({ cls := "OrreryTrains$Orrery", name := "standing", desc := "(I)J" } : Jvm.MethodName) prog_3_method_13_code (4 : Nat) (Option.some Jvm.ClassFile.FieldType.long) ∈ oTB := oT3 167 rfl rfl
theorem wd_3_168 : Jvm.Cond.constantLong "OrreryTrains$Orrery" (113 : Nat) (1000000 : Int64) ∈ oTB := oT3 168 rfl rfl
theorem wd_3_170 : Jvm.Cond.methodLink "OrreryTrains$Orrery" (119 : Nat) ({ cls := "OrreryTrains$Orrery", name := "slackAbove", desc := "(I)J" } : Jvm.MethodName) ∈ oTB := oT3 170 rfl rfl
theorem wd_3_171 : Jvm.Cond.methodLink "OrreryTrains$Orrery" (122 : Nat) ({ cls := "OrreryTrains$Orrery", name := "slackBelow", desc := "(I)J" } : Jvm.MethodName) ∈ oTB := oT3 171 rfl rfl
theorem wd_3_172 : Jvm.Cond.methodLink "OrreryTrains$Orrery" (125 : Nat) ({ cls := "OrreryTrains$Orrery", name := "isRound", desc := "(I)Z" } : Jvm.MethodName) ∈ oTB := oT3 172 rfl rfl
theorem wd_3_173 : Jvm.Cond.methodLink "OrreryTrainsLaw" (124 : Nat) ({ cls := "OrreryTrains", name := "meet", desc := "(II)J" } : Jvm.MethodName) ∈ oTB := oT3 173 rfl rfl
theorem wd_3_174 : Jvm.Cond.instanceMethod ({ cls := "OrreryTrains", name := "meet", desc := "(II)J" } : Jvm.MethodName) ∈ oTB := oT3 174 rfl rfl
theorem wd_3_175 : Jvm.Cond.selects "OrreryTrains" ({ cls := "OrreryTrains", name := "meet", desc := "(II)J" } : Jvm.MethodName) ({ cls := "OrreryTrains", name := "meet", desc := "(II)J" } : Jvm.MethodName) ∈ oTB := oT3 175 rfl rfl
theorem wd_3_176 : Jvm.Cond.code ({ cls := "OrreryTrains", name := "meet", desc := "(II)J" } : Jvm.MethodName) prog_1_method_28_code (7 : Nat) (Option.some Jvm.ClassFile.FieldType.long) ∈ oTB := oT3 176 rfl rfl
theorem wd_3_177 : Jvm.Cond.methodLink "OrreryTrainsLaw" (128 : Nat) ({ cls := "OrreryTrains", name := "join", desc := "(III)I" } : Jvm.MethodName) ∈ oTB := oT3 177 rfl rfl
theorem wd_3_178 : Jvm.Cond.instanceMethod ({ cls := "OrreryTrains", name := "join", desc := "(III)I" } : Jvm.MethodName) ∈ oTB := oT3 178 rfl rfl
theorem wd_3_179 : Jvm.Cond.selects "OrreryTrains" ({ cls := "OrreryTrains", name := "join", desc := "(III)I" } : Jvm.MethodName) ({ cls := "OrreryTrains", name := "join", desc := "(III)I" } : Jvm.MethodName) ∈ oTB := oT3 179 rfl rfl
theorem wd_3_180 : Jvm.Cond.code ({ cls := "OrreryTrains", name := "join", desc := "(III)I" } : Jvm.MethodName) prog_1_method_29_code (4 : Nat) (Option.some Jvm.ClassFile.FieldType.int) ∈ oTB := oT3 180 rfl rfl
theorem wd_3_181 : Jvm.Cond.methodLink "OrreryTrains" (276 : Nat) ({ cls := "OrreryTrains", name := "turnsUntilJoined", desc := "(III)I" } : Jvm.MethodName) ∈ oTB := oT3 181 rfl rfl
theorem wd_3_183 : Jvm.Cond.instanceMethod ({ cls := "OrreryTrains", name := "turnsUntilJoined", desc := "(III)I" } : Jvm.MethodName) ∈ oTB := oT3 183 rfl rfl
theorem wd_3_184 : Jvm.Cond.code ({ cls := "OrreryTrains", name := "turnsUntilJoined", desc := "(III)I" } : Jvm.MethodName) prog_1_method_50_code (21 : Nat) (Option.some Jvm.ClassFile.FieldType.int) ∈ oTB := oT3 184 rfl rfl
theorem wd_3_185 : Jvm.Cond.methodLink "OrreryTrains" (344 : Nat) ({ cls := "java/lang/Math", name := "floorMod", desc := "(JJ)J" } : Jvm.MethodName) ∈ oTB := oT3 185 rfl rfl
theorem wd_3_186 : Jvm.Cond.static ({ cls := "java/lang/Math", name := "floorMod", desc := "(JJ)J" } : Jvm.MethodName) ∈ oTB := oT3 186 rfl rfl
theorem wd_3_187 : Jvm.Cond.code ({ cls := "java/lang/Math", name := "floorMod", desc := "(JJ)J" } : Jvm.MethodName) prog_12_method_52_code (6 : Nat) (Option.some Jvm.ClassFile.FieldType.long) ∈ oTB := oT3 187 rfl rfl
theorem wd_3_188 : Jvm.Cond.methodLink "OrreryTrains" (347 : Nat) ({ cls := "java/lang/Math", name := "min", desc := "(JJ)J" } : Jvm.MethodName) ∈ oTB := oT3 188 rfl rfl
theorem wd_3_189 : Jvm.Cond.constantLong "OrreryTrains" (280 : Nat) (1000 : Int64) ∈ oTB := oT3 189 rfl rfl
theorem wd_3_190 : Jvm.Cond.methodLink "OrreryTrainsLaw" (132 : Nat) ({ cls := "OrreryTrains", name := "drift", desc := "(II)J" } : Jvm.MethodName) ∈ oTB := oT3 190 rfl rfl
theorem wd_3_191 : Jvm.Cond.instanceMethod ({ cls := "OrreryTrains", name := "drift", desc := "(II)J" } : Jvm.MethodName) ∈ oTB := oT3 191 rfl rfl
theorem wd_3_192 : Jvm.Cond.selects "OrreryTrains" ({ cls := "OrreryTrains", name := "drift", desc := "(II)J" } : Jvm.MethodName) ({ cls := "OrreryTrains", name := "drift", desc := "(II)J" } : Jvm.MethodName) ∈ oTB := oT3 192 rfl rfl
theorem wd_3_193 : Jvm.Cond.code ({ cls := "OrreryTrains", name := "drift", desc := "(II)J" } : Jvm.MethodName) prog_1_method_30_code (3 : Nat) (Option.some Jvm.ClassFile.FieldType.long) ∈ oTB := oT3 193 rfl rfl
theorem wd_3_194 : Jvm.Cond.methodLink "OrreryTrainsLaw" (138 : Nat) ({ cls := "OrreryTrains", name := "were", desc := "(IIJI)I" } : Jvm.MethodName) ∈ oTB := oT3 194 rfl rfl
theorem wd_3_195 : Jvm.Cond.instanceMethod ({ cls := "OrreryTrains", name := "were", desc := "(IIJI)I" } : Jvm.MethodName) ∈ oTB := oT3 195 rfl rfl
theorem wd_3_196 : Jvm.Cond.selects "OrreryTrains" ({ cls := "OrreryTrains", name := "were", desc := "(IIJI)I" } : Jvm.MethodName) ({ cls := "OrreryTrains", name := "were", desc := "(IIJI)I" } : Jvm.MethodName) ∈ oTB := oT3 196 rfl rfl
theorem wd_3_197 : Jvm.Cond.code ({ cls := "OrreryTrains", name := "were", desc := "(IIJI)I" } : Jvm.MethodName) prog_1_method_31_code (10 : Nat) (Option.some Jvm.ClassFile.FieldType.int) ∈ oTB := oT3 197 rfl rfl
theorem wd_3_198 : Jvm.Cond.methodLink "OrreryTrainsLaw" (143 : Nat) ({ cls := "OrreryTrains", name := "odds", desc := "(IIII)J" } : Jvm.MethodName) ∈ oTB := oT3 198 rfl rfl
theorem wd_3_199 : Jvm.Cond.instanceMethod ({ cls := "OrreryTrains", name := "odds", desc := "(IIII)J" } : Jvm.MethodName) ∈ oTB := oT3 199 rfl rfl
theorem wd_3_200 : Jvm.Cond.selects "OrreryTrains" ({ cls := "OrreryTrains", name := "odds", desc := "(IIII)J" } : Jvm.MethodName) ({ cls := "OrreryTrains", name := "odds", desc := "(IIII)J" } : Jvm.MethodName) ∈ oTB := oT3 200 rfl rfl
theorem wd_3_201 : Jvm.Cond.code ({ cls := "OrreryTrains", name := "odds", desc := "(IIII)J" } : Jvm.MethodName) prog_1_method_32_code (7 : Nat) (Option.some Jvm.ClassFile.FieldType.long) ∈ oTB := oT3 201 rfl rfl
theorem wd_3_202 : Jvm.Cond.methodLink "OrreryTrains" (286 : Nat) ({ cls := "OrreryTrains$Orrery", name := "slips", desc := "(II)Z" } : Jvm.MethodName) ∈ oTB := oT3 202 rfl rfl
theorem wd_3_203 : Jvm.Cond.instanceMethod ({ cls := "OrreryTrains$Orrery", name := "slips", desc := "(II)Z" } : Jvm.MethodName) ∈ oTB := oT3 203 rfl rfl
theorem wd_3_204 : Jvm.Cond.selects "OrreryTrains$Orrery" ({ cls := "OrreryTrains$Orrery", name := "slips", desc := "(II)Z" } : Jvm.MethodName) ({ cls := "OrreryTrains$Orrery", name := "slips", desc := "(II)Z" } : Jvm.MethodName) ∈ oTB := oT3 204 rfl rfl
theorem wd_3_205 : Jvm.Cond.code ({ cls := "OrreryTrains$Orrery", name := "slips", desc := "(II)Z" } : Jvm.MethodName) prog_3_method_14_code (5 : Nat) (Option.some Jvm.ClassFile.FieldType.boolean) ∈ oTB := oT3 205 rfl rfl
theorem wd_3_206 : Jvm.Cond.constant "OrreryTrains$Orrery" (128 : Nat) (1103515245 : Int32) ∈ oTB := oT3 206 rfl rfl
theorem wd_3_207 : Jvm.Cond.methodLink "OrreryTrainsLaw" (148 : Nat) ({ cls := "OrreryTrains", name := "plan", desc := "(II)I" } : Jvm.MethodName) ∈ oTB := oT3 207 rfl rfl
theorem wd_3_208 : Jvm.Cond.instanceMethod ({ cls := "OrreryTrains", name := "plan", desc := "(II)I" } : Jvm.MethodName) ∈ oTB := oT3 208 rfl rfl
theorem wd_3_209 : Jvm.Cond.selects "OrreryTrains" ({ cls := "OrreryTrains", name := "plan", desc := "(II)I" } : Jvm.MethodName) ({ cls := "OrreryTrains", name := "plan", desc := "(II)I" } : Jvm.MethodName) ∈ oTB := oT3 209 rfl rfl
theorem wd_3_210 : Jvm.Cond.code ({ cls := "OrreryTrains", name := "plan", desc := "(II)I" } : Jvm.MethodName) prog_1_method_33_code (3 : Nat) (Option.some Jvm.ClassFile.FieldType.int) ∈ oTB := oT3 210 rfl rfl
theorem wd_3_211 : Jvm.Cond.methodLink "OrreryTrains" (296 : Nat) ({ cls := "OrreryTrains", name := "isPlanned", desc := "(II)Z" } : Jvm.MethodName) ∈ oTB := oT3 211 rfl rfl
theorem wd_3_212 : Jvm.Cond.static ({ cls := "OrreryTrains", name := "isPlanned", desc := "(II)Z" } : Jvm.MethodName) ∈ oTB := oT3 212 rfl rfl
theorem wd_3_213 : Jvm.Cond.code ({ cls := "OrreryTrains", name := "isPlanned", desc := "(II)Z" } : Jvm.MethodName) prog_1_method_55_code (2 : Nat) (Option.some Jvm.ClassFile.FieldType.boolean) ∈ oTB := oT3 213 rfl rfl
theorem wd_3_214 : Jvm.Cond.methodLink "OrreryTrains" (299 : Nat) ({ cls := "OrreryTrains$Plan", name := "add", desc := "(II)V" } : Jvm.MethodName) ∈ oTB := oT3 214 rfl rfl
theorem wd_3_215 : Jvm.Cond.instanceMethod ({ cls := "OrreryTrains$Plan", name := "add", desc := "(II)V" } : Jvm.MethodName) ∈ oTB := oT3 215 rfl rfl
theorem wd_3_216 : Jvm.Cond.selects "OrreryTrains$Plan" ({ cls := "OrreryTrains$Plan", name := "add", desc := "(II)V" } : Jvm.MethodName) ({ cls := "OrreryTrains$Plan", name := "add", desc := "(II)V" } : Jvm.MethodName) ∈ oTB := oT3 216 rfl rfl
theorem wd_3_217 : Jvm.Cond.code ({ cls := "OrreryTrains$Plan", name := "add", desc := "(II)V" } : Jvm.MethodName) prog_5_method_3_code (3 : Nat) (Option.none : Option Jvm.ClassFile.FieldType) ∈ oTB := oT3 217 rfl rfl
theorem wd_3_219 : Jvm.Cond.methodLink "OrreryTrainsLaw" (152 : Nat) ({ cls := "OrreryTrains", name := "ends", desc := "(I)J" } : Jvm.MethodName) ∈ oTB := oT3 219 rfl rfl
theorem wd_3_220 : Jvm.Cond.instanceMethod ({ cls := "OrreryTrains", name := "ends", desc := "(I)J" } : Jvm.MethodName) ∈ oTB := oT3 220 rfl rfl
theorem wd_3_221 : Jvm.Cond.selects "OrreryTrains" ({ cls := "OrreryTrains", name := "ends", desc := "(I)J" } : Jvm.MethodName) ({ cls := "OrreryTrains", name := "ends", desc := "(I)J" } : Jvm.MethodName) ∈ oTB := oT3 221 rfl rfl
theorem wd_3_222 : Jvm.Cond.code ({ cls := "OrreryTrains", name := "ends", desc := "(I)J" } : Jvm.MethodName) prog_1_method_34_code (3 : Nat) (Option.some Jvm.ClassFile.FieldType.long) ∈ oTB := oT3 222 rfl rfl
theorem wd_3_223 : Jvm.Cond.methodLink "OrreryTrains" (302 : Nat) ({ cls := "OrreryTrains$Orrery", name := "followPlan", desc := "()V" } : Jvm.MethodName) ∈ oTB := oT3 223 rfl rfl
theorem wd_3_224 : Jvm.Cond.instanceMethod ({ cls := "OrreryTrains$Orrery", name := "followPlan", desc := "()V" } : Jvm.MethodName) ∈ oTB := oT3 224 rfl rfl
theorem wd_3_225 : Jvm.Cond.selects "OrreryTrains$Orrery" ({ cls := "OrreryTrains$Orrery", name := "followPlan", desc := "()V" } : Jvm.MethodName) ({ cls := "OrreryTrains$Orrery", name := "followPlan", desc := "()V" } : Jvm.MethodName) ∈ oTB := oT3 225 rfl rfl
theorem wd_3_226 : Jvm.Cond.code ({ cls := "OrreryTrains$Orrery", name := "followPlan", desc := "()V" } : Jvm.MethodName) prog_3_method_16_code (4 : Nat) (Option.none : Option Jvm.ClassFile.FieldType) ∈ oTB := oT3 226 rfl rfl
theorem wd_3_227 : Jvm.Cond.methodLink "OrreryTrains$Orrery" (146 : Nat) ({ cls := "OrreryTrains$Orrery", name := "crankBy", desc := "(I)V" } : Jvm.MethodName) ∈ oTB := oT3 227 rfl rfl
theorem wd_3_228 : Jvm.Cond.methodLink "OrreryTrains$Orrery" (150 : Nat) ({ cls := "OrreryTrains$Orrery", name := "hasTrain", desc := "(I)Z" } : Jvm.MethodName) ∈ oTB := oT3 228 rfl rfl
theorem wd_3_229 : Jvm.Cond.methodLink "OrreryTrains$Orrery" (153 : Nat) ({ cls := "OrreryTrains$Trains", name := "turnAbout", desc := "(I)V" } : Jvm.MethodName) ∈ oTB := oT3 229 rfl rfl
theorem wd_3_230 : Jvm.Cond.instanceMethod ({ cls := "OrreryTrains$Trains", name := "turnAbout", desc := "(I)V" } : Jvm.MethodName) ∈ oTB := oT3 230 rfl rfl
theorem wd_3_231 : Jvm.Cond.selects "OrreryTrains$Trains" ({ cls := "OrreryTrains$Trains", name := "turnAbout", desc := "(I)V" } : Jvm.MethodName) ({ cls := "OrreryTrains$Trains", name := "turnAbout", desc := "(I)V" } : Jvm.MethodName) ∈ oTB := oT3 231 rfl rfl
theorem wd_3_232 : Jvm.Cond.code ({ cls := "OrreryTrains$Trains", name := "turnAbout", desc := "(I)V" } : Jvm.MethodName) prog_9_method_7_code (4 : Nat) (Option.none : Option Jvm.ClassFile.FieldType) ∈ oTB := oT3 232 rfl rfl
theorem wd_3_233 : Jvm.Cond.methodLink "OrreryTrains$Trains" (38 : Nat) ({ cls := "OrreryTrains$Trains", name := "become", desc := "(III)V" } : Jvm.MethodName) ∈ oTB := oT3 233 rfl rfl
theorem wd_3_234 : Jvm.Cond.methodLink "OrreryTrains$Orrery" (156 : Nat) ({ cls := "OrreryTrains$Pairs", name := "has", desc := "(I)Z" } : Jvm.MethodName) ∈ oTB := oT3 234 rfl rfl
theorem wd_3_235 : Jvm.Cond.methodLink "OrreryTrains$Orrery" (159 : Nat) ({ cls := "OrreryTrains$Pairs", name := "changeWheels", desc := "(I)V" } : Jvm.MethodName) ∈ oTB := oT3 235 rfl rfl
theorem wd_3_236 : Jvm.Cond.instanceMethod ({ cls := "OrreryTrains$Pairs", name := "changeWheels", desc := "(I)V" } : Jvm.MethodName) ∈ oTB := oT3 236 rfl rfl
theorem wd_3_237 : Jvm.Cond.selects "OrreryTrains$Pairs" ({ cls := "OrreryTrains$Pairs", name := "changeWheels", desc := "(I)V" } : Jvm.MethodName) ({ cls := "OrreryTrains$Pairs", name := "changeWheels", desc := "(I)V" } : Jvm.MethodName) ∈ oTB := oT3 237 rfl rfl
theorem wd_3_238 : Jvm.Cond.code ({ cls := "OrreryTrains$Pairs", name := "changeWheels", desc := "(I)V" } : Jvm.MethodName) prog_4_method_7_code (3 : Nat) (Option.none : Option Jvm.ClassFile.FieldType) ∈ oTB := oT3 238 rfl rfl
theorem wd_3_239 : Jvm.Cond.methodLink "OrreryTrainsLaw" (156 : Nat) ({ cls := "OrreryTrains", name := "writePair", desc := "(I)I" } : Jvm.MethodName) ∈ oTB := oT3 239 rfl rfl
theorem wd_4_0 : Jvm.Cond.instanceMethod ({ cls := "OrreryTrains", name := "writePair", desc := "(I)I" } : Jvm.MethodName) ∈ oTB := oT4 0 rfl rfl
theorem wd_4_1 : Jvm.Cond.selects "OrreryTrains" ({ cls := "OrreryTrains", name := "writePair", desc := "(I)I" } : Jvm.MethodName) ({ cls := "OrreryTrains", name := "writePair", desc := "(I)I" } : Jvm.MethodName) ∈ oTB := oT4 1 rfl rfl
theorem wd_4_2 : Jvm.Cond.code ({ cls := "OrreryTrains", name := "writePair", desc := "(I)I" } : Jvm.MethodName) prog_1_method_35_code (2 : Nat) (Option.some Jvm.ClassFile.FieldType.int) ∈ oTB := oT4 2 rfl rfl
theorem wd_4_3 : Jvm.Cond.methodLink "OrreryTrains" (306 : Nat) ({ cls := "OrreryTrains", name := "kindLetter", desc := "(I)I" } : Jvm.MethodName) ∈ oTB := oT4 3 rfl rfl
theorem wd_4_4 : Jvm.Cond.static ({ cls := "OrreryTrains", name := "kindLetter", desc := "(I)I" } : Jvm.MethodName) ∈ oTB := oT4 4 rfl rfl
theorem wd_4_5 : Jvm.Cond.code ({ cls := "OrreryTrains", name := "kindLetter", desc := "(I)I" } : Jvm.MethodName) prog_1_method_59_code (1 : Nat) (Option.some Jvm.ClassFile.FieldType.int) ∈ oTB := oT4 5 rfl rfl
theorem wd_4_6 : Jvm.Cond.methodLink "OrreryTrains" (309 : Nat) ({ cls := "OrreryTrains$Sheet", name := "add", desc := "(I)V" } : Jvm.MethodName) ∈ oTB := oT4 6 rfl rfl
theorem wd_4_7 : Jvm.Cond.instanceMethod ({ cls := "OrreryTrains$Sheet", name := "add", desc := "(I)V" } : Jvm.MethodName) ∈ oTB := oT4 7 rfl rfl
theorem wd_4_8 : Jvm.Cond.selects "OrreryTrains$Sheet" ({ cls := "OrreryTrains$Sheet", name := "add", desc := "(I)V" } : Jvm.MethodName) ({ cls := "OrreryTrains$Sheet", name := "add", desc := "(I)V" } : Jvm.MethodName) ∈ oTB := oT4 8 rfl rfl
theorem wd_4_9 : Jvm.Cond.code ({ cls := "OrreryTrains$Sheet", name := "add", desc := "(I)V" } : Jvm.MethodName) prog_7_method_2_code (2 : Nat) (Option.none : Option Jvm.ClassFile.FieldType) ∈ oTB := oT4 9 rfl rfl
theorem wd_4_11 : Jvm.Cond.methodLink "OrreryTrains" (311 : Nat) ({ cls := "OrreryTrains$Sheet", name := "addTwoFigures", desc := "(I)V" } : Jvm.MethodName) ∈ oTB := oT4 11 rfl rfl
theorem wd_4_12 : Jvm.Cond.instanceMethod ({ cls := "OrreryTrains$Sheet", name := "addTwoFigures", desc := "(I)V" } : Jvm.MethodName) ∈ oTB := oT4 12 rfl rfl
theorem wd_4_13 : Jvm.Cond.selects "OrreryTrains$Sheet" ({ cls := "OrreryTrains$Sheet", name := "addTwoFigures", desc := "(I)V" } : Jvm.MethodName) ({ cls := "OrreryTrains$Sheet", name := "addTwoFigures", desc := "(I)V" } : Jvm.MethodName) ∈ oTB := oT4 13 rfl rfl
theorem wd_4_14 : Jvm.Cond.code ({ cls := "OrreryTrains$Sheet", name := "addTwoFigures", desc := "(I)V" } : Jvm.MethodName) prog_7_method_3_code (2 : Nat) (Option.none : Option Jvm.ClassFile.FieldType) ∈ oTB := oT4 14 rfl rfl
theorem wd_4_15 : Jvm.Cond.methodLink "OrreryTrains$Sheet" (23 : Nat) ({ cls := "OrreryTrains$Sheet", name := "add", desc := "(I)V" } : Jvm.MethodName) ∈ oTB := oT4 15 rfl rfl
theorem wd_4_16 : Jvm.Cond.methodLink "OrreryTrainsLaw" (160 : Nat) ({ cls := "OrreryTrains", name := "writeTrain", desc := "(I)I" } : Jvm.MethodName) ∈ oTB := oT4 16 rfl rfl
theorem wd_4_17 : Jvm.Cond.instanceMethod ({ cls := "OrreryTrains", name := "writeTrain", desc := "(I)I" } : Jvm.MethodName) ∈ oTB := oT4 17 rfl rfl
theorem wd_4_18 : Jvm.Cond.selects "OrreryTrains" ({ cls := "OrreryTrains", name := "writeTrain", desc := "(I)I" } : Jvm.MethodName) ({ cls := "OrreryTrains", name := "writeTrain", desc := "(I)I" } : Jvm.MethodName) ∈ oTB := oT4 18 rfl rfl
theorem wd_4_19 : Jvm.Cond.code ({ cls := "OrreryTrains", name := "writeTrain", desc := "(I)I" } : Jvm.MethodName) prog_1_method_36_code (3 : Nat) (Option.some Jvm.ClassFile.FieldType.int) ∈ oTB := oT4 19 rfl rfl
theorem wd_4_20 : Jvm.Cond.methodLink "OrreryTrainsLaw" (164 : Nat) ({ cls := "OrreryTrains", name := "paper", desc := "(I)I" } : Jvm.MethodName) ∈ oTB := oT4 20 rfl rfl
theorem wd_4_21 : Jvm.Cond.instanceMethod ({ cls := "OrreryTrains", name := "paper", desc := "(I)I" } : Jvm.MethodName) ∈ oTB := oT4 21 rfl rfl
theorem wd_4_22 : Jvm.Cond.selects "OrreryTrains" ({ cls := "OrreryTrains", name := "paper", desc := "(I)I" } : Jvm.MethodName) ({ cls := "OrreryTrains", name := "paper", desc := "(I)I" } : Jvm.MethodName) ∈ oTB := oT4 22 rfl rfl
theorem wd_4_23 : Jvm.Cond.code ({ cls := "OrreryTrains", name := "paper", desc := "(I)I" } : Jvm.MethodName) prog_1_method_37_code (2 : Nat) (Option.some Jvm.ClassFile.FieldType.int) ∈ oTB := oT4 23 rfl rfl
theorem wd_4_24 : Jvm.Cond.methodLink "OrreryTrainsLaw" (168 : Nat) ({ cls := "OrreryTrains", name := "judge", desc := "(I)I" } : Jvm.MethodName) ∈ oTB := oT4 24 rfl rfl
theorem wd_4_25 : Jvm.Cond.instanceMethod ({ cls := "OrreryTrains", name := "judge", desc := "(I)I" } : Jvm.MethodName) ∈ oTB := oT4 25 rfl rfl
theorem wd_4_26 : Jvm.Cond.selects "OrreryTrains" ({ cls := "OrreryTrains", name := "judge", desc := "(I)I" } : Jvm.MethodName) ({ cls := "OrreryTrains", name := "judge", desc := "(I)I" } : Jvm.MethodName) ∈ oTB := oT4 26 rfl rfl
theorem wd_4_27 : Jvm.Cond.code ({ cls := "OrreryTrains", name := "judge", desc := "(I)I" } : Jvm.MethodName) prog_1_method_38_code (5 : Nat) (Option.some Jvm.ClassFile.FieldType.int) ∈ oTB := oT4 27 rfl rfl
theorem wd_4_28 : Jvm.Cond.methodLink "OrreryTrains" (315 : Nat) ({ cls := "OrreryTrains$Rows", name := "has", desc := "(I)Z" } : Jvm.MethodName) ∈ oTB := oT4 28 rfl rfl
theorem wd_4_29 : Jvm.Cond.instanceMethod ({ cls := "OrreryTrains$Rows", name := "has", desc := "(I)Z" } : Jvm.MethodName) ∈ oTB := oT4 29 rfl rfl
theorem wd_4_30 : Jvm.Cond.selects "OrreryTrains$Rows" ({ cls := "OrreryTrains$Rows", name := "has", desc := "(I)Z" } : Jvm.MethodName) ({ cls := "OrreryTrains$Rows", name := "has", desc := "(I)Z" } : Jvm.MethodName) ∈ oTB := oT4 30 rfl rfl
theorem wd_4_31 : Jvm.Cond.code ({ cls := "OrreryTrains$Rows", name := "has", desc := "(I)Z" } : Jvm.MethodName) prog_6_method_2_code (2 : Nat) (Option.some Jvm.ClassFile.FieldType.boolean) ∈ oTB := oT4 31 rfl rfl
theorem wd_4_32 : Jvm.Cond.methodLink "OrreryTrains" (316 : Nat) ({ cls := "OrreryTrains$Rows", name := "isHeld", desc := "(I)Z" } : Jvm.MethodName) ∈ oTB := oT4 32 rfl rfl
theorem wd_4_33 : Jvm.Cond.instanceMethod ({ cls := "OrreryTrains$Rows", name := "isHeld", desc := "(I)Z" } : Jvm.MethodName) ∈ oTB := oT4 33 rfl rfl
theorem wd_4_34 : Jvm.Cond.selects "OrreryTrains$Rows" ({ cls := "OrreryTrains$Rows", name := "isHeld", desc := "(I)Z" } : Jvm.MethodName) ({ cls := "OrreryTrains$Rows", name := "isHeld", desc := "(I)Z" } : Jvm.MethodName) ∈ oTB := oT4 34 rfl rfl
theorem wd_4_35 : Jvm.Cond.code ({ cls := "OrreryTrains$Rows", name := "isHeld", desc := "(I)Z" } : Jvm.MethodName) prog_6_method_3_code (2 : Nat) (Option.some Jvm.ClassFile.FieldType.boolean) ∈ oTB := oT4 35 rfl rfl
theorem wd_4_37 : Jvm.Cond.methodLink "OrreryTrains" (319 : Nat) ({ cls := "OrreryTrains$Rows", name := "size", desc := "(I)I" } : Jvm.MethodName) ∈ oTB := oT4 37 rfl rfl
theorem wd_4_38 : Jvm.Cond.instanceMethod ({ cls := "OrreryTrains$Rows", name := "size", desc := "(I)I" } : Jvm.MethodName) ∈ oTB := oT4 38 rfl rfl
theorem wd_4_39 : Jvm.Cond.selects "OrreryTrains$Rows" ({ cls := "OrreryTrains$Rows", name := "size", desc := "(I)I" } : Jvm.MethodName) ({ cls := "OrreryTrains$Rows", name := "size", desc := "(I)I" } : Jvm.MethodName) ∈ oTB := oT4 39 rfl rfl
theorem wd_4_40 : Jvm.Cond.code ({ cls := "OrreryTrains$Rows", name := "size", desc := "(I)I" } : Jvm.MethodName) prog_6_method_4_code (2 : Nat) (Option.some Jvm.ClassFile.FieldType.int) ∈ oTB := oT4 40 rfl rfl
theorem wd_4_41 : Jvm.Cond.methodLink "OrreryTrains$Rows" (23 : Nat) ({ cls := "OrreryTrains$Rows", name := "isHeld", desc := "(I)Z" } : Jvm.MethodName) ∈ oTB := oT4 41 rfl rfl
theorem wd_4_42 : Jvm.Cond.methodLink "OrreryTrains" (321 : Nat) ({ cls := "OrreryTrains$Rows", name := "cell", desc := "(II)J" } : Jvm.MethodName) ∈ oTB := oT4 42 rfl rfl
theorem wd_4_43 : Jvm.Cond.instanceMethod ({ cls := "OrreryTrains$Rows", name := "cell", desc := "(II)J" } : Jvm.MethodName) ∈ oTB := oT4 43 rfl rfl
theorem wd_4_44 : Jvm.Cond.selects "OrreryTrains$Rows" ({ cls := "OrreryTrains$Rows", name := "cell", desc := "(II)J" } : Jvm.MethodName) ({ cls := "OrreryTrains$Rows", name := "cell", desc := "(II)J" } : Jvm.MethodName) ∈ oTB := oT4 44 rfl rfl
theorem wd_4_45 : Jvm.Cond.code ({ cls := "OrreryTrains$Rows", name := "cell", desc := "(II)J" } : Jvm.MethodName) prog_6_method_6_code (4 : Nat) (Option.some Jvm.ClassFile.FieldType.long) ∈ oTB := oT4 45 rfl rfl
theorem wd_4_46 : Jvm.Cond.methodLink "OrreryTrainsLaw" (172 : Nat) ({ cls := "OrreryTrains", name := "list", desc := "(II)I" } : Jvm.MethodName) ∈ oTB := oT4 46 rfl rfl
theorem wd_4_47 : Jvm.Cond.instanceMethod ({ cls := "OrreryTrains", name := "list", desc := "(II)I" } : Jvm.MethodName) ∈ oTB := oT4 47 rfl rfl
theorem wd_4_48 : Jvm.Cond.selects "OrreryTrains" ({ cls := "OrreryTrains", name := "list", desc := "(II)I" } : Jvm.MethodName) ({ cls := "OrreryTrains", name := "list", desc := "(II)I" } : Jvm.MethodName) ∈ oTB := oT4 48 rfl rfl
theorem wd_4_49 : Jvm.Cond.code ({ cls := "OrreryTrains", name := "list", desc := "(II)I" } : Jvm.MethodName) prog_1_method_39_code (3 : Nat) (Option.some Jvm.ClassFile.FieldType.int) ∈ oTB := oT4 49 rfl rfl
theorem wd_4_50 : Jvm.Cond.methodLink "OrreryTrains" (325 : Nat) ({ cls := "OrreryTrains$Rows", name := "hold", desc := "(II)V" } : Jvm.MethodName) ∈ oTB := oT4 50 rfl rfl
theorem wd_4_51 : Jvm.Cond.instanceMethod ({ cls := "OrreryTrains$Rows", name := "hold", desc := "(II)V" } : Jvm.MethodName) ∈ oTB := oT4 51 rfl rfl
theorem wd_4_52 : Jvm.Cond.selects "OrreryTrains$Rows" ({ cls := "OrreryTrains$Rows", name := "hold", desc := "(II)V" } : Jvm.MethodName) ({ cls := "OrreryTrains$Rows", name := "hold", desc := "(II)V" } : Jvm.MethodName) ∈ oTB := oT4 52 rfl rfl
theorem wd_4_53 : Jvm.Cond.code ({ cls := "OrreryTrains$Rows", name := "hold", desc := "(II)V" } : Jvm.MethodName) prog_6_method_5_code (4 : Nat) (Option.none : Option Jvm.ClassFile.FieldType) ∈ oTB := oT4 53 rfl rfl
theorem wd_4_55 : Jvm.Cond.methodLink "OrreryTrains$Rows" (31 : Nat) ({ cls := "OrreryTrains$Rows", name := "fill", desc := "(IIJ)V" } : Jvm.MethodName) ∈ oTB := oT4 55 rfl rfl
theorem wd_4_56 : Jvm.Cond.instanceMethod ({ cls := "OrreryTrains$Rows", name := "fill", desc := "(IIJ)V" } : Jvm.MethodName) ∈ oTB := oT4 56 rfl rfl
theorem wd_4_57 : Jvm.Cond.selects "OrreryTrains$Rows" ({ cls := "OrreryTrains$Rows", name := "fill", desc := "(IIJ)V" } : Jvm.MethodName) ({ cls := "OrreryTrains$Rows", name := "fill", desc := "(IIJ)V" } : Jvm.MethodName) ∈ oTB := oT4 57 rfl rfl
theorem wd_4_58 : Jvm.Cond.code ({ cls := "OrreryTrains$Rows", name := "fill", desc := "(IIJ)V" } : Jvm.MethodName) prog_6_method_7_code (6 : Nat) (Option.none : Option Jvm.ClassFile.FieldType) ∈ oTB := oT4 58 rfl rfl
theorem wd_4_59 : Jvm.Cond.methodLink "OrreryTrainsLaw" (176 : Nat) ({ cls := "OrreryTrains", name := "put", desc := "(IIJ)I" } : Jvm.MethodName) ∈ oTB := oT4 59 rfl rfl
theorem wd_4_60 : Jvm.Cond.instanceMethod ({ cls := "OrreryTrains", name := "put", desc := "(IIJ)I" } : Jvm.MethodName) ∈ oTB := oT4 60 rfl rfl
theorem wd_4_61 : Jvm.Cond.selects "OrreryTrains" ({ cls := "OrreryTrains", name := "put", desc := "(IIJ)I" } : Jvm.MethodName) ({ cls := "OrreryTrains", name := "put", desc := "(IIJ)I" } : Jvm.MethodName) ∈ oTB := oT4 61 rfl rfl
theorem wd_4_62 : Jvm.Cond.code ({ cls := "OrreryTrains", name := "put", desc := "(IIJ)I" } : Jvm.MethodName) prog_1_method_40_code (5 : Nat) (Option.some Jvm.ClassFile.FieldType.int) ∈ oTB := oT4 62 rfl rfl
theorem wd_4_63 : Jvm.Cond.methodLink "OrreryTrains" (328 : Nat) ({ cls := "OrreryTrains$Rows", name := "fill", desc := "(IIJ)V" } : Jvm.MethodName) ∈ oTB := oT4 63 rfl rfl
theorem wd_4_64 : Jvm.Cond.methodLink "OrreryTrainsLaw" (181 : Nat) ({ cls := "OrreryTrains", name := "get", desc := "(II)J" } : Jvm.MethodName) ∈ oTB := oT4 64 rfl rfl
theorem wd_4_65 : Jvm.Cond.instanceMethod ({ cls := "OrreryTrains", name := "get", desc := "(II)J" } : Jvm.MethodName) ∈ oTB := oT4 65 rfl rfl
theorem wd_4_66 : Jvm.Cond.selects "OrreryTrains" ({ cls := "OrreryTrains", name := "get", desc := "(II)J" } : Jvm.MethodName) ({ cls := "OrreryTrains", name := "get", desc := "(II)J" } : Jvm.MethodName) ∈ oTB := oT4 66 rfl rfl
theorem wd_4_67 : Jvm.Cond.code ({ cls := "OrreryTrains", name := "get", desc := "(II)J" } : Jvm.MethodName) prog_1_method_41_code (3 : Nat) (Option.some Jvm.ClassFile.FieldType.long) ∈ oTB := oT4 67 rfl rfl
theorem wd_4_68 : Jvm.Cond.methodLink "OrreryTrainsLaw" (185 : Nat) ({ cls := "OrreryTrains", name := "image", desc := "()I" } : Jvm.MethodName) ∈ oTB := oT4 68 rfl rfl
theorem wd_4_69 : Jvm.Cond.instanceMethod ({ cls := "OrreryTrains", name := "image", desc := "()I" } : Jvm.MethodName) ∈ oTB := oT4 69 rfl rfl
theorem wd_4_70 : Jvm.Cond.selects "OrreryTrains" ({ cls := "OrreryTrains", name := "image", desc := "()I" } : Jvm.MethodName) ({ cls := "OrreryTrains", name := "image", desc := "()I" } : Jvm.MethodName) ∈ oTB := oT4 70 rfl rfl
theorem wd_4_71 : Jvm.Cond.code ({ cls := "OrreryTrains", name := "image", desc := "()I" } : Jvm.MethodName) prog_1_method_42_code (1 : Nat) (Option.some Jvm.ClassFile.FieldType.int) ∈ oTB := oT4 71 rfl rfl
theorem wd_4_72 : Jvm.Cond.methodLink "OrreryTrainsLaw" (189 : Nat) ({ cls := "OrreryTrains", name := "undo", desc := "()I" } : Jvm.MethodName) ∈ oTB := oT4 72 rfl rfl
theorem wd_4_73 : Jvm.Cond.instanceMethod ({ cls := "OrreryTrains", name := "undo", desc := "()I" } : Jvm.MethodName) ∈ oTB := oT4 73 rfl rfl
theorem wd_4_74 : Jvm.Cond.selects "OrreryTrains" ({ cls := "OrreryTrains", name := "undo", desc := "()I" } : Jvm.MethodName) ({ cls := "OrreryTrains", name := "undo", desc := "()I" } : Jvm.MethodName) ∈ oTB := oT4 74 rfl rfl
theorem wd_4_75 : Jvm.Cond.code ({ cls := "OrreryTrains", name := "undo", desc := "()I" } : Jvm.MethodName) prog_1_method_43_code (1 : Nat) (Option.some Jvm.ClassFile.FieldType.int) ∈ oTB := oT4 75 rfl rfl
theorem wd_4_76 : Jvm.Cond.methodLink "OrreryTrainsLaw" (193 : Nat) ({ cls := "OrreryTrains", name := "count", desc := "(I)I" } : Jvm.MethodName) ∈ oTB := oT4 76 rfl rfl
theorem wd_4_77 : Jvm.Cond.instanceMethod ({ cls := "OrreryTrains", name := "count", desc := "(I)I" } : Jvm.MethodName) ∈ oTB := oT4 77 rfl rfl
theorem wd_4_78 : Jvm.Cond.selects "OrreryTrains" ({ cls := "OrreryTrains", name := "count", desc := "(I)I" } : Jvm.MethodName) ({ cls := "OrreryTrains", name := "count", desc := "(I)I" } : Jvm.MethodName) ∈ oTB := oT4 78 rfl rfl
theorem wd_4_79 : Jvm.Cond.code ({ cls := "OrreryTrains", name := "count", desc := "(I)I" } : Jvm.MethodName) prog_1_method_44_code (2 : Nat) (Option.some Jvm.ClassFile.FieldType.int) ∈ oTB := oT4 79 rfl rfl
theorem wd_4_80 : Jvm.Cond.methodLink "OrreryTrains" (332 : Nat) ({ cls := "OrreryTrains$Trains", name := "number", desc := "()I" } : Jvm.MethodName) ∈ oTB := oT4 80 rfl rfl
theorem wd_4_81 : Jvm.Cond.instanceMethod ({ cls := "OrreryTrains$Trains", name := "number", desc := "()I" } : Jvm.MethodName) ∈ oTB := oT4 81 rfl rfl
theorem wd_4_82 : Jvm.Cond.selects "OrreryTrains$Trains" ({ cls := "OrreryTrains$Trains", name := "number", desc := "()I" } : Jvm.MethodName) ({ cls := "OrreryTrains$Trains", name := "number", desc := "()I" } : Jvm.MethodName) ∈ oTB := oT4 82 rfl rfl
theorem wd_4_83 : Jvm.Cond.code ({ cls := "OrreryTrains$Trains", name := "number", desc := "()I" } : Jvm.MethodName) prog_9_method_8_code (3 : Nat) (Option.some Jvm.ClassFile.FieldType.int) ∈ oTB := oT4 83 rfl rfl
theorem wd_4_84 : Jvm.Cond.classLink "OrreryTrainsLaw" (10 : Nat) "OrreryTrainsModel" ∈ oTB := oT4 84 rfl rfl
theorem wd_4_85 : Jvm.Cond.instantiable "OrreryTrainsModel" (22 : Nat) ∈ oTB := oT4 85 rfl rfl
theorem wd_4_86 : Jvm.Cond.methodLink "OrreryTrainsLaw" (12 : Nat) ({ cls := "OrreryTrainsModel", name := "<init>", desc := "()V" } : Jvm.MethodName) ∈ oTB := oT4 86 rfl rfl
theorem wd_4_87 : Jvm.Cond.instanceMethod ({ cls := "OrreryTrainsModel", name := "<init>", desc := "()V" } : Jvm.MethodName) ∈ oTB := oT4 87 rfl rfl
theorem wd_4_88 : Jvm.Cond.code ({ cls := "OrreryTrainsModel", name := "<init>", desc := "()V" } : Jvm.MethodName) prog_11_method_1_code (2 : Nat) (Option.none : Option Jvm.ClassFile.FieldType) ∈ oTB := oT4 88 rfl rfl
theorem wd_4_89 : Jvm.Cond.methodLink "OrreryTrainsModel" (3 : Nat) ({ cls := "java/lang/Object", name := "<init>", desc := "()V" } : Jvm.MethodName) ∈ oTB := oT4 89 rfl rfl
theorem wd_4_90 : Jvm.Cond.fieldLink "OrreryTrainsModel" (11 : Nat) "OrreryTrainsModel" "s" "[I" ∈ oTB := oT4 90 rfl rfl
theorem wd_4_91 : Jvm.Cond.fieldLink "OrreryTrainsModel" (15 : Nat) "OrreryTrainsModel" "kept" "[I" ∈ oTB := oT4 91 rfl rfl
theorem wd_4_92 : Jvm.Cond.fieldLink "OrreryTrainsModel" (18 : Nat) "OrreryTrainsModel" "aside" "[I" ∈ oTB := oT4 92 rfl rfl
theorem wd_4_93 : Jvm.Cond.fieldLink "OrreryTrainsModel" (270 : Nat) "OrreryTrainsModel" "isKept" "Z" ∈ oTB := oT4 93 rfl rfl
theorem wd_4_94 : Jvm.Cond.fieldLink "OrreryTrainsModel" (21 : Nat) "OrreryTrainsModel" "tape" "[I" ∈ oTB := oT4 94 rfl rfl
theorem wd_4_95 : Jvm.Cond.fieldLink "OrreryTrainsModel" (24 : Nat) "OrreryTrainsModel" "paper" "[I" ∈ oTB := oT4 95 rfl rfl
theorem wd_4_96 : Jvm.Cond.fieldLink "OrreryTrainsModel" (27 : Nat) "OrreryTrainsModel" "size" "[I" ∈ oTB := oT4 96 rfl rfl
theorem wd_4_97 : Jvm.Cond.fieldLink "OrreryTrainsModel" (30 : Nat) "OrreryTrainsModel" "items" "[J" ∈ oTB := oT4 97 rfl rfl
theorem wd_4_98 : Jvm.Cond.fieldLink "OrreryTrainsModel" (92 : Nat) "OrreryTrainsModel" "taped" "I" ∈ oTB := oT4 98 rfl rfl
theorem wd_4_99 : Jvm.Cond.fieldLink "OrreryTrainsModel" (262 : Nat) "OrreryTrainsModel" "written" "I" ∈ oTB := oT4 99 rfl rfl
theorem wd_4_100 : Jvm.Cond.fieldLink "OrreryTrainsModel" (34 : Nat) "OrreryTrainsModel" "term" "[I" ∈ oTB := oT4 100 rfl rfl
theorem wd_4_101 : Jvm.Cond.fieldLink "OrreryTrainsModel" (96 : Nat) "OrreryTrainsModel" "at" "I" ∈ oTB := oT4 101 rfl rfl
theorem wd_4_102 : Jvm.Cond.fieldLink "OrreryTrainsModel" (99 : Nat) "OrreryTrainsModel" "fault" "I" ∈ oTB := oT4 102 rfl rfl
theorem wd_4_103 : Jvm.Cond.fieldLink "OrreryTrainsModel" (37 : Nat) "OrreryTrainsModel" "read" "[I" ∈ oTB := oT4 103 rfl rfl
theorem wd_4_104 : Jvm.Cond.fieldLink "OrreryTrainsModel" (182 : Nat) "OrreryTrainsModel" "foundMany" "I" ∈ oTB := oT4 104 rfl rfl
theorem wd_4_105 : Jvm.Cond.fieldLink "OrreryTrainsModel" (192 : Nat) "OrreryTrainsModel" "foundTeeth" "I" ∈ oTB := oT4 105 rfl rfl
theorem wd_4_106 : Jvm.Cond.fieldLink "OrreryTrainsModel" (195 : Nat) "OrreryTrainsModel" "foundOne" "I" ∈ oTB := oT4 106 rfl rfl
theorem wd_4_107 : Jvm.Cond.fieldLink "OrreryTrainsModel" (198 : Nat) "OrreryTrainsModel" "foundTwo" "I" ∈ oTB := oT4 107 rfl rfl
theorem wd_4_108 : Jvm.Cond.fieldLink "OrreryTrainsModel" (201 : Nat) "OrreryTrainsModel" "foundThree" "I" ∈ oTB := oT4 108 rfl rfl
theorem wd_4_109 : Jvm.Cond.fieldLink "OrreryTrainsModel" (204 : Nat) "OrreryTrainsModel" "foundFour" "I" ∈ oTB := oT4 109 rfl rfl
theorem wd_4_110 : Jvm.Cond.fieldLink "OrreryTrainsModel" (189 : Nat) "OrreryTrainsModel" "foundOff" "J" ∈ oTB := oT4 110 rfl rfl
theorem wd_4_111 : Jvm.Cond.fieldLink "OrreryTrainsModel" (185 : Nat) "OrreryTrainsModel" "foundLine" "J" ∈ oTB := oT4 111 rfl rfl
theorem wd_4_157 : Jvm.Cond.methodLink "OrreryTrainsLaw" (17 : Nat) ({ cls := "OrreryTrainsModel", name := "body", desc := "(II)I" } : Jvm.MethodName) ∈ oTB := oT4 157 rfl rfl
theorem wd_4_158 : Jvm.Cond.instanceMethod ({ cls := "OrreryTrainsModel", name := "body", desc := "(II)I" } : Jvm.MethodName) ∈ oTB := oT4 158 rfl rfl
theorem wd_4_159 : Jvm.Cond.selects "OrreryTrainsModel" ({ cls := "OrreryTrainsModel", name := "body", desc := "(II)I" } : Jvm.MethodName) ({ cls := "OrreryTrainsModel", name := "body", desc := "(II)I" } : Jvm.MethodName) ∈ oTB := oT4 159 rfl rfl
theorem wd_4_160 : Jvm.Cond.code ({ cls := "OrreryTrainsModel", name := "body", desc := "(II)I" } : Jvm.MethodName) prog_11_method_9_code (3 : Nat) (Option.some Jvm.ClassFile.FieldType.int) ∈ oTB := oT4 160 rfl rfl
theorem wd_4_161 : Jvm.Cond.methodLink "OrreryTrainsModel" (54 : Nat) ({ cls := "OrreryTrainsModel", name := "isRatio", desc := "(II)Z" } : Jvm.MethodName) ∈ oTB := oT4 161 rfl rfl
theorem wd_4_162 : Jvm.Cond.static ({ cls := "OrreryTrainsModel", name := "isRatio", desc := "(II)Z" } : Jvm.MethodName) ∈ oTB := oT4 162 rfl rfl
theorem wd_4_163 : Jvm.Cond.code ({ cls := "OrreryTrainsModel", name := "isRatio", desc := "(II)Z" } : Jvm.MethodName) prog_11_method_7_code (2 : Nat) (Option.some Jvm.ClassFile.FieldType.boolean) ∈ oTB := oT4 163 rfl rfl
theorem wd_4_164 : Jvm.Cond.constantLong "OrreryTrainsModel" (48 : Nat) (9999 : Int64) ∈ oTB := oT4 164 rfl rfl
theorem wd_4_165 : Jvm.Cond.methodLink "OrreryTrainsModel" (44 : Nat) ({ cls := "OrreryTrainsModel", name := "isIn", desc := "(JJJ)Z" } : Jvm.MethodName) ∈ oTB := oT4 165 rfl rfl
theorem wd_4_166 : Jvm.Cond.static ({ cls := "OrreryTrainsModel", name := "isIn", desc := "(JJJ)Z" } : Jvm.MethodName) ∈ oTB := oT4 166 rfl rfl
theorem wd_4_167 : Jvm.Cond.code ({ cls := "OrreryTrainsModel", name := "isIn", desc := "(JJJ)Z" } : Jvm.MethodName) prog_11_method_2_code (6 : Nat) (Option.some Jvm.ClassFile.FieldType.boolean) ∈ oTB := oT4 167 rfl rfl
theorem wd_4_168 : Jvm.Cond.methodLink "OrreryTrainsModel" (58 : Nat) ({ cls := "OrreryTrainsModel", name := "becomesRatio", desc := "(III)V" } : Jvm.MethodName) ∈ oTB := oT4 168 rfl rfl
theorem wd_4_170 : Jvm.Cond.instanceMethod ({ cls := "OrreryTrainsModel", name := "becomesRatio", desc := "(III)V" } : Jvm.MethodName) ∈ oTB := oT4 170 rfl rfl
theorem wd_4_171 : Jvm.Cond.code ({ cls := "OrreryTrainsModel", name := "becomesRatio", desc := "(III)V" } : Jvm.MethodName) prog_11_method_8_code (4 : Nat) (Option.none : Option Jvm.ClassFile.FieldType) ∈ oTB := oT4 171 rfl rfl
theorem wd_4_172 : Jvm.Cond.methodLink "OrreryTrainsModel" (50 : Nat) ({ cls := "OrreryTrainsModel", name := "told", desc := "(JJI)J" } : Jvm.MethodName) ∈ oTB := oT4 172 rfl rfl
theorem wd_4_173 : Jvm.Cond.static ({ cls := "OrreryTrainsModel", name := "told", desc := "(JJI)J" } : Jvm.MethodName) ∈ oTB := oT4 173 rfl rfl
theorem wd_4_174 : Jvm.Cond.code ({ cls := "OrreryTrainsModel", name := "told", desc := "(JJI)J" } : Jvm.MethodName) prog_11_method_4_code (7 : Nat) (Option.some Jvm.ClassFile.FieldType.long) ∈ oTB := oT4 174 rfl rfl
theorem wd_4_175 : Jvm.Cond.methodLink "OrreryTrainsModel" (40 : Nat) ({ cls := "OrreryTrainsModel", name := "common", desc := "(JJ)J" } : Jvm.MethodName) ∈ oTB := oT4 175 rfl rfl
theorem wd_4_176 : Jvm.Cond.static ({ cls := "OrreryTrainsModel", name := "common", desc := "(JJ)J" } : Jvm.MethodName) ∈ oTB := oT4 176 rfl rfl
theorem wd_4_177 : Jvm.Cond.code ({ cls := "OrreryTrainsModel", name := "common", desc := "(JJ)J" } : Jvm.MethodName) prog_11_method_3_code (10 : Nat) (Option.some Jvm.ClassFile.FieldType.long) ∈ oTB := oT4 177 rfl rfl
theorem wd_4_178 : Jvm.Cond.methodLink "OrreryTrainsLaw" (22 : Nat) ({ cls := "OrreryTrainsModel", name := "ratio", desc := "(III)I" } : Jvm.MethodName) ∈ oTB := oT4 178 rfl rfl
theorem wd_4_179 : Jvm.Cond.instanceMethod ({ cls := "OrreryTrainsModel", name := "ratio", desc := "(III)I" } : Jvm.MethodName) ∈ oTB := oT4 179 rfl rfl
theorem wd_4_180 : Jvm.Cond.selects "OrreryTrainsModel" ({ cls := "OrreryTrainsModel", name := "ratio", desc := "(III)I" } : Jvm.MethodName) ({ cls := "OrreryTrainsModel", name := "ratio", desc := "(III)I" } : Jvm.MethodName) ∈ oTB := oT4 180 rfl rfl
theorem wd_4_181 : Jvm.Cond.code ({ cls := "OrreryTrainsModel", name := "ratio", desc := "(III)I" } : Jvm.MethodName) prog_11_method_10_code (5 : Nat) (Option.some Jvm.ClassFile.FieldType.int) ∈ oTB := oT4 181 rfl rfl
theorem wd_4_182 : Jvm.Cond.methodLink "OrreryTrainsModel" (62 : Nat) ({ cls := "OrreryTrainsModel", name := "isBody", desc := "(I)Z" } : Jvm.MethodName) ∈ oTB := oT4 182 rfl rfl
theorem wd_4_184 : Jvm.Cond.instanceMethod ({ cls := "OrreryTrainsModel", name := "isBody", desc := "(I)Z" } : Jvm.MethodName) ∈ oTB := oT4 184 rfl rfl
theorem wd_4_185 : Jvm.Cond.code ({ cls := "OrreryTrainsModel", name := "isBody", desc := "(I)Z" } : Jvm.MethodName) prog_11_method_6_code (2 : Nat) (Option.some Jvm.ClassFile.FieldType.boolean) ∈ oTB := oT4 185 rfl rfl
theorem wd_4_186 : Jvm.Cond.methodLink "OrreryTrainsLaw" (26 : Nat) ({ cls := "OrreryTrainsModel", name := "term", desc := "(II)I" } : Jvm.MethodName) ∈ oTB := oT4 186 rfl rfl
theorem wd_4_187 : Jvm.Cond.instanceMethod ({ cls := "OrreryTrainsModel", name := "term", desc := "(II)I" } : Jvm.MethodName) ∈ oTB := oT4 187 rfl rfl
theorem wd_4_188 : Jvm.Cond.selects "OrreryTrainsModel" ({ cls := "OrreryTrainsModel", name := "term", desc := "(II)I" } : Jvm.MethodName) ({ cls := "OrreryTrainsModel", name := "term", desc := "(II)I" } : Jvm.MethodName) ∈ oTB := oT4 188 rfl rfl
theorem wd_4_189 : Jvm.Cond.code ({ cls := "OrreryTrainsModel", name := "term", desc := "(II)I" } : Jvm.MethodName) prog_11_method_12_code (4 : Nat) (Option.some Jvm.ClassFile.FieldType.int) ∈ oTB := oT4 189 rfl rfl
theorem wd_4_190 : Jvm.Cond.methodLink "OrreryTrainsModel" (66 : Nat) ({ cls := "OrreryTrainsModel", name := "terms", desc := "(I)I" } : Jvm.MethodName) ∈ oTB := oT4 190 rfl rfl
theorem wd_4_192 : Jvm.Cond.instanceMethod ({ cls := "OrreryTrainsModel", name := "terms", desc := "(I)I" } : Jvm.MethodName) ∈ oTB := oT4 192 rfl rfl
theorem wd_4_193 : Jvm.Cond.code ({ cls := "OrreryTrainsModel", name := "terms", desc := "(I)I" } : Jvm.MethodName) prog_11_method_11_code (6 : Nat) (Option.some Jvm.ClassFile.FieldType.int) ∈ oTB := oT4 193 rfl rfl
theorem wd_4_194 : Jvm.Cond.methodLink "OrreryTrainsLaw" (31 : Nat) ({ cls := "OrreryTrainsModel", name := "convergent", desc := "(III)J" } : Jvm.MethodName) ∈ oTB := oT4 194 rfl rfl
theorem wd_4_195 : Jvm.Cond.instanceMethod ({ cls := "OrreryTrainsModel", name := "convergent", desc := "(III)J" } : Jvm.MethodName) ∈ oTB := oT4 195 rfl rfl
theorem wd_4_196 : Jvm.Cond.selects "OrreryTrainsModel" ({ cls := "OrreryTrainsModel", name := "convergent", desc := "(III)J" } : Jvm.MethodName) ({ cls := "OrreryTrainsModel", name := "convergent", desc := "(III)J" } : Jvm.MethodName) ∈ oTB := oT4 196 rfl rfl
theorem wd_4_197 : Jvm.Cond.code ({ cls := "OrreryTrainsModel", name := "convergent", desc := "(III)J" } : Jvm.MethodName) prog_11_method_13_code (11 : Nat) (Option.some Jvm.ClassFile.FieldType.long) ∈ oTB := oT4 197 rfl rfl
theorem wd_4_198 : Jvm.Cond.methodLink "OrreryTrainsModel" (70 : Nat) ({ cls := "OrreryTrainsModel", name := "isPart", desc := "(I)Z" } : Jvm.MethodName) ∈ oTB := oT4 198 rfl rfl
theorem wd_4_199 : Jvm.Cond.static ({ cls := "OrreryTrainsModel", name := "isPart", desc := "(I)Z" } : Jvm.MethodName) ∈ oTB := oT4 199 rfl rfl
theorem wd_4_200 : Jvm.Cond.code ({ cls := "OrreryTrainsModel", name := "isPart", desc := "(I)Z" } : Jvm.MethodName) prog_11_method_5_code (1 : Nat) (Option.some Jvm.ClassFile.FieldType.boolean) ∈ oTB := oT4 200 rfl rfl
theorem wd_4_201 : Jvm.Cond.constantLong "OrreryTrainsModel" (73 : Nat) (-9223372036854775808 : Int64) ∈ oTB := oT4 201 rfl rfl
theorem wd_4_202 : Jvm.Cond.methodLink "OrreryTrainsLaw" (35 : Nat) ({ cls := "OrreryTrainsModel", name := "near", desc := "(III)J" } : Jvm.MethodName) ∈ oTB := oT4 202 rfl rfl
theorem wd_4_203 : Jvm.Cond.instanceMethod ({ cls := "OrreryTrainsModel", name := "near", desc := "(III)J" } : Jvm.MethodName) ∈ oTB := oT4 203 rfl rfl
theorem wd_4_204 : Jvm.Cond.selects "OrreryTrainsModel" ({ cls := "OrreryTrainsModel", name := "near", desc := "(III)J" } : Jvm.MethodName) ({ cls := "OrreryTrainsModel", name := "near", desc := "(III)J" } : Jvm.MethodName) ∈ oTB := oT4 204 rfl rfl
theorem wd_4_205 : Jvm.Cond.code ({ cls := "OrreryTrainsModel", name := "near", desc := "(III)J" } : Jvm.MethodName) prog_11_method_14_code (19 : Nat) (Option.some Jvm.ClassFile.FieldType.long) ∈ oTB := oT4 205 rfl rfl
theorem wd_4_206 : Jvm.Cond.constantLong "OrreryTrainsModel" (75 : Nat) (99 : Int64) ∈ oTB := oT4 206 rfl rfl
theorem wd_4_207 : Jvm.Cond.methodLink "OrreryTrainsLaw" (39 : Nat) ({ cls := "OrreryTrainsModel", name := "bounds", desc := "(II)I" } : Jvm.MethodName) ∈ oTB := oT4 207 rfl rfl
theorem wd_4_208 : Jvm.Cond.instanceMethod ({ cls := "OrreryTrainsModel", name := "bounds", desc := "(II)I" } : Jvm.MethodName) ∈ oTB := oT4 208 rfl rfl
theorem wd_4_209 : Jvm.Cond.selects "OrreryTrainsModel" ({ cls := "OrreryTrainsModel", name := "bounds", desc := "(II)I" } : Jvm.MethodName) ({ cls := "OrreryTrainsModel", name := "bounds", desc := "(II)I" } : Jvm.MethodName) ∈ oTB := oT4 209 rfl rfl
theorem wd_4_210 : Jvm.Cond.code ({ cls := "OrreryTrainsModel", name := "bounds", desc := "(II)I" } : Jvm.MethodName) prog_11_method_15_code (4 : Nat) (Option.some Jvm.ClassFile.FieldType.int) ∈ oTB := oT4 210 rfl rfl
theorem wd_4_211 : Jvm.Cond.constantLong "OrreryTrainsModel" (77 : Nat) (10 : Int64) ∈ oTB := oT4 211 rfl rfl
theorem wd_4_212 : Jvm.Cond.methodLink "OrreryTrainsLaw" (43 : Nat) ({ cls := "OrreryTrainsModel", name := "split", desc := "(III)I" } : Jvm.MethodName) ∈ oTB := oT4 212 rfl rfl
theorem wd_4_213 : Jvm.Cond.instanceMethod ({ cls := "OrreryTrainsModel", name := "split", desc := "(III)I" } : Jvm.MethodName) ∈ oTB := oT4 213 rfl rfl
theorem wd_4_214 : Jvm.Cond.selects "OrreryTrainsModel" ({ cls := "OrreryTrainsModel", name := "split", desc := "(III)I" } : Jvm.MethodName) ({ cls := "OrreryTrainsModel", name := "split", desc := "(III)I" } : Jvm.MethodName) ∈ oTB := oT4 214 rfl rfl
theorem wd_4_215 : Jvm.Cond.code ({ cls := "OrreryTrainsModel", name := "split", desc := "(III)I" } : Jvm.MethodName) prog_11_method_17_code (8 : Nat) (Option.some Jvm.ClassFile.FieldType.int) ∈ oTB := oT4 215 rfl rfl
theorem wd_4_216 : Jvm.Cond.constantLong "OrreryTrainsModel" (79 : Nat) (2 : Int64) ∈ oTB := oT4 216 rfl rfl
theorem wd_4_217 : Jvm.Cond.methodLink "OrreryTrainsModel" (81 : Nat) ({ cls := "OrreryTrainsModel", name := "isWithin", desc := "(I)Z" } : Jvm.MethodName) ∈ oTB := oT4 217 rfl rfl
theorem wd_4_219 : Jvm.Cond.instanceMethod ({ cls := "OrreryTrainsModel", name := "isWithin", desc := "(I)Z" } : Jvm.MethodName) ∈ oTB := oT4 219 rfl rfl
theorem wd_4_220 : Jvm.Cond.code ({ cls := "OrreryTrainsModel", name := "isWithin", desc := "(I)Z" } : Jvm.MethodName) prog_11_method_16_code (2 : Nat) (Option.some Jvm.ClassFile.FieldType.boolean) ∈ oTB := oT4 220 rfl rfl
theorem wd_4_221 : Jvm.Cond.methodLink "OrreryTrainsLaw" (47 : Nat) ({ cls := "OrreryTrainsModel", name := "prime", desc := "(II)I" } : Jvm.MethodName) ∈ oTB := oT4 221 rfl rfl
theorem wd_4_222 : Jvm.Cond.instanceMethod ({ cls := "OrreryTrainsModel", name := "prime", desc := "(II)I" } : Jvm.MethodName) ∈ oTB := oT4 222 rfl rfl
theorem wd_4_223 : Jvm.Cond.selects "OrreryTrainsModel" ({ cls := "OrreryTrainsModel", name := "prime", desc := "(II)I" } : Jvm.MethodName) ({ cls := "OrreryTrainsModel", name := "prime", desc := "(II)I" } : Jvm.MethodName) ∈ oTB := oT4 223 rfl rfl
theorem wd_4_224 : Jvm.Cond.code ({ cls := "OrreryTrainsModel", name := "prime", desc := "(II)I" } : Jvm.MethodName) prog_11_method_18_code (6 : Nat) (Option.some Jvm.ClassFile.FieldType.int) ∈ oTB := oT4 224 rfl rfl
theorem wd_4_225 : Jvm.Cond.constantLong "OrreryTrainsModel" (84 : Nat) (2047 : Int64) ∈ oTB := oT4 225 rfl rfl
theorem wd_4_226 : Jvm.Cond.methodLink "OrreryTrainsLaw" (52 : Nat) ({ cls := "OrreryTrainsModel", name := "feed", desc := "(I)I" } : Jvm.MethodName) ∈ oTB := oT4 226 rfl rfl
theorem wd_4_227 : Jvm.Cond.instanceMethod ({ cls := "OrreryTrainsModel", name := "feed", desc := "(I)I" } : Jvm.MethodName) ∈ oTB := oT4 227 rfl rfl
theorem wd_4_228 : Jvm.Cond.selects "OrreryTrainsModel" ({ cls := "OrreryTrainsModel", name := "feed", desc := "(I)I" } : Jvm.MethodName) ({ cls := "OrreryTrainsModel", name := "feed", desc := "(I)I" } : Jvm.MethodName) ∈ oTB := oT4 228 rfl rfl
theorem wd_4_229 : Jvm.Cond.code ({ cls := "OrreryTrainsModel", name := "feed", desc := "(I)I" } : Jvm.MethodName) prog_11_method_22_code (2 : Nat) (Option.some Jvm.ClassFile.FieldType.int) ∈ oTB := oT4 229 rfl rfl
theorem wd_4_230 : Jvm.Cond.constantLong "OrreryTrainsModel" (90 : Nat) (127 : Int64) ∈ oTB := oT4 230 rfl rfl
theorem wd_4_231 : Jvm.Cond.methodLink "OrreryTrainsLaw" (57 : Nat) ({ cls := "OrreryTrainsModel", name := "pairs", desc := "()I" } : Jvm.MethodName) ∈ oTB := oT4 231 rfl rfl
theorem wd_4_232 : Jvm.Cond.instanceMethod ({ cls := "OrreryTrainsModel", name := "pairs", desc := "()I" } : Jvm.MethodName) ∈ oTB := oT4 232 rfl rfl
theorem wd_4_233 : Jvm.Cond.selects "OrreryTrainsModel" ({ cls := "OrreryTrainsModel", name := "pairs", desc := "()I" } : Jvm.MethodName) ({ cls := "OrreryTrainsModel", name := "pairs", desc := "()I" } : Jvm.MethodName) ∈ oTB := oT4 233 rfl rfl
theorem wd_4_234 : Jvm.Cond.code ({ cls := "OrreryTrainsModel", name := "pairs", desc := "()I" } : Jvm.MethodName) prog_11_method_29_code (4 : Nat) (Option.some Jvm.ClassFile.FieldType.int) ∈ oTB := oT4 234 rfl rfl
theorem wd_4_235 : Jvm.Cond.methodLink "OrreryTrainsModel" (129 : Nat) ({ cls := "OrreryTrainsModel", name := "clauses", desc := "()I" } : Jvm.MethodName) ∈ oTB := oT4 235 rfl rfl
theorem wd_4_237 : Jvm.Cond.instanceMethod ({ cls := "OrreryTrainsModel", name := "clauses", desc := "()I" } : Jvm.MethodName) ∈ oTB := oT4 237 rfl rfl
theorem wd_4_238 : Jvm.Cond.code ({ cls := "OrreryTrainsModel", name := "clauses", desc := "()I" } : Jvm.MethodName) prog_11_method_28_code (3 : Nat) (Option.some Jvm.ClassFile.FieldType.int) ∈ oTB := oT4 238 rfl rfl
theorem wd_4_239 : Jvm.Cond.methodLink "OrreryTrainsModel" (119 : Nat) ({ cls := "OrreryTrainsModel", name := "kindHere", desc := "()I" } : Jvm.MethodName) ∈ oTB := oT4 239 rfl rfl
theorem wd_5_1 : Jvm.Cond.instanceMethod ({ cls := "OrreryTrainsModel", name := "kindHere", desc := "()I" } : Jvm.MethodName) ∈ oTB := oT5 1 rfl rfl
theorem wd_5_2 : Jvm.Cond.code ({ cls := "OrreryTrainsModel", name := "kindHere", desc := "()I" } : Jvm.MethodName) prog_11_method_27_code (2 : Nat) (Option.some Jvm.ClassFile.FieldType.int) ∈ oTB := oT5 2 rfl rfl
theorem wd_5_3 : Jvm.Cond.methodLink "OrreryTrainsModel" (102 : Nat) ({ cls := "OrreryTrainsModel", name := "here", desc := "()I" } : Jvm.MethodName) ∈ oTB := oT5 3 rfl rfl
theorem wd_5_5 : Jvm.Cond.instanceMethod ({ cls := "OrreryTrainsModel", name := "here", desc := "()I" } : Jvm.MethodName) ∈ oTB := oT5 5 rfl rfl
theorem wd_5_6 : Jvm.Cond.code ({ cls := "OrreryTrainsModel", name := "here", desc := "()I" } : Jvm.MethodName) prog_11_method_23_code (1 : Nat) (Option.some Jvm.ClassFile.FieldType.int) ∈ oTB := oT5 6 rfl rfl
theorem wd_5_8 : Jvm.Cond.methodLink "OrreryTrainsModel" (113 : Nat) ({ cls := "java/lang/String", name := "charAt", desc := "(I)C" } : Jvm.MethodName) ∈ oTB := oT5 8 rfl rfl
theorem wd_5_9 : Jvm.Cond.instanceMethod ({ cls := "java/lang/String", name := "charAt", desc := "(I)C" } : Jvm.MethodName) ∈ oTB := oT5 9 rfl rfl
theorem wd_5_10 : Jvm.Cond.selects "java/lang/String" ({ cls := "java/lang/String", name := "charAt", desc := "(I)C" } : Jvm.MethodName) ({ cls := "java/lang/String", name := "charAt", desc := "(I)C" } : Jvm.MethodName) ∈ oTB := oT5 10 rfl rfl
theorem wd_5_11 : Jvm.Cond.code ({ cls := "java/lang/String", name := "charAt", desc := "(I)C" } : Jvm.MethodName) prog_13_method_56_code (2 : Nat) (Option.some Jvm.ClassFile.FieldType.char) ∈ oTB := oT5 11 rfl rfl
theorem wd_5_12 : Jvm.Cond.methodLink "java/lang/String" (492 : Nat) ({ cls := "java/lang/String", name := "isLatin1", desc := "()Z" } : Jvm.MethodName) ∈ oTB := oT5 12 rfl rfl
theorem wd_5_13 : Jvm.Cond.instanceMethod ({ cls := "java/lang/String", name := "isLatin1", desc := "()Z" } : Jvm.MethodName) ∈ oTB := oT5 13 rfl rfl
theorem wd_5_14 : Jvm.Cond.selects "java/lang/String" ({ cls := "java/lang/String", name := "isLatin1", desc := "()Z" } : Jvm.MethodName) ({ cls := "java/lang/String", name := "isLatin1", desc := "()Z" } : Jvm.MethodName) ∈ oTB := oT5 14 rfl rfl
theorem wd_5_15 : Jvm.Cond.code ({ cls := "java/lang/String", name := "isLatin1", desc := "()Z" } : Jvm.MethodName) prog_13_method_154_code (1 : Nat) (Option.some Jvm.ClassFile.FieldType.boolean) ∈ oTB := oT5 15 rfl rfl
theorem wd_5_16 : Jvm.Cond.fieldLink "java/lang/String" (38 : Nat) "java/lang/String" "COMPACT_STRINGS" "Z" ∈ oTB := oT5 16 rfl rfl
theorem wd_5_18 : Jvm.Cond.methodLink "java/lang/String" (495 : Nat) ({ cls := "java/lang/StringLatin1", name := "charAt", desc := "([BI)C" } : Jvm.MethodName) ∈ oTB := oT5 18 rfl rfl
theorem wd_5_19 : Jvm.Cond.static ({ cls := "java/lang/StringLatin1", name := "charAt", desc := "([BI)C" } : Jvm.MethodName) ∈ oTB := oT5 19 rfl rfl
theorem wd_5_20 : Jvm.Cond.code ({ cls := "java/lang/StringLatin1", name := "charAt", desc := "([BI)C" } : Jvm.MethodName) prog_14_method_2_code (2 : Nat) (Option.some Jvm.ClassFile.FieldType.char) ∈ oTB := oT5 20 rfl rfl
theorem wd_5_21 : Jvm.Cond.methodLink "java/lang/StringLatin1" (9 : Nat) ({ cls := "java/lang/String", name := "checkIndex", desc := "(II)V" } : Jvm.MethodName) ∈ oTB := oT5 21 rfl rfl
theorem wd_5_22 : Jvm.Cond.static ({ cls := "java/lang/String", name := "checkIndex", desc := "(II)V" } : Jvm.MethodName) ∈ oTB := oT5 22 rfl rfl
theorem wd_5_23 : Jvm.Cond.code ({ cls := "java/lang/String", name := "checkIndex", desc := "(II)V" } : Jvm.MethodName) prog_13_method_155_code (2 : Nat) (Option.none : Option Jvm.ClassFile.FieldType) ∈ oTB := oT5 23 rfl rfl
theorem wd_5_24 : Jvm.Cond.fieldLink "java/lang/String" (1053 : Nat) "jdk/internal/util/Preconditions" "SIOOBE_FORMATTER" "Ljava/util/function/BiFunction;" ∈ oTB := oT5 24 rfl rfl
theorem wd_5_26 : Jvm.Cond.methodLink "java/lang/String" (1059 : Nat) ({ cls := "jdk/internal/util/Preconditions", name := "checkIndex", desc := "(IILjava/util/function/BiFunction;)I" } : Jvm.MethodName) ∈ oTB := oT5 26 rfl rfl
theorem wd_5_27 : Jvm.Cond.static ({ cls := "jdk/internal/util/Preconditions", name := "checkIndex", desc := "(IILjava/util/function/BiFunction;)I" } : Jvm.MethodName) ∈ oTB := oT5 27 rfl rfl
theorem wd_5_28 : Jvm.Cond.code ({ cls := "jdk/internal/util/Preconditions", name := "checkIndex", desc := "(IILjava/util/function/BiFunction;)I" } : Jvm.MethodName) prog_16_method_11_code (3 : Nat) (Option.some Jvm.ClassFile.FieldType.int) ∈ oTB := oT5 28 rfl rfl
theorem wd_5_29 : Jvm.Cond.methodLink "java/lang/String" (498 : Nat) ({ cls := "java/lang/StringUTF16", name := "charAt", desc := "([BI)C" } : Jvm.MethodName) ∈ oTB := oT5 29 rfl rfl
theorem wd_5_30 : Jvm.Cond.static ({ cls := "java/lang/StringUTF16", name := "charAt", desc := "([BI)C" } : Jvm.MethodName) ∈ oTB := oT5 30 rfl rfl
theorem wd_5_31 : Jvm.Cond.code ({ cls := "java/lang/StringUTF16", name := "charAt", desc := "([BI)C" } : Jvm.MethodName) prog_15_method_83_code (2 : Nat) (Option.some Jvm.ClassFile.FieldType.char) ∈ oTB := oT5 31 rfl rfl
theorem wd_5_32 : Jvm.Cond.methodLink "java/lang/StringUTF16" (67 : Nat) ({ cls := "java/lang/StringUTF16", name := "checkIndex", desc := "(I[B)V" } : Jvm.MethodName) ∈ oTB := oT5 32 rfl rfl
theorem wd_5_33 : Jvm.Cond.static ({ cls := "java/lang/StringUTF16", name := "checkIndex", desc := "(I[B)V" } : Jvm.MethodName) ∈ oTB := oT5 33 rfl rfl
theorem wd_5_34 : Jvm.Cond.code ({ cls := "java/lang/StringUTF16", name := "checkIndex", desc := "(I[B)V" } : Jvm.MethodName) prog_15_method_91_code (2 : Nat) (Option.none : Option Jvm.ClassFile.FieldType) ∈ oTB := oT5 34 rfl rfl
theorem wd_5_35 : Jvm.Cond.methodLink "java/lang/StringUTF16" (48 : Nat) ({ cls := "java/lang/StringUTF16", name := "length", desc := "([B)I" } : Jvm.MethodName) ∈ oTB := oT5 35 rfl rfl
theorem wd_5_36 : Jvm.Cond.static ({ cls := "java/lang/StringUTF16", name := "length", desc := "([B)I" } : Jvm.MethodName) ∈ oTB := oT5 36 rfl rfl
theorem wd_5_37 : Jvm.Cond.code ({ cls := "java/lang/StringUTF16", name := "length", desc := "([B)I" } : Jvm.MethodName) prog_15_method_6_code (1 : Nat) (Option.some Jvm.ClassFile.FieldType.int) ∈ oTB := oT5 37 rfl rfl
theorem wd_5_38 : Jvm.Cond.methodLink "java/lang/StringUTF16" (414 : Nat) ({ cls := "java/lang/String", name := "checkIndex", desc := "(II)V" } : Jvm.MethodName) ∈ oTB := oT5 38 rfl rfl
theorem wd_5_39 : Jvm.Cond.methodLink "java/lang/StringUTF16" (71 : Nat) ({ cls := "java/lang/StringUTF16", name := "getChar", desc := "([BI)C" } : Jvm.MethodName) ∈ oTB := oT5 39 rfl rfl
theorem wd_5_40 : Jvm.Cond.static ({ cls := "java/lang/StringUTF16", name := "getChar", desc := "([BI)C" } : Jvm.MethodName) ∈ oTB := oT5 40 rfl rfl
theorem wd_5_41 : Jvm.Cond.code ({ cls := "java/lang/StringUTF16", name := "getChar", desc := "([BI)C" } : Jvm.MethodName) prog_15_method_5_code (2 : Nat) (Option.some Jvm.ClassFile.FieldType.char) ∈ oTB := oT5 41 rfl rfl
theorem wd_5_42 : Jvm.Cond.fieldLink "java/lang/StringUTF16" (44 : Nat) "java/lang/StringUTF16" "$assertionsDisabled" "Z" ∈ oTB := oT5 42 rfl rfl
theorem wd_5_44 : Jvm.Cond.fieldLink "java/lang/StringUTF16" (59 : Nat) "java/lang/StringUTF16" "HI_BYTE_SHIFT" "I" ∈ oTB := oT5 44 rfl rfl
theorem wd_5_46 : Jvm.Cond.fieldLink "java/lang/StringUTF16" (63 : Nat) "java/lang/StringUTF16" "LO_BYTE_SHIFT" "I" ∈ oTB := oT5 46 rfl rfl
theorem wd_5_48 : Jvm.Cond.methodLink "OrreryTrainsModel" (108 : Nat) ({ cls := "OrreryTrainsModel", name := "fails", desc := "()V" } : Jvm.MethodName) ∈ oTB := oT5 48 rfl rfl
theorem wd_5_50 : Jvm.Cond.instanceMethod ({ cls := "OrreryTrainsModel", name := "fails", desc := "()V" } : Jvm.MethodName) ∈ oTB := oT5 50 rfl rfl
theorem wd_5_51 : Jvm.Cond.code ({ cls := "OrreryTrainsModel", name := "fails", desc := "()V" } : Jvm.MethodName) prog_11_method_24_code (1 : Nat) (Option.none : Option Jvm.ClassFile.FieldType) ∈ oTB := oT5 51 rfl rfl
theorem wd_5_52 : Jvm.Cond.methodLink "OrreryTrainsModel" (122 : Nat) ({ cls := "OrreryTrainsModel", name := "figure", desc := "(I)I" } : Jvm.MethodName) ∈ oTB := oT5 52 rfl rfl
theorem wd_5_54 : Jvm.Cond.instanceMethod ({ cls := "OrreryTrainsModel", name := "figure", desc := "(I)I" } : Jvm.MethodName) ∈ oTB := oT5 54 rfl rfl
theorem wd_5_55 : Jvm.Cond.code ({ cls := "OrreryTrainsModel", name := "figure", desc := "(I)I" } : Jvm.MethodName) prog_11_method_25_code (3 : Nat) (Option.some Jvm.ClassFile.FieldType.int) ∈ oTB := oT5 55 rfl rfl
theorem wd_5_56 : Jvm.Cond.constantLong "OrreryTrainsModel" (106 : Nat) (57 : Int64) ∈ oTB := oT5 56 rfl rfl
theorem wd_5_57 : Jvm.Cond.methodLink "OrreryTrainsModel" (125 : Nat) ({ cls := "OrreryTrainsModel", name := "must", desc := "(I)V" } : Jvm.MethodName) ∈ oTB := oT5 57 rfl rfl
theorem wd_5_59 : Jvm.Cond.instanceMethod ({ cls := "OrreryTrainsModel", name := "must", desc := "(I)V" } : Jvm.MethodName) ∈ oTB := oT5 59 rfl rfl
theorem wd_5_60 : Jvm.Cond.code ({ cls := "OrreryTrainsModel", name := "must", desc := "(I)V" } : Jvm.MethodName) prog_11_method_26_code (2 : Nat) (Option.none : Option Jvm.ClassFile.FieldType) ∈ oTB := oT5 60 rfl rfl
theorem wd_5_62 : Jvm.Cond.methodLink "OrreryTrainsLaw" (61 : Nat) ({ cls := "OrreryTrainsModel", name := "becomes", desc := "(III)I" } : Jvm.MethodName) ∈ oTB := oT5 62 rfl rfl
theorem wd_5_63 : Jvm.Cond.instanceMethod ({ cls := "OrreryTrainsModel", name := "becomes", desc := "(III)I" } : Jvm.MethodName) ∈ oTB := oT5 63 rfl rfl
theorem wd_5_64 : Jvm.Cond.selects "OrreryTrainsModel" ({ cls := "OrreryTrainsModel", name := "becomes", desc := "(III)I" } : Jvm.MethodName) ({ cls := "OrreryTrainsModel", name := "becomes", desc := "(III)I" } : Jvm.MethodName) ∈ oTB := oT5 64 rfl rfl
theorem wd_5_65 : Jvm.Cond.code ({ cls := "OrreryTrainsModel", name := "becomes", desc := "(III)I" } : Jvm.MethodName) prog_11_method_30_code (5 : Nat) (Option.some Jvm.ClassFile.FieldType.int) ∈ oTB := oT5 65 rfl rfl
theorem wd_5_66 : Jvm.Cond.methodLink "OrreryTrainsModel" (132 : Nat) ({ cls := "OrreryTrainsModel", name := "isPair", desc := "(I)Z" } : Jvm.MethodName) ∈ oTB := oT5 66 rfl rfl
theorem wd_5_68 : Jvm.Cond.instanceMethod ({ cls := "OrreryTrainsModel", name := "isPair", desc := "(I)Z" } : Jvm.MethodName) ∈ oTB := oT5 68 rfl rfl
theorem wd_5_69 : Jvm.Cond.code ({ cls := "OrreryTrainsModel", name := "isPair", desc := "(I)Z" } : Jvm.MethodName) prog_11_method_19_code (2 : Nat) (Option.some Jvm.ClassFile.FieldType.boolean) ∈ oTB := oT5 69 rfl rfl
theorem wd_5_70 : Jvm.Cond.constantLong "OrreryTrainsModel" (135 : Nat) (5 : Int64) ∈ oTB := oT5 70 rfl rfl
theorem wd_5_71 : Jvm.Cond.constantLong "OrreryTrainsModel" (137 : Nat) (9 : Int64) ∈ oTB := oT5 71 rfl rfl
theorem wd_5_72 : Jvm.Cond.methodLink "OrreryTrainsLaw" (65 : Nat) ({ cls := "OrreryTrainsModel", name := "teeth", desc := "(III)I" } : Jvm.MethodName) ∈ oTB := oT5 72 rfl rfl
theorem wd_5_73 : Jvm.Cond.instanceMethod ({ cls := "OrreryTrainsModel", name := "teeth", desc := "(III)I" } : Jvm.MethodName) ∈ oTB := oT5 73 rfl rfl
theorem wd_5_74 : Jvm.Cond.selects "OrreryTrainsModel" ({ cls := "OrreryTrainsModel", name := "teeth", desc := "(III)I" } : Jvm.MethodName) ({ cls := "OrreryTrainsModel", name := "teeth", desc := "(III)I" } : Jvm.MethodName) ∈ oTB := oT5 74 rfl rfl
theorem wd_5_75 : Jvm.Cond.code ({ cls := "OrreryTrainsModel", name := "teeth", desc := "(III)I" } : Jvm.MethodName) prog_11_method_31_code (6 : Nat) (Option.some Jvm.ClassFile.FieldType.int) ∈ oTB := oT5 75 rfl rfl
theorem wd_5_76 : Jvm.Cond.methodLink "OrreryTrainsLaw" (69 : Nat) ({ cls := "OrreryTrainsModel", name := "pair", desc := "(II)I" } : Jvm.MethodName) ∈ oTB := oT5 76 rfl rfl
theorem wd_5_77 : Jvm.Cond.instanceMethod ({ cls := "OrreryTrainsModel", name := "pair", desc := "(II)I" } : Jvm.MethodName) ∈ oTB := oT5 77 rfl rfl
theorem wd_5_78 : Jvm.Cond.selects "OrreryTrainsModel" ({ cls := "OrreryTrainsModel", name := "pair", desc := "(II)I" } : Jvm.MethodName) ({ cls := "OrreryTrainsModel", name := "pair", desc := "(II)I" } : Jvm.MethodName) ∈ oTB := oT5 78 rfl rfl
theorem wd_5_79 : Jvm.Cond.code ({ cls := "OrreryTrainsModel", name := "pair", desc := "(II)I" } : Jvm.MethodName) prog_11_method_32_code (3 : Nat) (Option.some Jvm.ClassFile.FieldType.int) ∈ oTB := oT5 79 rfl rfl
theorem wd_5_80 : Jvm.Cond.methodLink "OrreryTrainsModel" (139 : Nat) ({ cls := "OrreryTrainsModel", name := "play", desc := "(I)I" } : Jvm.MethodName) ∈ oTB := oT5 80 rfl rfl
theorem wd_5_82 : Jvm.Cond.instanceMethod ({ cls := "OrreryTrainsModel", name := "play", desc := "(I)I" } : Jvm.MethodName) ∈ oTB := oT5 82 rfl rfl
theorem wd_5_83 : Jvm.Cond.code ({ cls := "OrreryTrainsModel", name := "play", desc := "(I)I" } : Jvm.MethodName) prog_11_method_20_code (3 : Nat) (Option.some Jvm.ClassFile.FieldType.int) ∈ oTB := oT5 83 rfl rfl
theorem wd_5_84 : Jvm.Cond.methodLink "OrreryTrainsModel" (142 : Nat) ({ cls := "OrreryTrainsModel", name := "trainsOf", desc := "(I)I" } : Jvm.MethodName) ∈ oTB := oT5 84 rfl rfl
theorem wd_5_86 : Jvm.Cond.instanceMethod ({ cls := "OrreryTrainsModel", name := "trainsOf", desc := "(I)I" } : Jvm.MethodName) ∈ oTB := oT5 86 rfl rfl
theorem wd_5_87 : Jvm.Cond.code ({ cls := "OrreryTrainsModel", name := "trainsOf", desc := "(I)I" } : Jvm.MethodName) prog_11_method_21_code (5 : Nat) (Option.some Jvm.ClassFile.FieldType.int) ∈ oTB := oT5 87 rfl rfl
theorem wd_5_88 : Jvm.Cond.methodLink "OrreryTrainsModel" (86 : Nat) ({ cls := "OrreryTrainsModel", name := "pairAt", desc := "(II)I" } : Jvm.MethodName) ∈ oTB := oT5 88 rfl rfl
theorem wd_5_90 : Jvm.Cond.instanceMethod ({ cls := "OrreryTrainsModel", name := "pairAt", desc := "(II)I" } : Jvm.MethodName) ∈ oTB := oT5 90 rfl rfl
theorem wd_5_91 : Jvm.Cond.code ({ cls := "OrreryTrainsModel", name := "pairAt", desc := "(II)I" } : Jvm.MethodName) prog_11_method_33_code (3 : Nat) (Option.some Jvm.ClassFile.FieldType.int) ∈ oTB := oT5 91 rfl rfl
theorem wd_5_92 : Jvm.Cond.methodLink "OrreryTrainsLaw" (73 : Nat) ({ cls := "OrreryTrainsModel", name := "train", desc := "(I)I" } : Jvm.MethodName) ∈ oTB := oT5 92 rfl rfl
theorem wd_5_93 : Jvm.Cond.instanceMethod ({ cls := "OrreryTrainsModel", name := "train", desc := "(I)I" } : Jvm.MethodName) ∈ oTB := oT5 93 rfl rfl
theorem wd_5_94 : Jvm.Cond.selects "OrreryTrainsModel" ({ cls := "OrreryTrainsModel", name := "train", desc := "(I)I" } : Jvm.MethodName) ({ cls := "OrreryTrainsModel", name := "train", desc := "(I)I" } : Jvm.MethodName) ∈ oTB := oT5 94 rfl rfl
theorem wd_5_95 : Jvm.Cond.code ({ cls := "OrreryTrainsModel", name := "train", desc := "(I)I" } : Jvm.MethodName) prog_11_method_35_code (6 : Nat) (Option.some Jvm.ClassFile.FieldType.int) ∈ oTB := oT5 95 rfl rfl
theorem wd_5_96 : Jvm.Cond.methodLink "OrreryTrainsLaw" (77 : Nat) ({ cls := "OrreryTrainsModel", name := "drop", desc := "(I)I" } : Jvm.MethodName) ∈ oTB := oT5 96 rfl rfl
theorem wd_5_97 : Jvm.Cond.instanceMethod ({ cls := "OrreryTrainsModel", name := "drop", desc := "(I)I" } : Jvm.MethodName) ∈ oTB := oT5 97 rfl rfl
theorem wd_5_98 : Jvm.Cond.selects "OrreryTrainsModel" ({ cls := "OrreryTrainsModel", name := "drop", desc := "(I)I" } : Jvm.MethodName) ({ cls := "OrreryTrainsModel", name := "drop", desc := "(I)I" } : Jvm.MethodName) ∈ oTB := oT5 98 rfl rfl
theorem wd_5_99 : Jvm.Cond.code ({ cls := "OrreryTrainsModel", name := "drop", desc := "(I)I" } : Jvm.MethodName) prog_11_method_36_code (3 : Nat) (Option.some Jvm.ClassFile.FieldType.int) ∈ oTB := oT5 99 rfl rfl
theorem wd_5_100 : Jvm.Cond.methodLink "OrreryTrainsLaw" (81 : Nat) ({ cls := "OrreryTrainsModel", name := "of", desc := "(II)I" } : Jvm.MethodName) ∈ oTB := oT5 100 rfl rfl
theorem wd_5_101 : Jvm.Cond.instanceMethod ({ cls := "OrreryTrainsModel", name := "of", desc := "(II)I" } : Jvm.MethodName) ∈ oTB := oT5 101 rfl rfl
theorem wd_5_102 : Jvm.Cond.selects "OrreryTrainsModel" ({ cls := "OrreryTrainsModel", name := "of", desc := "(II)I" } : Jvm.MethodName) ({ cls := "OrreryTrainsModel", name := "of", desc := "(II)I" } : Jvm.MethodName) ∈ oTB := oT5 102 rfl rfl
theorem wd_5_103 : Jvm.Cond.code ({ cls := "OrreryTrainsModel", name := "of", desc := "(II)I" } : Jvm.MethodName) prog_11_method_38_code (3 : Nat) (Option.some Jvm.ClassFile.FieldType.int) ∈ oTB := oT5 103 rfl rfl
theorem wd_5_104 : Jvm.Cond.constantLong "OrreryTrainsModel" (145 : Nat) (12 : Int64) ∈ oTB := oT5 104 rfl rfl
theorem wd_5_105 : Jvm.Cond.methodLink "OrreryTrainsModel" (147 : Nat) ({ cls := "OrreryTrainsModel", name := "isRound", desc := "(I)Z" } : Jvm.MethodName) ∈ oTB := oT5 105 rfl rfl
theorem wd_5_107 : Jvm.Cond.instanceMethod ({ cls := "OrreryTrainsModel", name := "isRound", desc := "(I)Z" } : Jvm.MethodName) ∈ oTB := oT5 107 rfl rfl
theorem wd_5_108 : Jvm.Cond.code ({ cls := "OrreryTrainsModel", name := "isRound", desc := "(I)Z" } : Jvm.MethodName) prog_11_method_37_code (4 : Nat) (Option.some Jvm.ClassFile.FieldType.boolean) ∈ oTB := oT5 108 rfl rfl
theorem wd_5_109 : Jvm.Cond.methodLink "OrreryTrainsLaw" (86 : Nat) ({ cls := "OrreryTrainsModel", name := "turns", desc := "(II)J" } : Jvm.MethodName) ∈ oTB := oT5 109 rfl rfl
theorem wd_5_110 : Jvm.Cond.instanceMethod ({ cls := "OrreryTrainsModel", name := "turns", desc := "(II)J" } : Jvm.MethodName) ∈ oTB := oT5 110 rfl rfl
theorem wd_5_111 : Jvm.Cond.selects "OrreryTrainsModel" ({ cls := "OrreryTrainsModel", name := "turns", desc := "(II)J" } : Jvm.MethodName) ({ cls := "OrreryTrainsModel", name := "turns", desc := "(II)J" } : Jvm.MethodName) ∈ oTB := oT5 111 rfl rfl
theorem wd_5_112 : Jvm.Cond.code ({ cls := "OrreryTrainsModel", name := "turns", desc := "(II)J" } : Jvm.MethodName) prog_11_method_42_code (3 : Nat) (Option.some Jvm.ClassFile.FieldType.long) ∈ oTB := oT5 112 rfl rfl
theorem wd_5_113 : Jvm.Cond.methodLink "OrreryTrainsModel" (154 : Nat) ({ cls := "OrreryTrainsModel", name := "hasTrain", desc := "(I)Z" } : Jvm.MethodName) ∈ oTB := oT5 113 rfl rfl
theorem wd_5_115 : Jvm.Cond.instanceMethod ({ cls := "OrreryTrainsModel", name := "hasTrain", desc := "(I)Z" } : Jvm.MethodName) ∈ oTB := oT5 115 rfl rfl
theorem wd_5_116 : Jvm.Cond.code ({ cls := "OrreryTrainsModel", name := "hasTrain", desc := "(I)Z" } : Jvm.MethodName) prog_11_method_34_code (2 : Nat) (Option.some Jvm.ClassFile.FieldType.boolean) ∈ oTB := oT5 116 rfl rfl
theorem wd_5_117 : Jvm.Cond.methodLink "OrreryTrainsModel" (157 : Nat) ({ cls := "OrreryTrainsModel", name := "drivers", desc := "(I)J" } : Jvm.MethodName) ∈ oTB := oT5 117 rfl rfl
theorem wd_5_119 : Jvm.Cond.instanceMethod ({ cls := "OrreryTrainsModel", name := "drivers", desc := "(I)J" } : Jvm.MethodName) ∈ oTB := oT5 119 rfl rfl
theorem wd_5_120 : Jvm.Cond.code ({ cls := "OrreryTrainsModel", name := "drivers", desc := "(I)J" } : Jvm.MethodName) prog_11_method_40_code (2 : Nat) (Option.some Jvm.ClassFile.FieldType.long) ∈ oTB := oT5 120 rfl rfl
theorem wd_5_121 : Jvm.Cond.methodLink "OrreryTrainsModel" (150 : Nat) ({ cls := "OrreryTrainsModel", name := "product", desc := "(IIII)J" } : Jvm.MethodName) ∈ oTB := oT5 121 rfl rfl
theorem wd_5_123 : Jvm.Cond.instanceMethod ({ cls := "OrreryTrainsModel", name := "product", desc := "(IIII)J" } : Jvm.MethodName) ∈ oTB := oT5 123 rfl rfl
theorem wd_5_124 : Jvm.Cond.code ({ cls := "OrreryTrainsModel", name := "product", desc := "(IIII)J" } : Jvm.MethodName) prog_11_method_39_code (8 : Nat) (Option.some Jvm.ClassFile.FieldType.long) ∈ oTB := oT5 124 rfl rfl
theorem wd_5_125 : Jvm.Cond.methodLink "OrreryTrainsModel" (161 : Nat) ({ cls := "OrreryTrainsModel", name := "drivens", desc := "(I)J" } : Jvm.MethodName) ∈ oTB := oT5 125 rfl rfl
theorem wd_5_127 : Jvm.Cond.instanceMethod ({ cls := "OrreryTrainsModel", name := "drivens", desc := "(I)J" } : Jvm.MethodName) ∈ oTB := oT5 127 rfl rfl
theorem wd_5_128 : Jvm.Cond.code ({ cls := "OrreryTrainsModel", name := "drivens", desc := "(I)J" } : Jvm.MethodName) prog_11_method_41_code (2 : Nat) (Option.some Jvm.ClassFile.FieldType.long) ∈ oTB := oT5 128 rfl rfl
theorem wd_5_129 : Jvm.Cond.methodLink "OrreryTrainsLaw" (90 : Nat) ({ cls := "OrreryTrainsModel", name := "wrong", desc := "(II)J" } : Jvm.MethodName) ∈ oTB := oT5 129 rfl rfl
theorem wd_5_130 : Jvm.Cond.instanceMethod ({ cls := "OrreryTrainsModel", name := "wrong", desc := "(II)J" } : Jvm.MethodName) ∈ oTB := oT5 130 rfl rfl
theorem wd_5_131 : Jvm.Cond.selects "OrreryTrainsModel" ({ cls := "OrreryTrainsModel", name := "wrong", desc := "(II)J" } : Jvm.MethodName) ({ cls := "OrreryTrainsModel", name := "wrong", desc := "(II)J" } : Jvm.MethodName) ∈ oTB := oT5 131 rfl rfl
theorem wd_5_132 : Jvm.Cond.code ({ cls := "OrreryTrainsModel", name := "wrong", desc := "(II)J" } : Jvm.MethodName) prog_11_method_44_code (5 : Nat) (Option.some Jvm.ClassFile.FieldType.long) ∈ oTB := oT5 132 rfl rfl
theorem wd_5_133 : Jvm.Cond.methodLink "OrreryTrainsModel" (164 : Nat) ({ cls := "OrreryTrainsModel", name := "off", desc := "(IJJ)J" } : Jvm.MethodName) ∈ oTB := oT5 133 rfl rfl
theorem wd_5_135 : Jvm.Cond.instanceMethod ({ cls := "OrreryTrainsModel", name := "off", desc := "(IJJ)J" } : Jvm.MethodName) ∈ oTB := oT5 135 rfl rfl
theorem wd_5_136 : Jvm.Cond.code ({ cls := "OrreryTrainsModel", name := "off", desc := "(IJJ)J" } : Jvm.MethodName) prog_11_method_43_code (6 : Nat) (Option.some Jvm.ClassFile.FieldType.long) ∈ oTB := oT5 136 rfl rfl
theorem wd_5_137 : Jvm.Cond.methodLink "OrreryTrainsLaw" (94 : Nat) ({ cls := "OrreryTrainsModel", name := "backlash", desc := "(II)J" } : Jvm.MethodName) ∈ oTB := oT5 137 rfl rfl
theorem wd_5_138 : Jvm.Cond.instanceMethod ({ cls := "OrreryTrainsModel", name := "backlash", desc := "(II)J" } : Jvm.MethodName) ∈ oTB := oT5 138 rfl rfl
theorem wd_5_139 : Jvm.Cond.selects "OrreryTrainsModel" ({ cls := "OrreryTrainsModel", name := "backlash", desc := "(II)J" } : Jvm.MethodName) ({ cls := "OrreryTrainsModel", name := "backlash", desc := "(II)J" } : Jvm.MethodName) ∈ oTB := oT5 139 rfl rfl
theorem wd_5_140 : Jvm.Cond.code ({ cls := "OrreryTrainsModel", name := "backlash", desc := "(II)J" } : Jvm.MethodName) prog_11_method_46_code (3 : Nat) (Option.some Jvm.ClassFile.FieldType.long) ∈ oTB := oT5 140 rfl rfl
theorem wd_5_141 : Jvm.Cond.methodLink "OrreryTrainsModel" (168 : Nat) ({ cls := "OrreryTrainsModel", name := "lag", desc := "(I)J" } : Jvm.MethodName) ∈ oTB := oT5 141 rfl rfl
theorem wd_5_143 : Jvm.Cond.instanceMethod ({ cls := "OrreryTrainsModel", name := "lag", desc := "(I)J" } : Jvm.MethodName) ∈ oTB := oT5 143 rfl rfl
theorem wd_5_144 : Jvm.Cond.code ({ cls := "OrreryTrainsModel", name := "lag", desc := "(I)J" } : Jvm.MethodName) prog_11_method_45_code (6 : Nat) (Option.some Jvm.ClassFile.FieldType.long) ∈ oTB := oT5 144 rfl rfl
theorem wd_5_145 : Jvm.Cond.constantLong "OrreryTrainsModel" (171 : Nat) (100 : Int64) ∈ oTB := oT5 145 rfl rfl
theorem wd_5_146 : Jvm.Cond.methodLink "OrreryTrainsLaw" (98 : Nat) ({ cls := "OrreryTrainsModel", name := "share", desc := "(II)I" } : Jvm.MethodName) ∈ oTB := oT5 146 rfl rfl
theorem wd_5_147 : Jvm.Cond.instanceMethod ({ cls := "OrreryTrainsModel", name := "share", desc := "(II)I" } : Jvm.MethodName) ∈ oTB := oT5 147 rfl rfl
theorem wd_5_148 : Jvm.Cond.selects "OrreryTrainsModel" ({ cls := "OrreryTrainsModel", name := "share", desc := "(II)I" } : Jvm.MethodName) ({ cls := "OrreryTrainsModel", name := "share", desc := "(II)I" } : Jvm.MethodName) ∈ oTB := oT5 148 rfl rfl
theorem wd_5_149 : Jvm.Cond.code ({ cls := "OrreryTrainsModel", name := "share", desc := "(II)I" } : Jvm.MethodName) prog_11_method_49_code (3 : Nat) (Option.some Jvm.ClassFile.FieldType.int) ∈ oTB := oT5 149 rfl rfl
theorem wd_5_150 : Jvm.Cond.methodLink "OrreryTrainsModel" (173 : Nat) ({ cls := "OrreryTrainsModel", name := "areTwo", desc := "(II)Z" } : Jvm.MethodName) ∈ oTB := oT5 150 rfl rfl
theorem wd_5_152 : Jvm.Cond.instanceMethod ({ cls := "OrreryTrainsModel", name := "areTwo", desc := "(II)Z" } : Jvm.MethodName) ∈ oTB := oT5 152 rfl rfl
theorem wd_5_153 : Jvm.Cond.code ({ cls := "OrreryTrainsModel", name := "areTwo", desc := "(II)Z" } : Jvm.MethodName) prog_11_method_48_code (3 : Nat) (Option.some Jvm.ClassFile.FieldType.boolean) ∈ oTB := oT5 153 rfl rfl
theorem wd_5_154 : Jvm.Cond.methodLink "OrreryTrainsModel" (176 : Nat) ({ cls := "OrreryTrainsModel", name := "shared", desc := "(II)I" } : Jvm.MethodName) ∈ oTB := oT5 154 rfl rfl
theorem wd_5_156 : Jvm.Cond.instanceMethod ({ cls := "OrreryTrainsModel", name := "shared", desc := "(II)I" } : Jvm.MethodName) ∈ oTB := oT5 156 rfl rfl
theorem wd_5_157 : Jvm.Cond.code ({ cls := "OrreryTrainsModel", name := "shared", desc := "(II)I" } : Jvm.MethodName) prog_11_method_47_code (4 : Nat) (Option.some Jvm.ClassFile.FieldType.int) ∈ oTB := oT5 157 rfl rfl
theorem wd_5_158 : Jvm.Cond.methodLink "OrreryTrainsLaw" (102 : Nat) ({ cls := "OrreryTrainsModel", name := "order", desc := "(II)I" } : Jvm.MethodName) ∈ oTB := oT5 158 rfl rfl
theorem wd_5_159 : Jvm.Cond.instanceMethod ({ cls := "OrreryTrainsModel", name := "order", desc := "(II)I" } : Jvm.MethodName) ∈ oTB := oT5 159 rfl rfl
theorem wd_5_160 : Jvm.Cond.selects "OrreryTrainsModel" ({ cls := "OrreryTrainsModel", name := "order", desc := "(II)I" } : Jvm.MethodName) ({ cls := "OrreryTrainsModel", name := "order", desc := "(II)I" } : Jvm.MethodName) ∈ oTB := oT5 160 rfl rfl
theorem wd_5_161 : Jvm.Cond.code ({ cls := "OrreryTrainsModel", name := "order", desc := "(II)I" } : Jvm.MethodName) prog_11_method_51_code (14 : Nat) (Option.some Jvm.ClassFile.FieldType.int) ∈ oTB := oT5 161 rfl rfl
theorem wd_5_162 : Jvm.Cond.methodLink "OrreryTrainsModel" (179 : Nat) ({ cls := "OrreryTrainsModel", name := "wheels", desc := "()I" } : Jvm.MethodName) ∈ oTB := oT5 162 rfl rfl
theorem wd_5_164 : Jvm.Cond.instanceMethod ({ cls := "OrreryTrainsModel", name := "wheels", desc := "()I" } : Jvm.MethodName) ∈ oTB := oT5 164 rfl rfl
theorem wd_5_165 : Jvm.Cond.code ({ cls := "OrreryTrainsModel", name := "wheels", desc := "()I" } : Jvm.MethodName) prog_11_method_50_code (5 : Nat) (Option.some Jvm.ClassFile.FieldType.int) ∈ oTB := oT5 165 rfl rfl
theorem wd_5_166 : Jvm.Cond.methodLink "OrreryTrainsLaw" (106 : Nat) ({ cls := "OrreryTrainsModel", name := "found", desc := "(II)I" } : Jvm.MethodName) ∈ oTB := oT5 166 rfl rfl
theorem wd_5_167 : Jvm.Cond.instanceMethod ({ cls := "OrreryTrainsModel", name := "found", desc := "(II)I" } : Jvm.MethodName) ∈ oTB := oT5 167 rfl rfl
theorem wd_5_168 : Jvm.Cond.selects "OrreryTrainsModel" ({ cls := "OrreryTrainsModel", name := "found", desc := "(II)I" } : Jvm.MethodName) ({ cls := "OrreryTrainsModel", name := "found", desc := "(II)I" } : Jvm.MethodName) ∈ oTB := oT5 168 rfl rfl
theorem wd_5_169 : Jvm.Cond.code ({ cls := "OrreryTrainsModel", name := "found", desc := "(II)I" } : Jvm.MethodName) prog_11_method_54_code (3 : Nat) (Option.some Jvm.ClassFile.FieldType.int) ∈ oTB := oT5 169 rfl rfl
theorem wd_5_170 : Jvm.Cond.constantLong "OrreryTrainsModel" (211 : Nat) (13 : Int64) ∈ oTB := oT5 170 rfl rfl
theorem wd_5_171 : Jvm.Cond.methodLink "OrreryTrainsModel" (213 : Nat) ({ cls := "OrreryTrainsModel", name := "finds", desc := "(I)V" } : Jvm.MethodName) ∈ oTB := oT5 171 rfl rfl
theorem wd_5_173 : Jvm.Cond.instanceMethod ({ cls := "OrreryTrainsModel", name := "finds", desc := "(I)V" } : Jvm.MethodName) ∈ oTB := oT5 173 rfl rfl
theorem wd_5_174 : Jvm.Cond.code ({ cls := "OrreryTrainsModel", name := "finds", desc := "(I)V" } : Jvm.MethodName) prog_11_method_53_code (6 : Nat) (Option.none : Option Jvm.ClassFile.FieldType) ∈ oTB := oT5 174 rfl rfl
theorem wd_5_175 : Jvm.Cond.methodLink "OrreryTrainsModel" (207 : Nat) ({ cls := "OrreryTrainsModel", name := "tries", desc := "(IIIIII)V" } : Jvm.MethodName) ∈ oTB := oT5 175 rfl rfl
theorem wd_5_177 : Jvm.Cond.instanceMethod ({ cls := "OrreryTrainsModel", name := "tries", desc := "(IIIIII)V" } : Jvm.MethodName) ∈ oTB := oT5 177 rfl rfl
theorem wd_5_178 : Jvm.Cond.code ({ cls := "OrreryTrainsModel", name := "tries", desc := "(IIIIII)V" } : Jvm.MethodName) prog_11_method_52_code (18 : Nat) (Option.none : Option Jvm.ClassFile.FieldType) ∈ oTB := oT5 178 rfl rfl
theorem wd_5_179 : Jvm.Cond.methodLink "OrreryTrainsLaw" (110 : Nat) ({ cls := "OrreryTrainsModel", name := "foundWrong", desc := "(II)J" } : Jvm.MethodName) ∈ oTB := oT5 179 rfl rfl
theorem wd_5_180 : Jvm.Cond.instanceMethod ({ cls := "OrreryTrainsModel", name := "foundWrong", desc := "(II)J" } : Jvm.MethodName) ∈ oTB := oT5 180 rfl rfl
theorem wd_5_181 : Jvm.Cond.selects "OrreryTrainsModel" ({ cls := "OrreryTrainsModel", name := "foundWrong", desc := "(II)J" } : Jvm.MethodName) ({ cls := "OrreryTrainsModel", name := "foundWrong", desc := "(II)J" } : Jvm.MethodName) ∈ oTB := oT5 181 rfl rfl
theorem wd_5_182 : Jvm.Cond.code ({ cls := "OrreryTrainsModel", name := "foundWrong", desc := "(II)J" } : Jvm.MethodName) prog_11_method_55_code (7 : Nat) (Option.some Jvm.ClassFile.FieldType.long) ∈ oTB := oT5 182 rfl rfl
theorem wd_5_183 : Jvm.Cond.methodLink "OrreryTrainsLaw" (114 : Nat) ({ cls := "OrreryTrainsModel", name := "turn", desc := "(I)I" } : Jvm.MethodName) ∈ oTB := oT5 183 rfl rfl
theorem wd_5_184 : Jvm.Cond.instanceMethod ({ cls := "OrreryTrainsModel", name := "turn", desc := "(I)I" } : Jvm.MethodName) ∈ oTB := oT5 184 rfl rfl
theorem wd_5_185 : Jvm.Cond.selects "OrreryTrainsModel" ({ cls := "OrreryTrainsModel", name := "turn", desc := "(I)I" } : Jvm.MethodName) ({ cls := "OrreryTrainsModel", name := "turn", desc := "(I)I" } : Jvm.MethodName) ∈ oTB := oT5 185 rfl rfl
theorem wd_5_186 : Jvm.Cond.code ({ cls := "OrreryTrainsModel", name := "turn", desc := "(I)I" } : Jvm.MethodName) prog_11_method_57_code (2 : Nat) (Option.some Jvm.ClassFile.FieldType.int) ∈ oTB := oT5 186 rfl rfl
theorem wd_5_187 : Jvm.Cond.constantLong "OrreryTrainsModel" (216 : Nat) (-99 : Int64) ∈ oTB := oT5 187 rfl rfl
theorem wd_5_188 : Jvm.Cond.constantLong "OrreryTrainsModel" (218 : Nat) (-9999 : Int64) ∈ oTB := oT5 188 rfl rfl
theorem wd_5_189 : Jvm.Cond.methodLink "OrreryTrainsModel" (220 : Nat) ({ cls := "OrreryTrainsModel", name := "goes", desc := "(I)V" } : Jvm.MethodName) ∈ oTB := oT5 189 rfl rfl
theorem wd_5_191 : Jvm.Cond.instanceMethod ({ cls := "OrreryTrainsModel", name := "goes", desc := "(I)V" } : Jvm.MethodName) ∈ oTB := oT5 191 rfl rfl
theorem wd_5_192 : Jvm.Cond.code ({ cls := "OrreryTrainsModel", name := "goes", desc := "(I)V" } : Jvm.MethodName) prog_11_method_56_code (3 : Nat) (Option.none : Option Jvm.ClassFile.FieldType) ∈ oTB := oT5 192 rfl rfl
theorem wd_5_193 : Jvm.Cond.methodLink "OrreryTrainsLaw" (118 : Nat) ({ cls := "OrreryTrainsModel", name := "crank", desc := "(I)I" } : Jvm.MethodName) ∈ oTB := oT5 193 rfl rfl
theorem wd_5_194 : Jvm.Cond.instanceMethod ({ cls := "OrreryTrainsModel", name := "crank", desc := "(I)I" } : Jvm.MethodName) ∈ oTB := oT5 194 rfl rfl
theorem wd_5_195 : Jvm.Cond.selects "OrreryTrainsModel" ({ cls := "OrreryTrainsModel", name := "crank", desc := "(I)I" } : Jvm.MethodName) ({ cls := "OrreryTrainsModel", name := "crank", desc := "(I)I" } : Jvm.MethodName) ∈ oTB := oT5 195 rfl rfl
theorem wd_5_196 : Jvm.Cond.code ({ cls := "OrreryTrainsModel", name := "crank", desc := "(I)I" } : Jvm.MethodName) prog_11_method_58_code (2 : Nat) (Option.some Jvm.ClassFile.FieldType.int) ∈ oTB := oT5 196 rfl rfl
theorem wd_5_197 : Jvm.Cond.methodLink "OrreryTrainsLaw" (123 : Nat) ({ cls := "OrreryTrainsModel", name := "stands", desc := "(I)J" } : Jvm.MethodName) ∈ oTB := oT5 197 rfl rfl
theorem wd_5_198 : Jvm.Cond.instanceMethod ({ cls := "OrreryTrainsModel", name := "stands", desc := "(I)J" } : Jvm.MethodName) ∈ oTB := oT5 198 rfl rfl
theorem wd_5_199 : Jvm.Cond.selects "OrreryTrainsModel" ({ cls := "OrreryTrainsModel", name := "stands", desc := "(I)J" } : Jvm.MethodName) ({ cls := "OrreryTrainsModel", name := "stands", desc := "(I)J" } : Jvm.MethodName) ∈ oTB := oT5 199 rfl rfl
theorem wd_5_200 : Jvm.Cond.code ({ cls := "OrreryTrainsModel", name := "stands", desc := "(I)J" } : Jvm.MethodName) prog_11_method_60_code (2 : Nat) (Option.some Jvm.ClassFile.FieldType.long) ∈ oTB := oT5 200 rfl rfl
theorem wd_5_201 : Jvm.Cond.methodLink "OrreryTrainsModel" (225 : Nat) ({ cls := "OrreryTrainsModel", name := "standsAt", desc := "(I)J" } : Jvm.MethodName) ∈ oTB := oT5 201 rfl rfl
theorem wd_5_203 : Jvm.Cond.instanceMethod ({ cls := "OrreryTrainsModel", name := "standsAt", desc := "(I)J" } : Jvm.MethodName) ∈ oTB := oT5 203 rfl rfl
theorem wd_5_204 : Jvm.Cond.code ({ cls := "OrreryTrainsModel", name := "standsAt", desc := "(I)J" } : Jvm.MethodName) prog_11_method_59_code (6 : Nat) (Option.some Jvm.ClassFile.FieldType.long) ∈ oTB := oT5 204 rfl rfl
theorem wd_5_205 : Jvm.Cond.constantLong "OrreryTrainsModel" (223 : Nat) (1000000 : Int64) ∈ oTB := oT5 205 rfl rfl
theorem wd_5_206 : Jvm.Cond.methodLink "OrreryTrainsLaw" (127 : Nat) ({ cls := "OrreryTrainsModel", name := "meet", desc := "(II)J" } : Jvm.MethodName) ∈ oTB := oT5 206 rfl rfl
theorem wd_5_207 : Jvm.Cond.instanceMethod ({ cls := "OrreryTrainsModel", name := "meet", desc := "(II)J" } : Jvm.MethodName) ∈ oTB := oT5 207 rfl rfl
theorem wd_5_208 : Jvm.Cond.selects "OrreryTrainsModel" ({ cls := "OrreryTrainsModel", name := "meet", desc := "(II)J" } : Jvm.MethodName) ({ cls := "OrreryTrainsModel", name := "meet", desc := "(II)J" } : Jvm.MethodName) ∈ oTB := oT5 208 rfl rfl
theorem wd_5_209 : Jvm.Cond.code ({ cls := "OrreryTrainsModel", name := "meet", desc := "(II)J" } : Jvm.MethodName) prog_11_method_61_code (7 : Nat) (Option.some Jvm.ClassFile.FieldType.long) ∈ oTB := oT5 209 rfl rfl
theorem wd_5_210 : Jvm.Cond.methodLink "OrreryTrainsModel" (228 : Nat) ({ cls := "OrreryTrainsModel", name := "turns", desc := "(II)J" } : Jvm.MethodName) ∈ oTB := oT5 210 rfl rfl
theorem wd_5_211 : Jvm.Cond.methodLink "OrreryTrainsLaw" (131 : Nat) ({ cls := "OrreryTrainsModel", name := "join", desc := "(III)I" } : Jvm.MethodName) ∈ oTB := oT5 211 rfl rfl
theorem wd_5_212 : Jvm.Cond.instanceMethod ({ cls := "OrreryTrainsModel", name := "join", desc := "(III)I" } : Jvm.MethodName) ∈ oTB := oT5 212 rfl rfl
theorem wd_5_213 : Jvm.Cond.selects "OrreryTrainsModel" ({ cls := "OrreryTrainsModel", name := "join", desc := "(III)I" } : Jvm.MethodName) ({ cls := "OrreryTrainsModel", name := "join", desc := "(III)I" } : Jvm.MethodName) ∈ oTB := oT5 213 rfl rfl
theorem wd_5_214 : Jvm.Cond.code ({ cls := "OrreryTrainsModel", name := "join", desc := "(III)I" } : Jvm.MethodName) prog_11_method_63_code (11 : Nat) (Option.some Jvm.ClassFile.FieldType.int) ∈ oTB := oT5 214 rfl rfl
theorem wd_5_215 : Jvm.Cond.constantLong "OrreryTrainsModel" (232 : Nat) (499 : Int64) ∈ oTB := oT5 215 rfl rfl
theorem wd_5_216 : Jvm.Cond.methodLink "OrreryTrainsModel" (234 : Nat) ({ cls := "OrreryTrainsModel", name := "partOf", desc := "(II)J" } : Jvm.MethodName) ∈ oTB := oT5 216 rfl rfl
theorem wd_5_218 : Jvm.Cond.instanceMethod ({ cls := "OrreryTrainsModel", name := "partOf", desc := "(II)J" } : Jvm.MethodName) ∈ oTB := oT5 218 rfl rfl
theorem wd_5_219 : Jvm.Cond.code ({ cls := "OrreryTrainsModel", name := "partOf", desc := "(II)J" } : Jvm.MethodName) prog_11_method_62_code (7 : Nat) (Option.some Jvm.ClassFile.FieldType.long) ∈ oTB := oT5 219 rfl rfl
theorem wd_5_220 : Jvm.Cond.constantLong "OrreryTrainsModel" (237 : Nat) (1000 : Int64) ∈ oTB := oT5 220 rfl rfl
theorem wd_5_221 : Jvm.Cond.methodLink "OrreryTrainsLaw" (135 : Nat) ({ cls := "OrreryTrainsModel", name := "drift", desc := "(II)J" } : Jvm.MethodName) ∈ oTB := oT5 221 rfl rfl
theorem wd_5_222 : Jvm.Cond.instanceMethod ({ cls := "OrreryTrainsModel", name := "drift", desc := "(II)J" } : Jvm.MethodName) ∈ oTB := oT5 222 rfl rfl
theorem wd_5_223 : Jvm.Cond.selects "OrreryTrainsModel" ({ cls := "OrreryTrainsModel", name := "drift", desc := "(II)J" } : Jvm.MethodName) ({ cls := "OrreryTrainsModel", name := "drift", desc := "(II)J" } : Jvm.MethodName) ∈ oTB := oT5 223 rfl rfl
theorem wd_5_224 : Jvm.Cond.code ({ cls := "OrreryTrainsModel", name := "drift", desc := "(II)J" } : Jvm.MethodName) prog_11_method_64_code (3 : Nat) (Option.some Jvm.ClassFile.FieldType.long) ∈ oTB := oT5 224 rfl rfl
theorem wd_5_225 : Jvm.Cond.methodLink "OrreryTrainsModel" (239 : Nat) ({ cls := "OrreryTrainsModel", name := "wrong", desc := "(II)J" } : Jvm.MethodName) ∈ oTB := oT5 225 rfl rfl
theorem wd_5_226 : Jvm.Cond.methodLink "OrreryTrainsLaw" (142 : Nat) ({ cls := "OrreryTrainsModel", name := "were", desc := "(IIJI)I" } : Jvm.MethodName) ∈ oTB := oT5 226 rfl rfl
theorem wd_5_227 : Jvm.Cond.instanceMethod ({ cls := "OrreryTrainsModel", name := "were", desc := "(IIJI)I" } : Jvm.MethodName) ∈ oTB := oT5 227 rfl rfl
theorem wd_5_228 : Jvm.Cond.selects "OrreryTrainsModel" ({ cls := "OrreryTrainsModel", name := "were", desc := "(IIJI)I" } : Jvm.MethodName) ({ cls := "OrreryTrainsModel", name := "were", desc := "(IIJI)I" } : Jvm.MethodName) ∈ oTB := oT5 228 rfl rfl
theorem wd_5_229 : Jvm.Cond.code ({ cls := "OrreryTrainsModel", name := "were", desc := "(IIJI)I" } : Jvm.MethodName) prog_11_method_65_code (11 : Nat) (Option.some Jvm.ClassFile.FieldType.int) ∈ oTB := oT5 229 rfl rfl
theorem wd_5_230 : Jvm.Cond.methodLink "OrreryTrainsLaw" (147 : Nat) ({ cls := "OrreryTrainsModel", name := "odds", desc := "(IIII)J" } : Jvm.MethodName) ∈ oTB := oT5 230 rfl rfl
theorem wd_5_231 : Jvm.Cond.instanceMethod ({ cls := "OrreryTrainsModel", name := "odds", desc := "(IIII)J" } : Jvm.MethodName) ∈ oTB := oT5 231 rfl rfl
theorem wd_5_232 : Jvm.Cond.selects "OrreryTrainsModel" ({ cls := "OrreryTrainsModel", name := "odds", desc := "(IIII)J" } : Jvm.MethodName) ({ cls := "OrreryTrainsModel", name := "odds", desc := "(IIII)J" } : Jvm.MethodName) ∈ oTB := oT5 232 rfl rfl
theorem wd_5_233 : Jvm.Cond.code ({ cls := "OrreryTrainsModel", name := "odds", desc := "(IIII)J" } : Jvm.MethodName) prog_11_method_67_code (7 : Nat) (Option.some Jvm.ClassFile.FieldType.long) ∈ oTB := oT5 233 rfl rfl
theorem wd_5_234 : Jvm.Cond.constantLong "OrreryTrainsModel" (243 : Nat) (30 : Int64) ∈ oTB := oT5 234 rfl rfl
theorem wd_5_235 : Jvm.Cond.methodLink "OrreryTrainsModel" (245 : Nat) ({ cls := "OrreryTrainsModel", name := "slips", desc := "(II)Z" } : Jvm.MethodName) ∈ oTB := oT5 235 rfl rfl
theorem wd_5_237 : Jvm.Cond.instanceMethod ({ cls := "OrreryTrainsModel", name := "slips", desc := "(II)Z" } : Jvm.MethodName) ∈ oTB := oT5 237 rfl rfl
theorem wd_5_238 : Jvm.Cond.code ({ cls := "OrreryTrainsModel", name := "slips", desc := "(II)Z" } : Jvm.MethodName) prog_11_method_66_code (6 : Nat) (Option.some Jvm.ClassFile.FieldType.boolean) ∈ oTB := oT5 238 rfl rfl
theorem wd_5_239 : Jvm.Cond.constant "OrreryTrainsModel" (242 : Nat) (1103515245 : Int32) ∈ oTB := oT5 239 rfl rfl
theorem wd_6_0 : Jvm.Cond.methodLink "OrreryTrainsLaw" (151 : Nat) ({ cls := "OrreryTrainsModel", name := "plan", desc := "(II)I" } : Jvm.MethodName) ∈ oTB := oT6 0 rfl rfl
theorem wd_6_1 : Jvm.Cond.instanceMethod ({ cls := "OrreryTrainsModel", name := "plan", desc := "(II)I" } : Jvm.MethodName) ∈ oTB := oT6 1 rfl rfl
theorem wd_6_2 : Jvm.Cond.selects "OrreryTrainsModel" ({ cls := "OrreryTrainsModel", name := "plan", desc := "(II)I" } : Jvm.MethodName) ({ cls := "OrreryTrainsModel", name := "plan", desc := "(II)I" } : Jvm.MethodName) ∈ oTB := oT6 2 rfl rfl
theorem wd_6_3 : Jvm.Cond.code ({ cls := "OrreryTrainsModel", name := "plan", desc := "(II)I" } : Jvm.MethodName) prog_11_method_68_code (3 : Nat) (Option.some Jvm.ClassFile.FieldType.int) ∈ oTB := oT6 3 rfl rfl
theorem wd_6_4 : Jvm.Cond.methodLink "OrreryTrainsLaw" (155 : Nat) ({ cls := "OrreryTrainsModel", name := "ends", desc := "(I)J" } : Jvm.MethodName) ∈ oTB := oT6 4 rfl rfl
theorem wd_6_5 : Jvm.Cond.instanceMethod ({ cls := "OrreryTrainsModel", name := "ends", desc := "(I)J" } : Jvm.MethodName) ∈ oTB := oT6 5 rfl rfl
theorem wd_6_6 : Jvm.Cond.selects "OrreryTrainsModel" ({ cls := "OrreryTrainsModel", name := "ends", desc := "(I)J" } : Jvm.MethodName) ({ cls := "OrreryTrainsModel", name := "ends", desc := "(I)J" } : Jvm.MethodName) ∈ oTB := oT6 6 rfl rfl
theorem wd_6_7 : Jvm.Cond.code ({ cls := "OrreryTrainsModel", name := "ends", desc := "(I)J" } : Jvm.MethodName) prog_11_method_71_code (4 : Nat) (Option.some Jvm.ClassFile.FieldType.long) ∈ oTB := oT6 7 rfl rfl
theorem wd_6_8 : Jvm.Cond.methodLink "OrreryTrainsModel" (252 : Nat) ({ cls := "OrreryTrainsModel", name := "copies", desc := "([I[I)V" } : Jvm.MethodName) ∈ oTB := oT6 8 rfl rfl
theorem wd_6_9 : Jvm.Cond.static ({ cls := "OrreryTrainsModel", name := "copies", desc := "([I[I)V" } : Jvm.MethodName) ∈ oTB := oT6 9 rfl rfl
theorem wd_6_10 : Jvm.Cond.code ({ cls := "OrreryTrainsModel", name := "copies", desc := "([I[I)V" } : Jvm.MethodName) prog_11_method_81_code (3 : Nat) (Option.none : Option Jvm.ClassFile.FieldType) ∈ oTB := oT6 10 rfl rfl
theorem wd_6_11 : Jvm.Cond.methodLink "OrreryTrainsModel" (256 : Nat) ({ cls := "OrreryTrainsModel", name := "done", desc := "(II)V" } : Jvm.MethodName) ∈ oTB := oT6 11 rfl rfl
theorem wd_6_13 : Jvm.Cond.instanceMethod ({ cls := "OrreryTrainsModel", name := "done", desc := "(II)V" } : Jvm.MethodName) ∈ oTB := oT6 13 rfl rfl
theorem wd_6_14 : Jvm.Cond.code ({ cls := "OrreryTrainsModel", name := "done", desc := "(II)V" } : Jvm.MethodName) prog_11_method_70_code (3 : Nat) (Option.none : Option Jvm.ClassFile.FieldType) ∈ oTB := oT6 14 rfl rfl
theorem wd_6_15 : Jvm.Cond.methodLink "OrreryTrainsModel" (248 : Nat) ({ cls := "OrreryTrainsModel", name := "changes", desc := "(II)V" } : Jvm.MethodName) ∈ oTB := oT6 15 rfl rfl
theorem wd_6_17 : Jvm.Cond.instanceMethod ({ cls := "OrreryTrainsModel", name := "changes", desc := "(II)V" } : Jvm.MethodName) ∈ oTB := oT6 17 rfl rfl
theorem wd_6_18 : Jvm.Cond.code ({ cls := "OrreryTrainsModel", name := "changes", desc := "(II)V" } : Jvm.MethodName) prog_11_method_69_code (4 : Nat) (Option.none : Option Jvm.ClassFile.FieldType) ∈ oTB := oT6 18 rfl rfl
theorem wd_6_19 : Jvm.Cond.methodLink "OrreryTrainsLaw" (159 : Nat) ({ cls := "OrreryTrainsModel", name := "writePair", desc := "(I)I" } : Jvm.MethodName) ∈ oTB := oT6 19 rfl rfl
theorem wd_6_20 : Jvm.Cond.instanceMethod ({ cls := "OrreryTrainsModel", name := "writePair", desc := "(I)I" } : Jvm.MethodName) ∈ oTB := oT6 20 rfl rfl
theorem wd_6_21 : Jvm.Cond.selects "OrreryTrainsModel" ({ cls := "OrreryTrainsModel", name := "writePair", desc := "(I)I" } : Jvm.MethodName) ({ cls := "OrreryTrainsModel", name := "writePair", desc := "(I)I" } : Jvm.MethodName) ∈ oTB := oT6 21 rfl rfl
theorem wd_6_22 : Jvm.Cond.code ({ cls := "OrreryTrainsModel", name := "writePair", desc := "(I)I" } : Jvm.MethodName) prog_11_method_73_code (2 : Nat) (Option.some Jvm.ClassFile.FieldType.int) ∈ oTB := oT6 22 rfl rfl
theorem wd_6_23 : Jvm.Cond.methodLink "OrreryTrainsModel" (259 : Nat) ({ cls := "OrreryTrainsModel", name := "two", desc := "(II)V" } : Jvm.MethodName) ∈ oTB := oT6 23 rfl rfl
theorem wd_6_25 : Jvm.Cond.instanceMethod ({ cls := "OrreryTrainsModel", name := "two", desc := "(II)V" } : Jvm.MethodName) ∈ oTB := oT6 25 rfl rfl
theorem wd_6_26 : Jvm.Cond.code ({ cls := "OrreryTrainsModel", name := "two", desc := "(II)V" } : Jvm.MethodName) prog_11_method_72_code (3 : Nat) (Option.none : Option Jvm.ClassFile.FieldType) ∈ oTB := oT6 26 rfl rfl
theorem wd_6_27 : Jvm.Cond.methodLink "OrreryTrainsLaw" (163 : Nat) ({ cls := "OrreryTrainsModel", name := "writeTrain", desc := "(I)I" } : Jvm.MethodName) ∈ oTB := oT6 27 rfl rfl
theorem wd_6_28 : Jvm.Cond.instanceMethod ({ cls := "OrreryTrainsModel", name := "writeTrain", desc := "(I)I" } : Jvm.MethodName) ∈ oTB := oT6 28 rfl rfl
theorem wd_6_29 : Jvm.Cond.selects "OrreryTrainsModel" ({ cls := "OrreryTrainsModel", name := "writeTrain", desc := "(I)I" } : Jvm.MethodName) ({ cls := "OrreryTrainsModel", name := "writeTrain", desc := "(I)I" } : Jvm.MethodName) ∈ oTB := oT6 29 rfl rfl
theorem wd_6_30 : Jvm.Cond.code ({ cls := "OrreryTrainsModel", name := "writeTrain", desc := "(I)I" } : Jvm.MethodName) prog_11_method_74_code (3 : Nat) (Option.some Jvm.ClassFile.FieldType.int) ∈ oTB := oT6 30 rfl rfl
theorem wd_6_31 : Jvm.Cond.methodLink "OrreryTrainsLaw" (167 : Nat) ({ cls := "OrreryTrainsModel", name := "paper", desc := "(I)I" } : Jvm.MethodName) ∈ oTB := oT6 31 rfl rfl
theorem wd_6_32 : Jvm.Cond.instanceMethod ({ cls := "OrreryTrainsModel", name := "paper", desc := "(I)I" } : Jvm.MethodName) ∈ oTB := oT6 32 rfl rfl
theorem wd_6_33 : Jvm.Cond.selects "OrreryTrainsModel" ({ cls := "OrreryTrainsModel", name := "paper", desc := "(I)I" } : Jvm.MethodName) ({ cls := "OrreryTrainsModel", name := "paper", desc := "(I)I" } : Jvm.MethodName) ∈ oTB := oT6 33 rfl rfl
theorem wd_6_34 : Jvm.Cond.code ({ cls := "OrreryTrainsModel", name := "paper", desc := "(I)I" } : Jvm.MethodName) prog_11_method_75_code (2 : Nat) (Option.some Jvm.ClassFile.FieldType.int) ∈ oTB := oT6 34 rfl rfl
theorem wd_6_35 : Jvm.Cond.methodLink "OrreryTrainsLaw" (171 : Nat) ({ cls := "OrreryTrainsModel", name := "judge", desc := "(I)I" } : Jvm.MethodName) ∈ oTB := oT6 35 rfl rfl
theorem wd_6_36 : Jvm.Cond.instanceMethod ({ cls := "OrreryTrainsModel", name := "judge", desc := "(I)I" } : Jvm.MethodName) ∈ oTB := oT6 36 rfl rfl
theorem wd_6_37 : Jvm.Cond.selects "OrreryTrainsModel" ({ cls := "OrreryTrainsModel", name := "judge", desc := "(I)I" } : Jvm.MethodName) ({ cls := "OrreryTrainsModel", name := "judge", desc := "(I)I" } : Jvm.MethodName) ∈ oTB := oT6 37 rfl rfl
theorem wd_6_38 : Jvm.Cond.code ({ cls := "OrreryTrainsModel", name := "judge", desc := "(I)I" } : Jvm.MethodName) prog_11_method_77_code (3 : Nat) (Option.some Jvm.ClassFile.FieldType.int) ∈ oTB := oT6 38 rfl rfl
theorem wd_6_39 : Jvm.Cond.methodLink "OrreryTrainsModel" (267 : Nat) ({ cls := "OrreryTrainsModel", name := "isList", desc := "(I)Z" } : Jvm.MethodName) ∈ oTB := oT6 39 rfl rfl
theorem wd_6_40 : Jvm.Cond.static ({ cls := "OrreryTrainsModel", name := "isList", desc := "(I)Z" } : Jvm.MethodName) ∈ oTB := oT6 40 rfl rfl
theorem wd_6_41 : Jvm.Cond.code ({ cls := "OrreryTrainsModel", name := "isList", desc := "(I)Z" } : Jvm.MethodName) prog_11_method_76_code (1 : Nat) (Option.some Jvm.ClassFile.FieldType.boolean) ∈ oTB := oT6 41 rfl rfl
theorem wd_6_42 : Jvm.Cond.constantLong "OrreryTrainsModel" (265 : Nat) (3 : Int64) ∈ oTB := oT6 42 rfl rfl
theorem wd_6_43 : Jvm.Cond.methodLink "OrreryTrainsLaw" (175 : Nat) ({ cls := "OrreryTrainsModel", name := "list", desc := "(II)I" } : Jvm.MethodName) ∈ oTB := oT6 43 rfl rfl
theorem wd_6_44 : Jvm.Cond.instanceMethod ({ cls := "OrreryTrainsModel", name := "list", desc := "(II)I" } : Jvm.MethodName) ∈ oTB := oT6 44 rfl rfl
theorem wd_6_45 : Jvm.Cond.selects "OrreryTrainsModel" ({ cls := "OrreryTrainsModel", name := "list", desc := "(II)I" } : Jvm.MethodName) ({ cls := "OrreryTrainsModel", name := "list", desc := "(II)I" } : Jvm.MethodName) ∈ oTB := oT6 45 rfl rfl
theorem wd_6_46 : Jvm.Cond.code ({ cls := "OrreryTrainsModel", name := "list", desc := "(II)I" } : Jvm.MethodName) prog_11_method_78_code (4 : Nat) (Option.some Jvm.ClassFile.FieldType.int) ∈ oTB := oT6 46 rfl rfl
theorem wd_6_47 : Jvm.Cond.methodLink "OrreryTrainsLaw" (180 : Nat) ({ cls := "OrreryTrainsModel", name := "put", desc := "(IIJ)I" } : Jvm.MethodName) ∈ oTB := oT6 47 rfl rfl
theorem wd_6_48 : Jvm.Cond.instanceMethod ({ cls := "OrreryTrainsModel", name := "put", desc := "(IIJ)I" } : Jvm.MethodName) ∈ oTB := oT6 48 rfl rfl
theorem wd_6_49 : Jvm.Cond.selects "OrreryTrainsModel" ({ cls := "OrreryTrainsModel", name := "put", desc := "(IIJ)I" } : Jvm.MethodName) ({ cls := "OrreryTrainsModel", name := "put", desc := "(IIJ)I" } : Jvm.MethodName) ∈ oTB := oT6 49 rfl rfl
theorem wd_6_50 : Jvm.Cond.code ({ cls := "OrreryTrainsModel", name := "put", desc := "(IIJ)I" } : Jvm.MethodName) prog_11_method_79_code (5 : Nat) (Option.some Jvm.ClassFile.FieldType.int) ∈ oTB := oT6 50 rfl rfl
theorem wd_6_51 : Jvm.Cond.methodLink "OrreryTrainsLaw" (184 : Nat) ({ cls := "OrreryTrainsModel", name := "get", desc := "(II)J" } : Jvm.MethodName) ∈ oTB := oT6 51 rfl rfl
theorem wd_6_52 : Jvm.Cond.instanceMethod ({ cls := "OrreryTrainsModel", name := "get", desc := "(II)J" } : Jvm.MethodName) ∈ oTB := oT6 52 rfl rfl
theorem wd_6_53 : Jvm.Cond.selects "OrreryTrainsModel" ({ cls := "OrreryTrainsModel", name := "get", desc := "(II)J" } : Jvm.MethodName) ({ cls := "OrreryTrainsModel", name := "get", desc := "(II)J" } : Jvm.MethodName) ∈ oTB := oT6 53 rfl rfl
theorem wd_6_54 : Jvm.Cond.code ({ cls := "OrreryTrainsModel", name := "get", desc := "(II)J" } : Jvm.MethodName) prog_11_method_80_code (3 : Nat) (Option.some Jvm.ClassFile.FieldType.long) ∈ oTB := oT6 54 rfl rfl
theorem wd_6_55 : Jvm.Cond.methodLink "OrreryTrainsLaw" (188 : Nat) ({ cls := "OrreryTrainsModel", name := "image", desc := "()I" } : Jvm.MethodName) ∈ oTB := oT6 55 rfl rfl
theorem wd_6_56 : Jvm.Cond.instanceMethod ({ cls := "OrreryTrainsModel", name := "image", desc := "()I" } : Jvm.MethodName) ∈ oTB := oT6 56 rfl rfl
theorem wd_6_57 : Jvm.Cond.selects "OrreryTrainsModel" ({ cls := "OrreryTrainsModel", name := "image", desc := "()I" } : Jvm.MethodName) ({ cls := "OrreryTrainsModel", name := "image", desc := "()I" } : Jvm.MethodName) ∈ oTB := oT6 57 rfl rfl
theorem wd_6_58 : Jvm.Cond.code ({ cls := "OrreryTrainsModel", name := "image", desc := "()I" } : Jvm.MethodName) prog_11_method_82_code (1 : Nat) (Option.some Jvm.ClassFile.FieldType.int) ∈ oTB := oT6 58 rfl rfl
theorem wd_6_59 : Jvm.Cond.methodLink "OrreryTrainsLaw" (192 : Nat) ({ cls := "OrreryTrainsModel", name := "undo", desc := "()I" } : Jvm.MethodName) ∈ oTB := oT6 59 rfl rfl
theorem wd_6_60 : Jvm.Cond.instanceMethod ({ cls := "OrreryTrainsModel", name := "undo", desc := "()I" } : Jvm.MethodName) ∈ oTB := oT6 60 rfl rfl
theorem wd_6_61 : Jvm.Cond.selects "OrreryTrainsModel" ({ cls := "OrreryTrainsModel", name := "undo", desc := "()I" } : Jvm.MethodName) ({ cls := "OrreryTrainsModel", name := "undo", desc := "()I" } : Jvm.MethodName) ∈ oTB := oT6 61 rfl rfl
theorem wd_6_62 : Jvm.Cond.code ({ cls := "OrreryTrainsModel", name := "undo", desc := "()I" } : Jvm.MethodName) prog_11_method_83_code (1 : Nat) (Option.some Jvm.ClassFile.FieldType.int) ∈ oTB := oT6 62 rfl rfl
theorem wd_6_63 : Jvm.Cond.methodLink "OrreryTrainsLaw" (196 : Nat) ({ cls := "OrreryTrainsModel", name := "count", desc := "(I)I" } : Jvm.MethodName) ∈ oTB := oT6 63 rfl rfl
theorem wd_6_64 : Jvm.Cond.instanceMethod ({ cls := "OrreryTrainsModel", name := "count", desc := "(I)I" } : Jvm.MethodName) ∈ oTB := oT6 64 rfl rfl
theorem wd_6_65 : Jvm.Cond.selects "OrreryTrainsModel" ({ cls := "OrreryTrainsModel", name := "count", desc := "(I)I" } : Jvm.MethodName) ({ cls := "OrreryTrainsModel", name := "count", desc := "(I)I" } : Jvm.MethodName) ∈ oTB := oT6 65 rfl rfl
theorem wd_6_66 : Jvm.Cond.code ({ cls := "OrreryTrainsModel", name := "count", desc := "(I)I" } : Jvm.MethodName) prog_11_method_84_code (4 : Nat) (Option.some Jvm.ClassFile.FieldType.int) ∈ oTB := oT6 66 rfl rfl
theorem wd_6_67 : Jvm.Cond.constantLong "OrreryTrainsLaw" (136 : Nat) (4294967295 : Int64) ∈ oTB := oT6 67 rfl rfl
theorem wd_6_68 : Jvm.Cond.fieldLink "java/lang/String" (15 : Nat) "java/lang/String" "coder" "B" ∈ oTB := oT6 68 rfl rfl
theorem wd_6_69 : Jvm.Cond.fieldLink "java/lang/String" (9 : Nat) "java/lang/String" "value" "[B" ∈ oTB := oT6 69 rfl rfl
set_option maxRecDepth 20000 in
theorem inX0 : ∀ w ∈ wsX00, w ∈ oTB := fun w h => let k : w ∈ tables_1 ∧ goodWord w = true := (show ∀ w ∈ wsX00, w ∈ tables_1 ∧ goodWord w = true by decide +kernel) w h; oTB_t k.1 k.2
set_option maxRecDepth 20000 in
theorem inX1 : ∀ w ∈ wsX10, w ∈ oTB := fun w h => let k : w ∈ tables_1 ∧ goodWord w = true := (show ∀ w ∈ wsX10, w ∈ tables_1 ∧ goodWord w = true by decide +kernel) w h; oTB_t k.1 k.2
set_option maxRecDepth 20000 in
theorem inX2 : ∀ w ∈ wsX20, w ∈ oTB := fun w h => let k : w ∈ tables_1 ∧ goodWord w = true := (show ∀ w ∈ wsX20, w ∈ tables_1 ∧ goodWord w = true by decide +kernel) w h; oTB_t k.1 k.2
set_option maxRecDepth 20000 in
theorem inX3 : ∀ w ∈ wsX30, w ∈ oTB := fun w h => let k : w ∈ tables_1 ∧ goodWord w = true := (show ∀ w ∈ wsX30, w ∈ tables_1 ∧ goodWord w = true by decide +kernel) w h; oTB_t k.1 k.2
set_option maxRecDepth 20000 in
theorem inX4 : ∀ w ∈ wsX40, w ∈ oTB := fun w h => let k : w ∈ tables_1 ∧ goodWord w = true := (show ∀ w ∈ wsX40, w ∈ tables_1 ∧ goodWord w = true by decide +kernel) w h; oTB_t k.1 k.2
set_option maxRecDepth 20000 in
theorem inX5 : ∀ w ∈ wsX50, w ∈ oTB := fun w h => let k : w ∈ tables_1 ∧ goodWord w = true := (show ∀ w ∈ wsX50, w ∈ tables_1 ∧ goodWord w = true by decide +kernel) w h; oTB_t k.1 k.2
set_option maxRecDepth 20000 in
theorem inX6 : ∀ w ∈ wsX60, w ∈ oTB := fun w h => let k : w ∈ tables_1 ∧ goodWord w = true := (show ∀ w ∈ wsX60, w ∈ tables_1 ∧ goodWord w = true by decide +kernel) w h; oTB_t k.1 k.2
set_option maxRecDepth 20000 in
theorem inX7 : ∀ w ∈ wsX70, w ∈ oTB := fun w h => let k : w ∈ tables_1 ∧ goodWord w = true := (show ∀ w ∈ wsX70, w ∈ tables_1 ∧ goodWord w = true by decide +kernel) w h; oTB_t k.1 k.2
set_option maxRecDepth 20000 in
theorem inX8 : ∀ w ∈ wsX80, w ∈ oTB := fun w h => let k : w ∈ tables_1 ∧ goodWord w = true := (show ∀ w ∈ wsX80, w ∈ tables_1 ∧ goodWord w = true by decide +kernel) w h; oTB_t k.1 k.2
set_option maxRecDepth 20000 in
theorem inX9 : ∀ w ∈ wsX90, w ∈ oTB := fun w h => let k : w ∈ tables_1 ∧ goodWord w = true := (show ∀ w ∈ wsX90, w ∈ tables_1 ∧ goodWord w = true by decide +kernel) w h; oTB_t k.1 k.2
def oNW : List (String × Nat × MethodName) := [("OrreryTrains", 11, ⟨"OrreryTrains$Orrery", "<init>", "()V"⟩), ("OrreryTrains$Orrery", 30, ⟨"OrreryTrains$Pairs", "<init>", "()V"⟩), ("OrreryTrains$Orrery", 37, ⟨"OrreryTrains$Trains", "<init>", "()V"⟩), ("OrreryTrains$Orrery", 51, ⟨"OrreryTrains$Plan", "<init>", "()V"⟩), ("OrreryTrains", 30, ⟨"OrreryTrains$Tape", "<init>", "()V"⟩), ("OrreryTrains", 37, ⟨"OrreryTrains$Sheet", "<init>", "()V"⟩), ("OrreryTrains", 44, ⟨"OrreryTrains$Rows", "<init>", "()V"⟩), ("OrreryTrains", 51, ⟨"OrreryTrains$Finder", "<init>", "()V"⟩), ("OrreryTrains$Orrery", 78, ⟨"OrreryTrains", "lowest", "(JJI)J"⟩), ("OrreryTrains$Orrery", 82, ⟨"OrreryTrains", "set", "([III)V"⟩), ("OrreryTrains$Tape", 19, ⟨"OrreryTrains", "at", "([II)I"⟩), ("OrreryTrains$Tape", 27, ⟨"OrreryTrains", "kindOf", "(I)I"⟩), ("OrreryTrains$Pairs", 32, ⟨"OrreryTrains", "set", "([III)V"⟩), ("OrreryTrains$Pairs", 36, ⟨"OrreryTrains", "at", "([II)I"⟩), ("OrreryTrains$Trains", 22, ⟨"OrreryTrains", "at", "([II)I"⟩), ("OrreryTrains$Trains", 26, ⟨"OrreryTrains", "set", "([III)V"⟩), ("OrreryTrains$Orrery", 93, ⟨"OrreryTrains", "at", "([II)I"⟩), ("OrreryTrains$Orrery", 56, ⟨"OrreryTrains", "copy", "([I[I)V"⟩), ("OrreryTrains$Pairs", 28, ⟨"OrreryTrains", "copy", "([I[I)V"⟩), ("OrreryTrains$Trains", 18, ⟨"OrreryTrains", "copy", "([I[I)V"⟩), ("OrreryTrains$Plan", 22, ⟨"OrreryTrains", "copy", "([I[I)V"⟩), ("OrreryTrains$Finder", 55, ⟨"OrreryTrains", "quotient", "(JJ)J"⟩), ("OrreryTrains$Orrery", 115, ⟨"OrreryTrains", "quotient", "(JJ)J"⟩), ("OrreryTrains$Plan", 26, ⟨"OrreryTrains", "set", "([III)V"⟩), ("OrreryTrains$Sheet", 19, ⟨"OrreryTrains", "set", "([III)V"⟩), ("OrreryTrains$Rows", 19, ⟨"OrreryTrains", "at", "([II)I"⟩), ("OrreryTrains$Rows", 27, ⟨"OrreryTrains", "set", "([III)V"⟩)]
