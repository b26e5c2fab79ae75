/-- the words that a call keeps -/
def lw_g : List Cond := lw_tbl.filter goodWord
abbrev Cal0 (y : MethodName) (n : Nat) : Prop := y.cls ≠ "java/lang/invoke/MethodHandle" ∧ y.cls ≠ "java/lang/invoke/VarHandle" ∧ (parseMethodDescriptor y.desc).map (fun d => d.parameters.length) = some n
def CalV (y : MethodName) (b : ByteArray) (maxL : Nat) (ret : Option FieldType) (n : Nat) : Prop := Cond.code y b maxL ret ∈ lw_g ∧ Cond.instanceMethod y ∈ lw_g ∧ Cond.selects y.cls y y ∈ lw_g ∧ Cond.initialized y.cls ∈ lw_g ∧ Cal0 y n
def CalS (y : MethodName) (b : ByteArray) (maxL : Nat) (ret : Option FieldType) (n : Nat) : Prop := Cond.code y b maxL ret ∈ lw_g ∧ Cond.static y ∈ lw_g ∧ Cond.initialized y.cls ∈ lw_g ∧ Cal0 y n
theorem mT0 {w : Cond} (h : w ∈ k2_sels lw_privs) (g : goodWord w = true) : w ∈ lw_g := List.mem_filter.mpr ⟨List.mem_append_left _ h, g⟩
theorem mT1 {w : Cond} (h : w ∈ tables_1_1) (g : goodWord w = true) : w ∈ lw_g := List.mem_filter.mpr ⟨List.mem_append_right _ (List.mem_append_left _ h), g⟩
theorem mT2 {w : Cond} (h : w ∈ tables_1_2) (g : goodWord w = true) : w ∈ lw_g := List.mem_filter.mpr ⟨List.mem_append_right _ (List.mem_append_right _ (List.mem_append_left _ h)), g⟩
theorem mT3 {w : Cond} (h : w ∈ tables_1_3) (g : goodWord w = true) : w ∈ lw_g := List.mem_filter.mpr ⟨List.mem_append_right _ (List.mem_append_right _ (List.mem_append_right _ (List.mem_append_left _ h))), g⟩
theorem mT4 {w : Cond} (h : w ∈ tables_1_4) (g : goodWord w = true) : w ∈ lw_g := List.mem_filter.mpr ⟨List.mem_append_right _ (List.mem_append_right _ (List.mem_append_right _ (List.mem_append_right _ (List.mem_append_left _ h)))), g⟩
theorem mT5 {w : Cond} (h : w ∈ tables_1_5) (g : goodWord w = true) : w ∈ lw_g := List.mem_filter.mpr ⟨List.mem_append_right _ (List.mem_append_right _ (List.mem_append_right _ (List.mem_append_right _ (List.mem_append_right _ (h))))), g⟩
theorem kin_L : (Jvm.Cond.initialized "PlainDrawingLaw" : Cond) ∈ lw_g := mT1 (List.mem_of_getElem? (i := 0) rfl) rfl
theorem kin_X7 : (Jvm.Cond.initialized "PlainDrawing" : Cond) ∈ lw_g := mT1 (List.mem_of_getElem? (i := 1) rfl) rfl
theorem kin_X1 : (Jvm.Cond.initialized "PlainDrawing$Graph" : Cond) ∈ lw_g := mT1 (List.mem_of_getElem? (i := 2) rfl) rfl
theorem kin_X0 : (Jvm.Cond.initialized "PlainDrawing$Faces" : Cond) ∈ lw_g := mT1 (List.mem_of_getElem? (i := 3) rfl) rfl
theorem kin_X2 : (Jvm.Cond.initialized "PlainDrawing$History" : Cond) ∈ lw_g := mT1 (List.mem_of_getElem? (i := 4) rfl) rfl
theorem kin_X5 : (Jvm.Cond.initialized "PlainDrawing$Text" : Cond) ∈ lw_g := mT1 (List.mem_of_getElem? (i := 5) rfl) rfl
theorem kin_X4 : (Jvm.Cond.initialized "PlainDrawing$PlanarityTest" : Cond) ∈ lw_g := mT1 (List.mem_of_getElem? (i := 6) rfl) rfl
theorem kin_X6 : (Jvm.Cond.initialized "PlainDrawing$Way" : Cond) ∈ lw_g := mT1 (List.mem_of_getElem? (i := 7) rfl) rfl
theorem kin_X3 : (Jvm.Cond.initialized "PlainDrawing$Layout" : Cond) ∈ lw_g := mT1 (List.mem_of_getElem? (i := 8) rfl) rfl
theorem kin_X8 : (Jvm.Cond.initialized "PlainDrawingModel" : Cond) ∈ lw_g := mT1 (List.mem_of_getElem? (i := 9) rfl) rfl
theorem kin_J10 : (Jvm.Cond.initialized "java/lang/System" : Cond) ∈ lw_g := mT1 (List.mem_of_getElem? (i := 10) rfl) rfl
theorem kin_J7 : (Jvm.Cond.initialized "java/util/Arrays" : Cond) ∈ lw_g := mT1 (List.mem_of_getElem? (i := 11) rfl) rfl
theorem kin_Jxd2413 : (Jvm.Cond.initialized "java/lang/Number" : Cond) ∈ lw_g := mT1 (List.mem_of_getElem? (i := 12) rfl) rfl
theorem kin_J6 : (Jvm.Cond.initialized "java/lang/Integer" : Cond) ∈ lw_g := mT1 (List.mem_of_getElem? (i := 13) rfl) rfl
theorem kin_J9 : (Jvm.Cond.initialized "java/lang/Math" : Cond) ∈ lw_g := mT1 (List.mem_of_getElem? (i := 14) rfl) rfl
theorem kin_Jxf58ca : (Jvm.Cond.initialized "java/lang/Float" : Cond) ∈ lw_g := mT1 (List.mem_of_getElem? (i := 15) rfl) rfl
theorem kl_L_7 : (Jvm.Cond.classLink "PlainDrawingLaw" (7 : Nat) "PlainDrawing" : Cond) ∈ lw_g := mT1 (List.mem_of_getElem? (i := 16) rfl) rfl
theorem kst_X7 : (Jvm.Cond.instantiable "PlainDrawing" (9 : Nat) : Cond) ∈ lw_g := mT1 (List.mem_of_getElem? (i := 17) rfl) rfl
theorem km_L_9 : (Cond.methodLink RL 9 yX7_init : Cond) ∈ lw_g := mT1 (List.mem_of_getElem? (i := 18) rfl) rfl
theorem ki_X7_init : (Cond.instanceMethod yX7_init : Cond) ∈ lw_g := mT1 (List.mem_of_getElem? (i := 19) rfl) rfl
theorem kc_X7_init : (Cond.code yX7_init cX7_init 1 (Option.none : Option Jvm.ClassFile.FieldType) : Cond) ∈ lw_g := mT1 (List.mem_of_getElem? (i := 20) rfl) rfl
theorem km_X7_3 : (Cond.methodLink RX7 3 ⟨"java/lang/Object", "<init>", "()V"⟩ : Cond) ∈ lw_g := mT1 (List.mem_of_getElem? (i := 21) rfl) rfl
theorem ki_Object_init : (Cond.instanceMethod ⟨"java/lang/Object", "<init>", "()V"⟩ : Cond) ∈ lw_g := mT1 (List.mem_of_getElem? (i := 22) rfl) rfl
theorem kl_X7_9 : (Jvm.Cond.classLink "PlainDrawing" (9 : Nat) "PlainDrawing$Graph" : Cond) ∈ lw_g := mT1 (List.mem_of_getElem? (i := 24) rfl) rfl
theorem kst_X1 : (Jvm.Cond.instantiable "PlainDrawing$Graph" (7 : Nat) : Cond) ∈ lw_g := mT1 (List.mem_of_getElem? (i := 25) rfl) rfl
theorem km_X7_11 : (Cond.methodLink RX7 11 yX1_init : Cond) ∈ lw_g := mT1 (List.mem_of_getElem? (i := 26) rfl) rfl
theorem ki_X1_init : (Cond.instanceMethod yX1_init : Cond) ∈ lw_g := mT1 (List.mem_of_getElem? (i := 27) rfl) rfl
theorem kc_X1_init : (Cond.code yX1_init cX1_init 1 (Option.none : Option Jvm.ClassFile.FieldType) : Cond) ∈ lw_g := mT1 (List.mem_of_getElem? (i := 28) rfl) rfl
theorem km_X1_3 : (Cond.methodLink RX1 3 ⟨"java/lang/Object", "<init>", "()V"⟩ : Cond) ∈ lw_g := mT1 (List.mem_of_getElem? (i := 29) rfl) rfl
theorem kf_X1_9 : (Jvm.Cond.fieldLink "PlainDrawing$Graph" (9 : Nat) "PlainDrawing$Graph" "nodes" "I" : Cond) ∈ lw_g := mT1 (List.mem_of_getElem? (i := 30) rfl) rfl
theorem kf_X7_65 : (Jvm.Cond.fieldLink "PlainDrawing" (65 : Nat) "PlainDrawing$Graph" "nodes" "I" : Cond) ∈ lw_g := mT1 (List.mem_of_getElem? (i := 31) rfl) rfl
theorem kf_X3_40 : (Jvm.Cond.fieldLink "PlainDrawing$Layout" (40 : Nat) "PlainDrawing$Graph" "nodes" "I" : Cond) ∈ lw_g := mT1 (List.mem_of_getElem? (i := 32) rfl) rfl
theorem kf_X0_70 : (Jvm.Cond.fieldLink "PlainDrawing$Faces" (70 : Nat) "PlainDrawing$Graph" "nodes" "I" : Cond) ∈ lw_g := mT1 (List.mem_of_getElem? (i := 33) rfl) rfl
theorem kf_X1_28 : (Jvm.Cond.fieldLink "PlainDrawing$Graph" (28 : Nat) "PlainDrawing$Graph" "edges" "I" : Cond) ∈ lw_g := mT1 (List.mem_of_getElem? (i := 34) rfl) rfl
theorem kf_X0_43 : (Jvm.Cond.fieldLink "PlainDrawing$Faces" (43 : Nat) "PlainDrawing$Graph" "edges" "I" : Cond) ∈ lw_g := mT1 (List.mem_of_getElem? (i := 35) rfl) rfl
theorem kf_X6_46 : (Jvm.Cond.fieldLink "PlainDrawing$Way" (46 : Nat) "PlainDrawing$Graph" "edges" "I" : Cond) ∈ lw_g := mT1 (List.mem_of_getElem? (i := 36) rfl) rfl
theorem kf_X5_38 : (Jvm.Cond.fieldLink "PlainDrawing$Text" (38 : Nat) "PlainDrawing$Graph" "edges" "I" : Cond) ∈ lw_g := mT1 (List.mem_of_getElem? (i := 37) rfl) rfl
theorem kf_X3_81 : (Jvm.Cond.fieldLink "PlainDrawing$Layout" (81 : Nat) "PlainDrawing$Graph" "edges" "I" : Cond) ∈ lw_g := mT1 (List.mem_of_getElem? (i := 38) rfl) rfl
theorem kf_X7_115 : (Jvm.Cond.fieldLink "PlainDrawing" (115 : Nat) "PlainDrawing$Graph" "edges" "I" : Cond) ∈ lw_g := mT1 (List.mem_of_getElem? (i := 39) rfl) rfl
theorem kf_X3_24 : (Jvm.Cond.fieldLink "PlainDrawing$Layout" (24 : Nat) "PlainDrawing$Graph" "outer" "I" : Cond) ∈ lw_g := mT1 (List.mem_of_getElem? (i := 40) rfl) rfl
theorem kf_X1_37 : (Jvm.Cond.fieldLink "PlainDrawing$Graph" (37 : Nat) "PlainDrawing$Graph" "outer" "I" : Cond) ∈ lw_g := mT1 (List.mem_of_getElem? (i := 41) rfl) rfl
theorem kf_X7_152 : (Jvm.Cond.fieldLink "PlainDrawing" (152 : Nat) "PlainDrawing$Graph" "outer" "I" : Cond) ∈ lw_g := mT1 (List.mem_of_getElem? (i := 42) rfl) rfl
theorem kf_X1_15 : (Jvm.Cond.fieldLink "PlainDrawing$Graph" (15 : Nat) "PlainDrawing$Graph" "low" "[I" : Cond) ∈ lw_g := mT1 (List.mem_of_getElem? (i := 43) rfl) rfl
theorem kf_X3_75 : (Jvm.Cond.fieldLink "PlainDrawing$Layout" (75 : Nat) "PlainDrawing$Graph" "low" "[I" : Cond) ∈ lw_g := mT1 (List.mem_of_getElem? (i := 44) rfl) rfl
theorem kf_X7_143 : (Jvm.Cond.fieldLink "PlainDrawing" (143 : Nat) "PlainDrawing$Graph" "low" "[I" : Cond) ∈ lw_g := mT1 (List.mem_of_getElem? (i := 45) rfl) rfl
theorem kf_X1_19 : (Jvm.Cond.fieldLink "PlainDrawing$Graph" (19 : Nat) "PlainDrawing$Graph" "high" "[I" : Cond) ∈ lw_g := mT1 (List.mem_of_getElem? (i := 46) rfl) rfl
theorem kf_X3_78 : (Jvm.Cond.fieldLink "PlainDrawing$Layout" (78 : Nat) "PlainDrawing$Graph" "high" "[I" : Cond) ∈ lw_g := mT1 (List.mem_of_getElem? (i := 47) rfl) rfl
theorem kf_X7_146 : (Jvm.Cond.fieldLink "PlainDrawing" (146 : Nat) "PlainDrawing$Graph" "high" "[I" : Cond) ∈ lw_g := mT1 (List.mem_of_getElem? (i := 48) rfl) rfl
theorem kf_X1_22 : (Jvm.Cond.fieldLink "PlainDrawing$Graph" (22 : Nat) "PlainDrawing$Graph" "degree" "[I" : Cond) ∈ lw_g := mT1 (List.mem_of_getElem? (i := 49) rfl) rfl
theorem kf_X3_47 : (Jvm.Cond.fieldLink "PlainDrawing$Layout" (47 : Nat) "PlainDrawing$Graph" "degree" "[I" : Cond) ∈ lw_g := mT1 (List.mem_of_getElem? (i := 50) rfl) rfl
theorem kf_X5_52 : (Jvm.Cond.fieldLink "PlainDrawing$Text" (52 : Nat) "PlainDrawing$Graph" "degree" "[I" : Cond) ∈ lw_g := mT1 (List.mem_of_getElem? (i := 51) rfl) rfl
theorem kf_X7_137 : (Jvm.Cond.fieldLink "PlainDrawing" (137 : Nat) "PlainDrawing$Graph" "degree" "[I" : Cond) ∈ lw_g := mT1 (List.mem_of_getElem? (i := 52) rfl) rfl
theorem kf_X1_25 : (Jvm.Cond.fieldLink "PlainDrawing$Graph" (25 : Nat) "PlainDrawing$Graph" "turns" "[I" : Cond) ∈ lw_g := mT1 (List.mem_of_getElem? (i := 53) rfl) rfl
theorem kly_X1_nodes : (Jvm.Cond.lays "PlainDrawing$Graph" "PlainDrawing$Graph" "nodes" "I" : Cond) ∈ lw_g := mT1 (List.mem_of_getElem? (i := 54) rfl) rfl
theorem kly_X1_edges : (Jvm.Cond.lays "PlainDrawing$Graph" "PlainDrawing$Graph" "edges" "I" : Cond) ∈ lw_g := mT1 (List.mem_of_getElem? (i := 56) rfl) rfl
theorem kly_X1_outer : (Jvm.Cond.lays "PlainDrawing$Graph" "PlainDrawing$Graph" "outer" "I" : Cond) ∈ lw_g := mT1 (List.mem_of_getElem? (i := 58) rfl) rfl
theorem kly_X1_low : (Jvm.Cond.laysFinal "PlainDrawing$Graph" "PlainDrawing$Graph" "low" "[I" : Cond) ∈ lw_g := mT1 (List.mem_of_getElem? (i := 60) rfl) rfl
theorem kly_X1_high : (Jvm.Cond.laysFinal "PlainDrawing$Graph" "PlainDrawing$Graph" "high" "[I" : Cond) ∈ lw_g := mT1 (List.mem_of_getElem? (i := 62) rfl) rfl
theorem kly_X1_degree : (Jvm.Cond.laysFinal "PlainDrawing$Graph" "PlainDrawing$Graph" "degree" "[I" : Cond) ∈ lw_g := mT1 (List.mem_of_getElem? (i := 64) rfl) rfl
theorem kly_X1_turns : (Jvm.Cond.laysFinal "PlainDrawing$Graph" "PlainDrawing$Graph" "turns" "[I" : Cond) ∈ lw_g := mT1 (List.mem_of_getElem? (i := 66) rfl) rfl
theorem ko_1_69 : (Jvm.Cond.arrayClass Jvm.ClassFile.FieldType.int : Cond) ∈ lw_g := mT1 (List.mem_of_getElem? (i := 69) rfl) rfl
theorem kl_X7_19 : (Jvm.Cond.classLink "PlainDrawing" (19 : Nat) "PlainDrawing$Faces" : Cond) ∈ lw_g := mT1 (List.mem_of_getElem? (i := 70) rfl) rfl
theorem kst_X0 : (Jvm.Cond.instantiable "PlainDrawing$Faces" (9 : Nat) : Cond) ∈ lw_g := mT1 (List.mem_of_getElem? (i := 71) rfl) rfl
theorem km_X7_21 : (Cond.methodLink RX7 21 yX0_init : Cond) ∈ lw_g := mT1 (List.mem_of_getElem? (i := 72) rfl) rfl
theorem ki_X0_init : (Cond.instanceMethod yX0_init : Cond) ∈ lw_g := mT1 (List.mem_of_getElem? (i := 73) rfl) rfl
theorem kc_X0_init : (Cond.code yX0_init cX0_init 1 (Option.none : Option Jvm.ClassFile.FieldType) : Cond) ∈ lw_g := mT1 (List.mem_of_getElem? (i := 74) rfl) rfl
theorem km_X0_3 : (Cond.methodLink RX0 3 ⟨"java/lang/Object", "<init>", "()V"⟩ : Cond) ∈ lw_g := mT1 (List.mem_of_getElem? (i := 75) rfl) rfl
theorem kf_X0_34 : (Jvm.Cond.fieldLink "PlainDrawing$Faces" (34 : Nat) "PlainDrawing$Faces" "number" "I" : Cond) ∈ lw_g := mT1 (List.mem_of_getElem? (i := 76) rfl) rfl
theorem kf_X6_40 : (Jvm.Cond.fieldLink "PlainDrawing$Way" (40 : Nat) "PlainDrawing$Faces" "number" "I" : Cond) ∈ lw_g := mT1 (List.mem_of_getElem? (i := 77) rfl) rfl
theorem kf_X7_134 : (Jvm.Cond.fieldLink "PlainDrawing" (134 : Nat) "PlainDrawing$Faces" "number" "I" : Cond) ∈ lw_g := mT1 (List.mem_of_getElem? (i := 78) rfl) rfl
theorem kf_X0_9 : (Jvm.Cond.fieldLink "PlainDrawing$Faces" (9 : Nat) "PlainDrawing$Faces" "components" "I" : Cond) ∈ lw_g := mT1 (List.mem_of_getElem? (i := 79) rfl) rfl
theorem kf_X7_149 : (Jvm.Cond.fieldLink "PlainDrawing" (149 : Nat) "PlainDrawing$Faces" "components" "I" : Cond) ∈ lw_g := mT1 (List.mem_of_getElem? (i := 80) rfl) rfl
theorem kf_X0_86 : (Jvm.Cond.fieldLink "PlainDrawing$Faces" (86 : Nat) "PlainDrawing$Faces" "genus" "I" : Cond) ∈ lw_g := mT1 (List.mem_of_getElem? (i := 81) rfl) rfl
theorem kf_X7_128 : (Jvm.Cond.fieldLink "PlainDrawing" (128 : Nat) "PlainDrawing$Faces" "genus" "I" : Cond) ∈ lw_g := mT1 (List.mem_of_getElem? (i := 82) rfl) rfl
theorem kf_X0_15 : (Jvm.Cond.fieldLink "PlainDrawing$Faces" (15 : Nat) "PlainDrawing$Faces" "next" "[I" : Cond) ∈ lw_g := mT1 (List.mem_of_getElem? (i := 83) rfl) rfl
theorem kf_X3_68 : (Jvm.Cond.fieldLink "PlainDrawing$Layout" (68 : Nat) "PlainDrawing$Faces" "next" "[I" : Cond) ∈ lw_g := mT1 (List.mem_of_getElem? (i := 84) rfl) rfl
theorem kf_X0_19 : (Jvm.Cond.fieldLink "PlainDrawing$Faces" (19 : Nat) "PlainDrawing$Faces" "owner" "[I" : Cond) ∈ lw_g := mT1 (List.mem_of_getElem? (i := 85) rfl) rfl
theorem kf_X6_51 : (Jvm.Cond.fieldLink "PlainDrawing$Way" (51 : Nat) "PlainDrawing$Faces" "owner" "[I" : Cond) ∈ lw_g := mT1 (List.mem_of_getElem? (i := 86) rfl) rfl
theorem kf_X7_195 : (Jvm.Cond.fieldLink "PlainDrawing" (195 : Nat) "PlainDrawing$Faces" "owner" "[I" : Cond) ∈ lw_g := mT1 (List.mem_of_getElem? (i := 87) rfl) rfl
theorem kf_X0_22 : (Jvm.Cond.fieldLink "PlainDrawing$Faces" (22 : Nat) "PlainDrawing$Faces" "first" "[I" : Cond) ∈ lw_g := mT1 (List.mem_of_getElem? (i := 88) rfl) rfl
theorem kf_X3_55 : (Jvm.Cond.fieldLink "PlainDrawing$Layout" (55 : Nat) "PlainDrawing$Faces" "first" "[I" : Cond) ∈ lw_g := mT1 (List.mem_of_getElem? (i := 89) rfl) rfl
theorem kf_X7_182 : (Jvm.Cond.fieldLink "PlainDrawing" (182 : Nat) "PlainDrawing$Faces" "first" "[I" : Cond) ∈ lw_g := mT1 (List.mem_of_getElem? (i := 90) rfl) rfl
theorem kf_X0_25 : (Jvm.Cond.fieldLink "PlainDrawing$Faces" (25 : Nat) "PlainDrawing$Faces" "length" "[I" : Cond) ∈ lw_g := mT1 (List.mem_of_getElem? (i := 91) rfl) rfl
theorem kf_X3_58 : (Jvm.Cond.fieldLink "PlainDrawing$Layout" (58 : Nat) "PlainDrawing$Faces" "length" "[I" : Cond) ∈ lw_g := mT1 (List.mem_of_getElem? (i := 92) rfl) rfl
theorem kf_X7_171 : (Jvm.Cond.fieldLink "PlainDrawing" (171 : Nat) "PlainDrawing$Faces" "length" "[I" : Cond) ∈ lw_g := mT1 (List.mem_of_getElem? (i := 93) rfl) rfl
theorem kf_X0_28 : (Jvm.Cond.fieldLink "PlainDrawing$Faces" (28 : Nat) "PlainDrawing$Faces" "nodeSet" "[I" : Cond) ∈ lw_g := mT1 (List.mem_of_getElem? (i := 94) rfl) rfl
theorem kf_X7_173 : (Jvm.Cond.fieldLink "PlainDrawing" (173 : Nat) "PlainDrawing$Faces" "nodeSet" "[I" : Cond) ∈ lw_g := mT1 (List.mem_of_getElem? (i := 95) rfl) rfl
theorem kf_X0_31 : (Jvm.Cond.fieldLink "PlainDrawing$Faces" (31 : Nat) "PlainDrawing$Faces" "near" "[I" : Cond) ∈ lw_g := mT1 (List.mem_of_getElem? (i := 96) rfl) rfl
theorem kly_X0_number : (Jvm.Cond.lays "PlainDrawing$Faces" "PlainDrawing$Faces" "number" "I" : Cond) ∈ lw_g := mT1 (List.mem_of_getElem? (i := 97) rfl) rfl
theorem kly_X0_components : (Jvm.Cond.lays "PlainDrawing$Faces" "PlainDrawing$Faces" "components" "I" : Cond) ∈ lw_g := mT1 (List.mem_of_getElem? (i := 99) rfl) rfl
theorem kly_X0_genus : (Jvm.Cond.lays "PlainDrawing$Faces" "PlainDrawing$Faces" "genus" "I" : Cond) ∈ lw_g := mT1 (List.mem_of_getElem? (i := 101) rfl) rfl
theorem kly_X0_next : (Jvm.Cond.laysFinal "PlainDrawing$Faces" "PlainDrawing$Faces" "next" "[I" : Cond) ∈ lw_g := mT1 (List.mem_of_getElem? (i := 103) rfl) rfl
theorem kly_X0_owner : (Jvm.Cond.laysFinal "PlainDrawing$Faces" "PlainDrawing$Faces" "owner" "[I" : Cond) ∈ lw_g := mT1 (List.mem_of_getElem? (i := 105) rfl) rfl
theorem kly_X0_first : (Jvm.Cond.laysFinal "PlainDrawing$Faces" "PlainDrawing$Faces" "first" "[I" : Cond) ∈ lw_g := mT1 (List.mem_of_getElem? (i := 107) rfl) rfl
theorem kly_X0_length : (Jvm.Cond.laysFinal "PlainDrawing$Faces" "PlainDrawing$Faces" "length" "[I" : Cond) ∈ lw_g := mT1 (List.mem_of_getElem? (i := 109) rfl) rfl
theorem kly_X0_nodeSet : (Jvm.Cond.laysFinal "PlainDrawing$Faces" "PlainDrawing$Faces" "nodeSet" "[I" : Cond) ∈ lw_g := mT1 (List.mem_of_getElem? (i := 111) rfl) rfl
theorem kly_X0_near : (Jvm.Cond.laysFinal "PlainDrawing$Faces" "PlainDrawing$Faces" "near" "[I" : Cond) ∈ lw_g := mT1 (List.mem_of_getElem? (i := 113) rfl) rfl
theorem kl_X7_26 : (Jvm.Cond.classLink "PlainDrawing" (26 : Nat) "PlainDrawing$History" : Cond) ∈ lw_g := mT1 (List.mem_of_getElem? (i := 116) rfl) rfl
theorem kst_X2 : (Jvm.Cond.instantiable "PlainDrawing$History" (2 : Nat) : Cond) ∈ lw_g := mT1 (List.mem_of_getElem? (i := 117) rfl) rfl
theorem km_X7_28 : (Cond.methodLink RX7 28 yX2_init : Cond) ∈ lw_g := mT1 (List.mem_of_getElem? (i := 118) rfl) rfl
theorem ki_X2_init : (Cond.instanceMethod yX2_init : Cond) ∈ lw_g := mT1 (List.mem_of_getElem? (i := 119) rfl) rfl
theorem kc_X2_init : (Cond.code yX2_init cX2_init 2 (Option.none : Option Jvm.ClassFile.FieldType) : Cond) ∈ lw_g := mT1 (List.mem_of_getElem? (i := 120) rfl) rfl
theorem km_X2_3 : (Cond.methodLink RX2 3 ⟨"java/lang/Object", "<init>", "()V"⟩ : Cond) ∈ lw_g := mT1 (List.mem_of_getElem? (i := 121) rfl) rfl
theorem kl_X2_9 : (Jvm.Cond.classLink "PlainDrawing$History" (9 : Nat) "PlainDrawing$Graph" : Cond) ∈ lw_g := mT1 (List.mem_of_getElem? (i := 122) rfl) rfl
theorem km_X2_17 : (Cond.methodLink RX2 17 yX1_init : Cond) ∈ lw_g := mT1 (List.mem_of_getElem? (i := 124) rfl) rfl
theorem kf_X2_18 : (Jvm.Cond.fieldLink "PlainDrawing$History" (18 : Nat) "PlainDrawing$History" "saved" "I" : Cond) ∈ lw_g := mT1 (List.mem_of_getElem? (i := 125) rfl) rfl
theorem kf_X7_158 : (Jvm.Cond.fieldLink "PlainDrawing" (158 : Nat) "PlainDrawing$History" "saved" "I" : Cond) ∈ lw_g := mT1 (List.mem_of_getElem? (i := 126) rfl) rfl
theorem kf_X2_11 : (Jvm.Cond.fieldLink "PlainDrawing$History" (11 : Nat) "PlainDrawing$History" "states" "[LPlainDrawing$Graph;" : Cond) ∈ lw_g := mT1 (List.mem_of_getElem? (i := 127) rfl) rfl
theorem kly_X2_saved : (Jvm.Cond.lays "PlainDrawing$History" "PlainDrawing$History" "saved" "I" : Cond) ∈ lw_g := mT1 (List.mem_of_getElem? (i := 128) rfl) rfl
theorem kly_X2_states : (Jvm.Cond.laysFinal "PlainDrawing$History" "PlainDrawing$History" "states" "[LPlainDrawing$Graph;" : Cond) ∈ lw_g := mT1 (List.mem_of_getElem? (i := 130) rfl) rfl
theorem kl_X7_33 : (Jvm.Cond.classLink "PlainDrawing" (33 : Nat) "PlainDrawing$Text" : Cond) ∈ lw_g := mT1 (List.mem_of_getElem? (i := 133) rfl) rfl
theorem kst_X5 : (Jvm.Cond.instantiable "PlainDrawing$Text" (4 : Nat) : Cond) ∈ lw_g := mT1 (List.mem_of_getElem? (i := 134) rfl) rfl
theorem km_X7_35 : (Cond.methodLink RX7 35 yX5_init : Cond) ∈ lw_g := mT1 (List.mem_of_getElem? (i := 135) rfl) rfl
theorem ki_X5_init : (Cond.instanceMethod yX5_init : Cond) ∈ lw_g := mT1 (List.mem_of_getElem? (i := 136) rfl) rfl
theorem kc_X5_init : (Cond.code yX5_init cX5_init 1 (Option.none : Option Jvm.ClassFile.FieldType) : Cond) ∈ lw_g := mT1 (List.mem_of_getElem? (i := 137) rfl) rfl
theorem km_X5_3 : (Cond.methodLink RX5 3 ⟨"java/lang/Object", "<init>", "()V"⟩ : Cond) ∈ lw_g := mT1 (List.mem_of_getElem? (i := 138) rfl) rfl
theorem kf_X5_15 : (Jvm.Cond.fieldLink "PlainDrawing$Text" (15 : Nat) "PlainDrawing$Text" "length" "I" : Cond) ∈ lw_g := mT1 (List.mem_of_getElem? (i := 139) rfl) rfl
theorem kf_X7_155 : (Jvm.Cond.fieldLink "PlainDrawing" (155 : Nat) "PlainDrawing$Text" "length" "I" : Cond) ∈ lw_g := mT1 (List.mem_of_getElem? (i := 140) rfl) rfl
theorem kf_X5_9 : (Jvm.Cond.fieldLink "PlainDrawing$Text" (9 : Nat) "PlainDrawing$Text" "characters" "[I" : Cond) ∈ lw_g := mT1 (List.mem_of_getElem? (i := 141) rfl) rfl
theorem kf_X5_19 : (Jvm.Cond.fieldLink "PlainDrawing$Text" (19 : Nat) "PlainDrawing$Text" "due" "I" : Cond) ∈ lw_g := mT1 (List.mem_of_getElem? (i := 142) rfl) rfl
theorem kf_X5_29 : (Jvm.Cond.fieldLink "PlainDrawing$Text" (29 : Nat) "PlainDrawing$Text" "from" "I" : Cond) ∈ lw_g := mT1 (List.mem_of_getElem? (i := 143) rfl) rfl
theorem kly_X5_length : (Jvm.Cond.lays "PlainDrawing$Text" "PlainDrawing$Text" "length" "I" : Cond) ∈ lw_g := mT1 (List.mem_of_getElem? (i := 144) rfl) rfl
theorem kly_X5_characters : (Jvm.Cond.laysFinal "PlainDrawing$Text" "PlainDrawing$Text" "characters" "[I" : Cond) ∈ lw_g := mT1 (List.mem_of_getElem? (i := 146) rfl) rfl
theorem kly_X5_due : (Jvm.Cond.lays "PlainDrawing$Text" "PlainDrawing$Text" "due" "I" : Cond) ∈ lw_g := mT1 (List.mem_of_getElem? (i := 148) rfl) rfl
theorem kly_X5_from : (Jvm.Cond.lays "PlainDrawing$Text" "PlainDrawing$Text" "from" "I" : Cond) ∈ lw_g := mT1 (List.mem_of_getElem? (i := 150) rfl) rfl
theorem kl_X7_40 : (Jvm.Cond.classLink "PlainDrawing" (40 : Nat) "PlainDrawing$PlanarityTest" : Cond) ∈ lw_g := mT1 (List.mem_of_getElem? (i := 153) rfl) rfl
theorem kst_X4 : (Jvm.Cond.instantiable "PlainDrawing$PlanarityTest" (16 : Nat) : Cond) ∈ lw_g := mT1 (List.mem_of_getElem? (i := 154) rfl) rfl
theorem km_X7_42 : (Cond.methodLink RX7 42 yX4_init : Cond) ∈ lw_g := mT1 (List.mem_of_getElem? (i := 155) rfl) rfl
theorem ki_X4_init : (Cond.instanceMethod yX4_init : Cond) ∈ lw_g := mT1 (List.mem_of_getElem? (i := 156) rfl) rfl
theorem kc_X4_init : (Cond.code yX4_init cX4_init 1 (Option.none : Option Jvm.ClassFile.FieldType) : Cond) ∈ lw_g := mT1 (List.mem_of_getElem? (i := 157) rfl) rfl
theorem km_X4_3 : (Cond.methodLink RX4 3 ⟨"java/lang/Object", "<init>", "()V"⟩ : Cond) ∈ lw_g := mT1 (List.mem_of_getElem? (i := 158) rfl) rfl
theorem kf_X4_9 : (Jvm.Cond.fieldLink "PlainDrawing$PlanarityTest" (9 : Nat) "PlainDrawing$PlanarityTest" "rest" "[I" : Cond) ∈ lw_g := mT1 (List.mem_of_getElem? (i := 159) rfl) rfl
theorem kf_X4_15 : (Jvm.Cond.fieldLink "PlainDrawing$PlanarityTest" (15 : Nat) "PlainDrawing$PlanarityTest" "sketch" "[I" : Cond) ∈ lw_g := mT1 (List.mem_of_getElem? (i := 160) rfl) rfl
theorem kf_X4_120 : (Jvm.Cond.fieldLink "PlainDrawing$PlanarityTest" (120 : Nat) "PlainDrawing$PlanarityTest" "placed" "I" : Cond) ∈ lw_g := mT1 (List.mem_of_getElem? (i := 161) rfl) rfl
theorem kf_X4_93 : (Jvm.Cond.fieldLink "PlainDrawing$PlanarityTest" (93 : Nat) "PlainDrawing$PlanarityTest" "rings" "I" : Cond) ∈ lw_g := mT1 (List.mem_of_getElem? (i := 162) rfl) rfl
theorem kf_X4_18 : (Jvm.Cond.fieldLink "PlainDrawing$PlanarityTest" (18 : Nat) "PlainDrawing$PlanarityTest" "ringNodes" "[I" : Cond) ∈ lw_g := mT1 (List.mem_of_getElem? (i := 163) rfl) rfl
theorem kf_X4_21 : (Jvm.Cond.fieldLink "PlainDrawing$PlanarityTest" (21 : Nat) "PlainDrawing$PlanarityTest" "ringLength" "[I" : Cond) ∈ lw_g := mT1 (List.mem_of_getElem? (i := 164) rfl) rfl
theorem kf_X4_24 : (Jvm.Cond.fieldLink "PlainDrawing$PlanarityTest" (24 : Nat) "PlainDrawing$PlanarityTest" "ringSet" "[I" : Cond) ∈ lw_g := mT1 (List.mem_of_getElem? (i := 165) rfl) rfl
theorem kf_X4_27 : (Jvm.Cond.fieldLink "PlainDrawing$PlanarityTest" (27 : Nat) "PlainDrawing$PlanarityTest" "oldRing" "[I" : Cond) ∈ lw_g := mT1 (List.mem_of_getElem? (i := 166) rfl) rfl
theorem kf_X4_30 : (Jvm.Cond.fieldLink "PlainDrawing$PlanarityTest" (30 : Nat) "PlainDrawing$PlanarityTest" "path" "[I" : Cond) ∈ lw_g := mT1 (List.mem_of_getElem? (i := 167) rfl) rfl
theorem kf_X4_83 : (Jvm.Cond.fieldLink "PlainDrawing$PlanarityTest" (83 : Nat) "PlainDrawing$PlanarityTest" "pathLength" "I" : Cond) ∈ lw_g := mT1 (List.mem_of_getElem? (i := 168) rfl) rfl
theorem kf_X4_33 : (Jvm.Cond.fieldLink "PlainDrawing$PlanarityTest" (33 : Nat) "PlainDrawing$PlanarityTest" "queue" "[I" : Cond) ∈ lw_g := mT1 (List.mem_of_getElem? (i := 169) rfl) rfl
theorem kf_X4_36 : (Jvm.Cond.fieldLink "PlainDrawing$PlanarityTest" (36 : Nat) "PlainDrawing$PlanarityTest" "origin" "[I" : Cond) ∈ lw_g := mT1 (List.mem_of_getElem? (i := 170) rfl) rfl
theorem kf_X4_137 : (Jvm.Cond.fieldLink "PlainDrawing$PlanarityTest" (137 : Nat) "PlainDrawing$PlanarityTest" "inside" "I" : Cond) ∈ lw_g := mT1 (List.mem_of_getElem? (i := 171) rfl) rfl
theorem kf_X4_96 : (Jvm.Cond.fieldLink "PlainDrawing$PlanarityTest" (96 : Nat) "PlainDrawing$PlanarityTest" "ends" "I" : Cond) ∈ lw_g := mT1 (List.mem_of_getElem? (i := 172) rfl) rfl
theorem kf_X4_140 : (Jvm.Cond.fieldLink "PlainDrawing$PlanarityTest" (140 : Nat) "PlainDrawing$PlanarityTest" "ring" "I" : Cond) ∈ lw_g := mT1 (List.mem_of_getElem? (i := 173) rfl) rfl
theorem kf_X4_134 : (Jvm.Cond.fieldLink "PlainDrawing$PlanarityTest" (134 : Nat) "PlainDrawing$PlanarityTest" "choices" "I" : Cond) ∈ lw_g := mT1 (List.mem_of_getElem? (i := 174) rfl) rfl
theorem kly_X4_rest : (Jvm.Cond.laysFinal "PlainDrawing$PlanarityTest" "PlainDrawing$PlanarityTest" "rest" "[I" : Cond) ∈ lw_g := mT1 (List.mem_of_getElem? (i := 175) rfl) rfl
theorem kly_X4_sketch : (Jvm.Cond.laysFinal "PlainDrawing$PlanarityTest" "PlainDrawing$PlanarityTest" "sketch" "[I" : Cond) ∈ lw_g := mT1 (List.mem_of_getElem? (i := 177) rfl) rfl
theorem kly_X4_placed : (Jvm.Cond.lays "PlainDrawing$PlanarityTest" "PlainDrawing$PlanarityTest" "placed" "I" : Cond) ∈ lw_g := mT1 (List.mem_of_getElem? (i := 179) rfl) rfl
theorem kly_X4_rings : (Jvm.Cond.lays "PlainDrawing$PlanarityTest" "PlainDrawing$PlanarityTest" "rings" "I" : Cond) ∈ lw_g := mT1 (List.mem_of_getElem? (i := 181) rfl) rfl
theorem kly_X4_ringNodes : (Jvm.Cond.laysFinal "PlainDrawing$PlanarityTest" "PlainDrawing$PlanarityTest" "ringNodes" "[I" : Cond) ∈ lw_g := mT1 (List.mem_of_getElem? (i := 183) rfl) rfl
theorem kly_X4_ringLength : (Jvm.Cond.laysFinal "PlainDrawing$PlanarityTest" "PlainDrawing$PlanarityTest" "ringLength" "[I" : Cond) ∈ lw_g := mT1 (List.mem_of_getElem? (i := 185) rfl) rfl
theorem kly_X4_ringSet : (Jvm.Cond.laysFinal "PlainDrawing$PlanarityTest" "PlainDrawing$PlanarityTest" "ringSet" "[I" : Cond) ∈ lw_g := mT1 (List.mem_of_getElem? (i := 187) rfl) rfl
theorem kly_X4_oldRing : (Jvm.Cond.laysFinal "PlainDrawing$PlanarityTest" "PlainDrawing$PlanarityTest" "oldRing" "[I" : Cond) ∈ lw_g := mT1 (List.mem_of_getElem? (i := 189) rfl) rfl
theorem kly_X4_path : (Jvm.Cond.laysFinal "PlainDrawing$PlanarityTest" "PlainDrawing$PlanarityTest" "path" "[I" : Cond) ∈ lw_g := mT1 (List.mem_of_getElem? (i := 191) rfl) rfl
theorem kly_X4_pathLength : (Jvm.Cond.lays "PlainDrawing$PlanarityTest" "PlainDrawing$PlanarityTest" "pathLength" "I" : Cond) ∈ lw_g := mT1 (List.mem_of_getElem? (i := 193) rfl) rfl
theorem kly_X4_queue : (Jvm.Cond.laysFinal "PlainDrawing$PlanarityTest" "PlainDrawing$PlanarityTest" "queue" "[I" : Cond) ∈ lw_g := mT1 (List.mem_of_getElem? (i := 195) rfl) rfl
theorem kly_X4_origin : (Jvm.Cond.laysFinal "PlainDrawing$PlanarityTest" "PlainDrawing$PlanarityTest" "origin" "[I" : Cond) ∈ lw_g := mT1 (List.mem_of_getElem? (i := 197) rfl) rfl
theorem kly_X4_inside : (Jvm.Cond.lays "PlainDrawing$PlanarityTest" "PlainDrawing$PlanarityTest" "inside" "I" : Cond) ∈ lw_g := mT1 (List.mem_of_getElem? (i := 199) rfl) rfl
theorem kly_X4_ends : (Jvm.Cond.lays "PlainDrawing$PlanarityTest" "PlainDrawing$PlanarityTest" "ends" "I" : Cond) ∈ lw_g := mT1 (List.mem_of_getElem? (i := 201) rfl) rfl
theorem kly_X4_ring : (Jvm.Cond.lays "PlainDrawing$PlanarityTest" "PlainDrawing$PlanarityTest" "ring" "I" : Cond) ∈ lw_g := mT1 (List.mem_of_getElem? (i := 203) rfl) rfl
theorem kly_X4_choices : (Jvm.Cond.lays "PlainDrawing$PlanarityTest" "PlainDrawing$PlanarityTest" "choices" "I" : Cond) ∈ lw_g := mT1 (List.mem_of_getElem? (i := 205) rfl) rfl
theorem kl_X7_47 : (Jvm.Cond.classLink "PlainDrawing" (47 : Nat) "PlainDrawing$Way" : Cond) ∈ lw_g := mT1 (List.mem_of_getElem? (i := 208) rfl) rfl
theorem kst_X6 : (Jvm.Cond.instantiable "PlainDrawing$Way" (3 : Nat) : Cond) ∈ lw_g := mT1 (List.mem_of_getElem? (i := 209) rfl) rfl
theorem km_X7_49 : (Cond.methodLink RX7 49 yX6_init : Cond) ∈ lw_g := mT1 (List.mem_of_getElem? (i := 210) rfl) rfl
theorem ki_X6_init : (Cond.instanceMethod yX6_init : Cond) ∈ lw_g := mT1 (List.mem_of_getElem? (i := 211) rfl) rfl
theorem kc_X6_init : (Cond.code yX6_init cX6_init 1 (Option.none : Option Jvm.ClassFile.FieldType) : Cond) ∈ lw_g := mT1 (List.mem_of_getElem? (i := 212) rfl) rfl
theorem km_X6_3 : (Cond.methodLink RX6 3 ⟨"java/lang/Object", "<init>", "()V"⟩ : Cond) ∈ lw_g := mT1 (List.mem_of_getElem? (i := 213) rfl) rfl
theorem kf_X6_18 : (Jvm.Cond.fieldLink "PlainDrawing$Way" (18 : Nat) "PlainDrawing$Way" "cost" "I" : Cond) ∈ lw_g := mT1 (List.mem_of_getElem? (i := 214) rfl) rfl
theorem kf_X7_227 : (Jvm.Cond.fieldLink "PlainDrawing" (227 : Nat) "PlainDrawing$Way" "cost" "I" : Cond) ∈ lw_g := mT1 (List.mem_of_getElem? (i := 215) rfl) rfl
theorem kf_X6_9 : (Jvm.Cond.fieldLink "PlainDrawing$Way" (9 : Nat) "PlainDrawing$Way" "crossedEdges" "[I" : Cond) ∈ lw_g := mT1 (List.mem_of_getElem? (i := 216) rfl) rfl
theorem kf_X7_230 : (Jvm.Cond.fieldLink "PlainDrawing" (230 : Nat) "PlainDrawing$Way" "crossedEdges" "[I" : Cond) ∈ lw_g := mT1 (List.mem_of_getElem? (i := 217) rfl) rfl
theorem kf_X6_15 : (Jvm.Cond.fieldLink "PlainDrawing$Way" (15 : Nat) "PlainDrawing$Way" "distance" "[I" : Cond) ∈ lw_g := mT1 (List.mem_of_getElem? (i := 218) rfl) rfl
theorem kly_X6_cost : (Jvm.Cond.lays "PlainDrawing$Way" "PlainDrawing$Way" "cost" "I" : Cond) ∈ lw_g := mT1 (List.mem_of_getElem? (i := 219) rfl) rfl
theorem kly_X6_crossedEdges : (Jvm.Cond.laysFinal "PlainDrawing$Way" "PlainDrawing$Way" "crossedEdges" "[I" : Cond) ∈ lw_g := mT1 (List.mem_of_getElem? (i := 221) rfl) rfl
theorem kly_X6_distance : (Jvm.Cond.laysFinal "PlainDrawing$Way" "PlainDrawing$Way" "distance" "[I" : Cond) ∈ lw_g := mT1 (List.mem_of_getElem? (i := 223) rfl) rfl
theorem kl_X7_54 : (Jvm.Cond.classLink "PlainDrawing" (54 : Nat) "PlainDrawing$Layout" : Cond) ∈ lw_g := mT1 (List.mem_of_getElem? (i := 226) rfl) rfl
theorem kst_X3 : (Jvm.Cond.instantiable "PlainDrawing$Layout" (2 : Nat) : Cond) ∈ lw_g := mT1 (List.mem_of_getElem? (i := 227) rfl) rfl
theorem km_X7_56 : (Cond.methodLink RX7 56 yX3_init : Cond) ∈ lw_g := mT1 (List.mem_of_getElem? (i := 228) rfl) rfl
theorem ki_X3_init : (Cond.instanceMethod yX3_init : Cond) ∈ lw_g := mT1 (List.mem_of_getElem? (i := 229) rfl) rfl
theorem kc_X3_init : (Cond.code yX3_init cX3_init 1 (Option.none : Option Jvm.ClassFile.FieldType) : Cond) ∈ lw_g := mT1 (List.mem_of_getElem? (i := 230) rfl) rfl
theorem km_X3_3 : (Cond.methodLink RX3 3 ⟨"java/lang/Object", "<init>", "()V"⟩ : Cond) ∈ lw_g := mT1 (List.mem_of_getElem? (i := 231) rfl) rfl
theorem kf_X3_9 : (Jvm.Cond.fieldLink "PlainDrawing$Layout" (9 : Nat) "PlainDrawing$Layout" "x" "[F" : Cond) ∈ lw_g := mT1 (List.mem_of_getElem? (i := 232) rfl) rfl
theorem kf_X7_246 : (Jvm.Cond.fieldLink "PlainDrawing" (246 : Nat) "PlainDrawing$Layout" "x" "[F" : Cond) ∈ lw_g := mT1 (List.mem_of_getElem? (i := 233) rfl) rfl
theorem kf_X3_15 : (Jvm.Cond.fieldLink "PlainDrawing$Layout" (15 : Nat) "PlainDrawing$Layout" "y" "[F" : Cond) ∈ lw_g := mT1 (List.mem_of_getElem? (i := 234) rfl) rfl
theorem kf_X7_250 : (Jvm.Cond.fieldLink "PlainDrawing" (250 : Nat) "PlainDrawing$Layout" "y" "[F" : Cond) ∈ lw_g := mT1 (List.mem_of_getElem? (i := 235) rfl) rfl
theorem kly_X3_x : (Jvm.Cond.laysFinal "PlainDrawing$Layout" "PlainDrawing$Layout" "x" "[F" : Cond) ∈ lw_g := mT1 (List.mem_of_getElem? (i := 236) rfl) rfl
theorem kly_X3_y : (Jvm.Cond.laysFinal "PlainDrawing$Layout" "PlainDrawing$Layout" "y" "[F" : Cond) ∈ lw_g := mT1 (List.mem_of_getElem? (i := 238) rfl) rfl
theorem ko_2_1 : (Jvm.Cond.arrayClass Jvm.ClassFile.FieldType.float : Cond) ∈ lw_g := mT2 (List.mem_of_getElem? (i := 1) rfl) rfl
theorem kf_X7_12 : (Jvm.Cond.fieldLink "PlainDrawing" (12 : Nat) "PlainDrawing" "graph" "LPlainDrawing$Graph;" : Cond) ∈ lw_g := mT2 (List.mem_of_getElem? (i := 2) rfl) rfl
theorem kf_X7_16 : (Jvm.Cond.fieldLink "PlainDrawing" (16 : Nat) "PlainDrawing" "draft" "LPlainDrawing$Graph;" : Cond) ∈ lw_g := mT2 (List.mem_of_getElem? (i := 3) rfl) rfl
theorem kf_X7_22 : (Jvm.Cond.fieldLink "PlainDrawing" (22 : Nat) "PlainDrawing" "faces" "LPlainDrawing$Faces;" : Cond) ∈ lw_g := mT2 (List.mem_of_getElem? (i := 4) rfl) rfl
theorem kf_X7_29 : (Jvm.Cond.fieldLink "PlainDrawing" (29 : Nat) "PlainDrawing" "history" "LPlainDrawing$History;" : Cond) ∈ lw_g := mT2 (List.mem_of_getElem? (i := 5) rfl) rfl
theorem kf_X7_36 : (Jvm.Cond.fieldLink "PlainDrawing" (36 : Nat) "PlainDrawing" "text" "LPlainDrawing$Text;" : Cond) ∈ lw_g := mT2 (List.mem_of_getElem? (i := 6) rfl) rfl
theorem kf_X7_43 : (Jvm.Cond.fieldLink "PlainDrawing" (43 : Nat) "PlainDrawing" "planarity" "LPlainDrawing$PlanarityTest;" : Cond) ∈ lw_g := mT2 (List.mem_of_getElem? (i := 7) rfl) rfl
theorem kf_X7_50 : (Jvm.Cond.fieldLink "PlainDrawing" (50 : Nat) "PlainDrawing" "way" "LPlainDrawing$Way;" : Cond) ∈ lw_g := mT2 (List.mem_of_getElem? (i := 8) rfl) rfl
theorem kf_X7_57 : (Jvm.Cond.fieldLink "PlainDrawing" (57 : Nat) "PlainDrawing" "layout" "LPlainDrawing$Layout;" : Cond) ∈ lw_g := mT2 (List.mem_of_getElem? (i := 9) rfl) rfl
theorem kf_X7_61 : (Jvm.Cond.fieldLink "PlainDrawing" (61 : Nat) "PlainDrawing" "links" "[I" : Cond) ∈ lw_g := mT2 (List.mem_of_getElem? (i := 10) rfl) rfl
theorem kly_X7_graph : (Jvm.Cond.laysFinal "PlainDrawing" "PlainDrawing" "graph" "LPlainDrawing$Graph;" : Cond) ∈ lw_g := mT2 (List.mem_of_getElem? (i := 11) rfl) rfl
theorem kly_X7_draft : (Jvm.Cond.laysFinal "PlainDrawing" "PlainDrawing" "draft" "LPlainDrawing$Graph;" : Cond) ∈ lw_g := mT2 (List.mem_of_getElem? (i := 13) rfl) rfl
theorem kly_X7_faces : (Jvm.Cond.laysFinal "PlainDrawing" "PlainDrawing" "faces" "LPlainDrawing$Faces;" : Cond) ∈ lw_g := mT2 (List.mem_of_getElem? (i := 15) rfl) rfl
theorem kly_X7_history : (Jvm.Cond.laysFinal "PlainDrawing" "PlainDrawing" "history" "LPlainDrawing$History;" : Cond) ∈ lw_g := mT2 (List.mem_of_getElem? (i := 17) rfl) rfl
theorem kly_X7_text : (Jvm.Cond.laysFinal "PlainDrawing" "PlainDrawing" "text" "LPlainDrawing$Text;" : Cond) ∈ lw_g := mT2 (List.mem_of_getElem? (i := 19) rfl) rfl
theorem kly_X7_planarity : (Jvm.Cond.laysFinal "PlainDrawing" "PlainDrawing" "planarity" "LPlainDrawing$PlanarityTest;" : Cond) ∈ lw_g := mT2 (List.mem_of_getElem? (i := 21) rfl) rfl
theorem kly_X7_way : (Jvm.Cond.laysFinal "PlainDrawing" "PlainDrawing" "way" "LPlainDrawing$Way;" : Cond) ∈ lw_g := mT2 (List.mem_of_getElem? (i := 23) rfl) rfl
theorem kly_X7_layout : (Jvm.Cond.laysFinal "PlainDrawing" "PlainDrawing" "layout" "LPlainDrawing$Layout;" : Cond) ∈ lw_g := mT2 (List.mem_of_getElem? (i := 25) rfl) rfl
theorem kly_X7_links : (Jvm.Cond.laysFinal "PlainDrawing" "PlainDrawing" "links" "[I" : Cond) ∈ lw_g := mT2 (List.mem_of_getElem? (i := 27) rfl) rfl
theorem km_L_13 : (Cond.methodLink RL 13 yX7_setNodes : Cond) ∈ lw_g := mT2 (List.mem_of_getElem? (i := 30) rfl) rfl
theorem ki_X7_setNodes : (Cond.instanceMethod yX7_setNodes : Cond) ∈ lw_g := mT2 (List.mem_of_getElem? (i := 31) rfl) rfl
theorem ks_X7_setNodes : (Cond.selects RX7 yX7_setNodes yX7_setNodes : Cond) ∈ lw_g := mT2 (List.mem_of_getElem? (i := 32) rfl) rfl
theorem kc_X7_setNodes : (Cond.code yX7_setNodes cX7_setNodes 3 (Option.some Jvm.ClassFile.FieldType.int) : Cond) ∈ lw_g := mT2 (List.mem_of_getElem? (i := 33) rfl) rfl
theorem km_X7_69 : (Cond.methodLink RX7 69 yX2_save : Cond) ∈ lw_g := mT2 (List.mem_of_getElem? (i := 34) rfl) rfl
theorem ki_X2_save : (Cond.instanceMethod yX2_save : Cond) ∈ lw_g := mT2 (List.mem_of_getElem? (i := 35) rfl) rfl
theorem ks_X2_save : (Cond.selects RX2 yX2_save yX2_save : Cond) ∈ lw_g := mT2 (List.mem_of_getElem? (i := 36) rfl) rfl
theorem kc_X2_save : (Cond.code yX2_save cX2_save 2 (Option.none : Option Jvm.ClassFile.FieldType) : Cond) ∈ lw_g := mT2 (List.mem_of_getElem? (i := 37) rfl) rfl
theorem km_X2_22 : (Cond.methodLink RX2 22 yX2_dropOldest : Cond) ∈ lw_g := mT2 (List.mem_of_getElem? (i := 38) rfl) rfl
theorem ki_X2_dropOldest : (Cond.instanceMethod yX2_dropOldest : Cond) ∈ lw_g := mT2 (List.mem_of_getElem? (i := 40) rfl) rfl
theorem kc_X2_dropOldest : (Cond.code yX2_dropOldest cX2_dropOldest 3 (Option.none : Option Jvm.ClassFile.FieldType) : Cond) ∈ lw_g := mT2 (List.mem_of_getElem? (i := 41) rfl) rfl
theorem km_X2_25 : (Cond.methodLink RX2 25 yX1_copyFrom : Cond) ∈ lw_g := mT2 (List.mem_of_getElem? (i := 42) rfl) rfl
theorem ki_X1_copyFrom : (Cond.instanceMethod yX1_copyFrom : Cond) ∈ lw_g := mT2 (List.mem_of_getElem? (i := 43) rfl) rfl
theorem ks_X1_copyFrom : (Cond.selects RX1 yX1_copyFrom yX1_copyFrom : Cond) ∈ lw_g := mT2 (List.mem_of_getElem? (i := 44) rfl) rfl
theorem kc_X1_copyFrom : (Cond.code yX1_copyFrom cX1_copyFrom 2 (Option.none : Option Jvm.ClassFile.FieldType) : Cond) ∈ lw_g := mT2 (List.mem_of_getElem? (i := 45) rfl) rfl
theorem km_X1_40 : (Cond.methodLink RX1 40 ⟨"java/lang/System", "arraycopy", "(Ljava/lang/Object;ILjava/lang/Object;II)V"⟩ : Cond) ∈ lw_g := mT2 (List.mem_of_getElem? (i := 46) rfl) rfl
theorem kt_System_arraycopy : (Cond.static ⟨"java/lang/System", "arraycopy", "(Ljava/lang/Object;ILjava/lang/Object;II)V"⟩ : Cond) ∈ lw_g := mT2 (List.mem_of_getElem? (i := 47) rfl) rfl
theorem kv_System_arraycopy : (Cond.native ⟨"java/lang/System", "arraycopy", "(Ljava/lang/Object;ILjava/lang/Object;II)V"⟩ : Cond) ∈ lw_g := mT2 (List.mem_of_getElem? (i := 48) rfl) rfl
theorem km_X7_73 : (Cond.methodLink RX7 73 yX1_makeEmpty : Cond) ∈ lw_g := mT2 (List.mem_of_getElem? (i := 49) rfl) rfl
theorem ki_X1_makeEmpty : (Cond.instanceMethod yX1_makeEmpty : Cond) ∈ lw_g := mT2 (List.mem_of_getElem? (i := 50) rfl) rfl
theorem ks_X1_makeEmpty : (Cond.selects RX1 yX1_makeEmpty yX1_makeEmpty : Cond) ∈ lw_g := mT2 (List.mem_of_getElem? (i := 51) rfl) rfl
theorem kc_X1_makeEmpty : (Cond.code yX1_makeEmpty cX1_makeEmpty 2 (Option.none : Option Jvm.ClassFile.FieldType) : Cond) ∈ lw_g := mT2 (List.mem_of_getElem? (i := 52) rfl) rfl
theorem km_X1_31 : (Cond.methodLink RX1 31 yJ7_fill_53178 : Cond) ∈ lw_g := mT2 (List.mem_of_getElem? (i := 53) rfl) rfl
theorem kt_J7_fill_53178 : (Cond.static yJ7_fill_53178 : Cond) ∈ lw_g := mT2 (List.mem_of_getElem? (i := 54) rfl) rfl
theorem kc_J7_fill_53178 : (Cond.code yJ7_fill_53178 cJ7_fill_53178 4 (Option.none : Option Jvm.ClassFile.FieldType) : Cond) ∈ lw_g := mT2 (List.mem_of_getElem? (i := 55) rfl) rfl
theorem km_X7_77 : (Cond.methodLink RX7 77 yX7_settle : Cond) ∈ lw_g := mT2 (List.mem_of_getElem? (i := 56) rfl) rfl
theorem ki_X7_settle : (Cond.instanceMethod yX7_settle : Cond) ∈ lw_g := mT2 (List.mem_of_getElem? (i := 58) rfl) rfl
theorem kc_X7_settle : (Cond.code yX7_settle cX7_settle 1 (Option.none : Option Jvm.ClassFile.FieldType) : Cond) ∈ lw_g := mT2 (List.mem_of_getElem? (i := 59) rfl) rfl
theorem km_X7_267 : (Cond.methodLink RX7 267 yX0_trace : Cond) ∈ lw_g := mT2 (List.mem_of_getElem? (i := 60) rfl) rfl
theorem ki_X0_trace : (Cond.instanceMethod yX0_trace : Cond) ∈ lw_g := mT2 (List.mem_of_getElem? (i := 61) rfl) rfl
theorem ks_X0_trace : (Cond.selects RX0 yX0_trace yX0_trace : Cond) ∈ lw_g := mT2 (List.mem_of_getElem? (i := 62) rfl) rfl
theorem kc_X0_trace : (Cond.code yX0_trace cX0_trace 3 (Option.none : Option Jvm.ClassFile.FieldType) : Cond) ∈ lw_g := mT2 (List.mem_of_getElem? (i := 63) rfl) rfl
theorem km_X0_37 : (Cond.methodLink RX0 37 yJ7_fill_53178 : Cond) ∈ lw_g := mT2 (List.mem_of_getElem? (i := 64) rfl) rfl
theorem km_X0_48 : (Cond.methodLink RX0 48 yX1_following : Cond) ∈ lw_g := mT2 (List.mem_of_getElem? (i := 65) rfl) rfl
theorem ki_X1_following : (Cond.instanceMethod yX1_following : Cond) ∈ lw_g := mT2 (List.mem_of_getElem? (i := 66) rfl) rfl
theorem ks_X1_following : (Cond.selects RX1 yX1_following yX1_following : Cond) ∈ lw_g := mT2 (List.mem_of_getElem? (i := 67) rfl) rfl
theorem kc_X1_following : (Cond.code yX1_following cX1_following 5 (Option.some Jvm.ClassFile.FieldType.int) : Cond) ∈ lw_g := mT2 (List.mem_of_getElem? (i := 68) rfl) rfl
theorem km_X1_73 : (Cond.methodLink RX1 73 yX1_tailOf : Cond) ∈ lw_g := mT2 (List.mem_of_getElem? (i := 69) rfl) rfl
theorem ki_X1_tailOf : (Cond.instanceMethod yX1_tailOf : Cond) ∈ lw_g := mT2 (List.mem_of_getElem? (i := 70) rfl) rfl
theorem ks_X1_tailOf : (Cond.selects RX1 yX1_tailOf yX1_tailOf : Cond) ∈ lw_g := mT2 (List.mem_of_getElem? (i := 71) rfl) rfl
theorem kc_X1_tailOf : (Cond.code yX1_tailOf cX1_tailOf 2 (Option.some Jvm.ClassFile.FieldType.int) : Cond) ∈ lw_g := mT2 (List.mem_of_getElem? (i := 72) rfl) rfl
theorem km_X1_70 : (Cond.methodLink RX1 70 yX1_slotOf : Cond) ∈ lw_g := mT2 (List.mem_of_getElem? (i := 73) rfl) rfl
theorem ki_X1_slotOf : (Cond.instanceMethod yX1_slotOf : Cond) ∈ lw_g := mT2 (List.mem_of_getElem? (i := 74) rfl) rfl
theorem ks_X1_slotOf : (Cond.selects RX1 yX1_slotOf yX1_slotOf : Cond) ∈ lw_g := mT2 (List.mem_of_getElem? (i := 75) rfl) rfl
theorem kc_X1_slotOf : (Cond.code yX1_slotOf cX1_slotOf 4 (Option.some Jvm.ClassFile.FieldType.int) : Cond) ∈ lw_g := mT2 (List.mem_of_getElem? (i := 76) rfl) rfl
theorem km_X1_59 : (Cond.methodLink RX1 59 yX1_edgeAt : Cond) ∈ lw_g := mT2 (List.mem_of_getElem? (i := 77) rfl) rfl
theorem ki_X1_edgeAt : (Cond.instanceMethod yX1_edgeAt : Cond) ∈ lw_g := mT2 (List.mem_of_getElem? (i := 78) rfl) rfl
theorem ks_X1_edgeAt : (Cond.selects RX1 yX1_edgeAt yX1_edgeAt : Cond) ∈ lw_g := mT2 (List.mem_of_getElem? (i := 79) rfl) rfl
theorem kc_X1_edgeAt : (Cond.code yX1_edgeAt cX1_edgeAt 3 (Option.some Jvm.ClassFile.FieldType.int) : Cond) ∈ lw_g := mT2 (List.mem_of_getElem? (i := 80) rfl) rfl
theorem km_X0_52 : (Cond.methodLink RX0 52 yX0_walkFrom : Cond) ∈ lw_g := mT2 (List.mem_of_getElem? (i := 81) rfl) rfl
theorem ki_X0_walkFrom : (Cond.instanceMethod yX0_walkFrom : Cond) ∈ lw_g := mT2 (List.mem_of_getElem? (i := 83) rfl) rfl
theorem kc_X0_walkFrom : (Cond.code yX0_walkFrom cX0_walkFrom 5 (Option.none : Option Jvm.ClassFile.FieldType) : Cond) ∈ lw_g := mT2 (List.mem_of_getElem? (i := 84) rfl) rfl
theorem km_X0_64 : (Cond.methodLink RX0 64 yX1_tailOf : Cond) ∈ lw_g := mT2 (List.mem_of_getElem? (i := 85) rfl) rfl
theorem kt_X7_bit : (Cond.static yX7_bit : Cond) ∈ lw_g := mT2 (List.mem_of_getElem? (i := 87) rfl) rfl
theorem kc_X7_bit : (Cond.code yX7_bit cX7_bit 1 (Option.some Jvm.ClassFile.FieldType.int) : Cond) ∈ lw_g := mT2 (List.mem_of_getElem? (i := 88) rfl) rfl
theorem km_X0_56 : (Cond.methodLink RX0 56 yX1_fillLinks : Cond) ∈ lw_g := mT2 (List.mem_of_getElem? (i := 89) rfl) rfl
theorem ki_X1_fillLinks : (Cond.instanceMethod yX1_fillLinks : Cond) ∈ lw_g := mT2 (List.mem_of_getElem? (i := 90) rfl) rfl
theorem ks_X1_fillLinks : (Cond.selects RX1 yX1_fillLinks yX1_fillLinks : Cond) ∈ lw_g := mT2 (List.mem_of_getElem? (i := 91) rfl) rfl
theorem kc_X1_fillLinks : (Cond.code yX1_fillLinks cX1_fillLinks 3 (Option.none : Option Jvm.ClassFile.FieldType) : Cond) ∈ lw_g := mT2 (List.mem_of_getElem? (i := 92) rfl) rfl
theorem km_X0_60 : (Cond.methodLink RX0 60 yX0_countComponents : Cond) ∈ lw_g := mT2 (List.mem_of_getElem? (i := 94) rfl) rfl
theorem ki_X0_countComponents : (Cond.instanceMethod yX0_countComponents : Cond) ∈ lw_g := mT2 (List.mem_of_getElem? (i := 96) rfl) rfl
theorem kc_X0_countComponents : (Cond.code yX0_countComponents cX0_countComponents 6 (Option.none : Option Jvm.ClassFile.FieldType) : Cond) ∈ lw_g := mT2 (List.mem_of_getElem? (i := 97) rfl) rfl
theorem kt_X7_contains : (Cond.static yX7_contains : Cond) ∈ lw_g := mT2 (List.mem_of_getElem? (i := 99) rfl) rfl
theorem kc_X7_contains : (Cond.code yX7_contains cX7_contains 2 (Option.some Jvm.ClassFile.FieldType.boolean) : Cond) ∈ lw_g := mT2 (List.mem_of_getElem? (i := 100) rfl) rfl
theorem kt_X7_spread : (Cond.static yX7_spread : Cond) ∈ lw_g := mT2 (List.mem_of_getElem? (i := 102) rfl) rfl
theorem kc_X7_spread : (Cond.code yX7_spread cX7_spread 6 (Option.some Jvm.ClassFile.FieldType.int) : Cond) ∈ lw_g := mT2 (List.mem_of_getElem? (i := 103) rfl) rfl
theorem km_X7_217 : (Cond.methodLink RX7 217 yX7_bit : Cond) ∈ lw_g := mT2 (List.mem_of_getElem? (i := 104) rfl) rfl
theorem km_X7_273 : (Cond.methodLink RX7 273 yX7_neighboursOf : Cond) ∈ lw_g := mT2 (List.mem_of_getElem? (i := 105) rfl) rfl
theorem kt_X7_neighboursOf : (Cond.static yX7_neighboursOf : Cond) ∈ lw_g := mT2 (List.mem_of_getElem? (i := 106) rfl) rfl
theorem kc_X7_neighboursOf : (Cond.code yX7_neighboursOf cX7_neighboursOf 4 (Option.some Jvm.ClassFile.FieldType.int) : Cond) ∈ lw_g := mT2 (List.mem_of_getElem? (i := 107) rfl) rfl
theorem km_X7_233 : (Cond.methodLink RX7 233 yX7_contains : Cond) ∈ lw_g := mT2 (List.mem_of_getElem? (i := 108) rfl) rfl
theorem km_X0_81 : (Cond.methodLink RX0 81 yJ6_bitCount_0f7a4 : Cond) ∈ lw_g := mT2 (List.mem_of_getElem? (i := 109) rfl) rfl
theorem kt_J6_bitCount_0f7a4 : (Cond.static yJ6_bitCount_0f7a4 : Cond) ∈ lw_g := mT2 (List.mem_of_getElem? (i := 110) rfl) rfl
theorem kc_J6_bitCount_0f7a4 : (Cond.code yJ6_bitCount_0f7a4 cJ6_bitCount_0f7a4 1 (Option.some Jvm.ClassFile.FieldType.int) : Cond) ∈ lw_g := mT2 (List.mem_of_getElem? (i := 111) rfl) rfl
theorem ko_2_112 : (Jvm.Cond.constant "java/lang/Integer" (265 : Nat) (1431655765 : Int32) : Cond) ∈ lw_g := mT2 (List.mem_of_getElem? (i := 112) rfl) rfl
theorem ko_2_113 : (Jvm.Cond.constant "java/lang/Integer" (266 : Nat) (858993459 : Int32) : Cond) ∈ lw_g := mT2 (List.mem_of_getElem? (i := 113) rfl) rfl
theorem ko_2_114 : (Jvm.Cond.constant "java/lang/Integer" (267 : Nat) (252645135 : Int32) : Cond) ∈ lw_g := mT2 (List.mem_of_getElem? (i := 114) rfl) rfl
theorem km_L_18 : (Cond.methodLink RL 18 yX7_addEdge : Cond) ∈ lw_g := mT2 (List.mem_of_getElem? (i := 115) rfl) rfl
theorem ki_X7_addEdge : (Cond.instanceMethod yX7_addEdge : Cond) ∈ lw_g := mT2 (List.mem_of_getElem? (i := 116) rfl) rfl
theorem ks_X7_addEdge : (Cond.selects RX7 yX7_addEdge yX7_addEdge : Cond) ∈ lw_g := mT2 (List.mem_of_getElem? (i := 117) rfl) rfl
theorem kc_X7_addEdge : (Cond.code yX7_addEdge cX7_addEdge 5 (Option.some Jvm.ClassFile.FieldType.int) : Cond) ∈ lw_g := mT2 (List.mem_of_getElem? (i := 118) rfl) rfl
theorem km_X7_80 : (Cond.methodLink RX7 80 yX7_areTwoNodes : Cond) ∈ lw_g := mT2 (List.mem_of_getElem? (i := 119) rfl) rfl
theorem ki_X7_areTwoNodes : (Cond.instanceMethod yX7_areTwoNodes : Cond) ∈ lw_g := mT2 (List.mem_of_getElem? (i := 121) rfl) rfl
theorem kc_X7_areTwoNodes : (Cond.code yX7_areTwoNodes cX7_areTwoNodes 3 (Option.some Jvm.ClassFile.FieldType.boolean) : Cond) ∈ lw_g := mT2 (List.mem_of_getElem? (i := 122) rfl) rfl
theorem km_X7_118 : (Cond.methodLink RX7 118 yX1_hasNode : Cond) ∈ lw_g := mT2 (List.mem_of_getElem? (i := 123) rfl) rfl
theorem ki_X1_hasNode : (Cond.instanceMethod yX1_hasNode : Cond) ∈ lw_g := mT2 (List.mem_of_getElem? (i := 124) rfl) rfl
theorem ks_X1_hasNode : (Cond.selects RX1 yX1_hasNode yX1_hasNode : Cond) ∈ lw_g := mT2 (List.mem_of_getElem? (i := 125) rfl) rfl
theorem kc_X1_hasNode : (Cond.code yX1_hasNode cX1_hasNode 2 (Option.some Jvm.ClassFile.FieldType.boolean) : Cond) ∈ lw_g := mT2 (List.mem_of_getElem? (i := 126) rfl) rfl
theorem km_X7_84 : (Cond.methodLink RX7 84 yX7_mayStandBehind : Cond) ∈ lw_g := mT2 (List.mem_of_getElem? (i := 127) rfl) rfl
theorem ki_X7_mayStandBehind : (Cond.instanceMethod yX7_mayStandBehind : Cond) ∈ lw_g := mT2 (List.mem_of_getElem? (i := 129) rfl) rfl
theorem kc_X7_mayStandBehind : (Cond.code yX7_mayStandBehind cX7_mayStandBehind 3 (Option.some Jvm.ClassFile.FieldType.boolean) : Cond) ∈ lw_g := mT2 (List.mem_of_getElem? (i := 130) rfl) rfl
theorem km_X7_121 : (Cond.methodLink RX7 121 yX1_isEnd : Cond) ∈ lw_g := mT2 (List.mem_of_getElem? (i := 131) rfl) rfl
theorem ki_X1_isEnd : (Cond.instanceMethod yX1_isEnd : Cond) ∈ lw_g := mT2 (List.mem_of_getElem? (i := 132) rfl) rfl
theorem ks_X1_isEnd : (Cond.selects RX1 yX1_isEnd yX1_isEnd : Cond) ∈ lw_g := mT2 (List.mem_of_getElem? (i := 133) rfl) rfl
theorem kc_X1_isEnd : (Cond.code yX1_isEnd cX1_isEnd 3 (Option.some Jvm.ClassFile.FieldType.boolean) : Cond) ∈ lw_g := mT2 (List.mem_of_getElem? (i := 134) rfl) rfl
theorem km_X1_46 : (Cond.methodLink RX1 46 yX1_hasEdge : Cond) ∈ lw_g := mT2 (List.mem_of_getElem? (i := 135) rfl) rfl
theorem ki_X1_hasEdge : (Cond.instanceMethod yX1_hasEdge : Cond) ∈ lw_g := mT2 (List.mem_of_getElem? (i := 136) rfl) rfl
theorem ks_X1_hasEdge : (Cond.selects RX1 yX1_hasEdge yX1_hasEdge : Cond) ∈ lw_g := mT2 (List.mem_of_getElem? (i := 137) rfl) rfl
theorem kc_X1_hasEdge : (Cond.code yX1_hasEdge cX1_hasEdge 2 (Option.some Jvm.ClassFile.FieldType.boolean) : Cond) ∈ lw_g := mT2 (List.mem_of_getElem? (i := 138) rfl) rfl
theorem km_X7_87 : (Cond.methodLink RX7 87 yX1_areJoined : Cond) ∈ lw_g := mT2 (List.mem_of_getElem? (i := 139) rfl) rfl
theorem ki_X1_areJoined : (Cond.instanceMethod yX1_areJoined : Cond) ∈ lw_g := mT2 (List.mem_of_getElem? (i := 140) rfl) rfl
theorem ks_X1_areJoined : (Cond.selects RX1 yX1_areJoined yX1_areJoined : Cond) ∈ lw_g := mT2 (List.mem_of_getElem? (i := 141) rfl) rfl
theorem kc_X1_areJoined : (Cond.code yX1_areJoined cX1_areJoined 4 (Option.some Jvm.ClassFile.FieldType.boolean) : Cond) ∈ lw_g := mT2 (List.mem_of_getElem? (i := 142) rfl) rfl
theorem km_X1_50 : (Cond.methodLink RX1 50 yJ9_min_7cf53 : Cond) ∈ lw_g := mT2 (List.mem_of_getElem? (i := 143) rfl) rfl
theorem kt_J9_min_7cf53 : (Cond.static yJ9_min_7cf53 : Cond) ∈ lw_g := mT2 (List.mem_of_getElem? (i := 144) rfl) rfl
theorem kc_J9_min_7cf53 : (Cond.code yJ9_min_7cf53 cJ9_min_7cf53 2 (Option.some Jvm.ClassFile.FieldType.int) : Cond) ∈ lw_g := mT2 (List.mem_of_getElem? (i := 145) rfl) rfl
theorem km_X1_56 : (Cond.methodLink RX1 56 yJ9_max_7cf53 : Cond) ∈ lw_g := mT2 (List.mem_of_getElem? (i := 146) rfl) rfl
theorem kt_J9_max_7cf53 : (Cond.static yJ9_max_7cf53 : Cond) ∈ lw_g := mT2 (List.mem_of_getElem? (i := 147) rfl) rfl
theorem kc_J9_max_7cf53 : (Cond.code yJ9_max_7cf53 cJ9_max_7cf53 2 (Option.some Jvm.ClassFile.FieldType.int) : Cond) ∈ lw_g := mT2 (List.mem_of_getElem? (i := 148) rfl) rfl
theorem km_X7_90 : (Cond.methodLink RX7 90 yX1_slotOf : Cond) ∈ lw_g := mT2 (List.mem_of_getElem? (i := 149) rfl) rfl
theorem km_X7_94 : (Cond.methodLink RX7 94 yX7_join : Cond) ∈ lw_g := mT2 (List.mem_of_getElem? (i := 150) rfl) rfl
theorem ki_X7_join : (Cond.instanceMethod yX7_join : Cond) ∈ lw_g := mT2 (List.mem_of_getElem? (i := 152) rfl) rfl
theorem kc_X7_join : (Cond.code yX7_join cX7_join 6 (Option.some Jvm.ClassFile.FieldType.int) : Cond) ∈ lw_g := mT2 (List.mem_of_getElem? (i := 153) rfl) rfl
theorem km_X7_270 : (Cond.methodLink RX7 270 yX1_connect : Cond) ∈ lw_g := mT2 (List.mem_of_getElem? (i := 154) rfl) rfl
theorem ki_X1_connect : (Cond.instanceMethod yX1_connect : Cond) ∈ lw_g := mT2 (List.mem_of_getElem? (i := 155) rfl) rfl
theorem ks_X1_connect : (Cond.selects RX1 yX1_connect yX1_connect : Cond) ∈ lw_g := mT2 (List.mem_of_getElem? (i := 156) rfl) rfl
theorem kc_X1_connect : (Cond.code yX1_connect cX1_connect 6 (Option.some Jvm.ClassFile.FieldType.int) : Cond) ∈ lw_g := mT2 (List.mem_of_getElem? (i := 157) rfl) rfl
theorem km_X1_62 : (Cond.methodLink RX1 62 yX1_openSlot : Cond) ∈ lw_g := mT2 (List.mem_of_getElem? (i := 158) rfl) rfl
theorem ki_X1_openSlot : (Cond.instanceMethod yX1_openSlot : Cond) ∈ lw_g := mT2 (List.mem_of_getElem? (i := 160) rfl) rfl
theorem kc_X1_openSlot : (Cond.code yX1_openSlot cX1_openSlot 6 (Option.none : Option Jvm.ClassFile.FieldType) : Cond) ∈ lw_g := mT2 (List.mem_of_getElem? (i := 161) rfl) rfl
theorem km_L_23 : (Cond.methodLink RL 23 yX7_addInFace : Cond) ∈ lw_g := mT2 (List.mem_of_getElem? (i := 162) rfl) rfl
theorem ki_X7_addInFace : (Cond.instanceMethod yX7_addInFace : Cond) ∈ lw_g := mT2 (List.mem_of_getElem? (i := 163) rfl) rfl
theorem ks_X7_addInFace : (Cond.selects RX7 yX7_addInFace yX7_addInFace : Cond) ∈ lw_g := mT2 (List.mem_of_getElem? (i := 164) rfl) rfl
theorem kc_X7_addInFace : (Cond.code yX7_addInFace cX7_addInFace 6 (Option.some Jvm.ClassFile.FieldType.int) : Cond) ∈ lw_g := mT2 (List.mem_of_getElem? (i := 165) rfl) rfl
theorem km_X7_98 : (Cond.methodLink RX7 98 yX0_exists : Cond) ∈ lw_g := mT2 (List.mem_of_getElem? (i := 166) rfl) rfl
theorem ki_X0_exists : (Cond.instanceMethod yX0_exists : Cond) ∈ lw_g := mT2 (List.mem_of_getElem? (i := 167) rfl) rfl
theorem ks_X0_exists : (Cond.selects RX0 yX0_exists yX0_exists : Cond) ∈ lw_g := mT2 (List.mem_of_getElem? (i := 168) rfl) rfl
theorem kc_X0_exists : (Cond.code yX0_exists cX0_exists 2 (Option.some Jvm.ClassFile.FieldType.boolean) : Cond) ∈ lw_g := mT2 (List.mem_of_getElem? (i := 169) rfl) rfl
theorem km_X7_102 : (Cond.methodLink RX7 102 yX0_holds : Cond) ∈ lw_g := mT2 (List.mem_of_getElem? (i := 170) rfl) rfl
theorem ki_X0_holds : (Cond.instanceMethod yX0_holds : Cond) ∈ lw_g := mT2 (List.mem_of_getElem? (i := 171) rfl) rfl
theorem ks_X0_holds : (Cond.selects RX0 yX0_holds yX0_holds : Cond) ∈ lw_g := mT2 (List.mem_of_getElem? (i := 172) rfl) rfl
theorem kc_X0_holds : (Cond.code yX0_holds cX0_holds 3 (Option.some Jvm.ClassFile.FieldType.boolean) : Cond) ∈ lw_g := mT2 (List.mem_of_getElem? (i := 173) rfl) rfl
theorem km_X7_105 : (Cond.methodLink RX7 105 yX0_firstEdgeLeaving : Cond) ∈ lw_g := mT2 (List.mem_of_getElem? (i := 174) rfl) rfl
theorem ki_X0_firstEdgeLeaving : (Cond.instanceMethod yX0_firstEdgeLeaving : Cond) ∈ lw_g := mT2 (List.mem_of_getElem? (i := 175) rfl) rfl
theorem ks_X0_firstEdgeLeaving : (Cond.selects RX0 yX0_firstEdgeLeaving yX0_firstEdgeLeaving : Cond) ∈ lw_g := mT2 (List.mem_of_getElem? (i := 176) rfl) rfl
theorem kc_X0_firstEdgeLeaving : (Cond.code yX0_firstEdgeLeaving cX0_firstEdgeLeaving 6 (Option.some Jvm.ClassFile.FieldType.int) : Cond) ∈ lw_g := mT2 (List.mem_of_getElem? (i := 177) rfl) rfl
theorem km_L_28 : (Cond.methodLink RL 28 yX7_removeEdge : Cond) ∈ lw_g := mT2 (List.mem_of_getElem? (i := 178) rfl) rfl
theorem ki_X7_removeEdge : (Cond.instanceMethod yX7_removeEdge : Cond) ∈ lw_g := mT2 (List.mem_of_getElem? (i := 179) rfl) rfl
theorem ks_X7_removeEdge : (Cond.selects RX7 yX7_removeEdge yX7_removeEdge : Cond) ∈ lw_g := mT2 (List.mem_of_getElem? (i := 180) rfl) rfl
theorem kc_X7_removeEdge : (Cond.code yX7_removeEdge cX7_removeEdge 2 (Option.some Jvm.ClassFile.FieldType.int) : Cond) ∈ lw_g := mT2 (List.mem_of_getElem? (i := 181) rfl) rfl
theorem km_X7_109 : (Cond.methodLink RX7 109 yX1_hasEdge : Cond) ∈ lw_g := mT2 (List.mem_of_getElem? (i := 182) rfl) rfl
theorem km_X7_112 : (Cond.methodLink RX7 112 yX1_removeAt : Cond) ∈ lw_g := mT2 (List.mem_of_getElem? (i := 183) rfl) rfl
theorem ki_X1_removeAt : (Cond.instanceMethod yX1_removeAt : Cond) ∈ lw_g := mT2 (List.mem_of_getElem? (i := 184) rfl) rfl
theorem ks_X1_removeAt : (Cond.selects RX1 yX1_removeAt yX1_removeAt : Cond) ∈ lw_g := mT2 (List.mem_of_getElem? (i := 185) rfl) rfl
theorem kc_X1_removeAt : (Cond.code yX1_removeAt cX1_removeAt 3 (Option.none : Option Jvm.ClassFile.FieldType) : Cond) ∈ lw_g := mT2 (List.mem_of_getElem? (i := 186) rfl) rfl
theorem km_X1_66 : (Cond.methodLink RX1 66 yX1_closeSlots : Cond) ∈ lw_g := mT2 (List.mem_of_getElem? (i := 187) rfl) rfl
theorem ki_X1_closeSlots : (Cond.instanceMethod yX1_closeSlots : Cond) ∈ lw_g := mT2 (List.mem_of_getElem? (i := 189) rfl) rfl
theorem kc_X1_closeSlots : (Cond.code yX1_closeSlots cX1_closeSlots 7 (Option.none : Option Jvm.ClassFile.FieldType) : Cond) ∈ lw_g := mT2 (List.mem_of_getElem? (i := 190) rfl) rfl
theorem km_L_32 : (Cond.methodLink RL 32 yX7_swap : Cond) ∈ lw_g := mT2 (List.mem_of_getElem? (i := 191) rfl) rfl
theorem ki_X7_swap : (Cond.instanceMethod yX7_swap : Cond) ∈ lw_g := mT2 (List.mem_of_getElem? (i := 192) rfl) rfl
theorem ks_X7_swap : (Cond.selects RX7 yX7_swap yX7_swap : Cond) ∈ lw_g := mT2 (List.mem_of_getElem? (i := 193) rfl) rfl
theorem kc_X7_swap : (Cond.code yX7_swap cX7_swap 4 (Option.some Jvm.ClassFile.FieldType.int) : Cond) ∈ lw_g := mT2 (List.mem_of_getElem? (i := 194) rfl) rfl
theorem km_X7_124 : (Cond.methodLink RX7 124 yX1_exchange : Cond) ∈ lw_g := mT2 (List.mem_of_getElem? (i := 195) rfl) rfl
theorem ki_X1_exchange : (Cond.instanceMethod yX1_exchange : Cond) ∈ lw_g := mT2 (List.mem_of_getElem? (i := 196) rfl) rfl
theorem ks_X1_exchange : (Cond.selects RX1 yX1_exchange yX1_exchange : Cond) ∈ lw_g := mT2 (List.mem_of_getElem? (i := 197) rfl) rfl
theorem kc_X1_exchange : (Cond.code yX1_exchange cX1_exchange 6 (Option.none : Option Jvm.ClassFile.FieldType) : Cond) ∈ lw_g := mT2 (List.mem_of_getElem? (i := 198) rfl) rfl
theorem km_L_36 : (Cond.methodLink RL 36 yX7_mirror : Cond) ∈ lw_g := mT2 (List.mem_of_getElem? (i := 199) rfl) rfl
theorem ki_X7_mirror : (Cond.instanceMethod yX7_mirror : Cond) ∈ lw_g := mT2 (List.mem_of_getElem? (i := 200) rfl) rfl
theorem ks_X7_mirror : (Cond.selects RX7 yX7_mirror yX7_mirror : Cond) ∈ lw_g := mT2 (List.mem_of_getElem? (i := 201) rfl) rfl
theorem kc_X7_mirror : (Cond.code yX7_mirror cX7_mirror 1 (Option.some Jvm.ClassFile.FieldType.int) : Cond) ∈ lw_g := mT2 (List.mem_of_getElem? (i := 202) rfl) rfl
theorem km_X7_131 : (Cond.methodLink RX7 131 yX1_reverseAll : Cond) ∈ lw_g := mT2 (List.mem_of_getElem? (i := 203) rfl) rfl
theorem ki_X1_reverseAll : (Cond.instanceMethod yX1_reverseAll : Cond) ∈ lw_g := mT2 (List.mem_of_getElem? (i := 204) rfl) rfl
theorem ks_X1_reverseAll : (Cond.selects RX1 yX1_reverseAll yX1_reverseAll : Cond) ∈ lw_g := mT2 (List.mem_of_getElem? (i := 205) rfl) rfl
theorem kc_X1_reverseAll : (Cond.code yX1_reverseAll cX1_reverseAll 5 (Option.none : Option Jvm.ClassFile.FieldType) : Cond) ∈ lw_g := mT2 (List.mem_of_getElem? (i := 206) rfl) rfl
theorem km_L_41 : (Cond.methodLink RL 41 yX7_rotation : Cond) ∈ lw_g := mT2 (List.mem_of_getElem? (i := 207) rfl) rfl
theorem ki_X7_rotation : (Cond.instanceMethod yX7_rotation : Cond) ∈ lw_g := mT2 (List.mem_of_getElem? (i := 208) rfl) rfl
theorem ks_X7_rotation : (Cond.selects RX7 yX7_rotation yX7_rotation : Cond) ∈ lw_g := mT2 (List.mem_of_getElem? (i := 209) rfl) rfl
theorem kc_X7_rotation : (Cond.code yX7_rotation cX7_rotation 3 (Option.some Jvm.ClassFile.FieldType.int) : Cond) ∈ lw_g := mT2 (List.mem_of_getElem? (i := 210) rfl) rfl
theorem km_X7_140 : (Cond.methodLink RX7 140 yX1_edgeAt : Cond) ∈ lw_g := mT2 (List.mem_of_getElem? (i := 211) rfl) rfl
theorem km_L_46 : (Cond.methodLink RL 46 yX7_edge : Cond) ∈ lw_g := mT2 (List.mem_of_getElem? (i := 212) rfl) rfl
theorem ki_X7_edge : (Cond.instanceMethod yX7_edge : Cond) ∈ lw_g := mT2 (List.mem_of_getElem? (i := 213) rfl) rfl
theorem ks_X7_edge : (Cond.selects RX7 yX7_edge yX7_edge : Cond) ∈ lw_g := mT2 (List.mem_of_getElem? (i := 214) rfl) rfl
theorem kc_X7_edge : (Cond.code yX7_edge cX7_edge 3 (Option.some Jvm.ClassFile.FieldType.int) : Cond) ∈ lw_g := mT2 (List.mem_of_getElem? (i := 215) rfl) rfl
theorem km_L_50 : (Cond.methodLink RL 50 yX7_count : Cond) ∈ lw_g := mT2 (List.mem_of_getElem? (i := 216) rfl) rfl
theorem ki_X7_count : (Cond.instanceMethod yX7_count : Cond) ∈ lw_g := mT2 (List.mem_of_getElem? (i := 217) rfl) rfl
theorem ks_X7_count : (Cond.selects RX7 yX7_count yX7_count : Cond) ∈ lw_g := mT2 (List.mem_of_getElem? (i := 218) rfl) rfl
theorem kc_X7_count : (Cond.code yX7_count cX7_count 2 (Option.some Jvm.ClassFile.FieldType.int) : Cond) ∈ lw_g := mT2 (List.mem_of_getElem? (i := 219) rfl) rfl
theorem km_L_54 : (Cond.methodLink RL 54 yX7_appendCharacter : Cond) ∈ lw_g := mT2 (List.mem_of_getElem? (i := 220) rfl) rfl
theorem ki_X7_appendCharacter : (Cond.instanceMethod yX7_appendCharacter : Cond) ∈ lw_g := mT2 (List.mem_of_getElem? (i := 221) rfl) rfl
theorem ks_X7_appendCharacter : (Cond.selects RX7 yX7_appendCharacter yX7_appendCharacter : Cond) ∈ lw_g := mT2 (List.mem_of_getElem? (i := 222) rfl) rfl
theorem kc_X7_appendCharacter : (Cond.code yX7_appendCharacter cX7_appendCharacter 2 (Option.some Jvm.ClassFile.FieldType.int) : Cond) ∈ lw_g := mT2 (List.mem_of_getElem? (i := 223) rfl) rfl
theorem km_X7_161 : (Cond.methodLink RX7 161 yX5_add : Cond) ∈ lw_g := mT2 (List.mem_of_getElem? (i := 224) rfl) rfl
theorem ki_X5_add : (Cond.instanceMethod yX5_add : Cond) ∈ lw_g := mT2 (List.mem_of_getElem? (i := 225) rfl) rfl
theorem ks_X5_add : (Cond.selects RX5 yX5_add yX5_add : Cond) ∈ lw_g := mT2 (List.mem_of_getElem? (i := 226) rfl) rfl
theorem kc_X5_add : (Cond.code yX5_add cX5_add 2 (Option.none : Option Jvm.ClassFile.FieldType) : Cond) ∈ lw_g := mT2 (List.mem_of_getElem? (i := 227) rfl) rfl
theorem km_L_58 : (Cond.methodLink RL 58 yX7_clearText : Cond) ∈ lw_g := mT2 (List.mem_of_getElem? (i := 228) rfl) rfl
theorem ki_X7_clearText : (Cond.instanceMethod yX7_clearText : Cond) ∈ lw_g := mT2 (List.mem_of_getElem? (i := 229) rfl) rfl
theorem ks_X7_clearText : (Cond.selects RX7 yX7_clearText yX7_clearText : Cond) ∈ lw_g := mT2 (List.mem_of_getElem? (i := 230) rfl) rfl
theorem kc_X7_clearText : (Cond.code yX7_clearText cX7_clearText 2 (Option.some Jvm.ClassFile.FieldType.int) : Cond) ∈ lw_g := mT2 (List.mem_of_getElem? (i := 231) rfl) rfl
theorem km_L_62 : (Cond.methodLink RL 62 yX7_load : Cond) ∈ lw_g := mT2 (List.mem_of_getElem? (i := 232) rfl) rfl
theorem ki_X7_load : (Cond.instanceMethod yX7_load : Cond) ∈ lw_g := mT2 (List.mem_of_getElem? (i := 233) rfl) rfl
theorem ks_X7_load : (Cond.selects RX7 yX7_load yX7_load : Cond) ∈ lw_g := mT2 (List.mem_of_getElem? (i := 234) rfl) rfl
theorem kc_X7_load : (Cond.code yX7_load cX7_load 2 (Option.some Jvm.ClassFile.FieldType.int) : Cond) ∈ lw_g := mT2 (List.mem_of_getElem? (i := 235) rfl) rfl
theorem km_X7_164 : (Cond.methodLink RX7 164 yX5_read : Cond) ∈ lw_g := mT2 (List.mem_of_getElem? (i := 236) rfl) rfl
theorem ki_X5_read : (Cond.instanceMethod yX5_read : Cond) ∈ lw_g := mT2 (List.mem_of_getElem? (i := 237) rfl) rfl
theorem ks_X5_read : (Cond.selects RX5 yX5_read yX5_read : Cond) ∈ lw_g := mT2 (List.mem_of_getElem? (i := 238) rfl) rfl
theorem kc_X5_read : (Cond.code yX5_read cX5_read 3 (Option.some Jvm.ClassFile.FieldType.int) : Cond) ∈ lw_g := mT2 (List.mem_of_getElem? (i := 239) rfl) rfl
theorem km_X5_22 : (Cond.methodLink RX5 22 yX5_take : Cond) ∈ lw_g := mT3 (List.mem_of_getElem? (i := 0) rfl) rfl
theorem ki_X5_take : (Cond.instanceMethod yX5_take : Cond) ∈ lw_g := mT3 (List.mem_of_getElem? (i := 2) rfl) rfl
theorem kc_X5_take : (Cond.code yX5_take cX5_take 4 (Option.some Jvm.ClassFile.FieldType.boolean) : Cond) ∈ lw_g := mT3 (List.mem_of_getElem? (i := 3) rfl) rfl
theorem km_X5_26 : (Cond.methodLink RX5 26 yX5_takeNodes : Cond) ∈ lw_g := mT3 (List.mem_of_getElem? (i := 4) rfl) rfl
theorem ki_X5_takeNodes : (Cond.instanceMethod yX5_takeNodes : Cond) ∈ lw_g := mT3 (List.mem_of_getElem? (i := 6) rfl) rfl
theorem kc_X5_takeNodes : (Cond.code yX5_takeNodes cX5_takeNodes 3 (Option.some Jvm.ClassFile.FieldType.boolean) : Cond) ∈ lw_g := mT3 (List.mem_of_getElem? (i := 7) rfl) rfl
theorem km_X5_44 : (Cond.methodLink RX5 44 yX1_makeEmpty : Cond) ∈ lw_g := mT3 (List.mem_of_getElem? (i := 8) rfl) rfl
theorem km_X5_32 : (Cond.methodLink RX5 32 yX1_hasNode : Cond) ∈ lw_g := mT3 (List.mem_of_getElem? (i := 9) rfl) rfl
theorem km_X5_41 : (Cond.methodLink RX5 41 yX5_takeSecondEnd : Cond) ∈ lw_g := mT3 (List.mem_of_getElem? (i := 10) rfl) rfl
theorem ki_X5_takeSecondEnd : (Cond.instanceMethod yX5_takeSecondEnd : Cond) ∈ lw_g := mT3 (List.mem_of_getElem? (i := 12) rfl) rfl
theorem kc_X5_takeSecondEnd : (Cond.code yX5_takeSecondEnd cX5_takeSecondEnd 3 (Option.some Jvm.ClassFile.FieldType.boolean) : Cond) ∈ lw_g := mT3 (List.mem_of_getElem? (i := 13) rfl) rfl
theorem km_X5_48 : (Cond.methodLink RX5 48 yX1_areJoined : Cond) ∈ lw_g := mT3 (List.mem_of_getElem? (i := 14) rfl) rfl
theorem km_X5_55 : (Cond.methodLink RX5 55 yX1_connect : Cond) ∈ lw_g := mT3 (List.mem_of_getElem? (i := 15) rfl) rfl
theorem km_X7_168 : (Cond.methodLink RX7 168 yX1_copyFrom : Cond) ∈ lw_g := mT3 (List.mem_of_getElem? (i := 16) rfl) rfl
theorem km_L_66 : (Cond.methodLink RL 66 yX7_face : Cond) ∈ lw_g := mT3 (List.mem_of_getElem? (i := 17) rfl) rfl
theorem ki_X7_face : (Cond.instanceMethod yX7_face : Cond) ∈ lw_g := mT3 (List.mem_of_getElem? (i := 18) rfl) rfl
theorem ks_X7_face : (Cond.selects RX7 yX7_face yX7_face : Cond) ∈ lw_g := mT3 (List.mem_of_getElem? (i := 19) rfl) rfl
theorem kc_X7_face : (Cond.code yX7_face cX7_face 3 (Option.some Jvm.ClassFile.FieldType.int) : Cond) ∈ lw_g := mT3 (List.mem_of_getElem? (i := 20) rfl) rfl
theorem km_X7_176 : (Cond.methodLink RX7 176 yJ6_bitCount_0f7a4 : Cond) ∈ lw_g := mT3 (List.mem_of_getElem? (i := 21) rfl) rfl
theorem km_X7_185 : (Cond.methodLink RX7 185 yX0_countNeighbours : Cond) ∈ lw_g := mT3 (List.mem_of_getElem? (i := 22) rfl) rfl
theorem ki_X0_countNeighbours : (Cond.instanceMethod yX0_countNeighbours : Cond) ∈ lw_g := mT3 (List.mem_of_getElem? (i := 23) rfl) rfl
theorem ks_X0_countNeighbours : (Cond.selects RX0 yX0_countNeighbours yX0_countNeighbours : Cond) ∈ lw_g := mT3 (List.mem_of_getElem? (i := 24) rfl) rfl
theorem kc_X0_countNeighbours : (Cond.code yX0_countNeighbours cX0_countNeighbours 5 (Option.some Jvm.ClassFile.FieldType.int) : Cond) ∈ lw_g := mT3 (List.mem_of_getElem? (i := 25) rfl) rfl
theorem km_L_70 : (Cond.methodLink RL 70 yX7_walk : Cond) ∈ lw_g := mT3 (List.mem_of_getElem? (i := 26) rfl) rfl
theorem ki_X7_walk : (Cond.instanceMethod yX7_walk : Cond) ∈ lw_g := mT3 (List.mem_of_getElem? (i := 27) rfl) rfl
theorem ks_X7_walk : (Cond.selects RX7 yX7_walk yX7_walk : Cond) ∈ lw_g := mT3 (List.mem_of_getElem? (i := 28) rfl) rfl
theorem kc_X7_walk : (Cond.code yX7_walk cX7_walk 3 (Option.some Jvm.ClassFile.FieldType.int) : Cond) ∈ lw_g := mT3 (List.mem_of_getElem? (i := 29) rfl) rfl
theorem km_X7_189 : (Cond.methodLink RX7 189 yX0_directedAt : Cond) ∈ lw_g := mT3 (List.mem_of_getElem? (i := 30) rfl) rfl
theorem ki_X0_directedAt : (Cond.instanceMethod yX0_directedAt : Cond) ∈ lw_g := mT3 (List.mem_of_getElem? (i := 31) rfl) rfl
theorem ks_X0_directedAt : (Cond.selects RX0 yX0_directedAt yX0_directedAt : Cond) ∈ lw_g := mT3 (List.mem_of_getElem? (i := 32) rfl) rfl
theorem kc_X0_directedAt : (Cond.code yX0_directedAt cX0_directedAt 5 (Option.some Jvm.ClassFile.FieldType.int) : Cond) ∈ lw_g := mT3 (List.mem_of_getElem? (i := 33) rfl) rfl
theorem km_L_74 : (Cond.methodLink RL 74 yX7_faceOf : Cond) ∈ lw_g := mT3 (List.mem_of_getElem? (i := 34) rfl) rfl
theorem ki_X7_faceOf : (Cond.instanceMethod yX7_faceOf : Cond) ∈ lw_g := mT3 (List.mem_of_getElem? (i := 35) rfl) rfl
theorem ks_X7_faceOf : (Cond.selects RX7 yX7_faceOf yX7_faceOf : Cond) ∈ lw_g := mT3 (List.mem_of_getElem? (i := 36) rfl) rfl
theorem kc_X7_faceOf : (Cond.code yX7_faceOf cX7_faceOf 2 (Option.some Jvm.ClassFile.FieldType.int) : Cond) ∈ lw_g := mT3 (List.mem_of_getElem? (i := 37) rfl) rfl
theorem km_X7_192 : (Cond.methodLink RX7 192 yX1_hasDirected : Cond) ∈ lw_g := mT3 (List.mem_of_getElem? (i := 38) rfl) rfl
theorem ki_X1_hasDirected : (Cond.instanceMethod yX1_hasDirected : Cond) ∈ lw_g := mT3 (List.mem_of_getElem? (i := 39) rfl) rfl
theorem ks_X1_hasDirected : (Cond.selects RX1 yX1_hasDirected yX1_hasDirected : Cond) ∈ lw_g := mT3 (List.mem_of_getElem? (i := 40) rfl) rfl
theorem kc_X1_hasDirected : (Cond.code yX1_hasDirected cX1_hasDirected 2 (Option.some Jvm.ClassFile.FieldType.boolean) : Cond) ∈ lw_g := mT3 (List.mem_of_getElem? (i := 41) rfl) rfl
theorem km_L_78 : (Cond.methodLink RL 78 yX7_commonFace : Cond) ∈ lw_g := mT3 (List.mem_of_getElem? (i := 42) rfl) rfl
theorem ki_X7_commonFace : (Cond.instanceMethod yX7_commonFace : Cond) ∈ lw_g := mT3 (List.mem_of_getElem? (i := 43) rfl) rfl
theorem ks_X7_commonFace : (Cond.selects RX7 yX7_commonFace yX7_commonFace : Cond) ∈ lw_g := mT3 (List.mem_of_getElem? (i := 44) rfl) rfl
theorem kc_X7_commonFace : (Cond.code yX7_commonFace cX7_commonFace 4 (Option.some Jvm.ClassFile.FieldType.int) : Cond) ∈ lw_g := mT3 (List.mem_of_getElem? (i := 45) rfl) rfl
theorem km_L_82 : (Cond.methodLink RL 82 yX7_isPlanar : Cond) ∈ lw_g := mT3 (List.mem_of_getElem? (i := 46) rfl) rfl
theorem ki_X7_isPlanar : (Cond.instanceMethod yX7_isPlanar : Cond) ∈ lw_g := mT3 (List.mem_of_getElem? (i := 47) rfl) rfl
theorem ks_X7_isPlanar : (Cond.selects RX7 yX7_isPlanar yX7_isPlanar : Cond) ∈ lw_g := mT3 (List.mem_of_getElem? (i := 48) rfl) rfl
theorem kc_X7_isPlanar : (Cond.code yX7_isPlanar cX7_isPlanar 1 (Option.some Jvm.ClassFile.FieldType.int) : Cond) ∈ lw_g := mT3 (List.mem_of_getElem? (i := 49) rfl) rfl
theorem km_X7_198 : (Cond.methodLink RX7 198 yX1_fillLinks : Cond) ∈ lw_g := mT3 (List.mem_of_getElem? (i := 50) rfl) rfl
theorem km_X7_202 : (Cond.methodLink RX7 202 yX4_accepts : Cond) ∈ lw_g := mT3 (List.mem_of_getElem? (i := 51) rfl) rfl
theorem ki_X4_accepts : (Cond.instanceMethod yX4_accepts : Cond) ∈ lw_g := mT3 (List.mem_of_getElem? (i := 52) rfl) rfl
theorem ks_X4_accepts : (Cond.selects RX4 yX4_accepts yX4_accepts : Cond) ∈ lw_g := mT3 (List.mem_of_getElem? (i := 53) rfl) rfl
theorem kc_X4_accepts : (Cond.code yX4_accepts cX4_accepts 4 (Option.some Jvm.ClassFile.FieldType.boolean) : Cond) ∈ lw_g := mT3 (List.mem_of_getElem? (i := 54) rfl) rfl
theorem km_X4_39 : (Cond.methodLink RX4 39 ⟨"java/lang/System", "arraycopy", "(Ljava/lang/Object;ILjava/lang/Object;II)V"⟩ : Cond) ∈ lw_g := mT3 (List.mem_of_getElem? (i := 55) rfl) rfl
theorem km_X4_45 : (Cond.methodLink RX4 45 yX4_reduce : Cond) ∈ lw_g := mT3 (List.mem_of_getElem? (i := 56) rfl) rfl
theorem ki_X4_reduce : (Cond.instanceMethod yX4_reduce : Cond) ∈ lw_g := mT3 (List.mem_of_getElem? (i := 58) rfl) rfl
theorem kc_X4_reduce : (Cond.code yX4_reduce cX4_reduce 4 (Option.none : Option Jvm.ClassFile.FieldType) : Cond) ∈ lw_g := mT3 (List.mem_of_getElem? (i := 59) rfl) rfl
theorem km_X4_59 : (Cond.methodLink RX4 59 yJ6_bitCount_0f7a4 : Cond) ∈ lw_g := mT3 (List.mem_of_getElem? (i := 60) rfl) rfl
theorem km_X4_65 : (Cond.methodLink RX4 65 yX4_bridgeOver : Cond) ∈ lw_g := mT3 (List.mem_of_getElem? (i := 61) rfl) rfl
theorem ki_X4_bridgeOver : (Cond.instanceMethod yX4_bridgeOver : Cond) ∈ lw_g := mT3 (List.mem_of_getElem? (i := 63) rfl) rfl
theorem kc_X4_bridgeOver : (Cond.code yX4_bridgeOver cX4_bridgeOver 4 (Option.none : Option Jvm.ClassFile.FieldType) : Cond) ∈ lw_g := mT3 (List.mem_of_getElem? (i := 64) rfl) rfl
theorem km_X4_48 : (Cond.methodLink RX4 48 yX4_countEdges : Cond) ∈ lw_g := mT3 (List.mem_of_getElem? (i := 67) rfl) rfl
theorem ki_X4_countEdges : (Cond.instanceMethod yX4_countEdges : Cond) ∈ lw_g := mT3 (List.mem_of_getElem? (i := 69) rfl) rfl
theorem kc_X4_countEdges : (Cond.code yX4_countEdges cX4_countEdges 3 (Option.some Jvm.ClassFile.FieldType.int) : Cond) ∈ lw_g := mT3 (List.mem_of_getElem? (i := 70) rfl) rfl
theorem km_X4_52 : (Cond.methodLink RX4 52 yX4_findCycle : Cond) ∈ lw_g := mT3 (List.mem_of_getElem? (i := 71) rfl) rfl
theorem ki_X4_findCycle : (Cond.instanceMethod yX4_findCycle : Cond) ∈ lw_g := mT3 (List.mem_of_getElem? (i := 73) rfl) rfl
theorem kc_X4_findCycle : (Cond.code yX4_findCycle cX4_findCycle 6 (Option.some Jvm.ClassFile.FieldType.boolean) : Cond) ∈ lw_g := mT3 (List.mem_of_getElem? (i := 74) rfl) rfl
theorem kt_X7_smallestOf : (Cond.static yX7_smallestOf : Cond) ∈ lw_g := mT3 (List.mem_of_getElem? (i := 77) rfl) rfl
theorem kc_X7_smallestOf : (Cond.code yX7_smallestOf cX7_smallestOf 2 (Option.some Jvm.ClassFile.FieldType.int) : Cond) ∈ lw_g := mT3 (List.mem_of_getElem? (i := 78) rfl) rfl
theorem km_X4_87 : (Cond.methodLink RX4 87 yX4_cutPathBefore : Cond) ∈ lw_g := mT3 (List.mem_of_getElem? (i := 79) rfl) rfl
theorem ki_X4_cutPathBefore : (Cond.instanceMethod yX4_cutPathBefore : Cond) ∈ lw_g := mT3 (List.mem_of_getElem? (i := 81) rfl) rfl
theorem kc_X4_cutPathBefore : (Cond.code yX4_cutPathBefore cX4_cutPathBefore 5 (Option.none : Option Jvm.ClassFile.FieldType) : Cond) ∈ lw_g := mT3 (List.mem_of_getElem? (i := 82) rfl) rfl
theorem km_X4_56 : (Cond.methodLink RX4 56 yX4_sketchBlock : Cond) ∈ lw_g := mT3 (List.mem_of_getElem? (i := 83) rfl) rfl
theorem ki_X4_sketchBlock : (Cond.instanceMethod yX4_sketchBlock : Cond) ∈ lw_g := mT3 (List.mem_of_getElem? (i := 85) rfl) rfl
theorem kc_X4_sketchBlock : (Cond.code yX4_sketchBlock cX4_sketchBlock 2 (Option.some Jvm.ClassFile.FieldType.boolean) : Cond) ∈ lw_g := mT3 (List.mem_of_getElem? (i := 86) rfl) rfl
theorem km_X4_90 : (Cond.methodLink RX4 90 yX4_startSketch : Cond) ∈ lw_g := mT3 (List.mem_of_getElem? (i := 87) rfl) rfl
theorem ki_X4_startSketch : (Cond.instanceMethod yX4_startSketch : Cond) ∈ lw_g := mT3 (List.mem_of_getElem? (i := 89) rfl) rfl
theorem kc_X4_startSketch : (Cond.code yX4_startSketch cX4_startSketch 2 (Option.none : Option Jvm.ClassFile.FieldType) : Cond) ∈ lw_g := mT3 (List.mem_of_getElem? (i := 90) rfl) rfl
theorem km_X4_114 : (Cond.methodLink RX4 114 yJ7_fill_53178 : Cond) ∈ lw_g := mT3 (List.mem_of_getElem? (i := 91) rfl) rfl
theorem km_X4_111 : (Cond.methodLink RX4 111 yX4_drawPath : Cond) ∈ lw_g := mT3 (List.mem_of_getElem? (i := 92) rfl) rfl
theorem ki_X4_drawPath : (Cond.instanceMethod yX4_drawPath : Cond) ∈ lw_g := mT3 (List.mem_of_getElem? (i := 94) rfl) rfl
theorem kc_X4_drawPath : (Cond.code yX4_drawPath cX4_drawPath 2 (Option.none : Option Jvm.ClassFile.FieldType) : Cond) ∈ lw_g := mT3 (List.mem_of_getElem? (i := 95) rfl) rfl
theorem kt_X7_toggleLink : (Cond.static yX7_toggleLink : Cond) ∈ lw_g := mT3 (List.mem_of_getElem? (i := 97) rfl) rfl
theorem kc_X7_toggleLink : (Cond.code yX7_toggleLink cX7_toggleLink 3 (Option.none : Option Jvm.ClassFile.FieldType) : Cond) ∈ lw_g := mT3 (List.mem_of_getElem? (i := 98) rfl) rfl
theorem km_X4_99 : (Cond.methodLink RX4 99 yX4_weighEdges : Cond) ∈ lw_g := mT3 (List.mem_of_getElem? (i := 99) rfl) rfl
theorem ki_X4_weighEdges : (Cond.instanceMethod yX4_weighEdges : Cond) ∈ lw_g := mT3 (List.mem_of_getElem? (i := 101) rfl) rfl
theorem kc_X4_weighEdges : (Cond.code yX4_weighEdges cX4_weighEdges 4 (Option.some Jvm.ClassFile.FieldType.boolean) : Cond) ∈ lw_g := mT3 (List.mem_of_getElem? (i := 102) rfl) rfl
theorem km_X4_127 : (Cond.methodLink RX4 127 yX4_weigh : Cond) ∈ lw_g := mT3 (List.mem_of_getElem? (i := 103) rfl) rfl
theorem ki_X4_weigh : (Cond.instanceMethod yX4_weigh : Cond) ∈ lw_g := mT3 (List.mem_of_getElem? (i := 105) rfl) rfl
theorem kc_X4_weigh : (Cond.code yX4_weigh cX4_weigh 6 (Option.some Jvm.ClassFile.FieldType.boolean) : Cond) ∈ lw_g := mT3 (List.mem_of_getElem? (i := 106) rfl) rfl
theorem km_X4_102 : (Cond.methodLink RX4 102 yX4_weighParts : Cond) ∈ lw_g := mT3 (List.mem_of_getElem? (i := 107) rfl) rfl
theorem ki_X4_weighParts : (Cond.instanceMethod yX4_weighParts : Cond) ∈ lw_g := mT3 (List.mem_of_getElem? (i := 109) rfl) rfl
theorem kc_X4_weighParts : (Cond.code yX4_weighParts cX4_weighParts 5 (Option.some Jvm.ClassFile.FieldType.boolean) : Cond) ∈ lw_g := mT3 (List.mem_of_getElem? (i := 110) rfl) rfl
theorem km_X4_105 : (Cond.methodLink RX4 105 yX4_findPath : Cond) ∈ lw_g := mT3 (List.mem_of_getElem? (i := 112) rfl) rfl
theorem ki_X4_findPath : (Cond.instanceMethod yX4_findPath : Cond) ∈ lw_g := mT3 (List.mem_of_getElem? (i := 114) rfl) rfl
theorem kc_X4_findPath : (Cond.code yX4_findPath cX4_findPath 8 (Option.none : Option Jvm.ClassFile.FieldType) : Cond) ∈ lw_g := mT3 (List.mem_of_getElem? (i := 115) rfl) rfl
theorem km_X4_143 : (Cond.methodLink RX4 143 yX4_tracePath : Cond) ∈ lw_g := mT3 (List.mem_of_getElem? (i := 116) rfl) rfl
theorem ki_X4_tracePath : (Cond.instanceMethod yX4_tracePath : Cond) ∈ lw_g := mT3 (List.mem_of_getElem? (i := 118) rfl) rfl
theorem kc_X4_tracePath : (Cond.code yX4_tracePath cX4_tracePath 6 (Option.none : Option Jvm.ClassFile.FieldType) : Cond) ∈ lw_g := mT3 (List.mem_of_getElem? (i := 119) rfl) rfl
theorem km_X4_108 : (Cond.methodLink RX4 108 yX4_splitRing : Cond) ∈ lw_g := mT3 (List.mem_of_getElem? (i := 120) rfl) rfl
theorem ki_X4_splitRing : (Cond.instanceMethod yX4_splitRing : Cond) ∈ lw_g := mT3 (List.mem_of_getElem? (i := 122) rfl) rfl
theorem kc_X4_splitRing : (Cond.code yX4_splitRing cX4_splitRing 5 (Option.none : Option Jvm.ClassFile.FieldType) : Cond) ∈ lw_g := mT3 (List.mem_of_getElem? (i := 123) rfl) rfl
theorem km_X4_147 : (Cond.methodLink RX4 147 yX4_copyArc : Cond) ∈ lw_g := mT3 (List.mem_of_getElem? (i := 124) rfl) rfl
theorem ki_X4_copyArc : (Cond.instanceMethod yX4_copyArc : Cond) ∈ lw_g := mT3 (List.mem_of_getElem? (i := 126) rfl) rfl
theorem kc_X4_copyArc : (Cond.code yX4_copyArc cX4_copyArc 8 (Option.none : Option Jvm.ClassFile.FieldType) : Cond) ∈ lw_g := mT3 (List.mem_of_getElem? (i := 127) rfl) rfl
theorem km_X4_151 : (Cond.methodLink RX4 151 yX4_extendRing : Cond) ∈ lw_g := mT3 (List.mem_of_getElem? (i := 128) rfl) rfl
theorem ki_X4_extendRing : (Cond.instanceMethod yX4_extendRing : Cond) ∈ lw_g := mT3 (List.mem_of_getElem? (i := 130) rfl) rfl
theorem kc_X4_extendRing : (Cond.code yX4_extendRing cX4_extendRing 3 (Option.none : Option Jvm.ClassFile.FieldType) : Cond) ∈ lw_g := mT3 (List.mem_of_getElem? (i := 131) rfl) rfl
theorem km_L_86 : (Cond.methodLink RL 86 yX7_canAdd : Cond) ∈ lw_g := mT3 (List.mem_of_getElem? (i := 132) rfl) rfl
theorem ki_X7_canAdd : (Cond.instanceMethod yX7_canAdd : Cond) ∈ lw_g := mT3 (List.mem_of_getElem? (i := 133) rfl) rfl
theorem ks_X7_canAdd : (Cond.selects RX7 yX7_canAdd yX7_canAdd : Cond) ∈ lw_g := mT3 (List.mem_of_getElem? (i := 134) rfl) rfl
theorem kc_X7_canAdd : (Cond.code yX7_canAdd cX7_canAdd 3 (Option.some Jvm.ClassFile.FieldType.int) : Cond) ∈ lw_g := mT3 (List.mem_of_getElem? (i := 135) rfl) rfl
theorem km_X7_206 : (Cond.methodLink RX7 206 yX7_toggleLink : Cond) ∈ lw_g := mT3 (List.mem_of_getElem? (i := 136) rfl) rfl
theorem km_L_90 : (Cond.methodLink RL 90 yX7_obstruction : Cond) ∈ lw_g := mT3 (List.mem_of_getElem? (i := 137) rfl) rfl
theorem ki_X7_obstruction : (Cond.instanceMethod yX7_obstruction : Cond) ∈ lw_g := mT3 (List.mem_of_getElem? (i := 138) rfl) rfl
theorem ks_X7_obstruction : (Cond.selects RX7 yX7_obstruction yX7_obstruction : Cond) ∈ lw_g := mT3 (List.mem_of_getElem? (i := 139) rfl) rfl
theorem kc_X7_obstruction : (Cond.code yX7_obstruction cX7_obstruction 1 (Option.some Jvm.ClassFile.FieldType.int) : Cond) ∈ lw_g := mT3 (List.mem_of_getElem? (i := 140) rfl) rfl
theorem km_X7_210 : (Cond.methodLink RX7 210 yX7_findObstruction : Cond) ∈ lw_g := mT3 (List.mem_of_getElem? (i := 141) rfl) rfl
theorem ki_X7_findObstruction : (Cond.instanceMethod yX7_findObstruction : Cond) ∈ lw_g := mT3 (List.mem_of_getElem? (i := 143) rfl) rfl
theorem kc_X7_findObstruction : (Cond.code yX7_findObstruction cX7_findObstruction 3 (Option.some Jvm.ClassFile.FieldType.int) : Cond) ∈ lw_g := mT3 (List.mem_of_getElem? (i := 144) rfl) rfl
theorem km_L_94 : (Cond.methodLink RL 94 yX7_branching : Cond) ∈ lw_g := mT3 (List.mem_of_getElem? (i := 145) rfl) rfl
theorem ki_X7_branching : (Cond.instanceMethod yX7_branching : Cond) ∈ lw_g := mT3 (List.mem_of_getElem? (i := 146) rfl) rfl
theorem ks_X7_branching : (Cond.selects RX7 yX7_branching yX7_branching : Cond) ∈ lw_g := mT3 (List.mem_of_getElem? (i := 147) rfl) rfl
theorem kc_X7_branching : (Cond.code yX7_branching cX7_branching 4 (Option.some Jvm.ClassFile.FieldType.int) : Cond) ∈ lw_g := mT3 (List.mem_of_getElem? (i := 148) rfl) rfl
theorem km_X7_214 : (Cond.methodLink RX7 214 yX7_countEdgesAt : Cond) ∈ lw_g := mT3 (List.mem_of_getElem? (i := 149) rfl) rfl
theorem ki_X7_countEdgesAt : (Cond.instanceMethod yX7_countEdgesAt : Cond) ∈ lw_g := mT3 (List.mem_of_getElem? (i := 151) rfl) rfl
theorem kc_X7_countEdgesAt : (Cond.code yX7_countEdgesAt cX7_countEdgesAt 5 (Option.some Jvm.ClassFile.FieldType.int) : Cond) ∈ lw_g := mT3 (List.mem_of_getElem? (i := 152) rfl) rfl
theorem km_L_98 : (Cond.methodLink RL 98 yX7_guiltyEdges : Cond) ∈ lw_g := mT3 (List.mem_of_getElem? (i := 153) rfl) rfl
theorem ki_X7_guiltyEdges : (Cond.instanceMethod yX7_guiltyEdges : Cond) ∈ lw_g := mT3 (List.mem_of_getElem? (i := 154) rfl) rfl
theorem ks_X7_guiltyEdges : (Cond.selects RX7 yX7_guiltyEdges yX7_guiltyEdges : Cond) ∈ lw_g := mT3 (List.mem_of_getElem? (i := 155) rfl) rfl
theorem kc_X7_guiltyEdges : (Cond.code yX7_guiltyEdges cX7_guiltyEdges 3 (Option.some Jvm.ClassFile.FieldType.int) : Cond) ∈ lw_g := mT3 (List.mem_of_getElem? (i := 156) rfl) rfl
theorem km_L_102 : (Cond.methodLink RL 102 yX7_insertionCost : Cond) ∈ lw_g := mT3 (List.mem_of_getElem? (i := 157) rfl) rfl
theorem ki_X7_insertionCost : (Cond.instanceMethod yX7_insertionCost : Cond) ∈ lw_g := mT3 (List.mem_of_getElem? (i := 158) rfl) rfl
theorem ks_X7_insertionCost : (Cond.selects RX7 yX7_insertionCost yX7_insertionCost : Cond) ∈ lw_g := mT3 (List.mem_of_getElem? (i := 159) rfl) rfl
theorem kc_X7_insertionCost : (Cond.code yX7_insertionCost cX7_insertionCost 3 (Option.some Jvm.ClassFile.FieldType.int) : Cond) ∈ lw_g := mT3 (List.mem_of_getElem? (i := 160) rfl) rfl
theorem km_X7_220 : (Cond.methodLink RX7 220 yX7_canInsert : Cond) ∈ lw_g := mT3 (List.mem_of_getElem? (i := 161) rfl) rfl
theorem ki_X7_canInsert : (Cond.instanceMethod yX7_canInsert : Cond) ∈ lw_g := mT3 (List.mem_of_getElem? (i := 163) rfl) rfl
theorem kc_X7_canInsert : (Cond.code yX7_canInsert cX7_canInsert 3 (Option.some Jvm.ClassFile.FieldType.boolean) : Cond) ∈ lw_g := mT3 (List.mem_of_getElem? (i := 164) rfl) rfl
theorem km_X7_223 : (Cond.methodLink RX7 223 yX6_find : Cond) ∈ lw_g := mT3 (List.mem_of_getElem? (i := 165) rfl) rfl
theorem ki_X6_find : (Cond.instanceMethod yX6_find : Cond) ∈ lw_g := mT3 (List.mem_of_getElem? (i := 166) rfl) rfl
theorem ks_X6_find : (Cond.selects RX6 yX6_find yX6_find : Cond) ∈ lw_g := mT3 (List.mem_of_getElem? (i := 167) rfl) rfl
theorem kc_X6_find : (Cond.code yX6_find cX6_find 7 (Option.none : Option Jvm.ClassFile.FieldType) : Cond) ∈ lw_g := mT3 (List.mem_of_getElem? (i := 168) rfl) rfl
theorem km_X6_22 : (Cond.methodLink RX6 22 yX0_areConnected : Cond) ∈ lw_g := mT3 (List.mem_of_getElem? (i := 169) rfl) rfl
theorem ki_X0_areConnected : (Cond.instanceMethod yX0_areConnected : Cond) ∈ lw_g := mT3 (List.mem_of_getElem? (i := 170) rfl) rfl
theorem ks_X0_areConnected : (Cond.selects RX0 yX0_areConnected yX0_areConnected : Cond) ∈ lw_g := mT3 (List.mem_of_getElem? (i := 171) rfl) rfl
theorem kc_X0_areConnected : (Cond.code yX0_areConnected cX0_areConnected 3 (Option.some Jvm.ClassFile.FieldType.boolean) : Cond) ∈ lw_g := mT3 (List.mem_of_getElem? (i := 172) rfl) rfl
theorem km_X6_28 : (Cond.methodLink RX6 28 yX6_measure : Cond) ∈ lw_g := mT3 (List.mem_of_getElem? (i := 173) rfl) rfl
theorem ki_X6_measure : (Cond.instanceMethod yX6_measure : Cond) ∈ lw_g := mT3 (List.mem_of_getElem? (i := 175) rfl) rfl
theorem kc_X6_measure : (Cond.code yX6_measure cX6_measure 7 (Option.none : Option Jvm.ClassFile.FieldType) : Cond) ∈ lw_g := mT3 (List.mem_of_getElem? (i := 176) rfl) rfl
theorem km_X6_43 : (Cond.methodLink RX6 43 yX0_holds : Cond) ∈ lw_g := mT3 (List.mem_of_getElem? (i := 177) rfl) rfl
theorem km_X6_32 : (Cond.methodLink RX6 32 yX6_chooseStart : Cond) ∈ lw_g := mT3 (List.mem_of_getElem? (i := 178) rfl) rfl
theorem ki_X6_chooseStart : (Cond.instanceMethod yX6_chooseStart : Cond) ∈ lw_g := mT3 (List.mem_of_getElem? (i := 180) rfl) rfl
theorem kc_X6_chooseStart : (Cond.code yX6_chooseStart cX6_chooseStart 5 (Option.some Jvm.ClassFile.FieldType.int) : Cond) ∈ lw_g := mT3 (List.mem_of_getElem? (i := 181) rfl) rfl
theorem km_X6_36 : (Cond.methodLink RX6 36 yX6_cross : Cond) ∈ lw_g := mT3 (List.mem_of_getElem? (i := 183) rfl) rfl
theorem ki_X6_cross : (Cond.instanceMethod yX6_cross : Cond) ∈ lw_g := mT3 (List.mem_of_getElem? (i := 185) rfl) rfl
theorem kc_X6_cross : (Cond.code yX6_cross cX6_cross 7 (Option.some Jvm.ClassFile.FieldType.int) : Cond) ∈ lw_g := mT3 (List.mem_of_getElem? (i := 186) rfl) rfl
theorem km_L_106 : (Cond.methodLink RL 106 yX7_crossed : Cond) ∈ lw_g := mT3 (List.mem_of_getElem? (i := 188) rfl) rfl
theorem ki_X7_crossed : (Cond.instanceMethod yX7_crossed : Cond) ∈ lw_g := mT3 (List.mem_of_getElem? (i := 189) rfl) rfl
theorem ks_X7_crossed : (Cond.selects RX7 yX7_crossed yX7_crossed : Cond) ∈ lw_g := mT3 (List.mem_of_getElem? (i := 190) rfl) rfl
theorem kc_X7_crossed : (Cond.code yX7_crossed cX7_crossed 4 (Option.some Jvm.ClassFile.FieldType.int) : Cond) ∈ lw_g := mT3 (List.mem_of_getElem? (i := 191) rfl) rfl
theorem km_L_110 : (Cond.methodLink RL 110 yX7_setOuter : Cond) ∈ lw_g := mT3 (List.mem_of_getElem? (i := 192) rfl) rfl
theorem ki_X7_setOuter : (Cond.instanceMethod yX7_setOuter : Cond) ∈ lw_g := mT3 (List.mem_of_getElem? (i := 193) rfl) rfl
theorem ks_X7_setOuter : (Cond.selects RX7 yX7_setOuter yX7_setOuter : Cond) ∈ lw_g := mT3 (List.mem_of_getElem? (i := 194) rfl) rfl
theorem kc_X7_setOuter : (Cond.code yX7_setOuter cX7_setOuter 3 (Option.some Jvm.ClassFile.FieldType.int) : Cond) ∈ lw_g := mT3 (List.mem_of_getElem? (i := 195) rfl) rfl
theorem km_L_114 : (Cond.methodLink RL 114 yX7_depth : Cond) ∈ lw_g := mT3 (List.mem_of_getElem? (i := 196) rfl) rfl
theorem ki_X7_depth : (Cond.instanceMethod yX7_depth : Cond) ∈ lw_g := mT3 (List.mem_of_getElem? (i := 197) rfl) rfl
theorem ks_X7_depth : (Cond.selects RX7 yX7_depth yX7_depth : Cond) ∈ lw_g := mT3 (List.mem_of_getElem? (i := 198) rfl) rfl
theorem kc_X7_depth : (Cond.code yX7_depth cX7_depth 4 (Option.some Jvm.ClassFile.FieldType.int) : Cond) ∈ lw_g := mT3 (List.mem_of_getElem? (i := 199) rfl) rfl
theorem km_X7_236 : (Cond.methodLink RX7 236 yX0_widen : Cond) ∈ lw_g := mT3 (List.mem_of_getElem? (i := 200) rfl) rfl
theorem ki_X0_widen : (Cond.instanceMethod yX0_widen : Cond) ∈ lw_g := mT3 (List.mem_of_getElem? (i := 201) rfl) rfl
theorem ks_X0_widen : (Cond.selects RX0 yX0_widen yX0_widen : Cond) ∈ lw_g := mT3 (List.mem_of_getElem? (i := 202) rfl) rfl
theorem kc_X0_widen : (Cond.code yX0_widen cX0_widen 4 (Option.some Jvm.ClassFile.FieldType.int) : Cond) ∈ lw_g := mT3 (List.mem_of_getElem? (i := 203) rfl) rfl
theorem km_L_118 : (Cond.methodLink RL 118 yX7_position : Cond) ∈ lw_g := mT3 (List.mem_of_getElem? (i := 204) rfl) rfl
theorem ki_X7_position : (Cond.instanceMethod yX7_position : Cond) ∈ lw_g := mT3 (List.mem_of_getElem? (i := 205) rfl) rfl
theorem ks_X7_position : (Cond.selects RX7 yX7_position yX7_position : Cond) ∈ lw_g := mT3 (List.mem_of_getElem? (i := 206) rfl) rfl
theorem kc_X7_position : (Cond.code yX7_position cX7_position 4 (Option.some Jvm.ClassFile.FieldType.int) : Cond) ∈ lw_g := mT3 (List.mem_of_getElem? (i := 207) rfl) rfl
theorem km_X7_239 : (Cond.methodLink RX7 239 yX7_isRounds : Cond) ∈ lw_g := mT3 (List.mem_of_getElem? (i := 208) rfl) rfl
theorem kt_X7_isRounds : (Cond.static yX7_isRounds : Cond) ∈ lw_g := mT3 (List.mem_of_getElem? (i := 209) rfl) rfl
theorem kc_X7_isRounds : (Cond.code yX7_isRounds cX7_isRounds 1 (Option.some Jvm.ClassFile.FieldType.boolean) : Cond) ∈ lw_g := mT3 (List.mem_of_getElem? (i := 210) rfl) rfl
theorem km_X7_242 : (Cond.methodLink RX7 242 yX3_arrange : Cond) ∈ lw_g := mT3 (List.mem_of_getElem? (i := 211) rfl) rfl
theorem ki_X3_arrange : (Cond.instanceMethod yX3_arrange : Cond) ∈ lw_g := mT3 (List.mem_of_getElem? (i := 212) rfl) rfl
theorem ks_X3_arrange : (Cond.selects RX3 yX3_arrange yX3_arrange : Cond) ∈ lw_g := mT3 (List.mem_of_getElem? (i := 213) rfl) rfl
theorem kc_X3_arrange : (Cond.code yX3_arrange cX3_arrange 7 (Option.none : Option Jvm.ClassFile.FieldType) : Cond) ∈ lw_g := mT3 (List.mem_of_getElem? (i := 214) rfl) rfl
theorem km_X3_18 : (Cond.methodLink RX3 18 yJ7_fill_e525d : Cond) ∈ lw_g := mT3 (List.mem_of_getElem? (i := 215) rfl) rfl
theorem kt_J7_fill_e525d : (Cond.static yJ7_fill_e525d : Cond) ∈ lw_g := mT3 (List.mem_of_getElem? (i := 216) rfl) rfl
theorem kc_J7_fill_e525d : (Cond.code yJ7_fill_e525d cJ7_fill_e525d 4 (Option.none : Option Jvm.ClassFile.FieldType) : Cond) ∈ lw_g := mT3 (List.mem_of_getElem? (i := 217) rfl) rfl
theorem km_X3_30 : (Cond.methodLink RX3 30 yX0_exists : Cond) ∈ lw_g := mT3 (List.mem_of_getElem? (i := 218) rfl) rfl
theorem km_X3_36 : (Cond.methodLink RX3 36 yX3_pinOuterNodes : Cond) ∈ lw_g := mT3 (List.mem_of_getElem? (i := 219) rfl) rfl
theorem ki_X3_pinOuterNodes : (Cond.instanceMethod yX3_pinOuterNodes : Cond) ∈ lw_g := mT3 (List.mem_of_getElem? (i := 221) rfl) rfl
theorem kc_X3_pinOuterNodes : (Cond.code yX3_pinOuterNodes cX3_pinOuterNodes 8 (Option.some Jvm.ClassFile.FieldType.int) : Cond) ∈ lw_g := mT3 (List.mem_of_getElem? (i := 222) rfl) rfl
theorem km_X3_61 : (Cond.methodLink RX3 61 yX1_tailOf : Cond) ∈ lw_g := mT3 (List.mem_of_getElem? (i := 223) rfl) rfl
theorem km_X3_51 : (Cond.methodLink RX3 51 yX3_relax : Cond) ∈ lw_g := mT3 (List.mem_of_getElem? (i := 226) rfl) rfl
theorem ki_X3_relax : (Cond.instanceMethod yX3_relax : Cond) ∈ lw_g := mT3 (List.mem_of_getElem? (i := 228) rfl) rfl
theorem kc_X3_relax : (Cond.code yX3_relax cX3_relax 9 (Option.none : Option Jvm.ClassFile.FieldType) : Cond) ∈ lw_g := mT3 (List.mem_of_getElem? (i := 229) rfl) rfl
theorem km_X3_71 : (Cond.methodLink RX3 71 yX1_edgeAt : Cond) ∈ lw_g := mT3 (List.mem_of_getElem? (i := 230) rfl) rfl
theorem km_X7_253 : (Cond.methodLink RX7 253 yX7_bitsOf : Cond) ∈ lw_g := mT3 (List.mem_of_getElem? (i := 231) rfl) rfl
theorem kt_X7_bitsOf : (Cond.static yX7_bitsOf : Cond) ∈ lw_g := mT3 (List.mem_of_getElem? (i := 232) rfl) rfl
theorem kc_X7_bitsOf : (Cond.code yX7_bitsOf cX7_bitsOf 4 (Option.some Jvm.ClassFile.FieldType.int) : Cond) ∈ lw_g := mT3 (List.mem_of_getElem? (i := 233) rfl) rfl
theorem ko_3_234 : (Jvm.Cond.constantFloat "PlainDrawing" (277 : Nat) (1258291200 : UInt32) : Cond) ∈ lw_g := mT3 (List.mem_of_getElem? (i := 234) rfl) rfl
theorem ko_3_235 : (Jvm.Cond.constant "PlainDrawing" (278 : Nat) (8388608 : Int32) : Cond) ∈ lw_g := mT3 (List.mem_of_getElem? (i := 235) rfl) rfl
theorem km_L_122 : (Cond.methodLink RL 122 yX7_crossings : Cond) ∈ lw_g := mT3 (List.mem_of_getElem? (i := 236) rfl) rfl
theorem ki_X7_crossings : (Cond.instanceMethod yX7_crossings : Cond) ∈ lw_g := mT3 (List.mem_of_getElem? (i := 237) rfl) rfl
theorem ks_X7_crossings : (Cond.selects RX7 yX7_crossings yX7_crossings : Cond) ∈ lw_g := mT3 (List.mem_of_getElem? (i := 238) rfl) rfl
theorem kc_X7_crossings : (Cond.code yX7_crossings cX7_crossings 2 (Option.some Jvm.ClassFile.FieldType.int) : Cond) ∈ lw_g := mT3 (List.mem_of_getElem? (i := 239) rfl) rfl
theorem km_X7_257 : (Cond.methodLink RX7 257 yX3_countCrossings : Cond) ∈ lw_g := mT4 (List.mem_of_getElem? (i := 0) rfl) rfl
theorem ki_X3_countCrossings : (Cond.instanceMethod yX3_countCrossings : Cond) ∈ lw_g := mT4 (List.mem_of_getElem? (i := 1) rfl) rfl
theorem ks_X3_countCrossings : (Cond.selects RX3 yX3_countCrossings yX3_countCrossings : Cond) ∈ lw_g := mT4 (List.mem_of_getElem? (i := 2) rfl) rfl
theorem kc_X3_countCrossings : (Cond.code yX3_countCrossings cX3_countCrossings 5 (Option.some Jvm.ClassFile.FieldType.int) : Cond) ∈ lw_g := mT4 (List.mem_of_getElem? (i := 3) rfl) rfl
theorem km_X3_84 : (Cond.methodLink RX3 84 yX3_doCross : Cond) ∈ lw_g := mT4 (List.mem_of_getElem? (i := 4) rfl) rfl
theorem ki_X3_doCross : (Cond.instanceMethod yX3_doCross : Cond) ∈ lw_g := mT4 (List.mem_of_getElem? (i := 6) rfl) rfl
theorem kc_X3_doCross : (Cond.code yX3_doCross cX3_doCross 5 (Option.some Jvm.ClassFile.FieldType.boolean) : Cond) ∈ lw_g := mT4 (List.mem_of_getElem? (i := 7) rfl) rfl
theorem km_X3_88 : (Cond.methodLink RX3 88 yX3_turn : Cond) ∈ lw_g := mT4 (List.mem_of_getElem? (i := 8) rfl) rfl
theorem ki_X3_turn : (Cond.instanceMethod yX3_turn : Cond) ∈ lw_g := mT4 (List.mem_of_getElem? (i := 10) rfl) rfl
theorem kc_X3_turn : (Cond.code yX3_turn cX3_turn 4 (Option.some Jvm.ClassFile.FieldType.float) : Cond) ∈ lw_g := mT4 (List.mem_of_getElem? (i := 11) rfl) rfl
theorem km_X3_92 : (Cond.methodLink RX3 92 yX3_areOpposite : Cond) ∈ lw_g := mT4 (List.mem_of_getElem? (i := 12) rfl) rfl
theorem kt_X3_areOpposite : (Cond.static yX3_areOpposite : Cond) ∈ lw_g := mT4 (List.mem_of_getElem? (i := 13) rfl) rfl
theorem kc_X3_areOpposite : (Cond.code yX3_areOpposite cX3_areOpposite 2 (Option.some Jvm.ClassFile.FieldType.boolean) : Cond) ∈ lw_g := mT4 (List.mem_of_getElem? (i := 14) rfl) rfl
theorem km_L_126 : (Cond.methodLink RL 126 yX7_extent : Cond) ∈ lw_g := mT4 (List.mem_of_getElem? (i := 15) rfl) rfl
theorem ki_X7_extent : (Cond.instanceMethod yX7_extent : Cond) ∈ lw_g := mT4 (List.mem_of_getElem? (i := 16) rfl) rfl
theorem ks_X7_extent : (Cond.selects RX7 yX7_extent yX7_extent : Cond) ∈ lw_g := mT4 (List.mem_of_getElem? (i := 17) rfl) rfl
theorem kc_X7_extent : (Cond.code yX7_extent cX7_extent 2 (Option.some Jvm.ClassFile.FieldType.int) : Cond) ∈ lw_g := mT4 (List.mem_of_getElem? (i := 18) rfl) rfl
theorem km_X7_260 : (Cond.methodLink RX7 260 yX3_addLengths : Cond) ∈ lw_g := mT4 (List.mem_of_getElem? (i := 19) rfl) rfl
theorem ki_X3_addLengths : (Cond.instanceMethod yX3_addLengths : Cond) ∈ lw_g := mT4 (List.mem_of_getElem? (i := 20) rfl) rfl
theorem ks_X3_addLengths : (Cond.selects RX3 yX3_addLengths yX3_addLengths : Cond) ∈ lw_g := mT4 (List.mem_of_getElem? (i := 21) rfl) rfl
theorem kc_X3_addLengths : (Cond.code yX3_addLengths cX3_addLengths 6 (Option.some Jvm.ClassFile.FieldType.float) : Cond) ∈ lw_g := mT4 (List.mem_of_getElem? (i := 22) rfl) rfl
theorem km_X3_96 : (Cond.methodLink RX3 96 yX3_distance : Cond) ∈ lw_g := mT4 (List.mem_of_getElem? (i := 23) rfl) rfl
theorem kt_X3_distance : (Cond.static yX3_distance : Cond) ∈ lw_g := mT4 (List.mem_of_getElem? (i := 24) rfl) rfl
theorem kc_X3_distance : (Cond.code yX3_distance cX3_distance 3 (Option.some Jvm.ClassFile.FieldType.float) : Cond) ∈ lw_g := mT4 (List.mem_of_getElem? (i := 25) rfl) rfl
theorem km_L_130 : (Cond.methodLink RL 130 yX7_undo : Cond) ∈ lw_g := mT4 (List.mem_of_getElem? (i := 26) rfl) rfl
theorem ki_X7_undo : (Cond.instanceMethod yX7_undo : Cond) ∈ lw_g := mT4 (List.mem_of_getElem? (i := 27) rfl) rfl
theorem ks_X7_undo : (Cond.selects RX7 yX7_undo yX7_undo : Cond) ∈ lw_g := mT4 (List.mem_of_getElem? (i := 28) rfl) rfl
theorem kc_X7_undo : (Cond.code yX7_undo cX7_undo 1 (Option.some Jvm.ClassFile.FieldType.int) : Cond) ∈ lw_g := mT4 (List.mem_of_getElem? (i := 29) rfl) rfl
theorem km_X7_264 : (Cond.methodLink RX7 264 yX2_restore : Cond) ∈ lw_g := mT4 (List.mem_of_getElem? (i := 30) rfl) rfl
theorem ki_X2_restore : (Cond.instanceMethod yX2_restore : Cond) ∈ lw_g := mT4 (List.mem_of_getElem? (i := 31) rfl) rfl
theorem ks_X2_restore : (Cond.selects RX2 yX2_restore yX2_restore : Cond) ∈ lw_g := mT4 (List.mem_of_getElem? (i := 32) rfl) rfl
theorem kc_X2_restore : (Cond.code yX2_restore cX2_restore 2 (Option.none : Option Jvm.ClassFile.FieldType) : Cond) ∈ lw_g := mT4 (List.mem_of_getElem? (i := 33) rfl) rfl
theorem kl_L_10 : (Jvm.Cond.classLink "PlainDrawingLaw" (10 : Nat) "PlainDrawingModel" : Cond) ∈ lw_g := mT4 (List.mem_of_getElem? (i := 34) rfl) rfl
theorem kst_X8 : (Jvm.Cond.instantiable "PlainDrawingModel" (27 : Nat) : Cond) ∈ lw_g := mT4 (List.mem_of_getElem? (i := 35) rfl) rfl
theorem km_L_12 : (Cond.methodLink RL 12 yX8_init : Cond) ∈ lw_g := mT4 (List.mem_of_getElem? (i := 36) rfl) rfl
theorem ki_X8_init : (Cond.instanceMethod yX8_init : Cond) ∈ lw_g := mT4 (List.mem_of_getElem? (i := 37) rfl) rfl
theorem kc_X8_init : (Cond.code yX8_init cX8_init 1 (Option.none : Option Jvm.ClassFile.FieldType) : Cond) ∈ lw_g := mT4 (List.mem_of_getElem? (i := 38) rfl) rfl
theorem km_X8_1 : (Cond.methodLink RX8 1 ⟨"java/lang/Object", "<init>", "()V"⟩ : Cond) ∈ lw_g := mT4 (List.mem_of_getElem? (i := 39) rfl) rfl
theorem kf_X8_7 : (Jvm.Cond.fieldLink "PlainDrawingModel" (7 : Nat) "PlainDrawingModel" "s" "[I" : Cond) ∈ lw_g := mT4 (List.mem_of_getElem? (i := 40) rfl) rfl
theorem kf_X8_13 : (Jvm.Cond.fieldLink "PlainDrawingModel" (13 : Nat) "PlainDrawingModel" "past" "[I" : Cond) ∈ lw_g := mT4 (List.mem_of_getElem? (i := 41) rfl) rfl
theorem kf_X8_66 : (Jvm.Cond.fieldLink "PlainDrawingModel" (66 : Nat) "PlainDrawingModel" "pasts" "I" : Cond) ∈ lw_g := mT4 (List.mem_of_getElem? (i := 42) rfl) rfl
theorem kf_X8_16 : (Jvm.Cond.fieldLink "PlainDrawingModel" (16 : Nat) "PlainDrawingModel" "text" "[B" : Cond) ∈ lw_g := mT4 (List.mem_of_getElem? (i := 43) rfl) rfl
theorem kf_X8_149 : (Jvm.Cond.fieldLink "PlainDrawingModel" (149 : Nat) "PlainDrawingModel" "typed" "I" : Cond) ∈ lw_g := mT4 (List.mem_of_getElem? (i := 44) rfl) rfl
theorem kf_X8_20 : (Jvm.Cond.fieldLink "PlainDrawingModel" (20 : Nat) "PlainDrawingModel" "faceOfSide" "[I" : Cond) ∈ lw_g := mT4 (List.mem_of_getElem? (i := 45) rfl) rfl
theorem kf_X8_23 : (Jvm.Cond.fieldLink "PlainDrawingModel" (23 : Nat) "PlainDrawingModel" "firstSide" "[I" : Cond) ∈ lw_g := mT4 (List.mem_of_getElem? (i := 46) rfl) rfl
theorem kf_X8_120 : (Jvm.Cond.fieldLink "PlainDrawingModel" (120 : Nat) "PlainDrawingModel" "faces" "I" : Cond) ∈ lw_g := mT4 (List.mem_of_getElem? (i := 47) rfl) rfl
theorem kf_X8_26 : (Jvm.Cond.fieldLink "PlainDrawingModel" (26 : Nat) "PlainDrawingModel" "before" "[I" : Cond) ∈ lw_g := mT4 (List.mem_of_getElem? (i := 48) rfl) rfl
theorem kf_X8_29 : (Jvm.Cond.fieldLink "PlainDrawingModel" (29 : Nat) "PlainDrawingModel" "endA" "[I" : Cond) ∈ lw_g := mT4 (List.mem_of_getElem? (i := 49) rfl) rfl
theorem kf_X8_32 : (Jvm.Cond.fieldLink "PlainDrawingModel" (32 : Nat) "PlainDrawingModel" "endB" "[I" : Cond) ∈ lw_g := mT4 (List.mem_of_getElem? (i := 50) rfl) rfl
theorem kf_X8_35 : (Jvm.Cond.fieldLink "PlainDrawingModel" (35 : Nat) "PlainDrawingModel" "from" "[I" : Cond) ∈ lw_g := mT4 (List.mem_of_getElem? (i := 51) rfl) rfl
theorem kf_X8_38 : (Jvm.Cond.fieldLink "PlainDrawingModel" (38 : Nat) "PlainDrawingModel" "queue" "[I" : Cond) ∈ lw_g := mT4 (List.mem_of_getElem? (i := 52) rfl) rfl
theorem kf_X8_41 : (Jvm.Cond.fieldLink "PlainDrawingModel" (41 : Nat) "PlainDrawingModel" "ring" "[I" : Cond) ∈ lw_g := mT4 (List.mem_of_getElem? (i := 53) rfl) rfl
theorem kf_X8_44 : (Jvm.Cond.fieldLink "PlainDrawingModel" (44 : Nat) "PlainDrawingModel" "ringSize" "[I" : Cond) ∈ lw_g := mT4 (List.mem_of_getElem? (i := 54) rfl) rfl
theorem kf_X8_47 : (Jvm.Cond.fieldLink "PlainDrawingModel" (47 : Nat) "PlainDrawingModel" "ringNodes" "[I" : Cond) ∈ lw_g := mT4 (List.mem_of_getElem? (i := 55) rfl) rfl
theorem kf_X8_182 : (Jvm.Cond.fieldLink "PlainDrawingModel" (182 : Nat) "PlainDrawingModel" "rings" "I" : Cond) ∈ lw_g := mT4 (List.mem_of_getElem? (i := 56) rfl) rfl
theorem kf_X8_50 : (Jvm.Cond.fieldLink "PlainDrawingModel" (50 : Nat) "PlainDrawingModel" "path" "[I" : Cond) ∈ lw_g := mT4 (List.mem_of_getElem? (i := 57) rfl) rfl
theorem kf_X8_176 : (Jvm.Cond.fieldLink "PlainDrawingModel" (176 : Nat) "PlainDrawingModel" "pathSize" "I" : Cond) ∈ lw_g := mT4 (List.mem_of_getElem? (i := 58) rfl) rfl
theorem kf_X8_53 : (Jvm.Cond.fieldLink "PlainDrawingModel" (53 : Nat) "PlainDrawingModel" "old" "[I" : Cond) ∈ lw_g := mT4 (List.mem_of_getElem? (i := 59) rfl) rfl
theorem kf_X8_189 : (Jvm.Cond.fieldLink "PlainDrawingModel" (189 : Nat) "PlainDrawingModel" "lastRing" "I" : Cond) ∈ lw_g := mT4 (List.mem_of_getElem? (i := 60) rfl) rfl
theorem kf_X8_198 : (Jvm.Cond.fieldLink "PlainDrawingModel" (198 : Nat) "PlainDrawingModel" "bestNodes" "I" : Cond) ∈ lw_g := mT4 (List.mem_of_getElem? (i := 61) rfl) rfl
theorem kf_X8_201 : (Jvm.Cond.fieldLink "PlainDrawingModel" (201 : Nat) "PlainDrawingModel" "bestInside" "I" : Cond) ∈ lw_g := mT4 (List.mem_of_getElem? (i := 62) rfl) rfl
theorem kf_X8_195 : (Jvm.Cond.fieldLink "PlainDrawingModel" (195 : Nat) "PlainDrawingModel" "bestFits" "I" : Cond) ∈ lw_g := mT4 (List.mem_of_getElem? (i := 63) rfl) rfl
theorem kf_X8_56 : (Jvm.Cond.fieldLink "PlainDrawingModel" (56 : Nat) "PlainDrawingModel" "far" "[I" : Cond) ∈ lw_g := mT4 (List.mem_of_getElem? (i := 64) rfl) rfl
theorem kf_X8_59 : (Jvm.Cond.fieldLink "PlainDrawingModel" (59 : Nat) "PlainDrawingModel" "xs" "[F" : Cond) ∈ lw_g := mT4 (List.mem_of_getElem? (i := 65) rfl) rfl
theorem kf_X8_63 : (Jvm.Cond.fieldLink "PlainDrawingModel" (63 : Nat) "PlainDrawingModel" "ys" "[F" : Cond) ∈ lw_g := mT4 (List.mem_of_getElem? (i := 66) rfl) rfl
theorem kly_X8_s : (Jvm.Cond.laysFinal "PlainDrawingModel" "PlainDrawingModel" "s" "[I" : Cond) ∈ lw_g := mT4 (List.mem_of_getElem? (i := 67) rfl) rfl
theorem kly_X8_past : (Jvm.Cond.laysFinal "PlainDrawingModel" "PlainDrawingModel" "past" "[I" : Cond) ∈ lw_g := mT4 (List.mem_of_getElem? (i := 69) rfl) rfl
theorem kly_X8_pasts : (Jvm.Cond.lays "PlainDrawingModel" "PlainDrawingModel" "pasts" "I" : Cond) ∈ lw_g := mT4 (List.mem_of_getElem? (i := 71) rfl) rfl
theorem kly_X8_text : (Jvm.Cond.laysFinal "PlainDrawingModel" "PlainDrawingModel" "text" "[B" : Cond) ∈ lw_g := mT4 (List.mem_of_getElem? (i := 73) rfl) rfl
theorem kly_X8_typed : (Jvm.Cond.lays "PlainDrawingModel" "PlainDrawingModel" "typed" "I" : Cond) ∈ lw_g := mT4 (List.mem_of_getElem? (i := 75) rfl) rfl
theorem kly_X8_faceOfSide : (Jvm.Cond.laysFinal "PlainDrawingModel" "PlainDrawingModel" "faceOfSide" "[I" : Cond) ∈ lw_g := mT4 (List.mem_of_getElem? (i := 77) rfl) rfl
theorem kly_X8_firstSide : (Jvm.Cond.laysFinal "PlainDrawingModel" "PlainDrawingModel" "firstSide" "[I" : Cond) ∈ lw_g := mT4 (List.mem_of_getElem? (i := 79) rfl) rfl
theorem kly_X8_faces : (Jvm.Cond.lays "PlainDrawingModel" "PlainDrawingModel" "faces" "I" : Cond) ∈ lw_g := mT4 (List.mem_of_getElem? (i := 81) rfl) rfl
theorem kly_X8_before : (Jvm.Cond.laysFinal "PlainDrawingModel" "PlainDrawingModel" "before" "[I" : Cond) ∈ lw_g := mT4 (List.mem_of_getElem? (i := 83) rfl) rfl
theorem kly_X8_endA : (Jvm.Cond.laysFinal "PlainDrawingModel" "PlainDrawingModel" "endA" "[I" : Cond) ∈ lw_g := mT4 (List.mem_of_getElem? (i := 85) rfl) rfl
theorem kly_X8_endB : (Jvm.Cond.laysFinal "PlainDrawingModel" "PlainDrawingModel" "endB" "[I" : Cond) ∈ lw_g := mT4 (List.mem_of_getElem? (i := 87) rfl) rfl
theorem kly_X8_from : (Jvm.Cond.laysFinal "PlainDrawingModel" "PlainDrawingModel" "from" "[I" : Cond) ∈ lw_g := mT4 (List.mem_of_getElem? (i := 89) rfl) rfl
theorem kly_X8_queue : (Jvm.Cond.laysFinal "PlainDrawingModel" "PlainDrawingModel" "queue" "[I" : Cond) ∈ lw_g := mT4 (List.mem_of_getElem? (i := 91) rfl) rfl
theorem kly_X8_ring : (Jvm.Cond.laysFinal "PlainDrawingModel" "PlainDrawingModel" "ring" "[I" : Cond) ∈ lw_g := mT4 (List.mem_of_getElem? (i := 93) rfl) rfl
theorem kly_X8_ringSize : (Jvm.Cond.laysFinal "PlainDrawingModel" "PlainDrawingModel" "ringSize" "[I" : Cond) ∈ lw_g := mT4 (List.mem_of_getElem? (i := 95) rfl) rfl
theorem kly_X8_ringNodes : (Jvm.Cond.laysFinal "PlainDrawingModel" "PlainDrawingModel" "ringNodes" "[I" : Cond) ∈ lw_g := mT4 (List.mem_of_getElem? (i := 97) rfl) rfl
theorem kly_X8_rings : (Jvm.Cond.lays "PlainDrawingModel" "PlainDrawingModel" "rings" "I" : Cond) ∈ lw_g := mT4 (List.mem_of_getElem? (i := 99) rfl) rfl
theorem kly_X8_path : (Jvm.Cond.laysFinal "PlainDrawingModel" "PlainDrawingModel" "path" "[I" : Cond) ∈ lw_g := mT4 (List.mem_of_getElem? (i := 101) rfl) rfl
theorem kly_X8_pathSize : (Jvm.Cond.lays "PlainDrawingModel" "PlainDrawingModel" "pathSize" "I" : Cond) ∈ lw_g := mT4 (List.mem_of_getElem? (i := 103) rfl) rfl
theorem kly_X8_old : (Jvm.Cond.laysFinal "PlainDrawingModel" "PlainDrawingModel" "old" "[I" : Cond) ∈ lw_g := mT4 (List.mem_of_getElem? (i := 105) rfl) rfl
theorem kly_X8_lastRing : (Jvm.Cond.lays "PlainDrawingModel" "PlainDrawingModel" "lastRing" "I" : Cond) ∈ lw_g := mT4 (List.mem_of_getElem? (i := 107) rfl) rfl
theorem kly_X8_bestNodes : (Jvm.Cond.lays "PlainDrawingModel" "PlainDrawingModel" "bestNodes" "I" : Cond) ∈ lw_g := mT4 (List.mem_of_getElem? (i := 109) rfl) rfl
theorem kly_X8_bestInside : (Jvm.Cond.lays "PlainDrawingModel" "PlainDrawingModel" "bestInside" "I" : Cond) ∈ lw_g := mT4 (List.mem_of_getElem? (i := 111) rfl) rfl
theorem kly_X8_bestFits : (Jvm.Cond.lays "PlainDrawingModel" "PlainDrawingModel" "bestFits" "I" : Cond) ∈ lw_g := mT4 (List.mem_of_getElem? (i := 113) rfl) rfl
theorem kly_X8_far : (Jvm.Cond.laysFinal "PlainDrawingModel" "PlainDrawingModel" "far" "[I" : Cond) ∈ lw_g := mT4 (List.mem_of_getElem? (i := 115) rfl) rfl
theorem kly_X8_xs : (Jvm.Cond.laysFinal "PlainDrawingModel" "PlainDrawingModel" "xs" "[F" : Cond) ∈ lw_g := mT4 (List.mem_of_getElem? (i := 117) rfl) rfl
theorem kly_X8_ys : (Jvm.Cond.laysFinal "PlainDrawingModel" "PlainDrawingModel" "ys" "[F" : Cond) ∈ lw_g := mT4 (List.mem_of_getElem? (i := 119) rfl) rfl
theorem ko_4_122 : (Jvm.Cond.arrayClass Jvm.ClassFile.FieldType.byte : Cond) ∈ lw_g := mT4 (List.mem_of_getElem? (i := 122) rfl) rfl
theorem km_L_133 : (Cond.methodLink RL 133 yX8_undo : Cond) ∈ lw_g := mT4 (List.mem_of_getElem? (i := 123) rfl) rfl
theorem ki_X8_undo : (Cond.instanceMethod yX8_undo : Cond) ∈ lw_g := mT4 (List.mem_of_getElem? (i := 124) rfl) rfl
theorem ks_X8_undo : (Cond.selects RX8 yX8_undo yX8_undo : Cond) ∈ lw_g := mT4 (List.mem_of_getElem? (i := 125) rfl) rfl
theorem kc_X8_undo : (Cond.code yX8_undo cX8_undo 2 (Option.some Jvm.ClassFile.FieldType.int) : Cond) ∈ lw_g := mT4 (List.mem_of_getElem? (i := 126) rfl) rfl
theorem km_L_17 : (Cond.methodLink RL 17 yX8_setNodes : Cond) ∈ lw_g := mT4 (List.mem_of_getElem? (i := 127) rfl) rfl
theorem ki_X8_setNodes : (Cond.instanceMethod yX8_setNodes : Cond) ∈ lw_g := mT4 (List.mem_of_getElem? (i := 128) rfl) rfl
theorem ks_X8_setNodes : (Cond.selects RX8 yX8_setNodes yX8_setNodes : Cond) ∈ lw_g := mT4 (List.mem_of_getElem? (i := 129) rfl) rfl
theorem kc_X8_setNodes : (Cond.code yX8_setNodes cX8_setNodes 3 (Option.some Jvm.ClassFile.FieldType.int) : Cond) ∈ lw_g := mT4 (List.mem_of_getElem? (i := 130) rfl) rfl
theorem km_X8_70 : (Cond.methodLink RX8 70 yX8_in : Cond) ∈ lw_g := mT4 (List.mem_of_getElem? (i := 131) rfl) rfl
theorem kt_X8_in : (Cond.static yX8_in : Cond) ∈ lw_g := mT4 (List.mem_of_getElem? (i := 132) rfl) rfl
theorem kc_X8_in : (Cond.code yX8_in cX8_in 3 (Option.some Jvm.ClassFile.FieldType.boolean) : Cond) ∈ lw_g := mT4 (List.mem_of_getElem? (i := 133) rfl) rfl
theorem km_X8_90 : (Cond.methodLink RX8 90 yX8_notes : Cond) ∈ lw_g := mT4 (List.mem_of_getElem? (i := 134) rfl) rfl
theorem ki_X8_notes : (Cond.instanceMethod yX8_notes : Cond) ∈ lw_g := mT4 (List.mem_of_getElem? (i := 136) rfl) rfl
theorem kc_X8_notes : (Cond.code yX8_notes cX8_notes 2 (Option.none : Option Jvm.ClassFile.FieldType) : Cond) ∈ lw_g := mT4 (List.mem_of_getElem? (i := 137) rfl) rfl
theorem km_X8_93 : (Cond.methodLink RX8 93 yX8_empties : Cond) ∈ lw_g := mT4 (List.mem_of_getElem? (i := 138) rfl) rfl
theorem ki_X8_empties : (Cond.instanceMethod yX8_empties : Cond) ∈ lw_g := mT4 (List.mem_of_getElem? (i := 140) rfl) rfl
theorem kc_X8_empties : (Cond.code yX8_empties cX8_empties 3 (Option.none : Option Jvm.ClassFile.FieldType) : Cond) ∈ lw_g := mT4 (List.mem_of_getElem? (i := 141) rfl) rfl
theorem km_L_22 : (Cond.methodLink RL 22 yX8_addEdge : Cond) ∈ lw_g := mT4 (List.mem_of_getElem? (i := 142) rfl) rfl
theorem ki_X8_addEdge : (Cond.instanceMethod yX8_addEdge : Cond) ∈ lw_g := mT4 (List.mem_of_getElem? (i := 143) rfl) rfl
theorem ks_X8_addEdge : (Cond.selects RX8 yX8_addEdge yX8_addEdge : Cond) ∈ lw_g := mT4 (List.mem_of_getElem? (i := 144) rfl) rfl
theorem kc_X8_addEdge : (Cond.code yX8_addEdge cX8_addEdge 5 (Option.some Jvm.ClassFile.FieldType.int) : Cond) ∈ lw_g := mT4 (List.mem_of_getElem? (i := 145) rfl) rfl
theorem km_X8_100 : (Cond.methodLink RX8 100 yX8_areNodes : Cond) ∈ lw_g := mT4 (List.mem_of_getElem? (i := 146) rfl) rfl
theorem ki_X8_areNodes : (Cond.instanceMethod yX8_areNodes : Cond) ∈ lw_g := mT4 (List.mem_of_getElem? (i := 148) rfl) rfl
theorem kc_X8_areNodes : (Cond.code yX8_areNodes cX8_areNodes 3 (Option.some Jvm.ClassFile.FieldType.boolean) : Cond) ∈ lw_g := mT4 (List.mem_of_getElem? (i := 149) rfl) rfl
theorem km_X8_97 : (Cond.methodLink RX8 97 yX8_isNode : Cond) ∈ lw_g := mT4 (List.mem_of_getElem? (i := 150) rfl) rfl
theorem ki_X8_isNode : (Cond.instanceMethod yX8_isNode : Cond) ∈ lw_g := mT4 (List.mem_of_getElem? (i := 152) rfl) rfl
theorem kc_X8_isNode : (Cond.code yX8_isNode cX8_isNode 2 (Option.some Jvm.ClassFile.FieldType.boolean) : Cond) ∈ lw_g := mT4 (List.mem_of_getElem? (i := 153) rfl) rfl
theorem km_X8_82 : (Cond.methodLink RX8 82 yX8_isAt : Cond) ∈ lw_g := mT4 (List.mem_of_getElem? (i := 154) rfl) rfl
theorem ki_X8_isAt : (Cond.instanceMethod yX8_isAt : Cond) ∈ lw_g := mT4 (List.mem_of_getElem? (i := 156) rfl) rfl
theorem kc_X8_isAt : (Cond.code yX8_isAt cX8_isAt 3 (Option.some Jvm.ClassFile.FieldType.boolean) : Cond) ∈ lw_g := mT4 (List.mem_of_getElem? (i := 157) rfl) rfl
theorem km_X8_74 : (Cond.methodLink RX8 74 yX8_isEdge : Cond) ∈ lw_g := mT4 (List.mem_of_getElem? (i := 158) rfl) rfl
theorem ki_X8_isEdge : (Cond.instanceMethod yX8_isEdge : Cond) ∈ lw_g := mT4 (List.mem_of_getElem? (i := 160) rfl) rfl
theorem kc_X8_isEdge : (Cond.code yX8_isEdge cX8_isEdge 2 (Option.some Jvm.ClassFile.FieldType.boolean) : Cond) ∈ lw_g := mT4 (List.mem_of_getElem? (i := 161) rfl) rfl
theorem km_X8_103 : (Cond.methodLink RX8 103 yX8_between : Cond) ∈ lw_g := mT4 (List.mem_of_getElem? (i := 162) rfl) rfl
theorem ki_X8_between : (Cond.instanceMethod yX8_between : Cond) ∈ lw_g := mT4 (List.mem_of_getElem? (i := 164) rfl) rfl
theorem kc_X8_between : (Cond.code yX8_between cX8_between 5 (Option.some Jvm.ClassFile.FieldType.int) : Cond) ∈ lw_g := mT4 (List.mem_of_getElem? (i := 165) rfl) rfl
theorem km_X8_106 : (Cond.methodLink RX8 106 yX8_place : Cond) ∈ lw_g := mT4 (List.mem_of_getElem? (i := 166) rfl) rfl
theorem ki_X8_place : (Cond.instanceMethod yX8_place : Cond) ∈ lw_g := mT4 (List.mem_of_getElem? (i := 168) rfl) rfl
theorem kc_X8_place : (Cond.code yX8_place cX8_place 4 (Option.some Jvm.ClassFile.FieldType.int) : Cond) ∈ lw_g := mT4 (List.mem_of_getElem? (i := 169) rfl) rfl
theorem km_X8_78 : (Cond.methodLink RX8 78 yX8_turn : Cond) ∈ lw_g := mT4 (List.mem_of_getElem? (i := 170) rfl) rfl
theorem ki_X8_turn : (Cond.instanceMethod yX8_turn : Cond) ∈ lw_g := mT4 (List.mem_of_getElem? (i := 172) rfl) rfl
theorem kc_X8_turn : (Cond.code yX8_turn cX8_turn 3 (Option.some Jvm.ClassFile.FieldType.int) : Cond) ∈ lw_g := mT4 (List.mem_of_getElem? (i := 173) rfl) rfl
theorem km_X8_109 : (Cond.methodLink RX8 109 yX8_joins : Cond) ∈ lw_g := mT4 (List.mem_of_getElem? (i := 174) rfl) rfl
theorem ki_X8_joins : (Cond.instanceMethod yX8_joins : Cond) ∈ lw_g := mT4 (List.mem_of_getElem? (i := 176) rfl) rfl
theorem kc_X8_joins : (Cond.code yX8_joins cX8_joins 6 (Option.some Jvm.ClassFile.FieldType.int) : Cond) ∈ lw_g := mT4 (List.mem_of_getElem? (i := 177) rfl) rfl
theorem km_X8_86 : (Cond.methodLink RX8 86 yX8_puts : Cond) ∈ lw_g := mT4 (List.mem_of_getElem? (i := 178) rfl) rfl
theorem ki_X8_puts : (Cond.instanceMethod yX8_puts : Cond) ∈ lw_g := mT4 (List.mem_of_getElem? (i := 180) rfl) rfl
theorem kc_X8_puts : (Cond.code yX8_puts cX8_puts 5 (Option.none : Option Jvm.ClassFile.FieldType) : Cond) ∈ lw_g := mT4 (List.mem_of_getElem? (i := 181) rfl) rfl
theorem km_L_31 : (Cond.methodLink RL 31 yX8_removeEdge : Cond) ∈ lw_g := mT4 (List.mem_of_getElem? (i := 182) rfl) rfl
theorem ki_X8_removeEdge : (Cond.instanceMethod yX8_removeEdge : Cond) ∈ lw_g := mT4 (List.mem_of_getElem? (i := 183) rfl) rfl
theorem ks_X8_removeEdge : (Cond.selects RX8 yX8_removeEdge yX8_removeEdge : Cond) ∈ lw_g := mT4 (List.mem_of_getElem? (i := 184) rfl) rfl
theorem kc_X8_removeEdge : (Cond.code yX8_removeEdge cX8_removeEdge 6 (Option.some Jvm.ClassFile.FieldType.int) : Cond) ∈ lw_g := mT4 (List.mem_of_getElem? (i := 185) rfl) rfl
theorem km_L_35 : (Cond.methodLink RL 35 yX8_swap : Cond) ∈ lw_g := mT4 (List.mem_of_getElem? (i := 186) rfl) rfl
theorem ki_X8_swap : (Cond.instanceMethod yX8_swap : Cond) ∈ lw_g := mT4 (List.mem_of_getElem? (i := 187) rfl) rfl
theorem ks_X8_swap : (Cond.selects RX8 yX8_swap yX8_swap : Cond) ∈ lw_g := mT4 (List.mem_of_getElem? (i := 188) rfl) rfl
theorem kc_X8_swap : (Cond.code yX8_swap cX8_swap 6 (Option.some Jvm.ClassFile.FieldType.int) : Cond) ∈ lw_g := mT4 (List.mem_of_getElem? (i := 189) rfl) rfl
theorem km_X8_113 : (Cond.methodLink RX8 113 yX8_genus : Cond) ∈ lw_g := mT4 (List.mem_of_getElem? (i := 190) rfl) rfl
theorem ki_X8_genus : (Cond.instanceMethod yX8_genus : Cond) ∈ lw_g := mT4 (List.mem_of_getElem? (i := 192) rfl) rfl
theorem kc_X8_genus : (Cond.code yX8_genus cX8_genus 4 (Option.some Jvm.ClassFile.FieldType.int) : Cond) ∈ lw_g := mT4 (List.mem_of_getElem? (i := 193) rfl) rfl
theorem km_X8_117 : (Cond.methodLink RX8 117 yX8_walks : Cond) ∈ lw_g := mT4 (List.mem_of_getElem? (i := 194) rfl) rfl
theorem ki_X8_walks : (Cond.instanceMethod yX8_walks : Cond) ∈ lw_g := mT4 (List.mem_of_getElem? (i := 196) rfl) rfl
theorem kc_X8_walks : (Cond.code yX8_walks cX8_walks 3 (Option.none : Option Jvm.ClassFile.FieldType) : Cond) ∈ lw_g := mT4 (List.mem_of_getElem? (i := 197) rfl) rfl
theorem km_X8_130 : (Cond.methodLink RX8 130 yX8_follows : Cond) ∈ lw_g := mT4 (List.mem_of_getElem? (i := 198) rfl) rfl
theorem ki_X8_follows : (Cond.instanceMethod yX8_follows : Cond) ∈ lw_g := mT4 (List.mem_of_getElem? (i := 200) rfl) rfl
theorem kc_X8_follows : (Cond.code yX8_follows cX8_follows 5 (Option.some Jvm.ClassFile.FieldType.int) : Cond) ∈ lw_g := mT4 (List.mem_of_getElem? (i := 201) rfl) rfl
theorem km_X8_123 : (Cond.methodLink RX8 123 yX8_tail : Cond) ∈ lw_g := mT4 (List.mem_of_getElem? (i := 202) rfl) rfl
theorem ki_X8_tail : (Cond.instanceMethod yX8_tail : Cond) ∈ lw_g := mT4 (List.mem_of_getElem? (i := 204) rfl) rfl
theorem kc_X8_tail : (Cond.code yX8_tail cX8_tail 2 (Option.some Jvm.ClassFile.FieldType.int) : Cond) ∈ lw_g := mT4 (List.mem_of_getElem? (i := 205) rfl) rfl
theorem km_X8_127 : (Cond.methodLink RX8 127 yX8_across : Cond) ∈ lw_g := mT4 (List.mem_of_getElem? (i := 206) rfl) rfl
theorem ki_X8_across : (Cond.instanceMethod yX8_across : Cond) ∈ lw_g := mT4 (List.mem_of_getElem? (i := 208) rfl) rfl
theorem kc_X8_across : (Cond.code yX8_across cX8_across 3 (Option.some Jvm.ClassFile.FieldType.int) : Cond) ∈ lw_g := mT4 (List.mem_of_getElem? (i := 209) rfl) rfl
theorem km_X8_133 : (Cond.methodLink RX8 133 yX8_component : Cond) ∈ lw_g := mT4 (List.mem_of_getElem? (i := 210) rfl) rfl
theorem ki_X8_component : (Cond.instanceMethod yX8_component : Cond) ∈ lw_g := mT4 (List.mem_of_getElem? (i := 212) rfl) rfl
theorem kc_X8_component : (Cond.code yX8_component cX8_component 6 (Option.some Jvm.ClassFile.FieldType.int) : Cond) ∈ lw_g := mT4 (List.mem_of_getElem? (i := 213) rfl) rfl
theorem km_X8_136 : (Cond.methodLink RX8 136 yX8_bits : Cond) ∈ lw_g := mT4 (List.mem_of_getElem? (i := 214) rfl) rfl
theorem kt_X8_bits : (Cond.static yX8_bits : Cond) ∈ lw_g := mT4 (List.mem_of_getElem? (i := 215) rfl) rfl
theorem kc_X8_bits : (Cond.code yX8_bits cX8_bits 4 (Option.some Jvm.ClassFile.FieldType.int) : Cond) ∈ lw_g := mT4 (List.mem_of_getElem? (i := 216) rfl) rfl
theorem km_L_40 : (Cond.methodLink RL 40 yX8_mirror : Cond) ∈ lw_g := mT4 (List.mem_of_getElem? (i := 217) rfl) rfl
theorem ki_X8_mirror : (Cond.instanceMethod yX8_mirror : Cond) ∈ lw_g := mT4 (List.mem_of_getElem? (i := 218) rfl) rfl
theorem ks_X8_mirror : (Cond.selects RX8 yX8_mirror yX8_mirror : Cond) ∈ lw_g := mT4 (List.mem_of_getElem? (i := 219) rfl) rfl
theorem kc_X8_mirror : (Cond.code yX8_mirror cX8_mirror 5 (Option.some Jvm.ClassFile.FieldType.int) : Cond) ∈ lw_g := mT4 (List.mem_of_getElem? (i := 220) rfl) rfl
theorem km_L_45 : (Cond.methodLink RL 45 yX8_rotation : Cond) ∈ lw_g := mT4 (List.mem_of_getElem? (i := 221) rfl) rfl
theorem ki_X8_rotation : (Cond.instanceMethod yX8_rotation : Cond) ∈ lw_g := mT4 (List.mem_of_getElem? (i := 222) rfl) rfl
theorem ks_X8_rotation : (Cond.selects RX8 yX8_rotation yX8_rotation : Cond) ∈ lw_g := mT4 (List.mem_of_getElem? (i := 223) rfl) rfl
theorem kc_X8_rotation : (Cond.code yX8_rotation cX8_rotation 3 (Option.some Jvm.ClassFile.FieldType.int) : Cond) ∈ lw_g := mT4 (List.mem_of_getElem? (i := 224) rfl) rfl
theorem km_L_49 : (Cond.methodLink RL 49 yX8_edge : Cond) ∈ lw_g := mT4 (List.mem_of_getElem? (i := 225) rfl) rfl
theorem ki_X8_edge : (Cond.instanceMethod yX8_edge : Cond) ∈ lw_g := mT4 (List.mem_of_getElem? (i := 226) rfl) rfl
theorem ks_X8_edge : (Cond.selects RX8 yX8_edge yX8_edge : Cond) ∈ lw_g := mT4 (List.mem_of_getElem? (i := 227) rfl) rfl
theorem kc_X8_edge : (Cond.code yX8_edge cX8_edge 3 (Option.some Jvm.ClassFile.FieldType.int) : Cond) ∈ lw_g := mT4 (List.mem_of_getElem? (i := 228) rfl) rfl
theorem km_L_27 : (Cond.methodLink RL 27 yX8_addInFace : Cond) ∈ lw_g := mT4 (List.mem_of_getElem? (i := 229) rfl) rfl
theorem ki_X8_addInFace : (Cond.instanceMethod yX8_addInFace : Cond) ∈ lw_g := mT4 (List.mem_of_getElem? (i := 230) rfl) rfl
theorem ks_X8_addInFace : (Cond.selects RX8 yX8_addInFace yX8_addInFace : Cond) ∈ lw_g := mT4 (List.mem_of_getElem? (i := 231) rfl) rfl
theorem kc_X8_addInFace : (Cond.code yX8_addInFace cX8_addInFace 6 (Option.some Jvm.ClassFile.FieldType.int) : Cond) ∈ lw_g := mT4 (List.mem_of_getElem? (i := 232) rfl) rfl
theorem km_X8_140 : (Cond.methodLink RX8 140 yX8_nodesOn : Cond) ∈ lw_g := mT4 (List.mem_of_getElem? (i := 233) rfl) rfl
theorem ki_X8_nodesOn : (Cond.instanceMethod yX8_nodesOn : Cond) ∈ lw_g := mT4 (List.mem_of_getElem? (i := 235) rfl) rfl
theorem kc_X8_nodesOn : (Cond.code yX8_nodesOn cX8_nodesOn 4 (Option.some Jvm.ClassFile.FieldType.int) : Cond) ∈ lw_g := mT4 (List.mem_of_getElem? (i := 236) rfl) rfl
theorem km_X8_143 : (Cond.methodLink RX8 143 yX8_corner : Cond) ∈ lw_g := mT4 (List.mem_of_getElem? (i := 237) rfl) rfl
theorem ki_X8_corner : (Cond.instanceMethod yX8_corner : Cond) ∈ lw_g := mT4 (List.mem_of_getElem? (i := 239) rfl) rfl
theorem kc_X8_corner : (Cond.code yX8_corner cX8_corner 4 (Option.some Jvm.ClassFile.FieldType.int) : Cond) ∈ lw_g := mT5 (List.mem_of_getElem? (i := 0) rfl) rfl
theorem km_L_53 : (Cond.methodLink RL 53 yX8_count : Cond) ∈ lw_g := mT5 (List.mem_of_getElem? (i := 1) rfl) rfl
theorem ki_X8_count : (Cond.instanceMethod yX8_count : Cond) ∈ lw_g := mT5 (List.mem_of_getElem? (i := 2) rfl) rfl
theorem ks_X8_count : (Cond.selects RX8 yX8_count yX8_count : Cond) ∈ lw_g := mT5 (List.mem_of_getElem? (i := 3) rfl) rfl
theorem kc_X8_count : (Cond.code yX8_count cX8_count 2 (Option.some Jvm.ClassFile.FieldType.int) : Cond) ∈ lw_g := mT5 (List.mem_of_getElem? (i := 4) rfl) rfl
theorem km_X8_146 : (Cond.methodLink RX8 146 yX8_components : Cond) ∈ lw_g := mT5 (List.mem_of_getElem? (i := 5) rfl) rfl
theorem ki_X8_components : (Cond.instanceMethod yX8_components : Cond) ∈ lw_g := mT5 (List.mem_of_getElem? (i := 7) rfl) rfl
theorem kc_X8_components : (Cond.code yX8_components cX8_components 3 (Option.some Jvm.ClassFile.FieldType.int) : Cond) ∈ lw_g := mT5 (List.mem_of_getElem? (i := 8) rfl) rfl
theorem km_L_69 : (Cond.methodLink RL 69 yX8_face : Cond) ∈ lw_g := mT5 (List.mem_of_getElem? (i := 9) rfl) rfl
theorem ki_X8_face : (Cond.instanceMethod yX8_face : Cond) ∈ lw_g := mT5 (List.mem_of_getElem? (i := 10) rfl) rfl
theorem ks_X8_face : (Cond.selects RX8 yX8_face yX8_face : Cond) ∈ lw_g := mT5 (List.mem_of_getElem? (i := 11) rfl) rfl
theorem kc_X8_face : (Cond.code yX8_face cX8_face 3 (Option.some Jvm.ClassFile.FieldType.int) : Cond) ∈ lw_g := mT5 (List.mem_of_getElem? (i := 12) rfl) rfl
theorem km_X8_154 : (Cond.methodLink RX8 154 yX8_lengthOf : Cond) ∈ lw_g := mT5 (List.mem_of_getElem? (i := 13) rfl) rfl
theorem ki_X8_lengthOf : (Cond.instanceMethod yX8_lengthOf : Cond) ∈ lw_g := mT5 (List.mem_of_getElem? (i := 15) rfl) rfl
theorem kc_X8_lengthOf : (Cond.code yX8_lengthOf cX8_lengthOf 4 (Option.some Jvm.ClassFile.FieldType.int) : Cond) ∈ lw_g := mT5 (List.mem_of_getElem? (i := 16) rfl) rfl
theorem km_X8_157 : (Cond.methodLink RX8 157 yX8_besides : Cond) ∈ lw_g := mT5 (List.mem_of_getElem? (i := 17) rfl) rfl
theorem ki_X8_besides : (Cond.instanceMethod yX8_besides : Cond) ∈ lw_g := mT5 (List.mem_of_getElem? (i := 19) rfl) rfl
theorem kc_X8_besides : (Cond.code yX8_besides cX8_besides 5 (Option.some Jvm.ClassFile.FieldType.int) : Cond) ∈ lw_g := mT5 (List.mem_of_getElem? (i := 20) rfl) rfl
theorem ko_5_21 : (Jvm.Cond.constantLong "PlainDrawingModel" (152 : Nat) (-1 : Int64) : Cond) ∈ lw_g := mT5 (List.mem_of_getElem? (i := 21) rfl) rfl
theorem km_L_73 : (Cond.methodLink RL 73 yX8_walk : Cond) ∈ lw_g := mT5 (List.mem_of_getElem? (i := 22) rfl) rfl
theorem ki_X8_walk : (Cond.instanceMethod yX8_walk : Cond) ∈ lw_g := mT5 (List.mem_of_getElem? (i := 23) rfl) rfl
theorem ks_X8_walk : (Cond.selects RX8 yX8_walk yX8_walk : Cond) ∈ lw_g := mT5 (List.mem_of_getElem? (i := 24) rfl) rfl
theorem kc_X8_walk : (Cond.code yX8_walk cX8_walk 5 (Option.some Jvm.ClassFile.FieldType.int) : Cond) ∈ lw_g := mT5 (List.mem_of_getElem? (i := 25) rfl) rfl
theorem km_L_77 : (Cond.methodLink RL 77 yX8_faceOf : Cond) ∈ lw_g := mT5 (List.mem_of_getElem? (i := 26) rfl) rfl
theorem ki_X8_faceOf : (Cond.instanceMethod yX8_faceOf : Cond) ∈ lw_g := mT5 (List.mem_of_getElem? (i := 27) rfl) rfl
theorem ks_X8_faceOf : (Cond.selects RX8 yX8_faceOf yX8_faceOf : Cond) ∈ lw_g := mT5 (List.mem_of_getElem? (i := 28) rfl) rfl
theorem kc_X8_faceOf : (Cond.code yX8_faceOf cX8_faceOf 2 (Option.some Jvm.ClassFile.FieldType.int) : Cond) ∈ lw_g := mT5 (List.mem_of_getElem? (i := 29) rfl) rfl
theorem km_L_81 : (Cond.methodLink RL 81 yX8_commonFace : Cond) ∈ lw_g := mT5 (List.mem_of_getElem? (i := 30) rfl) rfl
theorem ki_X8_commonFace : (Cond.instanceMethod yX8_commonFace : Cond) ∈ lw_g := mT5 (List.mem_of_getElem? (i := 31) rfl) rfl
theorem ks_X8_commonFace : (Cond.selects RX8 yX8_commonFace yX8_commonFace : Cond) ∈ lw_g := mT5 (List.mem_of_getElem? (i := 32) rfl) rfl
theorem kc_X8_commonFace : (Cond.code yX8_commonFace cX8_commonFace 4 (Option.some Jvm.ClassFile.FieldType.int) : Cond) ∈ lw_g := mT5 (List.mem_of_getElem? (i := 33) rfl) rfl
theorem km_L_57 : (Cond.methodLink RL 57 yX8_appendCharacter : Cond) ∈ lw_g := mT5 (List.mem_of_getElem? (i := 34) rfl) rfl
theorem ki_X8_appendCharacter : (Cond.instanceMethod yX8_appendCharacter : Cond) ∈ lw_g := mT5 (List.mem_of_getElem? (i := 35) rfl) rfl
theorem ks_X8_appendCharacter : (Cond.selects RX8 yX8_appendCharacter yX8_appendCharacter : Cond) ∈ lw_g := mT5 (List.mem_of_getElem? (i := 36) rfl) rfl
theorem kc_X8_appendCharacter : (Cond.code yX8_appendCharacter cX8_appendCharacter 2 (Option.some Jvm.ClassFile.FieldType.int) : Cond) ∈ lw_g := mT5 (List.mem_of_getElem? (i := 37) rfl) rfl
theorem km_L_61 : (Cond.methodLink RL 61 yX8_clearText : Cond) ∈ lw_g := mT5 (List.mem_of_getElem? (i := 38) rfl) rfl
theorem ki_X8_clearText : (Cond.instanceMethod yX8_clearText : Cond) ∈ lw_g := mT5 (List.mem_of_getElem? (i := 39) rfl) rfl
theorem ks_X8_clearText : (Cond.selects RX8 yX8_clearText yX8_clearText : Cond) ∈ lw_g := mT5 (List.mem_of_getElem? (i := 40) rfl) rfl
theorem kc_X8_clearText : (Cond.code yX8_clearText cX8_clearText 2 (Option.some Jvm.ClassFile.FieldType.int) : Cond) ∈ lw_g := mT5 (List.mem_of_getElem? (i := 41) rfl) rfl
theorem km_L_65 : (Cond.methodLink RL 65 yX8_load : Cond) ∈ lw_g := mT5 (List.mem_of_getElem? (i := 42) rfl) rfl
theorem ki_X8_load : (Cond.instanceMethod yX8_load : Cond) ∈ lw_g := mT5 (List.mem_of_getElem? (i := 43) rfl) rfl
theorem ks_X8_load : (Cond.selects RX8 yX8_load yX8_load : Cond) ∈ lw_g := mT5 (List.mem_of_getElem? (i := 44) rfl) rfl
theorem kc_X8_load : (Cond.code yX8_load cX8_load 8 (Option.some Jvm.ClassFile.FieldType.int) : Cond) ∈ lw_g := mT5 (List.mem_of_getElem? (i := 45) rfl) rfl
theorem km_X8_160 : (Cond.methodLink RX8 160 yX8_may : Cond) ∈ lw_g := mT5 (List.mem_of_getElem? (i := 46) rfl) rfl
theorem ki_X8_may : (Cond.instanceMethod yX8_may : Cond) ∈ lw_g := mT5 (List.mem_of_getElem? (i := 48) rfl) rfl
theorem kc_X8_may : (Cond.code yX8_may cX8_may 5 (Option.some Jvm.ClassFile.FieldType.boolean) : Cond) ∈ lw_g := mT5 (List.mem_of_getElem? (i := 49) rfl) rfl
theorem km_X8_163 : (Cond.methodLink RX8 163 yX8_exchanges : Cond) ∈ lw_g := mT5 (List.mem_of_getElem? (i := 50) rfl) rfl
theorem ki_X8_exchanges : (Cond.instanceMethod yX8_exchanges : Cond) ∈ lw_g := mT5 (List.mem_of_getElem? (i := 52) rfl) rfl
theorem kc_X8_exchanges : (Cond.code yX8_exchanges cX8_exchanges 3 (Option.none : Option Jvm.ClassFile.FieldType) : Cond) ∈ lw_g := mT5 (List.mem_of_getElem? (i := 53) rfl) rfl
theorem km_L_85 : (Cond.methodLink RL 85 yX8_isPlanar : Cond) ∈ lw_g := mT5 (List.mem_of_getElem? (i := 54) rfl) rfl
theorem ki_X8_isPlanar : (Cond.instanceMethod yX8_isPlanar : Cond) ∈ lw_g := mT5 (List.mem_of_getElem? (i := 55) rfl) rfl
theorem ks_X8_isPlanar : (Cond.selects RX8 yX8_isPlanar yX8_isPlanar : Cond) ∈ lw_g := mT5 (List.mem_of_getElem? (i := 56) rfl) rfl
theorem kc_X8_isPlanar : (Cond.code yX8_isPlanar cX8_isPlanar 1 (Option.some Jvm.ClassFile.FieldType.int) : Cond) ∈ lw_g := mT5 (List.mem_of_getElem? (i := 57) rfl) rfl
theorem km_X8_243 : (Cond.methodLink RX8 243 yX8_allEdges : Cond) ∈ lw_g := mT5 (List.mem_of_getElem? (i := 58) rfl) rfl
theorem ki_X8_allEdges : (Cond.instanceMethod yX8_allEdges : Cond) ∈ lw_g := mT5 (List.mem_of_getElem? (i := 60) rfl) rfl
theorem kc_X8_allEdges : (Cond.code yX8_allEdges cX8_allEdges 1 (Option.some Jvm.ClassFile.FieldType.int) : Cond) ∈ lw_g := mT5 (List.mem_of_getElem? (i := 61) rfl) rfl
theorem km_X8_240 : (Cond.methodLink RX8 240 yX8_laysEnds : Cond) ∈ lw_g := mT5 (List.mem_of_getElem? (i := 62) rfl) rfl
theorem ki_X8_laysEnds : (Cond.instanceMethod yX8_laysEnds : Cond) ∈ lw_g := mT5 (List.mem_of_getElem? (i := 64) rfl) rfl
theorem kc_X8_laysEnds : (Cond.code yX8_laysEnds cX8_laysEnds 4 (Option.none : Option Jvm.ClassFile.FieldType) : Cond) ∈ lw_g := mT5 (List.mem_of_getElem? (i := 65) rfl) rfl
theorem km_X8_246 : (Cond.methodLink RX8 246 yX8_planar : Cond) ∈ lw_g := mT5 (List.mem_of_getElem? (i := 66) rfl) rfl
theorem ki_X8_planar : (Cond.instanceMethod yX8_planar : Cond) ∈ lw_g := mT5 (List.mem_of_getElem? (i := 68) rfl) rfl
theorem kc_X8_planar : (Cond.code yX8_planar cX8_planar 5 (Option.some Jvm.ClassFile.FieldType.boolean) : Cond) ∈ lw_g := mT5 (List.mem_of_getElem? (i := 69) rfl) rfl
theorem km_X8_210 : (Cond.methodLink RX8 210 yX8_lowest : Cond) ∈ lw_g := mT5 (List.mem_of_getElem? (i := 70) rfl) rfl
theorem kt_X8_lowest : (Cond.static yX8_lowest : Cond) ∈ lw_g := mT5 (List.mem_of_getElem? (i := 71) rfl) rfl
theorem kc_X8_lowest : (Cond.code yX8_lowest cX8_lowest 2 (Option.some Jvm.ClassFile.FieldType.int) : Cond) ∈ lw_g := mT5 (List.mem_of_getElem? (i := 72) rfl) rfl
theorem km_X8_166 : (Cond.methodLink RX8 166 yX8_has : Cond) ∈ lw_g := mT5 (List.mem_of_getElem? (i := 73) rfl) rfl
theorem kt_X8_has : (Cond.static yX8_has : Cond) ∈ lw_g := mT5 (List.mem_of_getElem? (i := 74) rfl) rfl
theorem kc_X8_has : (Cond.code yX8_has cX8_has 2 (Option.some Jvm.ClassFile.FieldType.boolean) : Cond) ∈ lw_g := mT5 (List.mem_of_getElem? (i := 75) rfl) rfl
theorem km_X8_234 : (Cond.methodLink RX8 234 yX8_block : Cond) ∈ lw_g := mT5 (List.mem_of_getElem? (i := 76) rfl) rfl
theorem ki_X8_block : (Cond.instanceMethod yX8_block : Cond) ∈ lw_g := mT5 (List.mem_of_getElem? (i := 78) rfl) rfl
theorem kc_X8_block : (Cond.code yX8_block cX8_block 8 (Option.some Jvm.ClassFile.FieldType.int) : Cond) ∈ lw_g := mT5 (List.mem_of_getElem? (i := 79) rfl) rfl
theorem km_X8_169 : (Cond.methodLink RX8 169 yX8_areInOne : Cond) ∈ lw_g := mT5 (List.mem_of_getElem? (i := 80) rfl) rfl
theorem ki_X8_areInOne : (Cond.instanceMethod yX8_areInOne : Cond) ∈ lw_g := mT5 (List.mem_of_getElem? (i := 82) rfl) rfl
theorem kc_X8_areInOne : (Cond.code yX8_areInOne cX8_areInOne 7 (Option.some Jvm.ClassFile.FieldType.boolean) : Cond) ∈ lw_g := mT5 (List.mem_of_getElem? (i := 83) rfl) rfl
theorem km_X8_172 : (Cond.methodLink RX8 172 yX8_reached : Cond) ∈ lw_g := mT5 (List.mem_of_getElem? (i := 84) rfl) rfl
theorem ki_X8_reached : (Cond.instanceMethod yX8_reached : Cond) ∈ lw_g := mT5 (List.mem_of_getElem? (i := 86) rfl) rfl
theorem kc_X8_reached : (Cond.code yX8_reached cX8_reached 9 (Option.some Jvm.ClassFile.FieldType.int) : Cond) ∈ lw_g := mT5 (List.mem_of_getElem? (i := 87) rfl) rfl
theorem km_X8_237 : (Cond.methodLink RX8 237 yX8_canDraw : Cond) ∈ lw_g := mT5 (List.mem_of_getElem? (i := 88) rfl) rfl
theorem ki_X8_canDraw : (Cond.instanceMethod yX8_canDraw : Cond) ∈ lw_g := mT5 (List.mem_of_getElem? (i := 90) rfl) rfl
theorem kc_X8_canDraw : (Cond.code yX8_canDraw cX8_canDraw 10 (Option.some Jvm.ClassFile.FieldType.boolean) : Cond) ∈ lw_g := mT5 (List.mem_of_getElem? (i := 91) rfl) rfl
theorem km_X8_213 : (Cond.methodLink RX8 213 yX8_finds : Cond) ∈ lw_g := mT5 (List.mem_of_getElem? (i := 92) rfl) rfl
theorem ki_X8_finds : (Cond.instanceMethod yX8_finds : Cond) ∈ lw_g := mT5 (List.mem_of_getElem? (i := 94) rfl) rfl
theorem kc_X8_finds : (Cond.code yX8_finds cX8_finds 11 (Option.some Jvm.ClassFile.FieldType.int) : Cond) ∈ lw_g := mT5 (List.mem_of_getElem? (i := 95) rfl) rfl
theorem km_X8_216 : (Cond.methodLink RX8 216 yX8_takesPath : Cond) ∈ lw_g := mT5 (List.mem_of_getElem? (i := 96) rfl) rfl
theorem ki_X8_takesPath : (Cond.instanceMethod yX8_takesPath : Cond) ∈ lw_g := mT5 (List.mem_of_getElem? (i := 98) rfl) rfl
theorem kc_X8_takesPath : (Cond.code yX8_takesPath cX8_takesPath 4 (Option.none : Option Jvm.ClassFile.FieldType) : Cond) ∈ lw_g := mT5 (List.mem_of_getElem? (i := 99) rfl) rfl
theorem km_X8_219 : (Cond.methodLink RX8 219 yX8_edgesOfPath : Cond) ∈ lw_g := mT5 (List.mem_of_getElem? (i := 100) rfl) rfl
theorem ki_X8_edgesOfPath : (Cond.instanceMethod yX8_edgesOfPath : Cond) ∈ lw_g := mT5 (List.mem_of_getElem? (i := 102) rfl) rfl
theorem kc_X8_edgesOfPath : (Cond.code yX8_edgesOfPath cX8_edgesOfPath 6 (Option.some Jvm.ClassFile.FieldType.int) : Cond) ∈ lw_g := mT5 (List.mem_of_getElem? (i := 103) rfl) rfl
theorem km_X8_222 : (Cond.methodLink RX8 222 yX8_nodesOfPath : Cond) ∈ lw_g := mT5 (List.mem_of_getElem? (i := 104) rfl) rfl
theorem ki_X8_nodesOfPath : (Cond.instanceMethod yX8_nodesOfPath : Cond) ∈ lw_g := mT5 (List.mem_of_getElem? (i := 106) rfl) rfl
theorem kc_X8_nodesOfPath : (Cond.code yX8_nodesOfPath cX8_nodesOfPath 3 (Option.some Jvm.ClassFile.FieldType.int) : Cond) ∈ lw_g := mT5 (List.mem_of_getElem? (i := 107) rfl) rfl
theorem km_X8_179 : (Cond.methodLink RX8 179 yX8_begins : Cond) ∈ lw_g := mT5 (List.mem_of_getElem? (i := 108) rfl) rfl
theorem ki_X8_begins : (Cond.instanceMethod yX8_begins : Cond) ∈ lw_g := mT5 (List.mem_of_getElem? (i := 110) rfl) rfl
theorem kc_X8_begins : (Cond.code yX8_begins cX8_begins 2 (Option.none : Option Jvm.ClassFile.FieldType) : Cond) ∈ lw_g := mT5 (List.mem_of_getElem? (i := 111) rfl) rfl
theorem km_X8_185 : (Cond.methodLink RX8 185 yX8_adds : Cond) ∈ lw_g := mT5 (List.mem_of_getElem? (i := 112) rfl) rfl
theorem ki_X8_adds : (Cond.instanceMethod yX8_adds : Cond) ∈ lw_g := mT5 (List.mem_of_getElem? (i := 114) rfl) rfl
theorem kc_X8_adds : (Cond.code yX8_adds cX8_adds 3 (Option.none : Option Jvm.ClassFile.FieldType) : Cond) ∈ lw_g := mT5 (List.mem_of_getElem? (i := 115) rfl) rfl
theorem km_X8_225 : (Cond.methodLink RX8 225 yX8_picks : Cond) ∈ lw_g := mT5 (List.mem_of_getElem? (i := 116) rfl) rfl
theorem ki_X8_picks : (Cond.instanceMethod yX8_picks : Cond) ∈ lw_g := mT5 (List.mem_of_getElem? (i := 118) rfl) rfl
theorem kc_X8_picks : (Cond.code yX8_picks cX8_picks 11 (Option.none : Option Jvm.ClassFile.FieldType) : Cond) ∈ lw_g := mT5 (List.mem_of_getElem? (i := 119) rfl) rfl
theorem km_X8_204 : (Cond.methodLink RX8 204 yX8_offers : Cond) ∈ lw_g := mT5 (List.mem_of_getElem? (i := 120) rfl) rfl
theorem ki_X8_offers : (Cond.instanceMethod yX8_offers : Cond) ∈ lw_g := mT5 (List.mem_of_getElem? (i := 122) rfl) rfl
theorem kc_X8_offers : (Cond.code yX8_offers cX8_offers 5 (Option.none : Option Jvm.ClassFile.FieldType) : Cond) ∈ lw_g := mT5 (List.mem_of_getElem? (i := 123) rfl) rfl
theorem km_X8_192 : (Cond.methodLink RX8 192 yX8_fitting : Cond) ∈ lw_g := mT5 (List.mem_of_getElem? (i := 124) rfl) rfl
theorem ki_X8_fitting : (Cond.instanceMethod yX8_fitting : Cond) ∈ lw_g := mT5 (List.mem_of_getElem? (i := 126) rfl) rfl
theorem kc_X8_fitting : (Cond.code yX8_fitting cX8_fitting 5 (Option.some Jvm.ClassFile.FieldType.int) : Cond) ∈ lw_g := mT5 (List.mem_of_getElem? (i := 127) rfl) rfl
theorem km_X8_207 : (Cond.methodLink RX8 207 yX8_nodesOfEdges : Cond) ∈ lw_g := mT5 (List.mem_of_getElem? (i := 128) rfl) rfl
theorem ki_X8_nodesOfEdges : (Cond.instanceMethod yX8_nodesOfEdges : Cond) ∈ lw_g := mT5 (List.mem_of_getElem? (i := 130) rfl) rfl
theorem kc_X8_nodesOfEdges : (Cond.code yX8_nodesOfEdges cX8_nodesOfEdges 4 (Option.some Jvm.ClassFile.FieldType.int) : Cond) ∈ lw_g := mT5 (List.mem_of_getElem? (i := 131) rfl) rfl
theorem km_X8_228 : (Cond.methodLink RX8 228 yX8_ownEdges : Cond) ∈ lw_g := mT5 (List.mem_of_getElem? (i := 132) rfl) rfl
theorem ki_X8_ownEdges : (Cond.instanceMethod yX8_ownEdges : Cond) ∈ lw_g := mT5 (List.mem_of_getElem? (i := 134) rfl) rfl
theorem kc_X8_ownEdges : (Cond.code yX8_ownEdges cX8_ownEdges 6 (Option.some Jvm.ClassFile.FieldType.int) : Cond) ∈ lw_g := mT5 (List.mem_of_getElem? (i := 135) rfl) rfl
theorem km_X8_231 : (Cond.methodLink RX8 231 yX8_splits : Cond) ∈ lw_g := mT5 (List.mem_of_getElem? (i := 136) rfl) rfl
theorem ki_X8_splits : (Cond.instanceMethod yX8_splits : Cond) ∈ lw_g := mT5 (List.mem_of_getElem? (i := 138) rfl) rfl
theorem kc_X8_splits : (Cond.code yX8_splits cX8_splits 6 (Option.none : Option Jvm.ClassFile.FieldType) : Cond) ∈ lw_g := mT5 (List.mem_of_getElem? (i := 139) rfl) rfl
theorem km_L_89 : (Cond.methodLink RL 89 yX8_canAdd : Cond) ∈ lw_g := mT5 (List.mem_of_getElem? (i := 140) rfl) rfl
theorem ki_X8_canAdd : (Cond.instanceMethod yX8_canAdd : Cond) ∈ lw_g := mT5 (List.mem_of_getElem? (i := 141) rfl) rfl
theorem ks_X8_canAdd : (Cond.selects RX8 yX8_canAdd yX8_canAdd : Cond) ∈ lw_g := mT5 (List.mem_of_getElem? (i := 142) rfl) rfl
theorem kc_X8_canAdd : (Cond.code yX8_canAdd cX8_canAdd 3 (Option.some Jvm.ClassFile.FieldType.int) : Cond) ∈ lw_g := mT5 (List.mem_of_getElem? (i := 143) rfl) rfl
theorem km_L_93 : (Cond.methodLink RL 93 yX8_obstruction : Cond) ∈ lw_g := mT5 (List.mem_of_getElem? (i := 144) rfl) rfl
theorem ki_X8_obstruction : (Cond.instanceMethod yX8_obstruction : Cond) ∈ lw_g := mT5 (List.mem_of_getElem? (i := 145) rfl) rfl
theorem ks_X8_obstruction : (Cond.selects RX8 yX8_obstruction yX8_obstruction : Cond) ∈ lw_g := mT5 (List.mem_of_getElem? (i := 146) rfl) rfl
theorem kc_X8_obstruction : (Cond.code yX8_obstruction cX8_obstruction 1 (Option.some Jvm.ClassFile.FieldType.int) : Cond) ∈ lw_g := mT5 (List.mem_of_getElem? (i := 147) rfl) rfl
theorem km_X8_249 : (Cond.methodLink RX8 249 yX8_obstructed : Cond) ∈ lw_g := mT5 (List.mem_of_getElem? (i := 148) rfl) rfl
theorem ki_X8_obstructed : (Cond.instanceMethod yX8_obstructed : Cond) ∈ lw_g := mT5 (List.mem_of_getElem? (i := 150) rfl) rfl
theorem kc_X8_obstructed : (Cond.code yX8_obstructed cX8_obstructed 3 (Option.some Jvm.ClassFile.FieldType.int) : Cond) ∈ lw_g := mT5 (List.mem_of_getElem? (i := 151) rfl) rfl
theorem km_L_97 : (Cond.methodLink RL 97 yX8_branching : Cond) ∈ lw_g := mT5 (List.mem_of_getElem? (i := 152) rfl) rfl
theorem ki_X8_branching : (Cond.instanceMethod yX8_branching : Cond) ∈ lw_g := mT5 (List.mem_of_getElem? (i := 153) rfl) rfl
theorem ks_X8_branching : (Cond.selects RX8 yX8_branching yX8_branching : Cond) ∈ lw_g := mT5 (List.mem_of_getElem? (i := 154) rfl) rfl
theorem kc_X8_branching : (Cond.code yX8_branching cX8_branching 6 (Option.some Jvm.ClassFile.FieldType.int) : Cond) ∈ lw_g := mT5 (List.mem_of_getElem? (i := 155) rfl) rfl
theorem km_L_101 : (Cond.methodLink RL 101 yX8_guiltyEdges : Cond) ∈ lw_g := mT5 (List.mem_of_getElem? (i := 156) rfl) rfl
theorem ki_X8_guiltyEdges : (Cond.instanceMethod yX8_guiltyEdges : Cond) ∈ lw_g := mT5 (List.mem_of_getElem? (i := 157) rfl) rfl
theorem ks_X8_guiltyEdges : (Cond.selects RX8 yX8_guiltyEdges yX8_guiltyEdges : Cond) ∈ lw_g := mT5 (List.mem_of_getElem? (i := 158) rfl) rfl
theorem kc_X8_guiltyEdges : (Cond.code yX8_guiltyEdges cX8_guiltyEdges 4 (Option.some Jvm.ClassFile.FieldType.int) : Cond) ∈ lw_g := mT5 (List.mem_of_getElem? (i := 159) rfl) rfl
theorem km_L_105 : (Cond.methodLink RL 105 yX8_insertionCost : Cond) ∈ lw_g := mT5 (List.mem_of_getElem? (i := 160) rfl) rfl
theorem ki_X8_insertionCost : (Cond.instanceMethod yX8_insertionCost : Cond) ∈ lw_g := mT5 (List.mem_of_getElem? (i := 161) rfl) rfl
theorem ks_X8_insertionCost : (Cond.selects RX8 yX8_insertionCost yX8_insertionCost : Cond) ∈ lw_g := mT5 (List.mem_of_getElem? (i := 162) rfl) rfl
theorem kc_X8_insertionCost : (Cond.code yX8_insertionCost cX8_insertionCost 3 (Option.some Jvm.ClassFile.FieldType.int) : Cond) ∈ lw_g := mT5 (List.mem_of_getElem? (i := 163) rfl) rfl
theorem km_X8_255 : (Cond.methodLink RX8 255 yX8_isRefused : Cond) ∈ lw_g := mT5 (List.mem_of_getElem? (i := 164) rfl) rfl
theorem ki_X8_isRefused : (Cond.instanceMethod yX8_isRefused : Cond) ∈ lw_g := mT5 (List.mem_of_getElem? (i := 166) rfl) rfl
theorem kc_X8_isRefused : (Cond.code yX8_isRefused cX8_isRefused 3 (Option.some Jvm.ClassFile.FieldType.boolean) : Cond) ∈ lw_g := mT5 (List.mem_of_getElem? (i := 167) rfl) rfl
theorem km_X8_258 : (Cond.methodLink RX8 258 yX8_costOf : Cond) ∈ lw_g := mT5 (List.mem_of_getElem? (i := 168) rfl) rfl
theorem ki_X8_costOf : (Cond.instanceMethod yX8_costOf : Cond) ∈ lw_g := mT5 (List.mem_of_getElem? (i := 170) rfl) rfl
theorem kc_X8_costOf : (Cond.code yX8_costOf cX8_costOf 5 (Option.some Jvm.ClassFile.FieldType.int) : Cond) ∈ lw_g := mT5 (List.mem_of_getElem? (i := 171) rfl) rfl
theorem km_X8_252 : (Cond.methodLink RX8 252 yX8_looks : Cond) ∈ lw_g := mT5 (List.mem_of_getElem? (i := 172) rfl) rfl
theorem ki_X8_looks : (Cond.instanceMethod yX8_looks : Cond) ∈ lw_g := mT5 (List.mem_of_getElem? (i := 174) rfl) rfl
theorem kc_X8_looks : (Cond.code yX8_looks cX8_looks 6 (Option.none : Option Jvm.ClassFile.FieldType) : Cond) ∈ lw_g := mT5 (List.mem_of_getElem? (i := 175) rfl) rfl
theorem km_L_109 : (Cond.methodLink RL 109 yX8_crossed : Cond) ∈ lw_g := mT5 (List.mem_of_getElem? (i := 176) rfl) rfl
theorem ki_X8_crossed : (Cond.instanceMethod yX8_crossed : Cond) ∈ lw_g := mT5 (List.mem_of_getElem? (i := 177) rfl) rfl
theorem ks_X8_crossed : (Cond.selects RX8 yX8_crossed yX8_crossed : Cond) ∈ lw_g := mT5 (List.mem_of_getElem? (i := 178) rfl) rfl
theorem kc_X8_crossed : (Cond.code yX8_crossed cX8_crossed 14 (Option.some Jvm.ClassFile.FieldType.int) : Cond) ∈ lw_g := mT5 (List.mem_of_getElem? (i := 179) rfl) rfl
theorem km_L_113 : (Cond.methodLink RL 113 yX8_setOuter : Cond) ∈ lw_g := mT5 (List.mem_of_getElem? (i := 180) rfl) rfl
theorem ki_X8_setOuter : (Cond.instanceMethod yX8_setOuter : Cond) ∈ lw_g := mT5 (List.mem_of_getElem? (i := 181) rfl) rfl
theorem ks_X8_setOuter : (Cond.selects RX8 yX8_setOuter yX8_setOuter : Cond) ∈ lw_g := mT5 (List.mem_of_getElem? (i := 182) rfl) rfl
theorem kc_X8_setOuter : (Cond.code yX8_setOuter cX8_setOuter 3 (Option.some Jvm.ClassFile.FieldType.int) : Cond) ∈ lw_g := mT5 (List.mem_of_getElem? (i := 183) rfl) rfl
theorem km_L_117 : (Cond.methodLink RL 117 yX8_depth : Cond) ∈ lw_g := mT5 (List.mem_of_getElem? (i := 184) rfl) rfl
theorem ki_X8_depth : (Cond.instanceMethod yX8_depth : Cond) ∈ lw_g := mT5 (List.mem_of_getElem? (i := 185) rfl) rfl
theorem ks_X8_depth : (Cond.selects RX8 yX8_depth yX8_depth : Cond) ∈ lw_g := mT5 (List.mem_of_getElem? (i := 186) rfl) rfl
theorem kc_X8_depth : (Cond.code yX8_depth cX8_depth 6 (Option.some Jvm.ClassFile.FieldType.int) : Cond) ∈ lw_g := mT5 (List.mem_of_getElem? (i := 187) rfl) rfl
theorem km_L_121 : (Cond.methodLink RL 121 yX8_position : Cond) ∈ lw_g := mT5 (List.mem_of_getElem? (i := 188) rfl) rfl
theorem ki_X8_position : (Cond.instanceMethod yX8_position : Cond) ∈ lw_g := mT5 (List.mem_of_getElem? (i := 189) rfl) rfl
theorem ks_X8_position : (Cond.selects RX8 yX8_position yX8_position : Cond) ∈ lw_g := mT5 (List.mem_of_getElem? (i := 190) rfl) rfl
theorem kc_X8_position : (Cond.code yX8_position cX8_position 4 (Option.some Jvm.ClassFile.FieldType.int) : Cond) ∈ lw_g := mT5 (List.mem_of_getElem? (i := 191) rfl) rfl
theorem km_X8_261 : (Cond.methodLink RX8 261 yX8_relaxes : Cond) ∈ lw_g := mT5 (List.mem_of_getElem? (i := 192) rfl) rfl
theorem ki_X8_relaxes : (Cond.instanceMethod yX8_relaxes : Cond) ∈ lw_g := mT5 (List.mem_of_getElem? (i := 194) rfl) rfl
theorem kc_X8_relaxes : (Cond.code yX8_relaxes cX8_relaxes 10 (Option.none : Option Jvm.ClassFile.FieldType) : Cond) ∈ lw_g := mT5 (List.mem_of_getElem? (i := 195) rfl) rfl
theorem km_X8_264 : (Cond.methodLink RX8 264 yJxf58ca_floatToIntBits_5c35a : Cond) ∈ lw_g := mT5 (List.mem_of_getElem? (i := 196) rfl) rfl
theorem kt_Jxf58ca_floatToIntBits_5c35a : (Cond.static yJxf58ca_floatToIntBits_5c35a : Cond) ∈ lw_g := mT5 (List.mem_of_getElem? (i := 197) rfl) rfl
theorem kc_Jxf58ca_floatToIntBits_5c35a : (Cond.code yJxf58ca_floatToIntBits_5c35a cJxf58ca_floatToIntBits_5c35a 1 (Option.some Jvm.ClassFile.FieldType.int) : Cond) ∈ lw_g := mT5 (List.mem_of_getElem? (i := 198) rfl) rfl
theorem km_Jxf58ca_59 : (Cond.methodLink RJxf58ca 59 yJxf58ca_isNaN_12338 : Cond) ∈ lw_g := mT5 (List.mem_of_getElem? (i := 199) rfl) rfl
theorem kt_Jxf58ca_isNaN_12338 : (Cond.static yJxf58ca_isNaN_12338 : Cond) ∈ lw_g := mT5 (List.mem_of_getElem? (i := 200) rfl) rfl
theorem kc_Jxf58ca_isNaN_12338 : (Cond.code yJxf58ca_isNaN_12338 cJxf58ca_isNaN_12338 1 (Option.some Jvm.ClassFile.FieldType.boolean) : Cond) ∈ lw_g := mT5 (List.mem_of_getElem? (i := 201) rfl) rfl
theorem km_Jxf58ca_74 : (Cond.methodLink RJxf58ca 74 ⟨"java/lang/Float", "floatToRawIntBits", "(F)I"⟩ : Cond) ∈ lw_g := mT5 (List.mem_of_getElem? (i := 202) rfl) rfl
theorem kt_Float_floatToRawIntBits : (Cond.static ⟨"java/lang/Float", "floatToRawIntBits", "(F)I"⟩ : Cond) ∈ lw_g := mT5 (List.mem_of_getElem? (i := 203) rfl) rfl
theorem kv_Float_floatToRawIntBits : (Cond.native ⟨"java/lang/Float", "floatToRawIntBits", "(F)I"⟩ : Cond) ∈ lw_g := mT5 (List.mem_of_getElem? (i := 204) rfl) rfl
theorem ko_5_205 : (Jvm.Cond.constant "java/lang/Float" (77 : Nat) (2143289344 : Int32) : Cond) ∈ lw_g := mT5 (List.mem_of_getElem? (i := 205) rfl) rfl
theorem km_L_125 : (Cond.methodLink RL 125 yX8_crossings : Cond) ∈ lw_g := mT5 (List.mem_of_getElem? (i := 206) rfl) rfl
theorem ki_X8_crossings : (Cond.instanceMethod yX8_crossings : Cond) ∈ lw_g := mT5 (List.mem_of_getElem? (i := 207) rfl) rfl
theorem ks_X8_crossings : (Cond.selects RX8 yX8_crossings yX8_crossings : Cond) ∈ lw_g := mT5 (List.mem_of_getElem? (i := 208) rfl) rfl
theorem kc_X8_crossings : (Cond.code yX8_crossings cX8_crossings 6 (Option.some Jvm.ClassFile.FieldType.int) : Cond) ∈ lw_g := mT5 (List.mem_of_getElem? (i := 209) rfl) rfl
theorem km_X8_274 : (Cond.methodLink RX8 274 yX8_areApart : Cond) ∈ lw_g := mT5 (List.mem_of_getElem? (i := 210) rfl) rfl
theorem ki_X8_areApart : (Cond.instanceMethod yX8_areApart : Cond) ∈ lw_g := mT5 (List.mem_of_getElem? (i := 212) rfl) rfl
theorem kc_X8_areApart : (Cond.code yX8_areApart cX8_areApart 6 (Option.some Jvm.ClassFile.FieldType.boolean) : Cond) ∈ lw_g := mT5 (List.mem_of_getElem? (i := 213) rfl) rfl
theorem km_X8_270 : (Cond.methodLink RX8 270 yX8_turnOf : Cond) ∈ lw_g := mT5 (List.mem_of_getElem? (i := 214) rfl) rfl
theorem ki_X8_turnOf : (Cond.instanceMethod yX8_turnOf : Cond) ∈ lw_g := mT5 (List.mem_of_getElem? (i := 216) rfl) rfl
theorem kc_X8_turnOf : (Cond.code yX8_turnOf cX8_turnOf 4 (Option.some Jvm.ClassFile.FieldType.float) : Cond) ∈ lw_g := mT5 (List.mem_of_getElem? (i := 217) rfl) rfl
theorem km_L_129 : (Cond.methodLink RL 129 yX8_extent : Cond) ∈ lw_g := mT5 (List.mem_of_getElem? (i := 218) rfl) rfl
theorem ki_X8_extent : (Cond.instanceMethod yX8_extent : Cond) ∈ lw_g := mT5 (List.mem_of_getElem? (i := 219) rfl) rfl
theorem ks_X8_extent : (Cond.selects RX8 yX8_extent yX8_extent : Cond) ∈ lw_g := mT5 (List.mem_of_getElem? (i := 220) rfl) rfl
theorem kc_X8_extent : (Cond.code yX8_extent cX8_extent 6 (Option.some Jvm.ClassFile.FieldType.int) : Cond) ∈ lw_g := mT5 (List.mem_of_getElem? (i := 221) rfl) rfl
theorem km_X8_277 : (Cond.methodLink RX8 277 yX8_size : Cond) ∈ lw_g := mT5 (List.mem_of_getElem? (i := 222) rfl) rfl
theorem kt_X8_size : (Cond.static yX8_size : Cond) ∈ lw_g := mT5 (List.mem_of_getElem? (i := 223) rfl) rfl
theorem kc_X8_size : (Cond.code yX8_size cX8_size 1 (Option.some Jvm.ClassFile.FieldType.float) : Cond) ∈ lw_g := mT5 (List.mem_of_getElem? (i := 224) rfl) rfl
theorem ks_X2_dropOldest : (Cond.selects RX2 yX2_dropOldest yX2_dropOldest : Cond) ∈ lw_g := mT0 (List.mem_of_getElem? (i := 0) rfl) rfl
theorem ks_X7_settle : (Cond.selects RX7 yX7_settle yX7_settle : Cond) ∈ lw_g := mT0 (List.mem_of_getElem? (i := 1) rfl) rfl
theorem ks_X0_walkFrom : (Cond.selects RX0 yX0_walkFrom yX0_walkFrom : Cond) ∈ lw_g := mT0 (List.mem_of_getElem? (i := 2) rfl) rfl
theorem ks_X0_countComponents : (Cond.selects RX0 yX0_countComponents yX0_countComponents : Cond) ∈ lw_g := mT0 (List.mem_of_getElem? (i := 3) rfl) rfl
theorem ks_X7_areTwoNodes : (Cond.selects RX7 yX7_areTwoNodes yX7_areTwoNodes : Cond) ∈ lw_g := mT0 (List.mem_of_getElem? (i := 4) rfl) rfl
theorem ks_X7_mayStandBehind : (Cond.selects RX7 yX7_mayStandBehind yX7_mayStandBehind : Cond) ∈ lw_g := mT0 (List.mem_of_getElem? (i := 5) rfl) rfl
theorem ks_X7_join : (Cond.selects RX7 yX7_join yX7_join : Cond) ∈ lw_g := mT0 (List.mem_of_getElem? (i := 6) rfl) rfl
theorem ks_X1_openSlot : (Cond.selects RX1 yX1_openSlot yX1_openSlot : Cond) ∈ lw_g := mT0 (List.mem_of_getElem? (i := 7) rfl) rfl
theorem ks_X1_closeSlots : (Cond.selects RX1 yX1_closeSlots yX1_closeSlots : Cond) ∈ lw_g := mT0 (List.mem_of_getElem? (i := 8) rfl) rfl
theorem ks_X5_take : (Cond.selects RX5 yX5_take yX5_take : Cond) ∈ lw_g := mT0 (List.mem_of_getElem? (i := 9) rfl) rfl
theorem ks_X5_takeNodes : (Cond.selects RX5 yX5_takeNodes yX5_takeNodes : Cond) ∈ lw_g := mT0 (List.mem_of_getElem? (i := 10) rfl) rfl
theorem ks_X5_takeSecondEnd : (Cond.selects RX5 yX5_takeSecondEnd yX5_takeSecondEnd : Cond) ∈ lw_g := mT0 (List.mem_of_getElem? (i := 11) rfl) rfl
theorem ks_X4_reduce : (Cond.selects RX4 yX4_reduce yX4_reduce : Cond) ∈ lw_g := mT0 (List.mem_of_getElem? (i := 12) rfl) rfl
theorem ks_X4_bridgeOver : (Cond.selects RX4 yX4_bridgeOver yX4_bridgeOver : Cond) ∈ lw_g := mT0 (List.mem_of_getElem? (i := 13) rfl) rfl
theorem ks_X4_countEdges : (Cond.selects RX4 yX4_countEdges yX4_countEdges : Cond) ∈ lw_g := mT0 (List.mem_of_getElem? (i := 14) rfl) rfl
theorem ks_X4_findCycle : (Cond.selects RX4 yX4_findCycle yX4_findCycle : Cond) ∈ lw_g := mT0 (List.mem_of_getElem? (i := 15) rfl) rfl
theorem ks_X4_cutPathBefore : (Cond.selects RX4 yX4_cutPathBefore yX4_cutPathBefore : Cond) ∈ lw_g := mT0 (List.mem_of_getElem? (i := 16) rfl) rfl
theorem ks_X4_sketchBlock : (Cond.selects RX4 yX4_sketchBlock yX4_sketchBlock : Cond) ∈ lw_g := mT0 (List.mem_of_getElem? (i := 17) rfl) rfl
theorem ks_X4_startSketch : (Cond.selects RX4 yX4_startSketch yX4_startSketch : Cond) ∈ lw_g := mT0 (List.mem_of_getElem? (i := 18) rfl) rfl
theorem ks_X4_drawPath : (Cond.selects RX4 yX4_drawPath yX4_drawPath : Cond) ∈ lw_g := mT0 (List.mem_of_getElem? (i := 19) rfl) rfl
theorem ks_X4_weighEdges : (Cond.selects RX4 yX4_weighEdges yX4_weighEdges : Cond) ∈ lw_g := mT0 (List.mem_of_getElem? (i := 20) rfl) rfl
theorem ks_X4_weigh : (Cond.selects RX4 yX4_weigh yX4_weigh : Cond) ∈ lw_g := mT0 (List.mem_of_getElem? (i := 21) rfl) rfl
theorem ks_X4_weighParts : (Cond.selects RX4 yX4_weighParts yX4_weighParts : Cond) ∈ lw_g := mT0 (List.mem_of_getElem? (i := 22) rfl) rfl
theorem ks_X4_findPath : (Cond.selects RX4 yX4_findPath yX4_findPath : Cond) ∈ lw_g := mT0 (List.mem_of_getElem? (i := 23) rfl) rfl
theorem ks_X4_tracePath : (Cond.selects RX4 yX4_tracePath yX4_tracePath : Cond) ∈ lw_g := mT0 (List.mem_of_getElem? (i := 24) rfl) rfl
theorem ks_X4_splitRing : (Cond.selects RX4 yX4_splitRing yX4_splitRing : Cond) ∈ lw_g := mT0 (List.mem_of_getElem? (i := 25) rfl) rfl
theorem ks_X4_copyArc : (Cond.selects RX4 yX4_copyArc yX4_copyArc : Cond) ∈ lw_g := mT0 (List.mem_of_getElem? (i := 26) rfl) rfl
theorem ks_X4_extendRing : (Cond.selects RX4 yX4_extendRing yX4_extendRing : Cond) ∈ lw_g := mT0 (List.mem_of_getElem? (i := 27) rfl) rfl
theorem ks_X7_findObstruction : (Cond.selects RX7 yX7_findObstruction yX7_findObstruction : Cond) ∈ lw_g := mT0 (List.mem_of_getElem? (i := 28) rfl) rfl
theorem ks_X7_countEdgesAt : (Cond.selects RX7 yX7_countEdgesAt yX7_countEdgesAt : Cond) ∈ lw_g := mT0 (List.mem_of_getElem? (i := 29) rfl) rfl
theorem ks_X7_canInsert : (Cond.selects RX7 yX7_canInsert yX7_canInsert : Cond) ∈ lw_g := mT0 (List.mem_of_getElem? (i := 30) rfl) rfl
theorem ks_X6_measure : (Cond.selects RX6 yX6_measure yX6_measure : Cond) ∈ lw_g := mT0 (List.mem_of_getElem? (i := 31) rfl) rfl
theorem ks_X6_chooseStart : (Cond.selects RX6 yX6_chooseStart yX6_chooseStart : Cond) ∈ lw_g := mT0 (List.mem_of_getElem? (i := 32) rfl) rfl
theorem ks_X6_cross : (Cond.selects RX6 yX6_cross yX6_cross : Cond) ∈ lw_g := mT0 (List.mem_of_getElem? (i := 33) rfl) rfl
theorem ks_X3_pinOuterNodes : (Cond.selects RX3 yX3_pinOuterNodes yX3_pinOuterNodes : Cond) ∈ lw_g := mT0 (List.mem_of_getElem? (i := 34) rfl) rfl
theorem ks_X3_relax : (Cond.selects RX3 yX3_relax yX3_relax : Cond) ∈ lw_g := mT0 (List.mem_of_getElem? (i := 35) rfl) rfl
theorem ks_X3_doCross : (Cond.selects RX3 yX3_doCross yX3_doCross : Cond) ∈ lw_g := mT0 (List.mem_of_getElem? (i := 36) rfl) rfl
theorem ks_X3_turn : (Cond.selects RX3 yX3_turn yX3_turn : Cond) ∈ lw_g := mT0 (List.mem_of_getElem? (i := 37) rfl) rfl
theorem ks_X8_notes : (Cond.selects RX8 yX8_notes yX8_notes : Cond) ∈ lw_g := mT0 (List.mem_of_getElem? (i := 38) rfl) rfl
theorem ks_X8_empties : (Cond.selects RX8 yX8_empties yX8_empties : Cond) ∈ lw_g := mT0 (List.mem_of_getElem? (i := 39) rfl) rfl
theorem ks_X8_areNodes : (Cond.selects RX8 yX8_areNodes yX8_areNodes : Cond) ∈ lw_g := mT0 (List.mem_of_getElem? (i := 40) rfl) rfl
theorem ks_X8_isNode : (Cond.selects RX8 yX8_isNode yX8_isNode : Cond) ∈ lw_g := mT0 (List.mem_of_getElem? (i := 41) rfl) rfl
theorem ks_X8_isAt : (Cond.selects RX8 yX8_isAt yX8_isAt : Cond) ∈ lw_g := mT0 (List.mem_of_getElem? (i := 42) rfl) rfl
theorem ks_X8_isEdge : (Cond.selects RX8 yX8_isEdge yX8_isEdge : Cond) ∈ lw_g := mT0 (List.mem_of_getElem? (i := 43) rfl) rfl
theorem ks_X8_between : (Cond.selects RX8 yX8_between yX8_between : Cond) ∈ lw_g := mT0 (List.mem_of_getElem? (i := 44) rfl) rfl
theorem ks_X8_place : (Cond.selects RX8 yX8_place yX8_place : Cond) ∈ lw_g := mT0 (List.mem_of_getElem? (i := 45) rfl) rfl
theorem ks_X8_turn : (Cond.selects RX8 yX8_turn yX8_turn : Cond) ∈ lw_g := mT0 (List.mem_of_getElem? (i := 46) rfl) rfl
theorem ks_X8_joins : (Cond.selects RX8 yX8_joins yX8_joins : Cond) ∈ lw_g := mT0 (List.mem_of_getElem? (i := 47) rfl) rfl
theorem ks_X8_puts : (Cond.selects RX8 yX8_puts yX8_puts : Cond) ∈ lw_g := mT0 (List.mem_of_getElem? (i := 48) rfl) rfl
theorem ks_X8_genus : (Cond.selects RX8 yX8_genus yX8_genus : Cond) ∈ lw_g := mT0 (List.mem_of_getElem? (i := 49) rfl) rfl
theorem ks_X8_walks : (Cond.selects RX8 yX8_walks yX8_walks : Cond) ∈ lw_g := mT0 (List.mem_of_getElem? (i := 50) rfl) rfl
theorem ks_X8_follows : (Cond.selects RX8 yX8_follows yX8_follows : Cond) ∈ lw_g := mT0 (List.mem_of_getElem? (i := 51) rfl) rfl
theorem ks_X8_tail : (Cond.selects RX8 yX8_tail yX8_tail : Cond) ∈ lw_g := mT0 (List.mem_of_getElem? (i := 52) rfl) rfl
theorem ks_X8_across : (Cond.selects RX8 yX8_across yX8_across : Cond) ∈ lw_g := mT0 (List.mem_of_getElem? (i := 53) rfl) rfl
theorem ks_X8_component : (Cond.selects RX8 yX8_component yX8_component : Cond) ∈ lw_g := mT0 (List.mem_of_getElem? (i := 54) rfl) rfl
theorem ks_X8_nodesOn : (Cond.selects RX8 yX8_nodesOn yX8_nodesOn : Cond) ∈ lw_g := mT0 (List.mem_of_getElem? (i := 55) rfl) rfl
theorem ks_X8_corner : (Cond.selects RX8 yX8_corner yX8_corner : Cond) ∈ lw_g := mT0 (List.mem_of_getElem? (i := 56) rfl) rfl
theorem ks_X8_components : (Cond.selects RX8 yX8_components yX8_components : Cond) ∈ lw_g := mT0 (List.mem_of_getElem? (i := 57) rfl) rfl
theorem ks_X8_lengthOf : (Cond.selects RX8 yX8_lengthOf yX8_lengthOf : Cond) ∈ lw_g := mT0 (List.mem_of_getElem? (i := 58) rfl) rfl
theorem ks_X8_besides : (Cond.selects RX8 yX8_besides yX8_besides : Cond) ∈ lw_g := mT0 (List.mem_of_getElem? (i := 59) rfl) rfl
theorem ks_X8_may : (Cond.selects RX8 yX8_may yX8_may : Cond) ∈ lw_g := mT0 (List.mem_of_getElem? (i := 60) rfl) rfl
theorem ks_X8_exchanges : (Cond.selects RX8 yX8_exchanges yX8_exchanges : Cond) ∈ lw_g := mT0 (List.mem_of_getElem? (i := 61) rfl) rfl
theorem ks_X8_allEdges : (Cond.selects RX8 yX8_allEdges yX8_allEdges : Cond) ∈ lw_g := mT0 (List.mem_of_getElem? (i := 62) rfl) rfl
theorem ks_X8_laysEnds : (Cond.selects RX8 yX8_laysEnds yX8_laysEnds : Cond) ∈ lw_g := mT0 (List.mem_of_getElem? (i := 63) rfl) rfl
theorem ks_X8_planar : (Cond.selects RX8 yX8_planar yX8_planar : Cond) ∈ lw_g := mT0 (List.mem_of_getElem? (i := 64) rfl) rfl
theorem ks_X8_block : (Cond.selects RX8 yX8_block yX8_block : Cond) ∈ lw_g := mT0 (List.mem_of_getElem? (i := 65) rfl) rfl
theorem ks_X8_areInOne : (Cond.selects RX8 yX8_areInOne yX8_areInOne : Cond) ∈ lw_g := mT0 (List.mem_of_getElem? (i := 66) rfl) rfl
theorem ks_X8_reached : (Cond.selects RX8 yX8_reached yX8_reached : Cond) ∈ lw_g := mT0 (List.mem_of_getElem? (i := 67) rfl) rfl
theorem ks_X8_canDraw : (Cond.selects RX8 yX8_canDraw yX8_canDraw : Cond) ∈ lw_g := mT0 (List.mem_of_getElem? (i := 68) rfl) rfl
theorem ks_X8_finds : (Cond.selects RX8 yX8_finds yX8_finds : Cond) ∈ lw_g := mT0 (List.mem_of_getElem? (i := 69) rfl) rfl
theorem ks_X8_takesPath : (Cond.selects RX8 yX8_takesPath yX8_takesPath : Cond) ∈ lw_g := mT0 (List.mem_of_getElem? (i := 70) rfl) rfl
theorem ks_X8_edgesOfPath : (Cond.selects RX8 yX8_edgesOfPath yX8_edgesOfPath : Cond) ∈ lw_g := mT0 (List.mem_of_getElem? (i := 71) rfl) rfl
theorem ks_X8_nodesOfPath : (Cond.selects RX8 yX8_nodesOfPath yX8_nodesOfPath : Cond) ∈ lw_g := mT0 (List.mem_of_getElem? (i := 72) rfl) rfl
theorem ks_X8_begins : (Cond.selects RX8 yX8_begins yX8_begins : Cond) ∈ lw_g := mT0 (List.mem_of_getElem? (i := 73) rfl) rfl
theorem ks_X8_adds : (Cond.selects RX8 yX8_adds yX8_adds : Cond) ∈ lw_g := mT0 (List.mem_of_getElem? (i := 74) rfl) rfl
theorem ks_X8_picks : (Cond.selects RX8 yX8_picks yX8_picks : Cond) ∈ lw_g := mT0 (List.mem_of_getElem? (i := 75) rfl) rfl
theorem ks_X8_offers : (Cond.selects RX8 yX8_offers yX8_offers : Cond) ∈ lw_g := mT0 (List.mem_of_getElem? (i := 76) rfl) rfl
theorem ks_X8_fitting : (Cond.selects RX8 yX8_fitting yX8_fitting : Cond) ∈ lw_g := mT0 (List.mem_of_getElem? (i := 77) rfl) rfl
theorem ks_X8_nodesOfEdges : (Cond.selects RX8 yX8_nodesOfEdges yX8_nodesOfEdges : Cond) ∈ lw_g := mT0 (List.mem_of_getElem? (i := 78) rfl) rfl
theorem ks_X8_ownEdges : (Cond.selects RX8 yX8_ownEdges yX8_ownEdges : Cond) ∈ lw_g := mT0 (List.mem_of_getElem? (i := 79) rfl) rfl
theorem ks_X8_splits : (Cond.selects RX8 yX8_splits yX8_splits : Cond) ∈ lw_g := mT0 (List.mem_of_getElem? (i := 80) rfl) rfl
theorem ks_X8_obstructed : (Cond.selects RX8 yX8_obstructed yX8_obstructed : Cond) ∈ lw_g := mT0 (List.mem_of_getElem? (i := 81) rfl) rfl
theorem ks_X8_isRefused : (Cond.selects RX8 yX8_isRefused yX8_isRefused : Cond) ∈ lw_g := mT0 (List.mem_of_getElem? (i := 82) rfl) rfl
theorem ks_X8_costOf : (Cond.selects RX8 yX8_costOf yX8_costOf : Cond) ∈ lw_g := mT0 (List.mem_of_getElem? (i := 83) rfl) rfl
theorem ks_X8_looks : (Cond.selects RX8 yX8_looks yX8_looks : Cond) ∈ lw_g := mT0 (List.mem_of_getElem? (i := 84) rfl) rfl
theorem ks_X8_relaxes : (Cond.selects RX8 yX8_relaxes yX8_relaxes : Cond) ∈ lw_g := mT0 (List.mem_of_getElem? (i := 85) rfl) rfl
theorem ks_X8_areApart : (Cond.selects RX8 yX8_areApart yX8_areApart : Cond) ∈ lw_g := mT0 (List.mem_of_getElem? (i := 86) rfl) rfl
theorem ks_X8_turnOf : (Cond.selects RX8 yX8_turnOf yX8_turnOf : Cond) ∈ lw_g := mT0 (List.mem_of_getElem? (i := 87) rfl) rfl
theorem kwX0 : ∀ w ∈ u_ws RX0 TX0 9, w ∈ lw_g := List.forall_mem_cons.mpr ⟨kly_X0_number, List.forall_mem_cons.mpr ⟨kly_X0_components, List.forall_mem_cons.mpr ⟨kly_X0_genus, List.forall_mem_cons.mpr ⟨kly_X0_next, List.forall_mem_cons.mpr ⟨kly_X0_owner, List.forall_mem_cons.mpr ⟨kly_X0_first, List.forall_mem_cons.mpr ⟨kly_X0_length, List.forall_mem_cons.mpr ⟨kly_X0_nodeSet, List.forall_mem_cons.mpr ⟨kly_X0_near, fun _ h => absurd h List.not_mem_nil⟩⟩⟩⟩⟩⟩⟩⟩⟩
theorem kwX1 : ∀ w ∈ u_ws RX1 TX1 7, w ∈ lw_g := List.forall_mem_cons.mpr ⟨kly_X1_nodes, List.forall_mem_cons.mpr ⟨kly_X1_edges, List.forall_mem_cons.mpr ⟨kly_X1_outer, List.forall_mem_cons.mpr ⟨kly_X1_low, List.forall_mem_cons.mpr ⟨kly_X1_high, List.forall_mem_cons.mpr ⟨kly_X1_degree, List.forall_mem_cons.mpr ⟨kly_X1_turns, fun _ h => absurd h List.not_mem_nil⟩⟩⟩⟩⟩⟩⟩
theorem kwX2 : ∀ w ∈ u_ws RX2 TX2 2, w ∈ lw_g := List.forall_mem_cons.mpr ⟨kly_X2_saved, List.forall_mem_cons.mpr ⟨kly_X2_states, fun _ h => absurd h List.not_mem_nil⟩⟩
theorem kwX3 : ∀ w ∈ u_ws RX3 TX3 2, w ∈ lw_g := List.forall_mem_cons.mpr ⟨kly_X3_x, List.forall_mem_cons.mpr ⟨kly_X3_y, fun _ h => absurd h List.not_mem_nil⟩⟩
theorem kwX4 : ∀ w ∈ u_ws RX4 TX4 16, w ∈ lw_g := List.forall_mem_cons.mpr ⟨kly_X4_rest, List.forall_mem_cons.mpr ⟨kly_X4_sketch, List.forall_mem_cons.mpr ⟨kly_X4_placed, List.forall_mem_cons.mpr ⟨kly_X4_rings, List.forall_mem_cons.mpr ⟨kly_X4_ringNodes, List.forall_mem_cons.mpr ⟨kly_X4_ringLength, List.forall_mem_cons.mpr ⟨kly_X4_ringSet, List.forall_mem_cons.mpr ⟨kly_X4_oldRing, List.forall_mem_cons.mpr ⟨kly_X4_path, List.forall_mem_cons.mpr ⟨kly_X4_pathLength, List.forall_mem_cons.mpr ⟨kly_X4_queue, List.forall_mem_cons.mpr ⟨kly_X4_origin, List.forall_mem_cons.mpr ⟨kly_X4_inside, List.forall_mem_cons.mpr ⟨kly_X4_ends, List.forall_mem_cons.mpr ⟨kly_X4_ring, List.forall_mem_cons.mpr ⟨kly_X4_choices, fun _ h => absurd h List.not_mem_nil⟩⟩⟩⟩⟩⟩⟩⟩⟩⟩⟩⟩⟩⟩⟩⟩
theorem kwX5 : ∀ w ∈ u_ws RX5 TX5 4, w ∈ lw_g := List.forall_mem_cons.mpr ⟨kly_X5_length, List.forall_mem_cons.mpr ⟨kly_X5_characters, List.forall_mem_cons.mpr ⟨kly_X5_due, List.forall_mem_cons.mpr ⟨kly_X5_from, fun _ h => absurd h List.not_mem_nil⟩⟩⟩⟩
theorem kwX6 : ∀ w ∈ u_ws RX6 TX6 3, w ∈ lw_g := List.forall_mem_cons.mpr ⟨kly_X6_cost, List.forall_mem_cons.mpr ⟨kly_X6_crossedEdges, List.forall_mem_cons.mpr ⟨kly_X6_distance, fun _ h => absurd h List.not_mem_nil⟩⟩⟩
theorem kwX7 : ∀ w ∈ u_ws RX7 TX7 9, w ∈ lw_g := List.forall_mem_cons.mpr ⟨kly_X7_graph, List.forall_mem_cons.mpr ⟨kly_X7_draft, List.forall_mem_cons.mpr ⟨kly_X7_faces, List.forall_mem_cons.mpr ⟨kly_X7_history, List.forall_mem_cons.mpr ⟨kly_X7_text, List.forall_mem_cons.mpr ⟨kly_X7_planarity, List.forall_mem_cons.mpr ⟨kly_X7_way, List.forall_mem_cons.mpr ⟨kly_X7_layout, List.forall_mem_cons.mpr ⟨kly_X7_links, fun _ h => absurd h List.not_mem_nil⟩⟩⟩⟩⟩⟩⟩⟩⟩
theorem kwX8 : ∀ w ∈ u_ws RX8 TX8 27, w ∈ lw_g := List.forall_mem_cons.mpr ⟨kly_X8_s, List.forall_mem_cons.mpr ⟨kly_X8_past, List.forall_mem_cons.mpr ⟨kly_X8_pasts, List.forall_mem_cons.mpr ⟨kly_X8_text, List.forall_mem_cons.mpr ⟨kly_X8_typed, List.forall_mem_cons.mpr ⟨kly_X8_faceOfSide, List.forall_mem_cons.mpr ⟨kly_X8_firstSide, List.forall_mem_cons.mpr ⟨kly_X8_faces, List.forall_mem_cons.mpr ⟨kly_X8_before, List.forall_mem_cons.mpr ⟨kly_X8_endA, List.forall_mem_cons.mpr ⟨kly_X8_endB, List.forall_mem_cons.mpr ⟨kly_X8_from, List.forall_mem_cons.mpr ⟨kly_X8_queue, List.forall_mem_cons.mpr ⟨kly_X8_ring, List.forall_mem_cons.mpr ⟨kly_X8_ringSize, List.forall_mem_cons.mpr ⟨kly_X8_ringNodes, List.forall_mem_cons.mpr ⟨kly_X8_rings, List.forall_mem_cons.mpr ⟨kly_X8_path, List.forall_mem_cons.mpr ⟨kly_X8_pathSize, List.forall_mem_cons.mpr ⟨kly_X8_old, List.forall_mem_cons.mpr ⟨kly_X8_lastRing, List.forall_mem_cons.mpr ⟨kly_X8_bestNodes, List.forall_mem_cons.mpr ⟨kly_X8_bestInside, List.forall_mem_cons.mpr ⟨kly_X8_bestFits, List.forall_mem_cons.mpr ⟨kly_X8_far, List.forall_mem_cons.mpr ⟨kly_X8_xs, List.forall_mem_cons.mpr ⟨kly_X8_ys, fun _ h => absurd h List.not_mem_nil⟩⟩⟩⟩⟩⟩⟩⟩⟩⟩⟩⟩⟩⟩⟩⟩⟩⟩⟩⟩⟩⟩⟩⟩⟩⟩⟩
/-- the links to private members of a nest mate -/
def lw_nest : List (String × Nat × MethodName) := [(RX0, 67, yX7_bit), (RX1, 77, yX7_bit), (RX0, 73, yX7_contains), (RX0, 77, yX7_spread), (RX4, 69, yX7_contains), (RX4, 73, yX7_bit), (RX4, 76, yX7_neighboursOf), (RX4, 80, yX7_smallestOf), (RX4, 123, yX7_toggleLink), (RX4, 130, yX7_spread), (RX6, 54, yX7_bit), (RX6, 58, yX7_contains), (RX3, 43, yX7_contains), (RX3, 65, yX7_bit)]
theorem kn_X0_67 : (RX0, 67, yX7_bit) ∈ lw_nest := List.mem_of_getElem? (i := 0) rfl
theorem kn_X1_77 : (RX1, 77, yX7_bit) ∈ lw_nest := List.mem_of_getElem? (i := 1) rfl
theorem kn_X0_73 : (RX0, 73, yX7_contains) ∈ lw_nest := List.mem_of_getElem? (i := 2) rfl
theorem kn_X0_77 : (RX0, 77, yX7_spread) ∈ lw_nest := List.mem_of_getElem? (i := 3) rfl
theorem kn_X4_69 : (RX4, 69, yX7_contains) ∈ lw_nest := List.mem_of_getElem? (i := 4) rfl
theorem kn_X4_73 : (RX4, 73, yX7_bit) ∈ lw_nest := List.mem_of_getElem? (i := 5) rfl
theorem kn_X4_76 : (RX4, 76, yX7_neighboursOf) ∈ lw_nest := List.mem_of_getElem? (i := 6) rfl
theorem kn_X4_80 : (RX4, 80, yX7_smallestOf) ∈ lw_nest := List.mem_of_getElem? (i := 7) rfl
theorem kn_X4_123 : (RX4, 123, yX7_toggleLink) ∈ lw_nest := List.mem_of_getElem? (i := 8) rfl
theorem kn_X4_130 : (RX4, 130, yX7_spread) ∈ lw_nest := List.mem_of_getElem? (i := 9) rfl
theorem kn_X6_54 : (RX6, 54, yX7_bit) ∈ lw_nest := List.mem_of_getElem? (i := 10) rfl
theorem kn_X6_58 : (RX6, 58, yX7_contains) ∈ lw_nest := List.mem_of_getElem? (i := 11) rfl
theorem kn_X3_43 : (RX3, 43, yX7_contains) ∈ lw_nest := List.mem_of_getElem? (i := 12) rfl
theorem kn_X3_65 : (RX3, 65, yX7_bit) ∈ lw_nest := List.mem_of_getElem? (i := 13) rfl
theorem nT1 {w : Cond} (h : w ∈ tables_1_1) : w ∈ lw_tbl := List.mem_append_right _ (List.mem_append_left _ h)
theorem nT2 {w : Cond} (h : w ∈ tables_1_2) : w ∈ lw_tbl := List.mem_append_right _ (List.mem_append_right _ (List.mem_append_left _ h))
theorem nT3 {w : Cond} (h : w ∈ tables_1_3) : w ∈ lw_tbl := List.mem_append_right _ (List.mem_append_right _ (List.mem_append_right _ (List.mem_append_left _ h)))
theorem nT4 {w : Cond} (h : w ∈ tables_1_4) : w ∈ lw_tbl := List.mem_append_right _ (List.mem_append_right _ (List.mem_append_right _ (List.mem_append_right _ (List.mem_append_left _ h))))
theorem nT5 {w : Cond} (h : w ∈ tables_1_5) : w ∈ lw_tbl := List.mem_append_right _ (List.mem_append_right _ (List.mem_append_right _ (List.mem_append_right _ (List.mem_append_right _ (h)))))
theorem lw_nest_in : ∀ q ∈ lw_nest, (Cond.methodLinkNest q.1 q.2.1 q.2.2 "PlainDrawing") ∈ lw_tbl := List.forall_mem_cons.mpr ⟨nT2 (List.mem_of_getElem? (i := 86) rfl), List.forall_mem_cons.mpr ⟨nT2 (List.mem_of_getElem? (i := 93) rfl), List.forall_mem_cons.mpr ⟨nT2 (List.mem_of_getElem? (i := 98) rfl), List.forall_mem_cons.mpr ⟨nT2 (List.mem_of_getElem? (i := 101) rfl), List.forall_mem_cons.mpr ⟨nT3 (List.mem_of_getElem? (i := 65) rfl), List.forall_mem_cons.mpr ⟨nT3 (List.mem_of_getElem? (i := 66) rfl), List.forall_mem_cons.mpr ⟨nT3 (List.mem_of_getElem? (i := 75) rfl), List.forall_mem_cons.mpr ⟨nT3 (List.mem_of_getElem? (i := 76) rfl), List.forall_mem_cons.mpr ⟨nT3 (List.mem_of_getElem? (i := 96) rfl), List.forall_mem_cons.mpr ⟨nT3 (List.mem_of_getElem? (i := 111) rfl), List.forall_mem_cons.mpr ⟨nT3 (List.mem_of_getElem? (i := 182) rfl), List.forall_mem_cons.mpr ⟨nT3 (List.mem_of_getElem? (i := 187) rfl), List.forall_mem_cons.mpr ⟨nT3 (List.mem_of_getElem? (i := 224) rfl), List.forall_mem_cons.mpr ⟨nT3 (List.mem_of_getElem? (i := 225) rfl), fun _ h => absurd h List.not_mem_nil⟩⟩⟩⟩⟩⟩⟩⟩⟩⟩⟩⟩⟩⟩
theorem kgood {w : Cond} (h : w ∈ lw_g) : goodWord w = true := (List.mem_filter.mp h).2
theorem kg {x w : Cond} (h : w ∈ lw_g) : GoodIn (x :: lw_g) (w :: lw_g) := fun q hq => by
  have h1 : q ∈ lw_g := (List.mem_cons.mp hq).elim (fun e => e ▸ h) id
  exact ⟨List.mem_cons_of_mem _ h1, good_of_word (kgood h1)⟩
theorem kg0 {w : Cond} (h : w ∈ lw_g) : GoodIn lw_g (w :: lw_g) := fun q hq => by
  have h1 : q ∈ lw_g := (List.mem_cons.mp hq).elim (fun e => e ▸ h) id
  exact ⟨h1, good_of_word (kgood h1)⟩
theorem kall {args : Array Value} {s : State} (h : ∀ w ∈ lw_tbl, w.before args s = true) : ∀ w ∈ lw_g, w.before args s = true := fun w hw => h w (List.mem_filter.mp hw).1
theorem cf_X7_setNodes : CalV yX7_setNodes cX7_setNodes 3 (Option.some Jvm.ClassFile.FieldType.int) 1 := ⟨kc_X7_setNodes, ki_X7_setNodes, ks_X7_setNodes, kin_X7, by decide +kernel, by decide +kernel, by decide +kernel⟩
theorem cf_X2_save : CalV yX2_save cX2_save 2 (Option.none : Option Jvm.ClassFile.FieldType) 1 := ⟨kc_X2_save, ki_X2_save, ks_X2_save, kin_X2, by decide +kernel, by decide +kernel, by decide +kernel⟩
theorem cf_X2_dropOldest : CalV yX2_dropOldest cX2_dropOldest 3 (Option.none : Option Jvm.ClassFile.FieldType) 0 := ⟨kc_X2_dropOldest, ki_X2_dropOldest, ks_X2_dropOldest, kin_X2, by decide +kernel, by decide +kernel, by decide +kernel⟩
theorem cf_X1_copyFrom : CalV yX1_copyFrom cX1_copyFrom 2 (Option.none : Option Jvm.ClassFile.FieldType) 1 := ⟨kc_X1_copyFrom, ki_X1_copyFrom, ks_X1_copyFrom, kin_X1, by decide +kernel, by decide +kernel, by decide +kernel⟩
theorem cf_X1_makeEmpty : CalV yX1_makeEmpty cX1_makeEmpty 2 (Option.none : Option Jvm.ClassFile.FieldType) 1 := ⟨kc_X1_makeEmpty, ki_X1_makeEmpty, ks_X1_makeEmpty, kin_X1, by decide +kernel, by decide +kernel, by decide +kernel⟩
theorem cf_J7_fill_53178 : CalS yJ7_fill_53178 cJ7_fill_53178 4 (Option.none : Option Jvm.ClassFile.FieldType) 2 := ⟨kc_J7_fill_53178, kt_J7_fill_53178, kin_J7, by decide +kernel, by decide +kernel, by decide +kernel⟩
theorem cf_X7_settle : CalV yX7_settle cX7_settle 1 (Option.none : Option Jvm.ClassFile.FieldType) 0 := ⟨kc_X7_settle, ki_X7_settle, ks_X7_settle, kin_X7, by decide +kernel, by decide +kernel, by decide +kernel⟩
theorem cf_X0_trace : CalV yX0_trace cX0_trace 3 (Option.none : Option Jvm.ClassFile.FieldType) 1 := ⟨kc_X0_trace, ki_X0_trace, ks_X0_trace, kin_X0, by decide +kernel, by decide +kernel, by decide +kernel⟩
theorem cf_X1_following : CalV yX1_following cX1_following 5 (Option.some Jvm.ClassFile.FieldType.int) 1 := ⟨kc_X1_following, ki_X1_following, ks_X1_following, kin_X1, by decide +kernel, by decide +kernel, by decide +kernel⟩
theorem cf_X1_tailOf : CalV yX1_tailOf cX1_tailOf 2 (Option.some Jvm.ClassFile.FieldType.int) 1 := ⟨kc_X1_tailOf, ki_X1_tailOf, ks_X1_tailOf, kin_X1, by decide +kernel, by decide +kernel, by decide +kernel⟩
theorem cf_X1_slotOf : CalV yX1_slotOf cX1_slotOf 4 (Option.some Jvm.ClassFile.FieldType.int) 2 := ⟨kc_X1_slotOf, ki_X1_slotOf, ks_X1_slotOf, kin_X1, by decide +kernel, by decide +kernel, by decide +kernel⟩
theorem cf_X1_edgeAt : CalV yX1_edgeAt cX1_edgeAt 3 (Option.some Jvm.ClassFile.FieldType.int) 2 := ⟨kc_X1_edgeAt, ki_X1_edgeAt, ks_X1_edgeAt, kin_X1, by decide +kernel, by decide +kernel, by decide +kernel⟩
theorem cf_X0_walkFrom : CalV yX0_walkFrom cX0_walkFrom 5 (Option.none : Option Jvm.ClassFile.FieldType) 2 := ⟨kc_X0_walkFrom, ki_X0_walkFrom, ks_X0_walkFrom, kin_X0, by decide +kernel, by decide +kernel, by decide +kernel⟩
theorem cf_X7_bit : CalS yX7_bit cX7_bit 1 (Option.some Jvm.ClassFile.FieldType.int) 1 := ⟨kc_X7_bit, kt_X7_bit, kin_X7, by decide +kernel, by decide +kernel, by decide +kernel⟩
theorem cf_X1_fillLinks : CalV yX1_fillLinks cX1_fillLinks 3 (Option.none : Option Jvm.ClassFile.FieldType) 1 := ⟨kc_X1_fillLinks, ki_X1_fillLinks, ks_X1_fillLinks, kin_X1, by decide +kernel, by decide +kernel, by decide +kernel⟩
theorem cf_X0_countComponents : CalV yX0_countComponents cX0_countComponents 6 (Option.none : Option Jvm.ClassFile.FieldType) 1 := ⟨kc_X0_countComponents, ki_X0_countComponents, ks_X0_countComponents, kin_X0, by decide +kernel, by decide +kernel, by decide +kernel⟩
theorem cf_X7_contains : CalS yX7_contains cX7_contains 2 (Option.some Jvm.ClassFile.FieldType.boolean) 2 := ⟨kc_X7_contains, kt_X7_contains, kin_X7, by decide +kernel, by decide +kernel, by decide +kernel⟩
theorem cf_X7_spread : CalS yX7_spread cX7_spread 6 (Option.some Jvm.ClassFile.FieldType.int) 3 := ⟨kc_X7_spread, kt_X7_spread, kin_X7, by decide +kernel, by decide +kernel, by decide +kernel⟩
theorem cf_X7_neighboursOf : CalS yX7_neighboursOf cX7_neighboursOf 4 (Option.some Jvm.ClassFile.FieldType.int) 2 := ⟨kc_X7_neighboursOf, kt_X7_neighboursOf, kin_X7, by decide +kernel, by decide +kernel, by decide +kernel⟩
theorem cf_J6_bitCount_0f7a4 : CalS yJ6_bitCount_0f7a4 cJ6_bitCount_0f7a4 1 (Option.some Jvm.ClassFile.FieldType.int) 1 := ⟨kc_J6_bitCount_0f7a4, kt_J6_bitCount_0f7a4, kin_J6, by decide +kernel, by decide +kernel, by decide +kernel⟩
theorem cf_X7_addEdge : CalV yX7_addEdge cX7_addEdge 5 (Option.some Jvm.ClassFile.FieldType.int) 4 := ⟨kc_X7_addEdge, ki_X7_addEdge, ks_X7_addEdge, kin_X7, by decide +kernel, by decide +kernel, by decide +kernel⟩
theorem cf_X7_areTwoNodes : CalV yX7_areTwoNodes cX7_areTwoNodes 3 (Option.some Jvm.ClassFile.FieldType.boolean) 2 := ⟨kc_X7_areTwoNodes, ki_X7_areTwoNodes, ks_X7_areTwoNodes, kin_X7, by decide +kernel, by decide +kernel, by decide +kernel⟩
theorem cf_X1_hasNode : CalV yX1_hasNode cX1_hasNode 2 (Option.some Jvm.ClassFile.FieldType.boolean) 1 := ⟨kc_X1_hasNode, ki_X1_hasNode, ks_X1_hasNode, kin_X1, by decide +kernel, by decide +kernel, by decide +kernel⟩
theorem cf_X7_mayStandBehind : CalV yX7_mayStandBehind cX7_mayStandBehind 3 (Option.some Jvm.ClassFile.FieldType.boolean) 2 := ⟨kc_X7_mayStandBehind, ki_X7_mayStandBehind, ks_X7_mayStandBehind, kin_X7, by decide +kernel, by decide +kernel, by decide +kernel⟩
theorem cf_X1_isEnd : CalV yX1_isEnd cX1_isEnd 3 (Option.some Jvm.ClassFile.FieldType.boolean) 2 := ⟨kc_X1_isEnd, ki_X1_isEnd, ks_X1_isEnd, kin_X1, by decide +kernel, by decide +kernel, by decide +kernel⟩
theorem cf_X1_hasEdge : CalV yX1_hasEdge cX1_hasEdge 2 (Option.some Jvm.ClassFile.FieldType.boolean) 1 := ⟨kc_X1_hasEdge, ki_X1_hasEdge, ks_X1_hasEdge, kin_X1, by decide +kernel, by decide +kernel, by decide +kernel⟩
theorem cf_X1_areJoined : CalV yX1_areJoined cX1_areJoined 4 (Option.some Jvm.ClassFile.FieldType.boolean) 2 := ⟨kc_X1_areJoined, ki_X1_areJoined, ks_X1_areJoined, kin_X1, by decide +kernel, by decide +kernel, by decide +kernel⟩
theorem cf_X7_join : CalV yX7_join cX7_join 6 (Option.some Jvm.ClassFile.FieldType.int) 4 := ⟨kc_X7_join, ki_X7_join, ks_X7_join, kin_X7, by decide +kernel, by decide +kernel, by decide +kernel⟩
theorem cf_X1_connect : CalV yX1_connect cX1_connect 6 (Option.some Jvm.ClassFile.FieldType.int) 4 := ⟨kc_X1_connect, ki_X1_connect, ks_X1_connect, kin_X1, by decide +kernel, by decide +kernel, by decide +kernel⟩
theorem cf_X1_openSlot : CalV yX1_openSlot cX1_openSlot 6 (Option.none : Option Jvm.ClassFile.FieldType) 3 := ⟨kc_X1_openSlot, ki_X1_openSlot, ks_X1_openSlot, kin_X1, by decide +kernel, by decide +kernel, by decide +kernel⟩
theorem cf_X7_addInFace : CalV yX7_addInFace cX7_addInFace 6 (Option.some Jvm.ClassFile.FieldType.int) 3 := ⟨kc_X7_addInFace, ki_X7_addInFace, ks_X7_addInFace, kin_X7, by decide +kernel, by decide +kernel, by decide +kernel⟩
theorem cf_X0_exists : CalV yX0_exists cX0_exists 2 (Option.some Jvm.ClassFile.FieldType.boolean) 1 := ⟨kc_X0_exists, ki_X0_exists, ks_X0_exists, kin_X0, by decide +kernel, by decide +kernel, by decide +kernel⟩
theorem cf_X0_holds : CalV yX0_holds cX0_holds 3 (Option.some Jvm.ClassFile.FieldType.boolean) 2 := ⟨kc_X0_holds, ki_X0_holds, ks_X0_holds, kin_X0, by decide +kernel, by decide +kernel, by decide +kernel⟩
theorem cf_X0_firstEdgeLeaving : CalV yX0_firstEdgeLeaving cX0_firstEdgeLeaving 6 (Option.some Jvm.ClassFile.FieldType.int) 3 := ⟨kc_X0_firstEdgeLeaving, ki_X0_firstEdgeLeaving, ks_X0_firstEdgeLeaving, kin_X0, by decide +kernel, by decide +kernel, by decide +kernel⟩
theorem cf_X7_removeEdge : CalV yX7_removeEdge cX7_removeEdge 2 (Option.some Jvm.ClassFile.FieldType.int) 1 := ⟨kc_X7_removeEdge, ki_X7_removeEdge, ks_X7_removeEdge, kin_X7, by decide +kernel, by decide +kernel, by decide +kernel⟩
theorem cf_X1_removeAt : CalV yX1_removeAt cX1_removeAt 3 (Option.none : Option Jvm.ClassFile.FieldType) 1 := ⟨kc_X1_removeAt, ki_X1_removeAt, ks_X1_removeAt, kin_X1, by decide +kernel, by decide +kernel, by decide +kernel⟩
theorem cf_X1_closeSlots : CalV yX1_closeSlots cX1_closeSlots 7 (Option.none : Option Jvm.ClassFile.FieldType) 2 := ⟨kc_X1_closeSlots, ki_X1_closeSlots, ks_X1_closeSlots, kin_X1, by decide +kernel, by decide +kernel, by decide +kernel⟩
theorem cf_X7_swap : CalV yX7_swap cX7_swap 4 (Option.some Jvm.ClassFile.FieldType.int) 3 := ⟨kc_X7_swap, ki_X7_swap, ks_X7_swap, kin_X7, by decide +kernel, by decide +kernel, by decide +kernel⟩
theorem cf_X1_exchange : CalV yX1_exchange cX1_exchange 6 (Option.none : Option Jvm.ClassFile.FieldType) 3 := ⟨kc_X1_exchange, ki_X1_exchange, ks_X1_exchange, kin_X1, by decide +kernel, by decide +kernel, by decide +kernel⟩
theorem cf_X7_mirror : CalV yX7_mirror cX7_mirror 1 (Option.some Jvm.ClassFile.FieldType.int) 0 := ⟨kc_X7_mirror, ki_X7_mirror, ks_X7_mirror, kin_X7, by decide +kernel, by decide +kernel, by decide +kernel⟩
theorem cf_X1_reverseAll : CalV yX1_reverseAll cX1_reverseAll 5 (Option.none : Option Jvm.ClassFile.FieldType) 0 := ⟨kc_X1_reverseAll, ki_X1_reverseAll, ks_X1_reverseAll, kin_X1, by decide +kernel, by decide +kernel, by decide +kernel⟩
theorem cf_X7_rotation : CalV yX7_rotation cX7_rotation 3 (Option.some Jvm.ClassFile.FieldType.int) 2 := ⟨kc_X7_rotation, ki_X7_rotation, ks_X7_rotation, kin_X7, by decide +kernel, by decide +kernel, by decide +kernel⟩
theorem cf_X7_edge : CalV yX7_edge cX7_edge 3 (Option.some Jvm.ClassFile.FieldType.int) 2 := ⟨kc_X7_edge, ki_X7_edge, ks_X7_edge, kin_X7, by decide +kernel, by decide +kernel, by decide +kernel⟩
theorem cf_X7_count : CalV yX7_count cX7_count 2 (Option.some Jvm.ClassFile.FieldType.int) 1 := ⟨kc_X7_count, ki_X7_count, ks_X7_count, kin_X7, by decide +kernel, by decide +kernel, by decide +kernel⟩
theorem cf_X7_appendCharacter : CalV yX7_appendCharacter cX7_appendCharacter 2 (Option.some Jvm.ClassFile.FieldType.int) 1 := ⟨kc_X7_appendCharacter, ki_X7_appendCharacter, ks_X7_appendCharacter, kin_X7, by decide +kernel, by decide +kernel, by decide +kernel⟩
theorem cf_X5_add : CalV yX5_add cX5_add 2 (Option.none : Option Jvm.ClassFile.FieldType) 1 := ⟨kc_X5_add, ki_X5_add, ks_X5_add, kin_X5, by decide +kernel, by decide +kernel, by decide +kernel⟩
theorem cf_X7_clearText : CalV yX7_clearText cX7_clearText 2 (Option.some Jvm.ClassFile.FieldType.int) 0 := ⟨kc_X7_clearText, ki_X7_clearText, ks_X7_clearText, kin_X7, by decide +kernel, by decide +kernel, by decide +kernel⟩
theorem cf_X7_load : CalV yX7_load cX7_load 2 (Option.some Jvm.ClassFile.FieldType.int) 0 := ⟨kc_X7_load, ki_X7_load, ks_X7_load, kin_X7, by decide +kernel, by decide +kernel, by decide +kernel⟩
theorem cf_X5_read : CalV yX5_read cX5_read 3 (Option.some Jvm.ClassFile.FieldType.int) 1 := ⟨kc_X5_read, ki_X5_read, ks_X5_read, kin_X5, by decide +kernel, by decide +kernel, by decide +kernel⟩
theorem cf_X5_take : CalV yX5_take cX5_take 4 (Option.some Jvm.ClassFile.FieldType.boolean) 2 := ⟨kc_X5_take, ki_X5_take, ks_X5_take, kin_X5, by decide +kernel, by decide +kernel, by decide +kernel⟩
theorem cf_X5_takeNodes : CalV yX5_takeNodes cX5_takeNodes 3 (Option.some Jvm.ClassFile.FieldType.boolean) 2 := ⟨kc_X5_takeNodes, ki_X5_takeNodes, ks_X5_takeNodes, kin_X5, by decide +kernel, by decide +kernel, by decide +kernel⟩
theorem cf_X5_takeSecondEnd : CalV yX5_takeSecondEnd cX5_takeSecondEnd 3 (Option.some Jvm.ClassFile.FieldType.boolean) 2 := ⟨kc_X5_takeSecondEnd, ki_X5_takeSecondEnd, ks_X5_takeSecondEnd, kin_X5, by decide +kernel, by decide +kernel, by decide +kernel⟩
theorem cf_X7_face : CalV yX7_face cX7_face 3 (Option.some Jvm.ClassFile.FieldType.int) 2 := ⟨kc_X7_face, ki_X7_face, ks_X7_face, kin_X7, by decide +kernel, by decide +kernel, by decide +kernel⟩
theorem cf_X0_countNeighbours : CalV yX0_countNeighbours cX0_countNeighbours 5 (Option.some Jvm.ClassFile.FieldType.int) 2 := ⟨kc_X0_countNeighbours, ki_X0_countNeighbours, ks_X0_countNeighbours, kin_X0, by decide +kernel, by decide +kernel, by decide +kernel⟩
theorem cf_X7_walk : CalV yX7_walk cX7_walk 3 (Option.some Jvm.ClassFile.FieldType.int) 2 := ⟨kc_X7_walk, ki_X7_walk, ks_X7_walk, kin_X7, by decide +kernel, by decide +kernel, by decide +kernel⟩
theorem cf_X0_directedAt : CalV yX0_directedAt cX0_directedAt 5 (Option.some Jvm.ClassFile.FieldType.int) 2 := ⟨kc_X0_directedAt, ki_X0_directedAt, ks_X0_directedAt, kin_X0, by decide +kernel, by decide +kernel, by decide +kernel⟩
theorem cf_X7_faceOf : CalV yX7_faceOf cX7_faceOf 2 (Option.some Jvm.ClassFile.FieldType.int) 1 := ⟨kc_X7_faceOf, ki_X7_faceOf, ks_X7_faceOf, kin_X7, by decide +kernel, by decide +kernel, by decide +kernel⟩
theorem cf_X1_hasDirected : CalV yX1_hasDirected cX1_hasDirected 2 (Option.some Jvm.ClassFile.FieldType.boolean) 1 := ⟨kc_X1_hasDirected, ki_X1_hasDirected, ks_X1_hasDirected, kin_X1, by decide +kernel, by decide +kernel, by decide +kernel⟩
theorem cf_X7_commonFace : CalV yX7_commonFace cX7_commonFace 4 (Option.some Jvm.ClassFile.FieldType.int) 2 := ⟨kc_X7_commonFace, ki_X7_commonFace, ks_X7_commonFace, kin_X7, by decide +kernel, by decide +kernel, by decide +kernel⟩
theorem cf_X7_isPlanar : CalV yX7_isPlanar cX7_isPlanar 1 (Option.some Jvm.ClassFile.FieldType.int) 0 := ⟨kc_X7_isPlanar, ki_X7_isPlanar, ks_X7_isPlanar, kin_X7, by decide +kernel, by decide +kernel, by decide +kernel⟩
theorem cf_X4_accepts : CalV yX4_accepts cX4_accepts 4 (Option.some Jvm.ClassFile.FieldType.boolean) 1 := ⟨kc_X4_accepts, ki_X4_accepts, ks_X4_accepts, kin_X4, by decide +kernel, by decide +kernel, by decide +kernel⟩
theorem cf_X4_reduce : CalV yX4_reduce cX4_reduce 4 (Option.none : Option Jvm.ClassFile.FieldType) 0 := ⟨kc_X4_reduce, ki_X4_reduce, ks_X4_reduce, kin_X4, by decide +kernel, by decide +kernel, by decide +kernel⟩
theorem cf_X4_bridgeOver : CalV yX4_bridgeOver cX4_bridgeOver 4 (Option.none : Option Jvm.ClassFile.FieldType) 1 := ⟨kc_X4_bridgeOver, ki_X4_bridgeOver, ks_X4_bridgeOver, kin_X4, by decide +kernel, by decide +kernel, by decide +kernel⟩
theorem cf_X4_countEdges : CalV yX4_countEdges cX4_countEdges 3 (Option.some Jvm.ClassFile.FieldType.int) 0 := ⟨kc_X4_countEdges, ki_X4_countEdges, ks_X4_countEdges, kin_X4, by decide +kernel, by decide +kernel, by decide +kernel⟩
theorem cf_X4_findCycle : CalV yX4_findCycle cX4_findCycle 6 (Option.some Jvm.ClassFile.FieldType.boolean) 0 := ⟨kc_X4_findCycle, ki_X4_findCycle, ks_X4_findCycle, kin_X4, by decide +kernel, by decide +kernel, by decide +kernel⟩
theorem cf_X7_smallestOf : CalS yX7_smallestOf cX7_smallestOf 2 (Option.some Jvm.ClassFile.FieldType.int) 1 := ⟨kc_X7_smallestOf, kt_X7_smallestOf, kin_X7, by decide +kernel, by decide +kernel, by decide +kernel⟩
theorem cf_X4_cutPathBefore : CalV yX4_cutPathBefore cX4_cutPathBefore 5 (Option.none : Option Jvm.ClassFile.FieldType) 1 := ⟨kc_X4_cutPathBefore, ki_X4_cutPathBefore, ks_X4_cutPathBefore, kin_X4, by decide +kernel, by decide +kernel, by decide +kernel⟩
theorem cf_X4_sketchBlock : CalV yX4_sketchBlock cX4_sketchBlock 2 (Option.some Jvm.ClassFile.FieldType.boolean) 0 := ⟨kc_X4_sketchBlock, ki_X4_sketchBlock, ks_X4_sketchBlock, kin_X4, by decide +kernel, by decide +kernel, by decide +kernel⟩
theorem cf_X4_startSketch : CalV yX4_startSketch cX4_startSketch 2 (Option.none : Option Jvm.ClassFile.FieldType) 0 := ⟨kc_X4_startSketch, ki_X4_startSketch, ks_X4_startSketch, kin_X4, by decide +kernel, by decide +kernel, by decide +kernel⟩
theorem cf_X4_drawPath : CalV yX4_drawPath cX4_drawPath 2 (Option.none : Option Jvm.ClassFile.FieldType) 0 := ⟨kc_X4_drawPath, ki_X4_drawPath, ks_X4_drawPath, kin_X4, by decide +kernel, by decide +kernel, by decide +kernel⟩
theorem cf_X7_toggleLink : CalS yX7_toggleLink cX7_toggleLink 3 (Option.none : Option Jvm.ClassFile.FieldType) 3 := ⟨kc_X7_toggleLink, kt_X7_toggleLink, kin_X7, by decide +kernel, by decide +kernel, by decide +kernel⟩
theorem cf_X4_weighEdges : CalV yX4_weighEdges cX4_weighEdges 4 (Option.some Jvm.ClassFile.FieldType.boolean) 0 := ⟨kc_X4_weighEdges, ki_X4_weighEdges, ks_X4_weighEdges, kin_X4, by decide +kernel, by decide +kernel, by decide +kernel⟩
theorem cf_X4_weigh : CalV yX4_weigh cX4_weigh 6 (Option.some Jvm.ClassFile.FieldType.boolean) 2 := ⟨kc_X4_weigh, ki_X4_weigh, ks_X4_weigh, kin_X4, by decide +kernel, by decide +kernel, by decide +kernel⟩
theorem cf_X4_weighParts : CalV yX4_weighParts cX4_weighParts 5 (Option.some Jvm.ClassFile.FieldType.boolean) 0 := ⟨kc_X4_weighParts, ki_X4_weighParts, ks_X4_weighParts, kin_X4, by decide +kernel, by decide +kernel, by decide +kernel⟩
theorem cf_X4_findPath : CalV yX4_findPath cX4_findPath 8 (Option.none : Option Jvm.ClassFile.FieldType) 0 := ⟨kc_X4_findPath, ki_X4_findPath, ks_X4_findPath, kin_X4, by decide +kernel, by decide +kernel, by decide +kernel⟩
theorem cf_X4_tracePath : CalV yX4_tracePath cX4_tracePath 6 (Option.none : Option Jvm.ClassFile.FieldType) 3 := ⟨kc_X4_tracePath, ki_X4_tracePath, ks_X4_tracePath, kin_X4, by decide +kernel, by decide +kernel, by decide +kernel⟩
theorem cf_X4_splitRing : CalV yX4_splitRing cX4_splitRing 5 (Option.none : Option Jvm.ClassFile.FieldType) 0 := ⟨kc_X4_splitRing, ki_X4_splitRing, ks_X4_splitRing, kin_X4, by decide +kernel, by decide +kernel, by decide +kernel⟩
theorem cf_X4_copyArc : CalV yX4_copyArc cX4_copyArc 8 (Option.none : Option Jvm.ClassFile.FieldType) 4 := ⟨kc_X4_copyArc, ki_X4_copyArc, ks_X4_copyArc, kin_X4, by decide +kernel, by decide +kernel, by decide +kernel⟩
theorem cf_X4_extendRing : CalV yX4_extendRing cX4_extendRing 3 (Option.none : Option Jvm.ClassFile.FieldType) 2 := ⟨kc_X4_extendRing, ki_X4_extendRing, ks_X4_extendRing, kin_X4, by decide +kernel, by decide +kernel, by decide +kernel⟩
theorem cf_X7_canAdd : CalV yX7_canAdd cX7_canAdd 3 (Option.some Jvm.ClassFile.FieldType.int) 2 := ⟨kc_X7_canAdd, ki_X7_canAdd, ks_X7_canAdd, kin_X7, by decide +kernel, by decide +kernel, by decide +kernel⟩
theorem cf_X7_obstruction : CalV yX7_obstruction cX7_obstruction 1 (Option.some Jvm.ClassFile.FieldType.int) 0 := ⟨kc_X7_obstruction, ki_X7_obstruction, ks_X7_obstruction, kin_X7, by decide +kernel, by decide +kernel, by decide +kernel⟩
theorem cf_X7_findObstruction : CalV yX7_findObstruction cX7_findObstruction 3 (Option.some Jvm.ClassFile.FieldType.int) 0 := ⟨kc_X7_findObstruction, ki_X7_findObstruction, ks_X7_findObstruction, kin_X7, by decide +kernel, by decide +kernel, by decide +kernel⟩
theorem cf_X7_branching : CalV yX7_branching cX7_branching 4 (Option.some Jvm.ClassFile.FieldType.int) 0 := ⟨kc_X7_branching, ki_X7_branching, ks_X7_branching, kin_X7, by decide +kernel, by decide +kernel, by decide +kernel⟩
theorem cf_X7_countEdgesAt : CalV yX7_countEdgesAt cX7_countEdgesAt 5 (Option.some Jvm.ClassFile.FieldType.int) 2 := ⟨kc_X7_countEdgesAt, ki_X7_countEdgesAt, ks_X7_countEdgesAt, kin_X7, by decide +kernel, by decide +kernel, by decide +kernel⟩
theorem cf_X7_guiltyEdges : CalV yX7_guiltyEdges cX7_guiltyEdges 3 (Option.some Jvm.ClassFile.FieldType.int) 0 := ⟨kc_X7_guiltyEdges, ki_X7_guiltyEdges, ks_X7_guiltyEdges, kin_X7, by decide +kernel, by decide +kernel, by decide +kernel⟩
theorem cf_X7_insertionCost : CalV yX7_insertionCost cX7_insertionCost 3 (Option.some Jvm.ClassFile.FieldType.int) 2 := ⟨kc_X7_insertionCost, ki_X7_insertionCost, ks_X7_insertionCost, kin_X7, by decide +kernel, by decide +kernel, by decide +kernel⟩
theorem cf_X7_canInsert : CalV yX7_canInsert cX7_canInsert 3 (Option.some Jvm.ClassFile.FieldType.boolean) 2 := ⟨kc_X7_canInsert, ki_X7_canInsert, ks_X7_canInsert, kin_X7, by decide +kernel, by decide +kernel, by decide +kernel⟩
theorem cf_X6_find : CalV yX6_find cX6_find 7 (Option.none : Option Jvm.ClassFile.FieldType) 4 := ⟨kc_X6_find, ki_X6_find, ks_X6_find, kin_X6, by decide +kernel, by decide +kernel, by decide +kernel⟩
theorem cf_X0_areConnected : CalV yX0_areConnected cX0_areConnected 3 (Option.some Jvm.ClassFile.FieldType.boolean) 2 := ⟨kc_X0_areConnected, ki_X0_areConnected, ks_X0_areConnected, kin_X0, by decide +kernel, by decide +kernel, by decide +kernel⟩
theorem cf_X6_measure : CalV yX6_measure cX6_measure 7 (Option.none : Option Jvm.ClassFile.FieldType) 3 := ⟨kc_X6_measure, ki_X6_measure, ks_X6_measure, kin_X6, by decide +kernel, by decide +kernel, by decide +kernel⟩
theorem cf_X6_chooseStart : CalV yX6_chooseStart cX6_chooseStart 5 (Option.some Jvm.ClassFile.FieldType.int) 2 := ⟨kc_X6_chooseStart, ki_X6_chooseStart, ks_X6_chooseStart, kin_X6, by decide +kernel, by decide +kernel, by decide +kernel⟩
theorem cf_X6_cross : CalV yX6_cross cX6_cross 7 (Option.some Jvm.ClassFile.FieldType.int) 4 := ⟨kc_X6_cross, ki_X6_cross, ks_X6_cross, kin_X6, by decide +kernel, by decide +kernel, by decide +kernel⟩
theorem cf_X7_crossed : CalV yX7_crossed cX7_crossed 4 (Option.some Jvm.ClassFile.FieldType.int) 3 := ⟨kc_X7_crossed, ki_X7_crossed, ks_X7_crossed, kin_X7, by decide +kernel, by decide +kernel, by decide +kernel⟩
theorem cf_X7_setOuter : CalV yX7_setOuter cX7_setOuter 3 (Option.some Jvm.ClassFile.FieldType.int) 1 := ⟨kc_X7_setOuter, ki_X7_setOuter, ks_X7_setOuter, kin_X7, by decide +kernel, by decide +kernel, by decide +kernel⟩
theorem cf_X7_depth : CalV yX7_depth cX7_depth 4 (Option.some Jvm.ClassFile.FieldType.int) 1 := ⟨kc_X7_depth, ki_X7_depth, ks_X7_depth, kin_X7, by decide +kernel, by decide +kernel, by decide +kernel⟩
theorem cf_X0_widen : CalV yX0_widen cX0_widen 4 (Option.some Jvm.ClassFile.FieldType.int) 1 := ⟨kc_X0_widen, ki_X0_widen, ks_X0_widen, kin_X0, by decide +kernel, by decide +kernel, by decide +kernel⟩
theorem cf_X7_position : CalV yX7_position cX7_position 4 (Option.some Jvm.ClassFile.FieldType.int) 3 := ⟨kc_X7_position, ki_X7_position, ks_X7_position, kin_X7, by decide +kernel, by decide +kernel, by decide +kernel⟩
theorem cf_X7_isRounds : CalS yX7_isRounds cX7_isRounds 1 (Option.some Jvm.ClassFile.FieldType.boolean) 1 := ⟨kc_X7_isRounds, kt_X7_isRounds, kin_X7, by decide +kernel, by decide +kernel, by decide +kernel⟩
theorem cf_X3_arrange : CalV yX3_arrange cX3_arrange 7 (Option.none : Option Jvm.ClassFile.FieldType) 3 := ⟨kc_X3_arrange, ki_X3_arrange, ks_X3_arrange, kin_X3, by decide +kernel, by decide +kernel, by decide +kernel⟩
theorem cf_J7_fill_e525d : CalS yJ7_fill_e525d cJ7_fill_e525d 4 (Option.none : Option Jvm.ClassFile.FieldType) 2 := ⟨kc_J7_fill_e525d, kt_J7_fill_e525d, kin_J7, by decide +kernel, by decide +kernel, by decide +kernel⟩
theorem cf_X3_pinOuterNodes : CalV yX3_pinOuterNodes cX3_pinOuterNodes 8 (Option.some Jvm.ClassFile.FieldType.int) 2 := ⟨kc_X3_pinOuterNodes, ki_X3_pinOuterNodes, ks_X3_pinOuterNodes, kin_X3, by decide +kernel, by decide +kernel, by decide +kernel⟩
theorem cf_X3_relax : CalV yX3_relax cX3_relax 9 (Option.none : Option Jvm.ClassFile.FieldType) 2 := ⟨kc_X3_relax, ki_X3_relax, ks_X3_relax, kin_X3, by decide +kernel, by decide +kernel, by decide +kernel⟩
theorem cf_X7_bitsOf : CalS yX7_bitsOf cX7_bitsOf 4 (Option.some Jvm.ClassFile.FieldType.int) 1 := ⟨kc_X7_bitsOf, kt_X7_bitsOf, kin_X7, by decide +kernel, by decide +kernel, by decide +kernel⟩
theorem cf_X7_crossings : CalV yX7_crossings cX7_crossings 2 (Option.some Jvm.ClassFile.FieldType.int) 1 := ⟨kc_X7_crossings, ki_X7_crossings, ks_X7_crossings, kin_X7, by decide +kernel, by decide +kernel, by decide +kernel⟩
theorem cf_X3_countCrossings : CalV yX3_countCrossings cX3_countCrossings 5 (Option.some Jvm.ClassFile.FieldType.int) 1 := ⟨kc_X3_countCrossings, ki_X3_countCrossings, ks_X3_countCrossings, kin_X3, by decide +kernel, by decide +kernel, by decide +kernel⟩
theorem cf_X3_doCross : CalV yX3_doCross cX3_doCross 5 (Option.some Jvm.ClassFile.FieldType.boolean) 4 := ⟨kc_X3_doCross, ki_X3_doCross, ks_X3_doCross, kin_X3, by decide +kernel, by decide +kernel, by decide +kernel⟩
theorem cf_X3_turn : CalV yX3_turn cX3_turn 4 (Option.some Jvm.ClassFile.FieldType.float) 3 := ⟨kc_X3_turn, ki_X3_turn, ks_X3_turn, kin_X3, by decide +kernel, by decide +kernel, by decide +kernel⟩
theorem cf_X3_areOpposite : CalS yX3_areOpposite cX3_areOpposite 2 (Option.some Jvm.ClassFile.FieldType.boolean) 2 := ⟨kc_X3_areOpposite, kt_X3_areOpposite, kin_X3, by decide +kernel, by decide +kernel, by decide +kernel⟩
theorem cf_X7_extent : CalV yX7_extent cX7_extent 2 (Option.some Jvm.ClassFile.FieldType.int) 1 := ⟨kc_X7_extent, ki_X7_extent, ks_X7_extent, kin_X7, by decide +kernel, by decide +kernel, by decide +kernel⟩
theorem cf_X3_addLengths : CalV yX3_addLengths cX3_addLengths 6 (Option.some Jvm.ClassFile.FieldType.float) 1 := ⟨kc_X3_addLengths, ki_X3_addLengths, ks_X3_addLengths, kin_X3, by decide +kernel, by decide +kernel, by decide +kernel⟩
theorem cf_X3_distance : CalS yX3_distance cX3_distance 3 (Option.some Jvm.ClassFile.FieldType.float) 2 := ⟨kc_X3_distance, kt_X3_distance, kin_X3, by decide +kernel, by decide +kernel, by decide +kernel⟩
theorem cf_X7_undo : CalV yX7_undo cX7_undo 1 (Option.some Jvm.ClassFile.FieldType.int) 0 := ⟨kc_X7_undo, ki_X7_undo, ks_X7_undo, kin_X7, by decide +kernel, by decide +kernel, by decide +kernel⟩
theorem cf_X2_restore : CalV yX2_restore cX2_restore 2 (Option.none : Option Jvm.ClassFile.FieldType) 1 := ⟨kc_X2_restore, ki_X2_restore, ks_X2_restore, kin_X2, by decide +kernel, by decide +kernel, by decide +kernel⟩
theorem cf_X8_undo : CalV yX8_undo cX8_undo 2 (Option.some Jvm.ClassFile.FieldType.int) 0 := ⟨kc_X8_undo, ki_X8_undo, ks_X8_undo, kin_X8, by decide +kernel, by decide +kernel, by decide +kernel⟩
theorem cf_X8_setNodes : CalV yX8_setNodes cX8_setNodes 3 (Option.some Jvm.ClassFile.FieldType.int) 1 := ⟨kc_X8_setNodes, ki_X8_setNodes, ks_X8_setNodes, kin_X8, by decide +kernel, by decide +kernel, by decide +kernel⟩
theorem cf_X8_in : CalS yX8_in cX8_in 3 (Option.some Jvm.ClassFile.FieldType.boolean) 3 := ⟨kc_X8_in, kt_X8_in, kin_X8, by decide +kernel, by decide +kernel, by decide +kernel⟩
theorem cf_X8_notes : CalV yX8_notes cX8_notes 2 (Option.none : Option Jvm.ClassFile.FieldType) 0 := ⟨kc_X8_notes, ki_X8_notes, ks_X8_notes, kin_X8, by decide +kernel, by decide +kernel, by decide +kernel⟩
theorem cf_X8_empties : CalV yX8_empties cX8_empties 3 (Option.none : Option Jvm.ClassFile.FieldType) 1 := ⟨kc_X8_empties, ki_X8_empties, ks_X8_empties, kin_X8, by decide +kernel, by decide +kernel, by decide +kernel⟩
theorem cf_X8_addEdge : CalV yX8_addEdge cX8_addEdge 5 (Option.some Jvm.ClassFile.FieldType.int) 4 := ⟨kc_X8_addEdge, ki_X8_addEdge, ks_X8_addEdge, kin_X8, by decide +kernel, by decide +kernel, by decide +kernel⟩
theorem cf_X8_areNodes : CalV yX8_areNodes cX8_areNodes 3 (Option.some Jvm.ClassFile.FieldType.boolean) 2 := ⟨kc_X8_areNodes, ki_X8_areNodes, ks_X8_areNodes, kin_X8, by decide +kernel, by decide +kernel, by decide +kernel⟩
theorem cf_X8_isNode : CalV yX8_isNode cX8_isNode 2 (Option.some Jvm.ClassFile.FieldType.boolean) 1 := ⟨kc_X8_isNode, ki_X8_isNode, ks_X8_isNode, kin_X8, by decide +kernel, by decide +kernel, by decide +kernel⟩
theorem cf_X8_isAt : CalV yX8_isAt cX8_isAt 3 (Option.some Jvm.ClassFile.FieldType.boolean) 2 := ⟨kc_X8_isAt, ki_X8_isAt, ks_X8_isAt, kin_X8, by decide +kernel, by decide +kernel, by decide +kernel⟩
theorem cf_X8_isEdge : CalV yX8_isEdge cX8_isEdge 2 (Option.some Jvm.ClassFile.FieldType.boolean) 1 := ⟨kc_X8_isEdge, ki_X8_isEdge, ks_X8_isEdge, kin_X8, by decide +kernel, by decide +kernel, by decide +kernel⟩
theorem cf_X8_between : CalV yX8_between cX8_between 5 (Option.some Jvm.ClassFile.FieldType.int) 2 := ⟨kc_X8_between, ki_X8_between, ks_X8_between, kin_X8, by decide +kernel, by decide +kernel, by decide +kernel⟩
theorem cf_X8_place : CalV yX8_place cX8_place 4 (Option.some Jvm.ClassFile.FieldType.int) 2 := ⟨kc_X8_place, ki_X8_place, ks_X8_place, kin_X8, by decide +kernel, by decide +kernel, by decide +kernel⟩
theorem cf_X8_turn : CalV yX8_turn cX8_turn 3 (Option.some Jvm.ClassFile.FieldType.int) 2 := ⟨kc_X8_turn, ki_X8_turn, ks_X8_turn, kin_X8, by decide +kernel, by decide +kernel, by decide +kernel⟩
theorem cf_X8_joins : CalV yX8_joins cX8_joins 6 (Option.some Jvm.ClassFile.FieldType.int) 4 := ⟨kc_X8_joins, ki_X8_joins, ks_X8_joins, kin_X8, by decide +kernel, by decide +kernel, by decide +kernel⟩
theorem cf_X8_puts : CalV yX8_puts cX8_puts 5 (Option.none : Option Jvm.ClassFile.FieldType) 3 := ⟨kc_X8_puts, ki_X8_puts, ks_X8_puts, kin_X8, by decide +kernel, by decide +kernel, by decide +kernel⟩
theorem cf_X8_removeEdge : CalV yX8_removeEdge cX8_removeEdge 6 (Option.some Jvm.ClassFile.FieldType.int) 1 := ⟨kc_X8_removeEdge, ki_X8_removeEdge, ks_X8_removeEdge, kin_X8, by decide +kernel, by decide +kernel, by decide +kernel⟩
theorem cf_X8_swap : CalV yX8_swap cX8_swap 6 (Option.some Jvm.ClassFile.FieldType.int) 3 := ⟨kc_X8_swap, ki_X8_swap, ks_X8_swap, kin_X8, by decide +kernel, by decide +kernel, by decide +kernel⟩
theorem cf_X8_genus : CalV yX8_genus cX8_genus 4 (Option.some Jvm.ClassFile.FieldType.int) 0 := ⟨kc_X8_genus, ki_X8_genus, ks_X8_genus, kin_X8, by decide +kernel, by decide +kernel, by decide +kernel⟩
theorem cf_X8_walks : CalV yX8_walks cX8_walks 3 (Option.none : Option Jvm.ClassFile.FieldType) 0 := ⟨kc_X8_walks, ki_X8_walks, ks_X8_walks, kin_X8, by decide +kernel, by decide +kernel, by decide +kernel⟩
theorem cf_X8_follows : CalV yX8_follows cX8_follows 5 (Option.some Jvm.ClassFile.FieldType.int) 1 := ⟨kc_X8_follows, ki_X8_follows, ks_X8_follows, kin_X8, by decide +kernel, by decide +kernel, by decide +kernel⟩
theorem cf_X8_tail : CalV yX8_tail cX8_tail 2 (Option.some Jvm.ClassFile.FieldType.int) 1 := ⟨kc_X8_tail, ki_X8_tail, ks_X8_tail, kin_X8, by decide +kernel, by decide +kernel, by decide +kernel⟩
theorem cf_X8_across : CalV yX8_across cX8_across 3 (Option.some Jvm.ClassFile.FieldType.int) 2 := ⟨kc_X8_across, ki_X8_across, ks_X8_across, kin_X8, by decide +kernel, by decide +kernel, by decide +kernel⟩
theorem cf_X8_component : CalV yX8_component cX8_component 6 (Option.some Jvm.ClassFile.FieldType.int) 1 := ⟨kc_X8_component, ki_X8_component, ks_X8_component, kin_X8, by decide +kernel, by decide +kernel, by decide +kernel⟩
theorem cf_X8_bits : CalS yX8_bits cX8_bits 4 (Option.some Jvm.ClassFile.FieldType.int) 1 := ⟨kc_X8_bits, kt_X8_bits, kin_X8, by decide +kernel, by decide +kernel, by decide +kernel⟩
theorem cf_X8_mirror : CalV yX8_mirror cX8_mirror 5 (Option.some Jvm.ClassFile.FieldType.int) 0 := ⟨kc_X8_mirror, ki_X8_mirror, ks_X8_mirror, kin_X8, by decide +kernel, by decide +kernel, by decide +kernel⟩
theorem cf_X8_rotation : CalV yX8_rotation cX8_rotation 3 (Option.some Jvm.ClassFile.FieldType.int) 2 := ⟨kc_X8_rotation, ki_X8_rotation, ks_X8_rotation, kin_X8, by decide +kernel, by decide +kernel, by decide +kernel⟩
theorem cf_X8_edge : CalV yX8_edge cX8_edge 3 (Option.some Jvm.ClassFile.FieldType.int) 2 := ⟨kc_X8_edge, ki_X8_edge, ks_X8_edge, kin_X8, by decide +kernel, by decide +kernel, by decide +kernel⟩
theorem cf_X8_addInFace : CalV yX8_addInFace cX8_addInFace 6 (Option.some Jvm.ClassFile.FieldType.int) 3 := ⟨kc_X8_addInFace, ki_X8_addInFace, ks_X8_addInFace, kin_X8, by decide +kernel, by decide +kernel, by decide +kernel⟩
theorem cf_X8_nodesOn : CalV yX8_nodesOn cX8_nodesOn 4 (Option.some Jvm.ClassFile.FieldType.int) 1 := ⟨kc_X8_nodesOn, ki_X8_nodesOn, ks_X8_nodesOn, kin_X8, by decide +kernel, by decide +kernel, by decide +kernel⟩
theorem cf_X8_corner : CalV yX8_corner cX8_corner 4 (Option.some Jvm.ClassFile.FieldType.int) 2 := ⟨kc_X8_corner, ki_X8_corner, ks_X8_corner, kin_X8, by decide +kernel, by decide +kernel, by decide +kernel⟩
theorem cf_X8_count : CalV yX8_count cX8_count 2 (Option.some Jvm.ClassFile.FieldType.int) 1 := ⟨kc_X8_count, ki_X8_count, ks_X8_count, kin_X8, by decide +kernel, by decide +kernel, by decide +kernel⟩
theorem cf_X8_components : CalV yX8_components cX8_components 3 (Option.some Jvm.ClassFile.FieldType.int) 0 := ⟨kc_X8_components, ki_X8_components, ks_X8_components, kin_X8, by decide +kernel, by decide +kernel, by decide +kernel⟩
theorem cf_X8_face : CalV yX8_face cX8_face 3 (Option.some Jvm.ClassFile.FieldType.int) 2 := ⟨kc_X8_face, ki_X8_face, ks_X8_face, kin_X8, by decide +kernel, by decide +kernel, by decide +kernel⟩
theorem cf_X8_lengthOf : CalV yX8_lengthOf cX8_lengthOf 4 (Option.some Jvm.ClassFile.FieldType.int) 1 := ⟨kc_X8_lengthOf, ki_X8_lengthOf, ks_X8_lengthOf, kin_X8, by decide +kernel, by decide +kernel, by decide +kernel⟩
theorem cf_X8_besides : CalV yX8_besides cX8_besides 5 (Option.some Jvm.ClassFile.FieldType.int) 1 := ⟨kc_X8_besides, ki_X8_besides, ks_X8_besides, kin_X8, by decide +kernel, by decide +kernel, by decide +kernel⟩
theorem cf_X8_walk : CalV yX8_walk cX8_walk 5 (Option.some Jvm.ClassFile.FieldType.int) 2 := ⟨kc_X8_walk, ki_X8_walk, ks_X8_walk, kin_X8, by decide +kernel, by decide +kernel, by decide +kernel⟩
theorem cf_X8_faceOf : CalV yX8_faceOf cX8_faceOf 2 (Option.some Jvm.ClassFile.FieldType.int) 1 := ⟨kc_X8_faceOf, ki_X8_faceOf, ks_X8_faceOf, kin_X8, by decide +kernel, by decide +kernel, by decide +kernel⟩
theorem cf_X8_commonFace : CalV yX8_commonFace cX8_commonFace 4 (Option.some Jvm.ClassFile.FieldType.int) 2 := ⟨kc_X8_commonFace, ki_X8_commonFace, ks_X8_commonFace, kin_X8, by decide +kernel, by decide +kernel, by decide +kernel⟩
theorem cf_X8_appendCharacter : CalV yX8_appendCharacter cX8_appendCharacter 2 (Option.some Jvm.ClassFile.FieldType.int) 1 := ⟨kc_X8_appendCharacter, ki_X8_appendCharacter, ks_X8_appendCharacter, kin_X8, by decide +kernel, by decide +kernel, by decide +kernel⟩
theorem cf_X8_clearText : CalV yX8_clearText cX8_clearText 2 (Option.some Jvm.ClassFile.FieldType.int) 0 := ⟨kc_X8_clearText, ki_X8_clearText, ks_X8_clearText, kin_X8, by decide +kernel, by decide +kernel, by decide +kernel⟩
theorem cf_X8_load : CalV yX8_load cX8_load 8 (Option.some Jvm.ClassFile.FieldType.int) 0 := ⟨kc_X8_load, ki_X8_load, ks_X8_load, kin_X8, by decide +kernel, by decide +kernel, by decide +kernel⟩
theorem cf_X8_may : CalV yX8_may cX8_may 5 (Option.some Jvm.ClassFile.FieldType.boolean) 3 := ⟨kc_X8_may, ki_X8_may, ks_X8_may, kin_X8, by decide +kernel, by decide +kernel, by decide +kernel⟩
theorem cf_X8_exchanges : CalV yX8_exchanges cX8_exchanges 3 (Option.none : Option Jvm.ClassFile.FieldType) 0 := ⟨kc_X8_exchanges, ki_X8_exchanges, ks_X8_exchanges, kin_X8, by decide +kernel, by decide +kernel, by decide +kernel⟩
theorem cf_X8_isPlanar : CalV yX8_isPlanar cX8_isPlanar 1 (Option.some Jvm.ClassFile.FieldType.int) 0 := ⟨kc_X8_isPlanar, ki_X8_isPlanar, ks_X8_isPlanar, kin_X8, by decide +kernel, by decide +kernel, by decide +kernel⟩
theorem cf_X8_allEdges : CalV yX8_allEdges cX8_allEdges 1 (Option.some Jvm.ClassFile.FieldType.int) 0 := ⟨kc_X8_allEdges, ki_X8_allEdges, ks_X8_allEdges, kin_X8, by decide +kernel, by decide +kernel, by decide +kernel⟩
theorem cf_X8_laysEnds : CalV yX8_laysEnds cX8_laysEnds 4 (Option.none : Option Jvm.ClassFile.FieldType) 2 := ⟨kc_X8_laysEnds, ki_X8_laysEnds, ks_X8_laysEnds, kin_X8, by decide +kernel, by decide +kernel, by decide +kernel⟩
theorem cf_X8_planar : CalV yX8_planar cX8_planar 5 (Option.some Jvm.ClassFile.FieldType.boolean) 1 := ⟨kc_X8_planar, ki_X8_planar, ks_X8_planar, kin_X8, by decide +kernel, by decide +kernel, by decide +kernel⟩
theorem cf_X8_lowest : CalS yX8_lowest cX8_lowest 2 (Option.some Jvm.ClassFile.FieldType.int) 1 := ⟨kc_X8_lowest, kt_X8_lowest, kin_X8, by decide +kernel, by decide +kernel, by decide +kernel⟩
theorem cf_X8_has : CalS yX8_has cX8_has 2 (Option.some Jvm.ClassFile.FieldType.boolean) 2 := ⟨kc_X8_has, kt_X8_has, kin_X8, by decide +kernel, by decide +kernel, by decide +kernel⟩
theorem cf_X8_block : CalV yX8_block cX8_block 8 (Option.some Jvm.ClassFile.FieldType.int) 2 := ⟨kc_X8_block, ki_X8_block, ks_X8_block, kin_X8, by decide +kernel, by decide +kernel, by decide +kernel⟩
theorem cf_X8_areInOne : CalV yX8_areInOne cX8_areInOne 7 (Option.some Jvm.ClassFile.FieldType.boolean) 3 := ⟨kc_X8_areInOne, ki_X8_areInOne, ks_X8_areInOne, kin_X8, by decide +kernel, by decide +kernel, by decide +kernel⟩
theorem cf_X8_reached : CalV yX8_reached cX8_reached 9 (Option.some Jvm.ClassFile.FieldType.int) 3 := ⟨kc_X8_reached, ki_X8_reached, ks_X8_reached, kin_X8, by decide +kernel, by decide +kernel, by decide +kernel⟩
theorem cf_X8_canDraw : CalV yX8_canDraw cX8_canDraw 10 (Option.some Jvm.ClassFile.FieldType.boolean) 1 := ⟨kc_X8_canDraw, ki_X8_canDraw, ks_X8_canDraw, kin_X8, by decide +kernel, by decide +kernel, by decide +kernel⟩
theorem cf_X8_finds : CalV yX8_finds cX8_finds 11 (Option.some Jvm.ClassFile.FieldType.int) 4 := ⟨kc_X8_finds, ki_X8_finds, ks_X8_finds, kin_X8, by decide +kernel, by decide +kernel, by decide +kernel⟩
theorem cf_X8_takesPath : CalV yX8_takesPath cX8_takesPath 4 (Option.none : Option Jvm.ClassFile.FieldType) 2 := ⟨kc_X8_takesPath, ki_X8_takesPath, ks_X8_takesPath, kin_X8, by decide +kernel, by decide +kernel, by decide +kernel⟩
theorem cf_X8_edgesOfPath : CalV yX8_edgesOfPath cX8_edgesOfPath 6 (Option.some Jvm.ClassFile.FieldType.int) 1 := ⟨kc_X8_edgesOfPath, ki_X8_edgesOfPath, ks_X8_edgesOfPath, kin_X8, by decide +kernel, by decide +kernel, by decide +kernel⟩
theorem cf_X8_nodesOfPath : CalV yX8_nodesOfPath cX8_nodesOfPath 3 (Option.some Jvm.ClassFile.FieldType.int) 0 := ⟨kc_X8_nodesOfPath, ki_X8_nodesOfPath, ks_X8_nodesOfPath, kin_X8, by decide +kernel, by decide +kernel, by decide +kernel⟩
theorem cf_X8_begins : CalV yX8_begins cX8_begins 2 (Option.none : Option Jvm.ClassFile.FieldType) 1 := ⟨kc_X8_begins, ki_X8_begins, ks_X8_begins, kin_X8, by decide +kernel, by decide +kernel, by decide +kernel⟩
theorem cf_X8_adds : CalV yX8_adds cX8_adds 3 (Option.none : Option Jvm.ClassFile.FieldType) 2 := ⟨kc_X8_adds, ki_X8_adds, ks_X8_adds, kin_X8, by decide +kernel, by decide +kernel, by decide +kernel⟩
theorem cf_X8_picks : CalV yX8_picks cX8_picks 11 (Option.none : Option Jvm.ClassFile.FieldType) 3 := ⟨kc_X8_picks, ki_X8_picks, ks_X8_picks, kin_X8, by decide +kernel, by decide +kernel, by decide +kernel⟩
theorem cf_X8_offers : CalV yX8_offers cX8_offers 5 (Option.none : Option Jvm.ClassFile.FieldType) 2 := ⟨kc_X8_offers, ki_X8_offers, ks_X8_offers, kin_X8, by decide +kernel, by decide +kernel, by decide +kernel⟩
theorem cf_X8_fitting : CalV yX8_fitting cX8_fitting 5 (Option.some Jvm.ClassFile.FieldType.int) 1 := ⟨kc_X8_fitting, ki_X8_fitting, ks_X8_fitting, kin_X8, by decide +kernel, by decide +kernel, by decide +kernel⟩
theorem cf_X8_nodesOfEdges : CalV yX8_nodesOfEdges cX8_nodesOfEdges 4 (Option.some Jvm.ClassFile.FieldType.int) 1 := ⟨kc_X8_nodesOfEdges, ki_X8_nodesOfEdges, ks_X8_nodesOfEdges, kin_X8, by decide +kernel, by decide +kernel, by decide +kernel⟩
theorem cf_X8_ownEdges : CalV yX8_ownEdges cX8_ownEdges 6 (Option.some Jvm.ClassFile.FieldType.int) 1 := ⟨kc_X8_ownEdges, ki_X8_ownEdges, ks_X8_ownEdges, kin_X8, by decide +kernel, by decide +kernel, by decide +kernel⟩
theorem cf_X8_splits : CalV yX8_splits cX8_splits 6 (Option.none : Option Jvm.ClassFile.FieldType) 1 := ⟨kc_X8_splits, ki_X8_splits, ks_X8_splits, kin_X8, by decide +kernel, by decide +kernel, by decide +kernel⟩
theorem cf_X8_canAdd : CalV yX8_canAdd cX8_canAdd 3 (Option.some Jvm.ClassFile.FieldType.int) 2 := ⟨kc_X8_canAdd, ki_X8_canAdd, ks_X8_canAdd, kin_X8, by decide +kernel, by decide +kernel, by decide +kernel⟩
theorem cf_X8_obstruction : CalV yX8_obstruction cX8_obstruction 1 (Option.some Jvm.ClassFile.FieldType.int) 0 := ⟨kc_X8_obstruction, ki_X8_obstruction, ks_X8_obstruction, kin_X8, by decide +kernel, by decide +kernel, by decide +kernel⟩
theorem cf_X8_obstructed : CalV yX8_obstructed cX8_obstructed 3 (Option.some Jvm.ClassFile.FieldType.int) 0 := ⟨kc_X8_obstructed, ki_X8_obstructed, ks_X8_obstructed, kin_X8, by decide +kernel, by decide +kernel, by decide +kernel⟩
theorem cf_X8_branching : CalV yX8_branching cX8_branching 6 (Option.some Jvm.ClassFile.FieldType.int) 0 := ⟨kc_X8_branching, ki_X8_branching, ks_X8_branching, kin_X8, by decide +kernel, by decide +kernel, by decide +kernel⟩
theorem cf_X8_guiltyEdges : CalV yX8_guiltyEdges cX8_guiltyEdges 4 (Option.some Jvm.ClassFile.FieldType.int) 0 := ⟨kc_X8_guiltyEdges, ki_X8_guiltyEdges, ks_X8_guiltyEdges, kin_X8, by decide +kernel, by decide +kernel, by decide +kernel⟩
theorem cf_X8_insertionCost : CalV yX8_insertionCost cX8_insertionCost 3 (Option.some Jvm.ClassFile.FieldType.int) 2 := ⟨kc_X8_insertionCost, ki_X8_insertionCost, ks_X8_insertionCost, kin_X8, by decide +kernel, by decide +kernel, by decide +kernel⟩
theorem cf_X8_isRefused : CalV yX8_isRefused cX8_isRefused 3 (Option.some Jvm.ClassFile.FieldType.boolean) 2 := ⟨kc_X8_isRefused, ki_X8_isRefused, ks_X8_isRefused, kin_X8, by decide +kernel, by decide +kernel, by decide +kernel⟩
theorem cf_X8_costOf : CalV yX8_costOf cX8_costOf 5 (Option.some Jvm.ClassFile.FieldType.int) 2 := ⟨kc_X8_costOf, ki_X8_costOf, ks_X8_costOf, kin_X8, by decide +kernel, by decide +kernel, by decide +kernel⟩
theorem cf_X8_looks : CalV yX8_looks cX8_looks 6 (Option.none : Option Jvm.ClassFile.FieldType) 1 := ⟨kc_X8_looks, ki_X8_looks, ks_X8_looks, kin_X8, by decide +kernel, by decide +kernel, by decide +kernel⟩
theorem cf_X8_crossed : CalV yX8_crossed cX8_crossed 14 (Option.some Jvm.ClassFile.FieldType.int) 3 := ⟨kc_X8_crossed, ki_X8_crossed, ks_X8_crossed, kin_X8, by decide +kernel, by decide +kernel, by decide +kernel⟩
theorem cf_X8_setOuter : CalV yX8_setOuter cX8_setOuter 3 (Option.some Jvm.ClassFile.FieldType.int) 1 := ⟨kc_X8_setOuter, ki_X8_setOuter, ks_X8_setOuter, kin_X8, by decide +kernel, by decide +kernel, by decide +kernel⟩
theorem cf_X8_depth : CalV yX8_depth cX8_depth 6 (Option.some Jvm.ClassFile.FieldType.int) 1 := ⟨kc_X8_depth, ki_X8_depth, ks_X8_depth, kin_X8, by decide +kernel, by decide +kernel, by decide +kernel⟩
theorem cf_X8_position : CalV yX8_position cX8_position 4 (Option.some Jvm.ClassFile.FieldType.int) 3 := ⟨kc_X8_position, ki_X8_position, ks_X8_position, kin_X8, by decide +kernel, by decide +kernel, by decide +kernel⟩
theorem cf_X8_relaxes : CalV yX8_relaxes cX8_relaxes 10 (Option.none : Option Jvm.ClassFile.FieldType) 1 := ⟨kc_X8_relaxes, ki_X8_relaxes, ks_X8_relaxes, kin_X8, by decide +kernel, by decide +kernel, by decide +kernel⟩
theorem cf_Jxf58ca_floatToIntBits_5c35a : CalS yJxf58ca_floatToIntBits_5c35a cJxf58ca_floatToIntBits_5c35a 1 (Option.some Jvm.ClassFile.FieldType.int) 1 := ⟨kc_Jxf58ca_floatToIntBits_5c35a, kt_Jxf58ca_floatToIntBits_5c35a, kin_Jxf58ca, by decide +kernel, by decide +kernel, by decide +kernel⟩
theorem cf_Jxf58ca_isNaN_12338 : CalS yJxf58ca_isNaN_12338 cJxf58ca_isNaN_12338 1 (Option.some Jvm.ClassFile.FieldType.boolean) 1 := ⟨kc_Jxf58ca_isNaN_12338, kt_Jxf58ca_isNaN_12338, kin_Jxf58ca, by decide +kernel, by decide +kernel, by decide +kernel⟩
theorem cf_X8_crossings : CalV yX8_crossings cX8_crossings 6 (Option.some Jvm.ClassFile.FieldType.int) 1 := ⟨kc_X8_crossings, ki_X8_crossings, ks_X8_crossings, kin_X8, by decide +kernel, by decide +kernel, by decide +kernel⟩
theorem cf_X8_areApart : CalV yX8_areApart cX8_areApart 6 (Option.some Jvm.ClassFile.FieldType.boolean) 3 := ⟨kc_X8_areApart, ki_X8_areApart, ks_X8_areApart, kin_X8, by decide +kernel, by decide +kernel, by decide +kernel⟩
theorem cf_X8_turnOf : CalV yX8_turnOf cX8_turnOf 4 (Option.some Jvm.ClassFile.FieldType.float) 3 := ⟨kc_X8_turnOf, ki_X8_turnOf, ks_X8_turnOf, kin_X8, by decide +kernel, by decide +kernel, by decide +kernel⟩
theorem cf_X8_extent : CalV yX8_extent cX8_extent 6 (Option.some Jvm.ClassFile.FieldType.int) 1 := ⟨kc_X8_extent, ki_X8_extent, ks_X8_extent, kin_X8, by decide +kernel, by decide +kernel, by decide +kernel⟩
theorem cf_X8_size : CalS yX8_size cX8_size 1 (Option.some Jvm.ClassFile.FieldType.float) 1 := ⟨kc_X8_size, kt_X8_size, kin_X8, by decide +kernel, by decide +kernel, by decide +kernel⟩
