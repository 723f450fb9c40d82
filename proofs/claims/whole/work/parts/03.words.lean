/-! the words that the walks use, by their places; the classes -/
theorem tm1 {w : Cond} (h : w ∈ tables_1_1) : w ∈ tables_1 := List.mem_append_left _ h
theorem tk1 {w : Cond} (i : Nat) (h : tables_1_1[i]? = some w) (hg : goodWord w = true) : w ∈ ALLG := List.mem_filter.mpr ⟨List.mem_append_right _ (tm1 (List.mem_of_getElem? h)), hg⟩
theorem nk1 {w : Cond} (i : Nat) (h : tables_1_1[i]? = some w) (hg : c_nest w = true) : w ∈ NESTL := List.mem_filter.mpr ⟨tm1 (List.mem_of_getElem? h), hg⟩
theorem tm2 {w : Cond} (h : w ∈ tables_1_2) : w ∈ tables_1 := List.mem_append_right _ (List.mem_append_left _ h)
theorem tk2 {w : Cond} (i : Nat) (h : tables_1_2[i]? = some w) (hg : goodWord w = true) : w ∈ ALLG := List.mem_filter.mpr ⟨List.mem_append_right _ (tm2 (List.mem_of_getElem? h)), hg⟩
theorem nk2 {w : Cond} (i : Nat) (h : tables_1_2[i]? = some w) (hg : c_nest w = true) : w ∈ NESTL := List.mem_filter.mpr ⟨tm2 (List.mem_of_getElem? h), hg⟩
theorem tm3 {w : Cond} (h : w ∈ tables_1_3) : w ∈ tables_1 := List.mem_append_right _ (List.mem_append_right _ (List.mem_append_left _ h))
theorem tk3 {w : Cond} (i : Nat) (h : tables_1_3[i]? = some w) (hg : goodWord w = true) : w ∈ ALLG := List.mem_filter.mpr ⟨List.mem_append_right _ (tm3 (List.mem_of_getElem? h)), hg⟩
theorem nk3 {w : Cond} (i : Nat) (h : tables_1_3[i]? = some w) (hg : c_nest w = true) : w ∈ NESTL := List.mem_filter.mpr ⟨tm3 (List.mem_of_getElem? h), hg⟩
theorem tm4 {w : Cond} (h : w ∈ tables_1_4) : w ∈ tables_1 := List.mem_append_right _ (List.mem_append_right _ (List.mem_append_right _ (List.mem_append_left _ h)))
theorem tk4 {w : Cond} (i : Nat) (h : tables_1_4[i]? = some w) (hg : goodWord w = true) : w ∈ ALLG := List.mem_filter.mpr ⟨List.mem_append_right _ (tm4 (List.mem_of_getElem? h)), hg⟩
theorem nk4 {w : Cond} (i : Nat) (h : tables_1_4[i]? = some w) (hg : c_nest w = true) : w ∈ NESTL := List.mem_filter.mpr ⟨tm4 (List.mem_of_getElem? h), hg⟩
theorem tm5 {w : Cond} (h : w ∈ tables_1_5) : w ∈ tables_1 := List.mem_append_right _ (List.mem_append_right _ (List.mem_append_right _ (List.mem_append_right _ (List.mem_append_left _ h))))
theorem tk5 {w : Cond} (i : Nat) (h : tables_1_5[i]? = some w) (hg : goodWord w = true) : w ∈ ALLG := List.mem_filter.mpr ⟨List.mem_append_right _ (tm5 (List.mem_of_getElem? h)), hg⟩
theorem nk5 {w : Cond} (i : Nat) (h : tables_1_5[i]? = some w) (hg : c_nest w = true) : w ∈ NESTL := List.mem_filter.mpr ⟨tm5 (List.mem_of_getElem? h), hg⟩
theorem tm6 {w : Cond} (h : w ∈ tables_1_6) : w ∈ tables_1 := List.mem_append_right _ (List.mem_append_right _ (List.mem_append_right _ (List.mem_append_right _ (List.mem_append_right _ (List.mem_append_left _ h)))))
theorem tk6 {w : Cond} (i : Nat) (h : tables_1_6[i]? = some w) (hg : goodWord w = true) : w ∈ ALLG := List.mem_filter.mpr ⟨List.mem_append_right _ (tm6 (List.mem_of_getElem? h)), hg⟩
theorem nk6 {w : Cond} (i : Nat) (h : tables_1_6[i]? = some w) (hg : c_nest w = true) : w ∈ NESTL := List.mem_filter.mpr ⟨tm6 (List.mem_of_getElem? h), hg⟩
theorem tm7 {w : Cond} (h : w ∈ tables_1_7) : w ∈ tables_1 := List.mem_append_right _ (List.mem_append_right _ (List.mem_append_right _ (List.mem_append_right _ (List.mem_append_right _ (List.mem_append_right _ (List.mem_append_left _ h))))))
theorem tk7 {w : Cond} (i : Nat) (h : tables_1_7[i]? = some w) (hg : goodWord w = true) : w ∈ ALLG := List.mem_filter.mpr ⟨List.mem_append_right _ (tm7 (List.mem_of_getElem? h)), hg⟩
theorem nk7 {w : Cond} (i : Nat) (h : tables_1_7[i]? = some w) (hg : c_nest w = true) : w ∈ NESTL := List.mem_filter.mpr ⟨tm7 (List.mem_of_getElem? h), hg⟩
theorem tm8 {w : Cond} (h : w ∈ tables_1_8) : w ∈ tables_1 := List.mem_append_right _ (List.mem_append_right _ (List.mem_append_right _ (List.mem_append_right _ (List.mem_append_right _ (List.mem_append_right _ (List.mem_append_right _ (List.mem_append_left _ h)))))))
theorem tk8 {w : Cond} (i : Nat) (h : tables_1_8[i]? = some w) (hg : goodWord w = true) : w ∈ ALLG := List.mem_filter.mpr ⟨List.mem_append_right _ (tm8 (List.mem_of_getElem? h)), hg⟩
theorem nk8 {w : Cond} (i : Nat) (h : tables_1_8[i]? = some w) (hg : c_nest w = true) : w ∈ NESTL := List.mem_filter.mpr ⟨tm8 (List.mem_of_getElem? h), hg⟩
theorem tm9 {w : Cond} (h : w ∈ tables_1_9) : w ∈ tables_1 := List.mem_append_right _ (List.mem_append_right _ (List.mem_append_right _ (List.mem_append_right _ (List.mem_append_right _ (List.mem_append_right _ (List.mem_append_right _ (List.mem_append_right _ (h))))))))
theorem tk9 {w : Cond} (i : Nat) (h : tables_1_9[i]? = some w) (hg : goodWord w = true) : w ∈ ALLG := List.mem_filter.mpr ⟨List.mem_append_right _ (tm9 (List.mem_of_getElem? h)), hg⟩
theorem nk9 {w : Cond} (i : Nat) (h : tables_1_9[i]? = some w) (hg : c_nest w = true) : w ∈ NESTL := List.mem_filter.mpr ⟨tm9 (List.mem_of_getElem? h), hg⟩
theorem w1 : (Jvm.Cond.initialized "MillBoats") ∈ ALLG := tk1 1 rfl rfl
theorem w2 : (Jvm.Cond.initialized "MillBoats$River") ∈ ALLG := tk1 2 rfl rfl
theorem w3 : (Jvm.Cond.initialized "MillBoats$Table") ∈ ALLG := tk1 3 rfl rfl
theorem w4 : (Jvm.Cond.initialized "MillBoats$Boat") ∈ ALLG := tk1 4 rfl rfl
theorem w5 : (Jvm.Cond.initialized "java/util/Arrays") ∈ ALLG := tk1 5 rfl rfl
theorem w6 : (Jvm.Cond.initialized "MillBoats$Law") ∈ ALLG := tk1 6 rfl rfl
theorem w7 : (Jvm.Cond.initialized "MillBoats$Book") ∈ ALLG := tk1 7 rfl rfl
theorem w8 : (Jvm.Cond.initialized "java/lang/Math") ∈ ALLG := tk1 8 rfl rfl
theorem w9 : (Jvm.Cond.initialized "MillBoats$Reader") ∈ ALLG := tk1 9 rfl rfl
theorem w10 : (Jvm.Cond.initialized "MillBoats$Text") ∈ ALLG := tk1 10 rfl rfl
theorem w11 : (Jvm.Cond.initialized "java/lang/String") ∈ ALLG := tk1 11 rfl rfl
theorem w12 : (Jvm.Cond.initialized "java/lang/StringLatin1") ∈ ALLG := tk1 12 rfl rfl
theorem w13 : (Jvm.Cond.initialized "jdk/internal/util/Preconditions") ∈ ALLG := tk1 13 rfl rfl
theorem w15 : (Jvm.Cond.initialized "MillBoats$Drift") ∈ ALLG := tk1 15 rfl rfl
theorem w16 : (Jvm.Cond.initialized "MillBoats$Grist") ∈ ALLG := tk1 16 rfl rfl
theorem w17 : (Jvm.Cond.initialized "MillBoats$Planner") ∈ ALLG := tk1 17 rfl rfl
theorem w18 : (Jvm.Cond.initialized "MillBoats$Mover") ∈ ALLG := tk1 18 rfl rfl
theorem w19 : (Jvm.Cond.initialized "MillBoatsModel") ∈ ALLG := tk1 19 rfl rfl
theorem w20 : (Jvm.Cond.initialized "java/lang/System") ∈ ALLG := tk1 20 rfl rfl
theorem w21 : (Jvm.Cond.initialized "java/lang/Integer") ∈ ALLG := tk1 21 rfl rfl
theorem w31 : (Jvm.Cond.methodLink "MillBoats" (3 : Nat) ({ cls := "java/lang/Object", name := "<init>", desc := "()V" } : Jvm.MethodName)) ∈ ALLG := tk1 31 rfl rfl
theorem w32 : (Jvm.Cond.instanceMethod ({ cls := "java/lang/Object", name := "<init>", desc := "()V" } : Jvm.MethodName)) ∈ ALLG := tk1 32 rfl rfl
theorem w33 : (Jvm.Cond.code ({ cls := "java/lang/Object", name := "<init>", desc := "()V" } : Jvm.MethodName) object_method_1_code (1 : Nat) (Option.none : Option Jvm.ClassFile.FieldType)) ∈ ALLG := tk1 33 rfl rfl
theorem w34 : (Jvm.Cond.classLink "MillBoats" (9 : Nat) "MillBoats$River") ∈ ALLG := tk1 34 rfl rfl
theorem w35 : (Jvm.Cond.instantiable "MillBoats$River" (6 : Nat)) ∈ ALLG := tk1 35 rfl rfl
theorem w36 : (Jvm.Cond.methodLink "MillBoats" (11 : Nat) ({ cls := "MillBoats$River", name := "<init>", desc := "()V" } : Jvm.MethodName)) ∈ ALLG := tk1 36 rfl rfl
theorem w37 : (Jvm.Cond.instanceMethod ({ cls := "MillBoats$River", name := "<init>", desc := "()V" } : Jvm.MethodName)) ∈ ALLG := tk1 37 rfl rfl
theorem w38 : (Jvm.Cond.code ({ cls := "MillBoats$River", name := "<init>", desc := "()V" } : Jvm.MethodName) prog_10_method_1_code (2 : Nat) (Option.none : Option Jvm.ClassFile.FieldType)) ∈ ALLG := tk1 38 rfl rfl
theorem w39 : (Jvm.Cond.methodLink "MillBoats$River" (3 : Nat) ({ cls := "java/lang/Object", name := "<init>", desc := "()V" } : Jvm.MethodName)) ∈ ALLG := tk1 39 rfl rfl
theorem w40 : (Jvm.Cond.classLink "MillBoats$River" (15 : Nat) "MillBoats$Table") ∈ ALLG := tk1 40 rfl rfl
theorem w42 : (Jvm.Cond.classLink "MillBoats$River" (21 : Nat) "MillBoats$Boat") ∈ ALLG := tk1 42 rfl rfl
theorem w44 : (Jvm.Cond.instantiable "MillBoats$Table" (3 : Nat)) ∈ ALLG := tk1 44 rfl rfl
theorem w45 : (Jvm.Cond.methodLinkNest "MillBoats$River" (33 : Nat) ({ cls := "MillBoats$Table", name := "<init>", desc := "()V" } : Jvm.MethodName) "MillBoats") ∈ NESTL := nk1 45 rfl rfl
theorem w46 : (Jvm.Cond.instanceMethod ({ cls := "MillBoats$Table", name := "<init>", desc := "()V" } : Jvm.MethodName)) ∈ ALLG := tk1 46 rfl rfl
theorem w47 : (Jvm.Cond.code ({ cls := "MillBoats$Table", name := "<init>", desc := "()V" } : Jvm.MethodName) prog_11_method_1_code (1 : Nat) (Option.none : Option Jvm.ClassFile.FieldType)) ∈ ALLG := tk1 47 rfl rfl
theorem w48 : (Jvm.Cond.methodLink "MillBoats$Table" (1 : Nat) ({ cls := "java/lang/Object", name := "<init>", desc := "()V" } : Jvm.MethodName)) ∈ ALLG := tk1 48 rfl rfl
theorem w49 : (Jvm.Cond.fieldLink "MillBoats$Table" (9 : Nat) "MillBoats$Table" "xs" "[I") ∈ ALLG := tk1 49 rfl rfl
theorem w50 : (Jvm.Cond.fieldLink "MillBoats$Table" (13 : Nat) "MillBoats$Table" "ys" "[I") ∈ ALLG := tk1 50 rfl rfl
theorem w51 : (Jvm.Cond.fieldLink "MillBoats$Table" (16 : Nat) "MillBoats$Table" "size" "I") ∈ ALLG := tk1 51 rfl rfl
theorem w59 : (Jvm.Cond.arrayClass Jvm.ClassFile.FieldType.int) ∈ ALLG := tk1 59 rfl rfl
theorem w60 : (Jvm.Cond.instantiable "MillBoats$Boat" (7 : Nat)) ∈ ALLG := tk1 60 rfl rfl
theorem w61 : (Jvm.Cond.methodLinkNest "MillBoats$River" (34 : Nat) ({ cls := "MillBoats$Boat", name := "<init>", desc := "()V" } : Jvm.MethodName) "MillBoats") ∈ NESTL := nk1 61 rfl rfl
theorem w62 : (Jvm.Cond.instanceMethod ({ cls := "MillBoats$Boat", name := "<init>", desc := "()V" } : Jvm.MethodName)) ∈ ALLG := tk1 62 rfl rfl
theorem w63 : (Jvm.Cond.code ({ cls := "MillBoats$Boat", name := "<init>", desc := "()V" } : Jvm.MethodName) prog_2_method_1_code (1 : Nat) (Option.none : Option Jvm.ClassFile.FieldType)) ∈ ALLG := tk1 63 rfl rfl
theorem w64 : (Jvm.Cond.methodLink "MillBoats$Boat" (3 : Nat) ({ cls := "java/lang/Object", name := "<init>", desc := "()V" } : Jvm.MethodName)) ∈ ALLG := tk1 64 rfl rfl
theorem w65 : (Jvm.Cond.fieldLinkNest "MillBoats$River" (49 : Nat) "MillBoats$Boat" "draught" "I" "MillBoats") ∈ NESTL := nk1 65 rfl rfl
theorem w66 : (Jvm.Cond.fieldLinkNest "MillBoats$Law" (89 : Nat) "MillBoats$Boat" "draught" "I" "MillBoats") ∈ NESTL := nk1 66 rfl rfl
theorem w67 : (Jvm.Cond.fieldLinkNest "MillBoats" (249 : Nat) "MillBoats$Boat" "draught" "I" "MillBoats") ∈ NESTL := nk1 67 rfl rfl
theorem w68 : (Jvm.Cond.fieldLinkNest "MillBoats$River" (52 : Nat) "MillBoats$Boat" "wheel" "I" "MillBoats") ∈ NESTL := nk1 68 rfl rfl
theorem w69 : (Jvm.Cond.fieldLinkNest "MillBoats$Law" (94 : Nat) "MillBoats$Boat" "wheel" "I" "MillBoats") ∈ NESTL := nk1 69 rfl rfl
theorem w70 : (Jvm.Cond.fieldLinkNest "MillBoats" (252 : Nat) "MillBoats$Boat" "wheel" "I" "MillBoats") ∈ NESTL := nk1 70 rfl rfl
theorem w71 : (Jvm.Cond.fieldLinkNest "MillBoats$River" (55 : Nat) "MillBoats$Boat" "chain" "I" "MillBoats") ∈ NESTL := nk1 71 rfl rfl
theorem w72 : (Jvm.Cond.fieldLinkNest "MillBoats$Drift" (47 : Nat) "MillBoats$Boat" "chain" "I" "MillBoats") ∈ NESTL := nk1 72 rfl rfl
theorem w73 : (Jvm.Cond.fieldLinkNest "MillBoats$Planner" (160 : Nat) "MillBoats$Boat" "chain" "I" "MillBoats") ∈ NESTL := nk1 73 rfl rfl
theorem w74 : (Jvm.Cond.fieldLinkNest "MillBoats" (255 : Nat) "MillBoats$Boat" "chain" "I" "MillBoats") ∈ NESTL := nk1 74 rfl rfl
theorem w75 : (Jvm.Cond.fieldLink "MillBoats$Boat" (15 : Nat) "MillBoats$Boat" "sinceDressed" "I") ∈ ALLG := tk1 75 rfl rfl
theorem w76 : (Jvm.Cond.fieldLink "MillBoats$Boat" (24 : Nat) "MillBoats$Boat" "ground" "I") ∈ ALLG := tk1 76 rfl rfl
theorem w77 : (Jvm.Cond.fieldLinkNest "MillBoats$River" (114 : Nat) "MillBoats$Boat" "ground" "I" "MillBoats") ∈ NESTL := nk1 77 rfl rfl
theorem w78 : (Jvm.Cond.fieldLinkNest "MillBoats" (261 : Nat) "MillBoats$Boat" "ground" "I" "MillBoats") ∈ NESTL := nk1 78 rfl rfl
theorem w79 : (Jvm.Cond.fieldLink "MillBoats$Boat" (27 : Nat) "MillBoats$Boat" "tolls" "I") ∈ ALLG := tk1 79 rfl rfl
theorem w80 : (Jvm.Cond.fieldLinkNest "MillBoats$River" (117 : Nat) "MillBoats$Boat" "tolls" "I" "MillBoats") ∈ NESTL := nk1 80 rfl rfl
theorem w81 : (Jvm.Cond.fieldLinkNest "MillBoats" (264 : Nat) "MillBoats$Boat" "tolls" "I" "MillBoats") ∈ NESTL := nk1 81 rfl rfl
theorem w82 : (Jvm.Cond.fieldLink "MillBoats$Boat" (9 : Nat) "MillBoats$Boat" "dressedOn" "I") ∈ ALLG := tk1 82 rfl rfl
theorem w83 : (Jvm.Cond.fieldLinkNest "MillBoats$Grist" (71 : Nat) "MillBoats$Boat" "dressedOn" "I" "MillBoats") ∈ NESTL := nk1 83 rfl rfl
theorem w84 : (Jvm.Cond.fieldLinkNest "MillBoats" (267 : Nat) "MillBoats$Boat" "dressedOn" "I" "MillBoats") ∈ NESTL := nk1 84 rfl rfl
theorem w100 : (Jvm.Cond.methodLink "MillBoats$River" (35 : Nat) ({ cls := "java/util/Arrays", name := "fill", desc := "([II)V" } : Jvm.MethodName)) ∈ ALLG := tk1 100 rfl rfl
theorem w101 : (Jvm.Cond.static ({ cls := "java/util/Arrays", name := "fill", desc := "([II)V" } : Jvm.MethodName)) ∈ ALLG := tk1 101 rfl rfl
theorem w102 : (Jvm.Cond.code ({ cls := "java/util/Arrays", name := "fill", desc := "([II)V" } : Jvm.MethodName) prog_29_method_103_code (4 : Nat) (Option.none : Option Jvm.ClassFile.FieldType)) ∈ ALLG := tk1 102 rfl rfl
theorem w103 : (Jvm.Cond.fieldLink "MillBoats$River" (9 : Nat) "MillBoats$River" "beds" "[I") ∈ ALLG := tk1 103 rfl rfl
theorem w104 : (Jvm.Cond.fieldLinkNest "MillBoats" (68 : Nat) "MillBoats$River" "beds" "[I" "MillBoats") ∈ NESTL := nk1 104 rfl rfl
theorem w105 : (Jvm.Cond.fieldLink "MillBoats$River" (17 : Nat) "MillBoats$River" "tables" "[LMillBoats$Table;") ∈ ALLG := tk1 105 rfl rfl
theorem w106 : (Jvm.Cond.fieldLinkNest "MillBoats" (71 : Nat) "MillBoats$River" "tables" "[LMillBoats$Table;" "MillBoats") ∈ NESTL := nk1 106 rfl rfl
theorem w107 : (Jvm.Cond.fieldLinkNest "MillBoats$Drift" (87 : Nat) "MillBoats$River" "tables" "[LMillBoats$Table;" "MillBoats") ∈ NESTL := nk1 107 rfl rfl
theorem w108 : (Jvm.Cond.fieldLink "MillBoats$River" (23 : Nat) "MillBoats$River" "boats" "[LMillBoats$Boat;") ∈ ALLG := tk1 108 rfl rfl
theorem w109 : (Jvm.Cond.fieldLinkNest "MillBoats$Drift" (43 : Nat) "MillBoats$River" "boats" "[LMillBoats$Boat;" "MillBoats") ∈ NESTL := nk1 109 rfl rfl
theorem w110 : (Jvm.Cond.fieldLinkNest "MillBoats$Grist" (67 : Nat) "MillBoats$River" "boats" "[LMillBoats$Boat;" "MillBoats") ∈ NESTL := nk1 110 rfl rfl
theorem w111 : (Jvm.Cond.fieldLinkNest "MillBoats$Law" (72 : Nat) "MillBoats$River" "boats" "[LMillBoats$Boat;" "MillBoats") ∈ NESTL := nk1 111 rfl rfl
theorem w112 : (Jvm.Cond.fieldLinkNest "MillBoats" (99 : Nat) "MillBoats$River" "boats" "[LMillBoats$Boat;" "MillBoats") ∈ NESTL := nk1 112 rfl rfl
theorem w113 : (Jvm.Cond.fieldLinkNest "MillBoats$Planner" (156 : Nat) "MillBoats$River" "boats" "[LMillBoats$Boat;" "MillBoats") ∈ NESTL := nk1 113 rfl rfl
theorem w114 : (Jvm.Cond.fieldLink "MillBoats$River" (27 : Nat) "MillBoats$River" "lies" "[I") ∈ ALLG := tk1 114 rfl rfl
theorem w115 : (Jvm.Cond.fieldLinkNest "MillBoats$Mover" (45 : Nat) "MillBoats$River" "lies" "[I" "MillBoats") ∈ NESTL := nk1 115 rfl rfl
theorem w116 : (Jvm.Cond.fieldLinkNest "MillBoats$Drift" (36 : Nat) "MillBoats$River" "lies" "[I" "MillBoats") ∈ NESTL := nk1 116 rfl rfl
theorem w117 : (Jvm.Cond.fieldLinkNest "MillBoats$Planner" (113 : Nat) "MillBoats$River" "lies" "[I" "MillBoats") ∈ NESTL := nk1 117 rfl rfl
theorem w118 : (Jvm.Cond.fieldLinkNest "MillBoats$Grist" (52 : Nat) "MillBoats$River" "lies" "[I" "MillBoats") ∈ NESTL := nk1 118 rfl rfl
theorem w119 : (Jvm.Cond.fieldLinkNest "MillBoats" (92 : Nat) "MillBoats$River" "lies" "[I" "MillBoats") ∈ NESTL := nk1 119 rfl rfl
theorem w120 : (Jvm.Cond.fieldLink "MillBoats$River" (30 : Nat) "MillBoats$River" "without" "[I") ∈ ALLG := tk1 120 rfl rfl
theorem w121 : (Jvm.Cond.fieldLink "MillBoats$River" (41 : Nat) "MillBoats$River" "size" "I") ∈ ALLG := tk1 121 rfl rfl
theorem w122 : (Jvm.Cond.fieldLinkNest "MillBoats$Drift" (33 : Nat) "MillBoats$River" "size" "I" "MillBoats") ∈ NESTL := nk1 122 rfl rfl
theorem w123 : (Jvm.Cond.fieldLinkNest "MillBoats$Grist" (45 : Nat) "MillBoats$River" "size" "I" "MillBoats") ∈ NESTL := nk1 123 rfl rfl
theorem w124 : (Jvm.Cond.fieldLinkNest "MillBoats$Planner" (141 : Nat) "MillBoats$River" "size" "I" "MillBoats") ∈ NESTL := nk1 124 rfl rfl
theorem w125 : (Jvm.Cond.fieldLinkNest "MillBoats" (271 : Nat) "MillBoats$River" "size" "I" "MillBoats") ∈ NESTL := nk1 125 rfl rfl
theorem w139 : (Jvm.Cond.classLink "MillBoats" (16 : Nat) "MillBoats$Law") ∈ ALLG := tk1 139 rfl rfl
theorem w140 : (Jvm.Cond.instantiable "MillBoats$Law" (8 : Nat)) ∈ ALLG := tk1 140 rfl rfl
theorem w141 : (Jvm.Cond.methodLink "MillBoats" (18 : Nat) ({ cls := "MillBoats$Law", name := "<init>", desc := "(LMillBoats$River;)V" } : Jvm.MethodName)) ∈ ALLG := tk1 141 rfl rfl
theorem w142 : (Jvm.Cond.instanceMethod ({ cls := "MillBoats$Law", name := "<init>", desc := "(LMillBoats$River;)V" } : Jvm.MethodName)) ∈ ALLG := tk1 142 rfl rfl
theorem w143 : (Jvm.Cond.code ({ cls := "MillBoats$Law", name := "<init>", desc := "(LMillBoats$River;)V" } : Jvm.MethodName) prog_6_method_1_code (3 : Nat) (Option.none : Option Jvm.ClassFile.FieldType)) ∈ ALLG := tk1 143 rfl rfl
theorem w144 : (Jvm.Cond.methodLink "MillBoats$Law" (3 : Nat) ({ cls := "java/lang/Object", name := "<init>", desc := "()V" } : Jvm.MethodName)) ∈ ALLG := tk1 144 rfl rfl
theorem w145 : (Jvm.Cond.classLink "MillBoats$Law" (9 : Nat) "MillBoats$Book") ∈ ALLG := tk1 145 rfl rfl
theorem w146 : (Jvm.Cond.instantiable "MillBoats$Book" (4 : Nat)) ∈ ALLG := tk1 146 rfl rfl
theorem w147 : (Jvm.Cond.methodLink "MillBoats$Law" (13 : Nat) ({ cls := "MillBoats$Book", name := "<init>", desc := "(I)V" } : Jvm.MethodName)) ∈ ALLG := tk1 147 rfl rfl
theorem w148 : (Jvm.Cond.instanceMethod ({ cls := "MillBoats$Book", name := "<init>", desc := "(I)V" } : Jvm.MethodName)) ∈ ALLG := tk1 148 rfl rfl
theorem w149 : (Jvm.Cond.code ({ cls := "MillBoats$Book", name := "<init>", desc := "(I)V" } : Jvm.MethodName) prog_3_method_1_code (3 : Nat) (Option.none : Option Jvm.ClassFile.FieldType)) ∈ ALLG := tk1 149 rfl rfl
theorem w150 : (Jvm.Cond.methodLink "MillBoats$Book" (3 : Nat) ({ cls := "java/lang/Object", name := "<init>", desc := "()V" } : Jvm.MethodName)) ∈ ALLG := tk1 150 rfl rfl
theorem w151 : (Jvm.Cond.methodLink "MillBoats$Book" (9 : Nat) ({ cls := "java/lang/Math", name := "max", desc := "(II)I" } : Jvm.MethodName)) ∈ ALLG := tk1 151 rfl rfl
theorem w152 : (Jvm.Cond.static ({ cls := "java/lang/Math", name := "max", desc := "(II)I" } : Jvm.MethodName)) ∈ ALLG := tk1 152 rfl rfl
theorem w153 : (Jvm.Cond.code ({ cls := "java/lang/Math", name := "max", desc := "(II)I" } : Jvm.MethodName) prog_20_method_65_code (2 : Nat) (Option.some Jvm.ClassFile.FieldType.int)) ∈ ALLG := tk1 153 rfl rfl
theorem w154 : (Jvm.Cond.fieldLink "MillBoats$Book" (15 : Nat) "MillBoats$Book" "days" "[I") ∈ ALLG := tk1 154 rfl rfl
theorem w155 : (Jvm.Cond.fieldLink "MillBoats$Book" (21 : Nat) "MillBoats$Book" "toldOn" "[I") ∈ ALLG := tk1 155 rfl rfl
theorem w156 : (Jvm.Cond.fieldLink "MillBoats$Book" (24 : Nat) "MillBoats$Book" "values" "[I") ∈ ALLG := tk1 156 rfl rfl
theorem w157 : (Jvm.Cond.fieldLink "MillBoats$Book" (27 : Nat) "MillBoats$Book" "size" "I") ∈ ALLG := tk1 157 rfl rfl
theorem w158 : (Jvm.Cond.fieldLinkNest "MillBoats$Law" (51 : Nat) "MillBoats$Book" "size" "I" "MillBoats") ∈ NESTL := nk1 158 rfl rfl
theorem w169 : (Jvm.Cond.classLink "MillBoats$Law" (27 : Nat) "MillBoats$Text") ∈ ALLG := tk1 169 rfl rfl
theorem w171 : (Jvm.Cond.classLink "MillBoats$Law" (33 : Nat) "MillBoats$Reader") ∈ ALLG := tk1 171 rfl rfl
theorem w172 : (Jvm.Cond.instantiable "MillBoats$Reader" (13 : Nat)) ∈ ALLG := tk1 172 rfl rfl
theorem w173 : (Jvm.Cond.methodLink "MillBoats$Law" (35 : Nat) ({ cls := "MillBoats$Reader", name := "<init>", desc := "()V" } : Jvm.MethodName)) ∈ ALLG := tk1 173 rfl rfl
theorem w174 : (Jvm.Cond.instanceMethod ({ cls := "MillBoats$Reader", name := "<init>", desc := "()V" } : Jvm.MethodName)) ∈ ALLG := tk1 174 rfl rfl
theorem w175 : (Jvm.Cond.code ({ cls := "MillBoats$Reader", name := "<init>", desc := "()V" } : Jvm.MethodName) prog_9_method_1_code (1 : Nat) (Option.none : Option Jvm.ClassFile.FieldType)) ∈ ALLG := tk1 175 rfl rfl
theorem w176 : (Jvm.Cond.methodLink "MillBoats$Reader" (3 : Nat) ({ cls := "java/lang/Object", name := "<init>", desc := "()V" } : Jvm.MethodName)) ∈ ALLG := tk1 176 rfl rfl
theorem w177 : (Jvm.Cond.classLink "MillBoats$Reader" (28 : Nat) "MillBoats$Text") ∈ ALLG := tk1 177 rfl rfl
theorem w178 : (Jvm.Cond.instantiable "MillBoats$Text" (7 : Nat)) ∈ ALLG := tk1 178 rfl rfl
theorem w179 : (Jvm.Cond.methodLink "MillBoats$Reader" (30 : Nat) ({ cls := "MillBoats$Text", name := "<init>", desc := "(II)V" } : Jvm.MethodName)) ∈ ALLG := tk1 179 rfl rfl
theorem w180 : (Jvm.Cond.instanceMethod ({ cls := "MillBoats$Text", name := "<init>", desc := "(II)V" } : Jvm.MethodName)) ∈ ALLG := tk1 180 rfl rfl
theorem w181 : (Jvm.Cond.code ({ cls := "MillBoats$Text", name := "<init>", desc := "(II)V" } : Jvm.MethodName) prog_12_method_1_code (5 : Nat) (Option.none : Option Jvm.ClassFile.FieldType)) ∈ ALLG := tk1 181 rfl rfl
theorem w182 : (Jvm.Cond.methodLink "MillBoats$Text" (1 : Nat) ({ cls := "java/lang/Object", name := "<init>", desc := "()V" } : Jvm.MethodName)) ∈ ALLG := tk1 182 rfl rfl
theorem w183 : (Jvm.Cond.methodLink "MillBoats$Text" (7 : Nat) ({ cls := "java/lang/Math", name := "max", desc := "(II)I" } : Jvm.MethodName)) ∈ ALLG := tk1 183 rfl rfl
theorem w184 : (Jvm.Cond.fieldLink "MillBoats$Text" (13 : Nat) "MillBoats$Text" "code" "[I") ∈ ALLG := tk1 184 rfl rfl
theorem w185 : (Jvm.Cond.fieldLinkNest "MillBoats$Law" (144 : Nat) "MillBoats$Text" "code" "[I" "MillBoats") ∈ NESTL := nk1 185 rfl rfl
theorem w186 : (Jvm.Cond.fieldLink "MillBoats$Text" (19 : Nat) "MillBoats$Text" "kinds" "[I") ∈ ALLG := tk1 186 rfl rfl
theorem w187 : (Jvm.Cond.fieldLinkNest "MillBoats$Law" (119 : Nat) "MillBoats$Text" "kinds" "[I" "MillBoats") ∈ NESTL := nk1 187 rfl rfl
theorem w188 : (Jvm.Cond.fieldLink "MillBoats$Text" (22 : Nat) "MillBoats$Text" "codeEnds" "[I") ∈ ALLG := tk1 188 rfl rfl
theorem w189 : (Jvm.Cond.fieldLinkNest "MillBoats$Law" (141 : Nat) "MillBoats$Text" "codeEnds" "[I" "MillBoats") ∈ NESTL := nk1 189 rfl rfl
theorem w190 : (Jvm.Cond.fieldLink "MillBoats$Text" (25 : Nat) "MillBoats$Text" "firsts" "[I") ∈ ALLG := tk1 190 rfl rfl
theorem w191 : (Jvm.Cond.fieldLinkNest "MillBoats$Law" (126 : Nat) "MillBoats$Text" "firsts" "[I" "MillBoats") ∈ NESTL := nk1 191 rfl rfl
theorem w192 : (Jvm.Cond.fieldLink "MillBoats$Text" (28 : Nat) "MillBoats$Text" "seconds" "[I") ∈ ALLG := tk1 192 rfl rfl
theorem w193 : (Jvm.Cond.fieldLinkNest "MillBoats$Law" (134 : Nat) "MillBoats$Text" "seconds" "[I" "MillBoats") ∈ NESTL := nk1 193 rfl rfl
theorem w194 : (Jvm.Cond.fieldLink "MillBoats$Text" (31 : Nat) "MillBoats$Text" "codeSize" "I") ∈ ALLG := tk1 194 rfl rfl
theorem w195 : (Jvm.Cond.fieldLink "MillBoats$Text" (35 : Nat) "MillBoats$Text" "size" "I") ∈ ALLG := tk1 195 rfl rfl
theorem w196 : (Jvm.Cond.fieldLinkNest "MillBoats$Law" (67 : Nat) "MillBoats$Text" "size" "I" "MillBoats") ∈ NESTL := nk1 196 rfl rfl
theorem w197 : (Jvm.Cond.fieldLinkNest "MillBoats$Reader" (126 : Nat) "MillBoats$Text" "size" "I" "MillBoats") ∈ NESTL := nk1 197 rfl rfl
theorem w213 : (Jvm.Cond.arrayClass Jvm.ClassFile.FieldType.long) ∈ ALLG := tk1 213 rfl rfl
theorem w215 : (Jvm.Cond.methodLink "MillBoats$Reader" (43 : Nat) ({ cls := "MillBoats$Reader", name := "spell", desc := "(Ljava/lang/String;[J)V" } : Jvm.MethodName)) ∈ ALLG := tk1 215 rfl rfl
theorem w216 : (Jvm.Cond.static ({ cls := "MillBoats$Reader", name := "spell", desc := "(Ljava/lang/String;[J)V" } : Jvm.MethodName)) ∈ ALLG := tk1 216 rfl rfl
theorem w217 : (Jvm.Cond.code ({ cls := "MillBoats$Reader", name := "spell", desc := "(Ljava/lang/String;[J)V" } : Jvm.MethodName) prog_9_method_2_code (4 : Nat) (Option.none : Option Jvm.ClassFile.FieldType)) ∈ ALLG := tk1 217 rfl rfl
theorem w218 : (Jvm.Cond.methodLink "MillBoats$Reader" (49 : Nat) ({ cls := "java/lang/String", name := "length", desc := "()I" } : Jvm.MethodName)) ∈ ALLG := tk1 218 rfl rfl
theorem w219 : (Jvm.Cond.instanceMethod ({ cls := "java/lang/String", name := "length", desc := "()I" } : Jvm.MethodName)) ∈ ALLG := tk1 219 rfl rfl
theorem w220 : (Jvm.Cond.selects "java/lang/String" ({ cls := "java/lang/String", name := "length", desc := "()I" } : Jvm.MethodName) ({ cls := "java/lang/String", name := "length", desc := "()I" } : Jvm.MethodName)) ∈ ALLG := tk1 220 rfl rfl
theorem w221 : (Jvm.Cond.code ({ cls := "java/lang/String", name := "length", desc := "()I" } : Jvm.MethodName) prog_22_method_54_code (1 : Nat) (Option.some Jvm.ClassFile.FieldType.int)) ∈ ALLG := tk1 221 rfl rfl
theorem w222 : (Jvm.Cond.methodLink "java/lang/String" (335 : Nat) ({ cls := "java/lang/String", name := "coder", desc := "()B" } : Jvm.MethodName)) ∈ ALLG := tk1 222 rfl rfl
theorem w223 : (Jvm.Cond.instanceMethod ({ cls := "java/lang/String", name := "coder", desc := "()B" } : Jvm.MethodName)) ∈ ALLG := tk1 223 rfl rfl
theorem w224 : (Jvm.Cond.selects "java/lang/String" ({ cls := "java/lang/String", name := "coder", desc := "()B" } : Jvm.MethodName) ({ cls := "java/lang/String", name := "coder", desc := "()B" } : Jvm.MethodName)) ∈ ALLG := tk1 224 rfl rfl
theorem w225 : (Jvm.Cond.code ({ cls := "java/lang/String", name := "coder", desc := "()B" } : Jvm.MethodName) prog_22_method_152_code (1 : Nat) (Option.some Jvm.ClassFile.FieldType.byte)) ∈ ALLG := tk1 225 rfl rfl
theorem w226 : (Jvm.Cond.fieldLink "java/lang/String" (38 : Nat) "java/lang/String" "COMPACT_STRINGS" "Z") ∈ ALLG := tk1 226 rfl rfl
theorem w228 : (Jvm.Cond.methodLink "MillBoats$Reader" (55 : Nat) ({ cls := "java/lang/String", name := "charAt", desc := "(I)C" } : Jvm.MethodName)) ∈ ALLG := tk1 228 rfl rfl
theorem w229 : (Jvm.Cond.instanceMethod ({ cls := "java/lang/String", name := "charAt", desc := "(I)C" } : Jvm.MethodName)) ∈ ALLG := tk1 229 rfl rfl
theorem w230 : (Jvm.Cond.selects "java/lang/String" ({ cls := "java/lang/String", name := "charAt", desc := "(I)C" } : Jvm.MethodName) ({ cls := "java/lang/String", name := "charAt", desc := "(I)C" } : Jvm.MethodName)) ∈ ALLG := tk1 230 rfl rfl
theorem w231 : (Jvm.Cond.code ({ cls := "java/lang/String", name := "charAt", desc := "(I)C" } : Jvm.MethodName) prog_22_method_56_code (2 : Nat) (Option.some Jvm.ClassFile.FieldType.char)) ∈ ALLG := tk1 231 rfl rfl
theorem w232 : (Jvm.Cond.methodLink "java/lang/String" (492 : Nat) ({ cls := "java/lang/String", name := "isLatin1", desc := "()Z" } : Jvm.MethodName)) ∈ ALLG := tk1 232 rfl rfl
theorem w233 : (Jvm.Cond.instanceMethod ({ cls := "java/lang/String", name := "isLatin1", desc := "()Z" } : Jvm.MethodName)) ∈ ALLG := tk1 233 rfl rfl
theorem w234 : (Jvm.Cond.selects "java/lang/String" ({ cls := "java/lang/String", name := "isLatin1", desc := "()Z" } : Jvm.MethodName) ({ cls := "java/lang/String", name := "isLatin1", desc := "()Z" } : Jvm.MethodName)) ∈ ALLG := tk1 234 rfl rfl
theorem w235 : (Jvm.Cond.code ({ cls := "java/lang/String", name := "isLatin1", desc := "()Z" } : Jvm.MethodName) prog_22_method_154_code (1 : Nat) (Option.some Jvm.ClassFile.FieldType.boolean)) ∈ ALLG := tk1 235 rfl rfl
theorem w236 : (Jvm.Cond.methodLink "java/lang/String" (495 : Nat) ({ cls := "java/lang/StringLatin1", name := "charAt", desc := "([BI)C" } : Jvm.MethodName)) ∈ ALLG := tk1 236 rfl rfl
theorem w237 : (Jvm.Cond.static ({ cls := "java/lang/StringLatin1", name := "charAt", desc := "([BI)C" } : Jvm.MethodName)) ∈ ALLG := tk1 237 rfl rfl
theorem w238 : (Jvm.Cond.code ({ cls := "java/lang/StringLatin1", name := "charAt", desc := "([BI)C" } : Jvm.MethodName) prog_23_method_2_code (2 : Nat) (Option.some Jvm.ClassFile.FieldType.char)) ∈ ALLG := tk1 238 rfl rfl
theorem w239 : (Jvm.Cond.methodLink "java/lang/StringLatin1" (9 : Nat) ({ cls := "java/lang/String", name := "checkIndex", desc := "(II)V" } : Jvm.MethodName)) ∈ ALLG := tk1 239 rfl rfl
theorem w240 : (Jvm.Cond.static ({ cls := "java/lang/String", name := "checkIndex", desc := "(II)V" } : Jvm.MethodName)) ∈ ALLG := tk2 0 rfl rfl
theorem w241 : (Jvm.Cond.code ({ cls := "java/lang/String", name := "checkIndex", desc := "(II)V" } : Jvm.MethodName) prog_22_method_155_code (2 : Nat) (Option.none : Option Jvm.ClassFile.FieldType)) ∈ ALLG := tk2 1 rfl rfl
theorem w242 : (Jvm.Cond.fieldLink "java/lang/String" (1053 : Nat) "jdk/internal/util/Preconditions" "SIOOBE_FORMATTER" "Ljava/util/function/BiFunction;") ∈ ALLG := tk2 2 rfl rfl
theorem w244 : (Jvm.Cond.methodLink "java/lang/String" (1059 : Nat) ({ cls := "jdk/internal/util/Preconditions", name := "checkIndex", desc := "(IILjava/util/function/BiFunction;)I" } : Jvm.MethodName)) ∈ ALLG := tk2 4 rfl rfl
theorem w245 : (Jvm.Cond.static ({ cls := "jdk/internal/util/Preconditions", name := "checkIndex", desc := "(IILjava/util/function/BiFunction;)I" } : Jvm.MethodName)) ∈ ALLG := tk2 5 rfl rfl
theorem w246 : (Jvm.Cond.code ({ cls := "jdk/internal/util/Preconditions", name := "checkIndex", desc := "(IILjava/util/function/BiFunction;)I" } : Jvm.MethodName) prog_31_method_11_code (3 : Nat) (Option.some Jvm.ClassFile.FieldType.int)) ∈ ALLG := tk2 6 rfl rfl
theorem w266 : (Jvm.Cond.methodLink "MillBoats$Reader" (59 : Nat) ({ cls := "MillBoats$Reader", name := "withLetter", desc := "(JI)J" } : Jvm.MethodName)) ∈ ALLG := tk2 26 rfl rfl
theorem w267 : (Jvm.Cond.static ({ cls := "MillBoats$Reader", name := "withLetter", desc := "(JI)J" } : Jvm.MethodName)) ∈ ALLG := tk2 27 rfl rfl
theorem w268 : (Jvm.Cond.code ({ cls := "MillBoats$Reader", name := "withLetter", desc := "(JI)J" } : Jvm.MethodName) prog_9_method_3_code (3 : Nat) (Option.some Jvm.ClassFile.FieldType.long)) ∈ ALLG := tk2 28 rfl rfl
theorem w269 : (Jvm.Cond.constantLong "MillBoats$Reader" (63 : Nat) (32 : Int64)) ∈ ALLG := tk2 29 rfl rfl
theorem w271 : (Jvm.Cond.fieldLink "MillBoats$Reader" (9 : Nat) "MillBoats$Reader" "kinds" "[I") ∈ ALLG := tk2 31 rfl rfl
theorem w272 : (Jvm.Cond.fieldLink "MillBoats$Reader" (15 : Nat) "MillBoats$Reader" "places" "[I") ∈ ALLG := tk2 32 rfl rfl
theorem w273 : (Jvm.Cond.fieldLink "MillBoats$Reader" (18 : Nat) "MillBoats$Reader" "values" "[J") ∈ ALLG := tk2 33 rfl rfl
theorem w274 : (Jvm.Cond.fieldLink "MillBoats$Reader" (22 : Nat) "MillBoats$Reader" "keywords" "[J") ∈ ALLG := tk2 34 rfl rfl
theorem w275 : (Jvm.Cond.fieldLink "MillBoats$Reader" (25 : Nat) "MillBoats$Reader" "names" "[J") ∈ ALLG := tk2 35 rfl rfl
theorem w276 : (Jvm.Cond.fieldLink "MillBoats$Reader" (33 : Nat) "MillBoats$Reader" "draft" "LMillBoats$Text;") ∈ ALLG := tk2 36 rfl rfl
theorem w277 : (Jvm.Cond.fieldLinkNest "MillBoats$Law" (59 : Nat) "MillBoats$Reader" "draft" "LMillBoats$Text;" "MillBoats") ∈ NESTL := nk2 37 rfl rfl
theorem w278 : (Jvm.Cond.fieldLink "MillBoats$Reader" (97 : Nat) "MillBoats$Reader" "tokens" "I") ∈ ALLG := tk2 38 rfl rfl
theorem w279 : (Jvm.Cond.fieldLink "MillBoats$Reader" (87 : Nat) "MillBoats$Reader" "at" "I") ∈ ALLG := tk2 39 rfl rfl
theorem w280 : (Jvm.Cond.fieldLink "MillBoats$Reader" (90 : Nat) "MillBoats$Reader" "kind" "I") ∈ ALLG := tk2 40 rfl rfl
theorem w281 : (Jvm.Cond.fieldLink "MillBoats$Reader" (78 : Nat) "MillBoats$Reader" "lets" "I") ∈ ALLG := tk2 41 rfl rfl
theorem w282 : (Jvm.Cond.fieldLink "MillBoats$Reader" (81 : Nat) "MillBoats$Reader" "open" "I") ∈ ALLG := tk2 42 rfl rfl
theorem w283 : (Jvm.Cond.fieldLink "MillBoats$Reader" (84 : Nat) "MillBoats$Reader" "fault" "I") ∈ ALLG := tk2 43 rfl rfl
theorem w284 : (Jvm.Cond.fieldLink "MillBoats$Reader" (37 : Nat) "MillBoats$Reader" "faultPlace" "I") ∈ ALLG := tk2 44 rfl rfl
theorem w285 : (Jvm.Cond.fieldLinkNest "MillBoats" (180 : Nat) "MillBoats$Reader" "faultPlace" "I" "MillBoats") ∈ NESTL := nk2 45 rfl rfl
theorem w313 : (Jvm.Cond.arrayClass Jvm.ClassFile.FieldType.byte) ∈ ALLG := tk2 73 rfl rfl
theorem w314 : (Jvm.Cond.fieldLink "MillBoats$Law" (47 : Nat) "MillBoats$Law" "river" "LMillBoats$River;") ∈ ALLG := tk2 74 rfl rfl
theorem w315 : (Jvm.Cond.fieldLink "MillBoats$Law" (16 : Nat) "MillBoats$Law" "heights" "LMillBoats$Book;") ∈ ALLG := tk2 75 rfl rfl
theorem w316 : (Jvm.Cond.fieldLinkNest "MillBoats$Planner" (53 : Nat) "MillBoats$Law" "heights" "LMillBoats$Book;" "MillBoats") ∈ NESTL := nk2 76 rfl rfl
theorem w317 : (Jvm.Cond.fieldLinkNest "MillBoats" (132 : Nat) "MillBoats$Law" "heights" "LMillBoats$Book;" "MillBoats") ∈ NESTL := nk2 77 rfl rfl
theorem w318 : (Jvm.Cond.fieldLink "MillBoats$Law" (20 : Nat) "MillBoats$Law" "ices" "LMillBoats$Book;") ∈ ALLG := tk2 78 rfl rfl
theorem w319 : (Jvm.Cond.fieldLinkNest "MillBoats$Planner" (68 : Nat) "MillBoats$Law" "ices" "LMillBoats$Book;" "MillBoats") ∈ NESTL := nk2 79 rfl rfl
theorem w320 : (Jvm.Cond.fieldLinkNest "MillBoats" (142 : Nat) "MillBoats$Law" "ices" "LMillBoats$Book;" "MillBoats") ∈ NESTL := nk2 80 rfl rfl
theorem w321 : (Jvm.Cond.fieldLink "MillBoats$Law" (23 : Nat) "MillBoats$Law" "books" "[LMillBoats$Book;") ∈ ALLG := tk2 81 rfl rfl
theorem w322 : (Jvm.Cond.fieldLink "MillBoats$Law" (29 : Nat) "MillBoats$Law" "texts" "[LMillBoats$Text;") ∈ ALLG := tk2 82 rfl rfl
theorem w323 : (Jvm.Cond.fieldLink "MillBoats$Law" (36 : Nat) "MillBoats$Law" "reader" "LMillBoats$Reader;") ∈ ALLG := tk2 83 rfl rfl
theorem w324 : (Jvm.Cond.fieldLinkNest "MillBoats" (167 : Nat) "MillBoats$Law" "reader" "LMillBoats$Reader;" "MillBoats") ∈ NESTL := nk2 84 rfl rfl
theorem w325 : (Jvm.Cond.fieldLink "MillBoats$Law" (40 : Nat) "MillBoats$Law" "given" "[I") ∈ ALLG := tk2 85 rfl rfl
theorem w326 : (Jvm.Cond.fieldLink "MillBoats$Law" (44 : Nat) "MillBoats$Law" "stack" "[I") ∈ ALLG := tk2 86 rfl rfl
theorem w344 : (Jvm.Cond.classLink "MillBoats" (25 : Nat) "MillBoats$Drift") ∈ ALLG := tk2 104 rfl rfl
theorem w345 : (Jvm.Cond.instantiable "MillBoats$Drift" (6 : Nat)) ∈ ALLG := tk2 105 rfl rfl
theorem w346 : (Jvm.Cond.methodLink "MillBoats" (27 : Nat) ({ cls := "MillBoats$Drift", name := "<init>", desc := "(LMillBoats$River;)V" } : Jvm.MethodName)) ∈ ALLG := tk2 106 rfl rfl
theorem w347 : (Jvm.Cond.instanceMethod ({ cls := "MillBoats$Drift", name := "<init>", desc := "(LMillBoats$River;)V" } : Jvm.MethodName)) ∈ ALLG := tk2 107 rfl rfl
theorem w348 : (Jvm.Cond.code ({ cls := "MillBoats$Drift", name := "<init>", desc := "(LMillBoats$River;)V" } : Jvm.MethodName) prog_4_method_1_code (2 : Nat) (Option.none : Option Jvm.ClassFile.FieldType)) ∈ ALLG := tk2 108 rfl rfl
theorem w349 : (Jvm.Cond.methodLink "MillBoats$Drift" (3 : Nat) ({ cls := "java/lang/Object", name := "<init>", desc := "()V" } : Jvm.MethodName)) ∈ ALLG := tk2 109 rfl rfl
theorem w350 : (Jvm.Cond.fieldLink "MillBoats$Drift" (15 : Nat) "MillBoats$Drift" "river" "LMillBoats$River;") ∈ ALLG := tk2 110 rfl rfl
theorem w351 : (Jvm.Cond.fieldLink "MillBoats$Drift" (11 : Nat) "MillBoats$Drift" "events" "[I") ∈ ALLG := tk2 111 rfl rfl
theorem w352 : (Jvm.Cond.fieldLink "MillBoats$Drift" (19 : Nat) "MillBoats$Drift" "size" "I") ∈ ALLG := tk2 112 rfl rfl
theorem w353 : (Jvm.Cond.fieldLinkNest "MillBoats" (275 : Nat) "MillBoats$Drift" "size" "I" "MillBoats") ∈ NESTL := nk2 113 rfl rfl
theorem w354 : (Jvm.Cond.fieldLink "MillBoats$Drift" (23 : Nat) "MillBoats$Drift" "day" "I") ∈ ALLG := tk2 114 rfl rfl
theorem w355 : (Jvm.Cond.fieldLink "MillBoats$Drift" (26 : Nat) "MillBoats$Drift" "height" "I") ∈ ALLG := tk2 115 rfl rfl
theorem w356 : (Jvm.Cond.fieldLink "MillBoats$Drift" (29 : Nat) "MillBoats$Drift" "ice" "Z") ∈ ALLG := tk2 116 rfl rfl
theorem w370 : (Jvm.Cond.classLink "MillBoats" (32 : Nat) "MillBoats$Grist") ∈ ALLG := tk2 130 rfl rfl
theorem w371 : (Jvm.Cond.instantiable "MillBoats$Grist" (10 : Nat)) ∈ ALLG := tk2 131 rfl rfl
theorem w372 : (Jvm.Cond.methodLink "MillBoats" (34 : Nat) ({ cls := "MillBoats$Grist", name := "<init>", desc := "(LMillBoats$River;LMillBoats$Law;)V" } : Jvm.MethodName)) ∈ ALLG := tk2 132 rfl rfl
theorem w373 : (Jvm.Cond.instanceMethod ({ cls := "MillBoats$Grist", name := "<init>", desc := "(LMillBoats$River;LMillBoats$Law;)V" } : Jvm.MethodName)) ∈ ALLG := tk2 133 rfl rfl
theorem w374 : (Jvm.Cond.code ({ cls := "MillBoats$Grist", name := "<init>", desc := "(LMillBoats$River;LMillBoats$Law;)V" } : Jvm.MethodName) prog_5_method_1_code (3 : Nat) (Option.none : Option Jvm.ClassFile.FieldType)) ∈ ALLG := tk2 134 rfl rfl
theorem w375 : (Jvm.Cond.methodLink "MillBoats$Grist" (3 : Nat) ({ cls := "java/lang/Object", name := "<init>", desc := "()V" } : Jvm.MethodName)) ∈ ALLG := tk2 135 rfl rfl
theorem w376 : (Jvm.Cond.fieldLink "MillBoats$Grist" (33 : Nat) "MillBoats$Grist" "river" "LMillBoats$River;") ∈ ALLG := tk2 136 rfl rfl
theorem w377 : (Jvm.Cond.fieldLink "MillBoats$Grist" (37 : Nat) "MillBoats$Grist" "law" "LMillBoats$Law;") ∈ ALLG := tk2 137 rfl rfl
theorem w378 : (Jvm.Cond.fieldLink "MillBoats$Grist" (9 : Nat) "MillBoats$Grist" "skiffs" "[I") ∈ ALLG := tk2 138 rfl rfl
theorem w379 : (Jvm.Cond.fieldLinkNest "MillBoats" (205 : Nat) "MillBoats$Grist" "skiffs" "[I" "MillBoats") ∈ NESTL := nk2 139 rfl rfl
theorem w380 : (Jvm.Cond.fieldLink "MillBoats$Grist" (15 : Nat) "MillBoats$Grist" "rows" "[I") ∈ ALLG := tk2 140 rfl rfl
theorem w381 : (Jvm.Cond.fieldLink "MillBoats$Grist" (18 : Nat) "MillBoats$Grist" "shores" "[I") ∈ ALLG := tk2 141 rfl rfl
theorem w382 : (Jvm.Cond.fieldLink "MillBoats$Grist" (21 : Nat) "MillBoats$Grist" "sacks" "[I") ∈ ALLG := tk2 142 rfl rfl
theorem w383 : (Jvm.Cond.fieldLink "MillBoats$Grist" (24 : Nat) "MillBoats$Grist" "left" "[I") ∈ ALLG := tk2 143 rfl rfl
theorem w384 : (Jvm.Cond.fieldLink "MillBoats$Grist" (27 : Nat) "MillBoats$Grist" "tolls" "[I") ∈ ALLG := tk2 144 rfl rfl
theorem w385 : (Jvm.Cond.fieldLink "MillBoats$Grist" (30 : Nat) "MillBoats$Grist" "lastDays" "[I") ∈ ALLG := tk2 145 rfl rfl
theorem w386 : (Jvm.Cond.fieldLink "MillBoats$Grist" (41 : Nat) "MillBoats$Grist" "size" "I") ∈ ALLG := tk2 146 rfl rfl
theorem w387 : (Jvm.Cond.fieldLinkNest "MillBoats" (274 : Nat) "MillBoats$Grist" "size" "I" "MillBoats") ∈ NESTL := nk2 147 rfl rfl
theorem w409 : (Jvm.Cond.classLink "MillBoats" (41 : Nat) "MillBoats$Planner") ∈ ALLG := tk2 169 rfl rfl
theorem w410 : (Jvm.Cond.instantiable "MillBoats$Planner" (16 : Nat)) ∈ ALLG := tk2 170 rfl rfl
theorem w411 : (Jvm.Cond.methodLink "MillBoats" (43 : Nat) ({ cls := "MillBoats$Planner", name := "<init>", desc := "(LMillBoats$River;LMillBoats$Law;)V" } : Jvm.MethodName)) ∈ ALLG := tk2 171 rfl rfl
theorem w412 : (Jvm.Cond.instanceMethod ({ cls := "MillBoats$Planner", name := "<init>", desc := "(LMillBoats$River;LMillBoats$Law;)V" } : Jvm.MethodName)) ∈ ALLG := tk2 172 rfl rfl
theorem w413 : (Jvm.Cond.code ({ cls := "MillBoats$Planner", name := "<init>", desc := "(LMillBoats$River;LMillBoats$Law;)V" } : Jvm.MethodName) prog_8_method_1_code (3 : Nat) (Option.none : Option Jvm.ClassFile.FieldType)) ∈ ALLG := tk2 173 rfl rfl
theorem w414 : (Jvm.Cond.methodLink "MillBoats$Planner" (3 : Nat) ({ cls := "java/lang/Object", name := "<init>", desc := "()V" } : Jvm.MethodName)) ∈ ALLG := tk2 174 rfl rfl
theorem w415 : (Jvm.Cond.classLink "MillBoats$Planner" (18 : Nat) "[[I") ∈ ALLG := tk2 175 rfl rfl
theorem w417 : (Jvm.Cond.fieldLink "MillBoats$Planner" (41 : Nat) "MillBoats$Planner" "river" "LMillBoats$River;") ∈ ALLG := tk2 177 rfl rfl
theorem w418 : (Jvm.Cond.fieldLink "MillBoats$Planner" (45 : Nat) "MillBoats$Planner" "law" "LMillBoats$Law;") ∈ ALLG := tk2 178 rfl rfl
theorem w419 : (Jvm.Cond.fieldLink "MillBoats$Planner" (9 : Nat) "MillBoats$Planner" "berths" "[I") ∈ ALLG := tk2 179 rfl rfl
theorem w420 : (Jvm.Cond.fieldLinkNest "MillBoats$Mover" (60 : Nat) "MillBoats$Planner" "berths" "[I" "MillBoats") ∈ NESTL := nk2 180 rfl rfl
theorem w421 : (Jvm.Cond.fieldLinkNest "MillBoats" (230 : Nat) "MillBoats$Planner" "berths" "[I" "MillBoats") ∈ NESTL := nk2 181 rfl rfl
theorem w422 : (Jvm.Cond.fieldLink "MillBoats$Planner" (49 : Nat) "MillBoats$Planner" "bits" "I") ∈ ALLG := tk2 182 rfl rfl
theorem w423 : (Jvm.Cond.fieldLink "MillBoats$Planner" (15 : Nat) "MillBoats$Planner" "who" "[I") ∈ ALLG := tk2 183 rfl rfl
theorem w424 : (Jvm.Cond.fieldLink "MillBoats$Planner" (20 : Nat) "MillBoats$Planner" "choices" "[[I") ∈ ALLG := tk2 184 rfl rfl
theorem w425 : (Jvm.Cond.fieldLink "MillBoats$Planner" (23 : Nat) "MillBoats$Planner" "choiceSizes" "[I") ∈ ALLG := tk2 185 rfl rfl
theorem w426 : (Jvm.Cond.fieldLink "MillBoats$Planner" (26 : Nat) "MillBoats$Planner" "choiceTops" "[[I") ∈ ALLG := tk2 186 rfl rfl
theorem w427 : (Jvm.Cond.fieldLink "MillBoats$Planner" (29 : Nat) "MillBoats$Planner" "levelTops" "[I") ∈ ALLG := tk2 187 rfl rfl
theorem w428 : (Jvm.Cond.fieldLink "MillBoats$Planner" (32 : Nat) "MillBoats$Planner" "ways" "[I") ∈ ALLG := tk2 188 rfl rfl
theorem w429 : (Jvm.Cond.fieldLink "MillBoats$Planner" (35 : Nat) "MillBoats$Planner" "trial" "[I") ∈ ALLG := tk2 189 rfl rfl
theorem w430 : (Jvm.Cond.fieldLink "MillBoats$Planner" (38 : Nat) "MillBoats$Planner" "best" "[I") ∈ ALLG := tk2 190 rfl rfl
theorem w431 : (Jvm.Cond.fieldLink "MillBoats$Planner" (91 : Nat) "MillBoats$Planner" "wanted" "I") ∈ ALLG := tk2 191 rfl rfl
theorem w432 : (Jvm.Cond.fieldLink "MillBoats$Planner" (101 : Nat) "MillBoats$Planner" "bestSum" "I") ∈ ALLG := tk2 192 rfl rfl
theorem w433 : (Jvm.Cond.fieldLink "MillBoats$Planner" (65 : Nat) "MillBoats$Planner" "height" "I") ∈ ALLG := tk2 193 rfl rfl
theorem w434 : (Jvm.Cond.fieldLink "MillBoats$Planner" (74 : Nat) "MillBoats$Planner" "ice" "Z") ∈ ALLG := tk2 194 rfl rfl
theorem w468 : (Jvm.Cond.classLink "MillBoats" (48 : Nat) "MillBoats$Mover") ∈ ALLG := tk2 228 rfl rfl
theorem w469 : (Jvm.Cond.instantiable "MillBoats$Mover" (10 : Nat)) ∈ ALLG := tk2 229 rfl rfl
theorem w470 : (Jvm.Cond.methodLink "MillBoats" (50 : Nat) ({ cls := "MillBoats$Mover", name := "<init>", desc := "(LMillBoats$River;LMillBoats$Planner;)V" } : Jvm.MethodName)) ∈ ALLG := tk2 230 rfl rfl
theorem w471 : (Jvm.Cond.instanceMethod ({ cls := "MillBoats$Mover", name := "<init>", desc := "(LMillBoats$River;LMillBoats$Planner;)V" } : Jvm.MethodName)) ∈ ALLG := tk2 231 rfl rfl
theorem w472 : (Jvm.Cond.code ({ cls := "MillBoats$Mover", name := "<init>", desc := "(LMillBoats$River;LMillBoats$Planner;)V" } : Jvm.MethodName) prog_7_method_1_code (3 : Nat) (Option.none : Option Jvm.ClassFile.FieldType)) ∈ ALLG := tk2 232 rfl rfl
theorem w473 : (Jvm.Cond.methodLink "MillBoats$Mover" (3 : Nat) ({ cls := "java/lang/Object", name := "<init>", desc := "()V" } : Jvm.MethodName)) ∈ ALLG := tk2 233 rfl rfl
theorem w474 : (Jvm.Cond.fieldLink "MillBoats$Mover" (27 : Nat) "MillBoats$Mover" "river" "LMillBoats$River;") ∈ ALLG := tk2 234 rfl rfl
theorem w475 : (Jvm.Cond.fieldLink "MillBoats$Mover" (31 : Nat) "MillBoats$Mover" "planner" "LMillBoats$Planner;") ∈ ALLG := tk2 235 rfl rfl
theorem w476 : (Jvm.Cond.fieldLink "MillBoats$Mover" (9 : Nat) "MillBoats$Mover" "movers" "[I") ∈ ALLG := tk2 236 rfl rfl
theorem w477 : (Jvm.Cond.fieldLinkNest "MillBoats" (236 : Nat) "MillBoats$Mover" "movers" "[I" "MillBoats") ∈ NESTL := nk2 237 rfl rfl
theorem w478 : (Jvm.Cond.fieldLink "MillBoats$Mover" (15 : Nat) "MillBoats$Mover" "steps" "[I") ∈ ALLG := tk2 238 rfl rfl
theorem w479 : (Jvm.Cond.fieldLinkNest "MillBoats" (239 : Nat) "MillBoats$Mover" "steps" "[I" "MillBoats") ∈ NESTL := nk2 239 rfl rfl
theorem w480 : (Jvm.Cond.fieldLink "MillBoats$Mover" (18 : Nat) "MillBoats$Mover" "trial" "[I") ∈ ALLG := tk3 0 rfl rfl
theorem w481 : (Jvm.Cond.fieldLink "MillBoats$Mover" (21 : Nat) "MillBoats$Mover" "away" "[I") ∈ ALLG := tk3 1 rfl rfl
theorem w482 : (Jvm.Cond.fieldLink "MillBoats$Mover" (24 : Nat) "MillBoats$Mover" "queue" "[I") ∈ ALLG := tk3 2 rfl rfl
theorem w483 : (Jvm.Cond.fieldLink "MillBoats$Mover" (77 : Nat) "MillBoats$Mover" "queued" "I") ∈ ALLG := tk3 3 rfl rfl
theorem w484 : (Jvm.Cond.fieldLink "MillBoats$Mover" (41 : Nat) "MillBoats$Mover" "height" "I") ∈ ALLG := tk3 4 rfl rfl
theorem w485 : (Jvm.Cond.fieldLink "MillBoats$Mover" (54 : Nat) "MillBoats$Mover" "found" "I") ∈ ALLG := tk3 5 rfl rfl
theorem w507 : (Jvm.Cond.fieldLink "MillBoats" (12 : Nat) "MillBoats" "river" "LMillBoats$River;") ∈ ALLG := tk3 27 rfl rfl
theorem w508 : (Jvm.Cond.fieldLink "MillBoats" (21 : Nat) "MillBoats" "law" "LMillBoats$Law;") ∈ ALLG := tk3 28 rfl rfl
theorem w509 : (Jvm.Cond.fieldLink "MillBoats" (28 : Nat) "MillBoats" "drift" "LMillBoats$Drift;") ∈ ALLG := tk3 29 rfl rfl
theorem w510 : (Jvm.Cond.fieldLink "MillBoats" (37 : Nat) "MillBoats" "grist" "LMillBoats$Grist;") ∈ ALLG := tk3 30 rfl rfl
theorem w511 : (Jvm.Cond.fieldLink "MillBoats" (44 : Nat) "MillBoats" "planner" "LMillBoats$Planner;") ∈ ALLG := tk3 31 rfl rfl
theorem w512 : (Jvm.Cond.fieldLink "MillBoats" (53 : Nat) "MillBoats" "mover" "LMillBoats$Mover;") ∈ ALLG := tk3 32 rfl rfl
theorem w513 : (Jvm.Cond.fieldLink "MillBoats" (57 : Nat) "MillBoats" "tape" "[I") ∈ ALLG := tk3 33 rfl rfl
theorem w514 : (Jvm.Cond.fieldLink "MillBoats" (154 : Nat) "MillBoats" "tapeSize" "I") ∈ ALLG := tk3 34 rfl rfl
theorem w515 : (Jvm.Cond.fieldLink "MillBoats" (103 : Nat) "MillBoats" "today" "I") ∈ ALLG := tk3 35 rfl rfl
theorem w539 : (Jvm.Cond.methodLink "MillBoats" (61 : Nat) ({ cls := "MillBoats", name := "isBerth", desc := "(I)Z" } : Jvm.MethodName)) ∈ ALLG := tk3 59 rfl rfl
theorem w540 : (Jvm.Cond.static ({ cls := "MillBoats", name := "isBerth", desc := "(I)Z" } : Jvm.MethodName)) ∈ ALLG := tk3 60 rfl rfl
theorem w541 : (Jvm.Cond.code ({ cls := "MillBoats", name := "isBerth", desc := "(I)Z" } : Jvm.MethodName) prog_1_method_43_code (1 : Nat) (Option.some Jvm.ClassFile.FieldType.boolean)) ∈ ALLG := tk3 61 rfl rfl
theorem w542 : (Jvm.Cond.methodLink "MillBoats" (65 : Nat) ({ cls := "MillBoats", name := "isHeight", desc := "(I)Z" } : Jvm.MethodName)) ∈ ALLG := tk3 62 rfl rfl
theorem w543 : (Jvm.Cond.static ({ cls := "MillBoats", name := "isHeight", desc := "(I)Z" } : Jvm.MethodName)) ∈ ALLG := tk3 63 rfl rfl
theorem w544 : (Jvm.Cond.code ({ cls := "MillBoats", name := "isHeight", desc := "(I)Z" } : Jvm.MethodName) prog_1_method_40_code (1 : Nat) (Option.some Jvm.ClassFile.FieldType.boolean)) ∈ ALLG := tk3 64 rfl rfl
theorem w549 : (Jvm.Cond.methodLink "MillBoats" (75 : Nat) ({ cls := "MillBoats$Table", name := "put", desc := "(II)Z" } : Jvm.MethodName)) ∈ ALLG := tk3 69 rfl rfl
theorem w550 : (Jvm.Cond.instanceMethod ({ cls := "MillBoats$Table", name := "put", desc := "(II)Z" } : Jvm.MethodName)) ∈ ALLG := tk3 70 rfl rfl
theorem w551 : (Jvm.Cond.selects "MillBoats$Table" ({ cls := "MillBoats$Table", name := "put", desc := "(II)Z" } : Jvm.MethodName) ({ cls := "MillBoats$Table", name := "put", desc := "(II)Z" } : Jvm.MethodName)) ∈ ALLG := tk3 71 rfl rfl
theorem w552 : (Jvm.Cond.code ({ cls := "MillBoats$Table", name := "put", desc := "(II)Z" } : Jvm.MethodName) prog_11_method_2_code (5 : Nat) (Option.some Jvm.ClassFile.FieldType.boolean)) ∈ ALLG := tk3 72 rfl rfl
theorem w557 : (Jvm.Cond.methodLink "MillBoats" (81 : Nat) ({ cls := "MillBoats$Table", name := "at", desc := "(I)I" } : Jvm.MethodName)) ∈ ALLG := tk3 77 rfl rfl
theorem w558 : (Jvm.Cond.instanceMethod ({ cls := "MillBoats$Table", name := "at", desc := "(I)I" } : Jvm.MethodName)) ∈ ALLG := tk3 78 rfl rfl
theorem w559 : (Jvm.Cond.selects "MillBoats$Table" ({ cls := "MillBoats$Table", name := "at", desc := "(I)I" } : Jvm.MethodName) ({ cls := "MillBoats$Table", name := "at", desc := "(I)I" } : Jvm.MethodName)) ∈ ALLG := tk3 79 rfl rfl
theorem w560 : (Jvm.Cond.code ({ cls := "MillBoats$Table", name := "at", desc := "(I)I" } : Jvm.MethodName) prog_11_method_3_code (5 : Nat) (Option.some Jvm.ClassFile.FieldType.int)) ∈ ALLG := tk3 80 rfl rfl
theorem w561 : (Jvm.Cond.methodLink "MillBoats$Table" (20 : Nat) ({ cls := "java/lang/Math", name := "floorDiv", desc := "(II)I" } : Jvm.MethodName)) ∈ ALLG := tk3 81 rfl rfl
theorem w562 : (Jvm.Cond.static ({ cls := "java/lang/Math", name := "floorDiv", desc := "(II)I" } : Jvm.MethodName)) ∈ ALLG := tk3 82 rfl rfl
theorem w563 : (Jvm.Cond.code ({ cls := "java/lang/Math", name := "floorDiv", desc := "(II)I" } : Jvm.MethodName) prog_20_method_47_code (3 : Nat) (Option.some Jvm.ClassFile.FieldType.int)) ∈ ALLG := tk3 83 rfl rfl
theorem w568 : (Jvm.Cond.methodLink "MillBoats" (85 : Nat) ({ cls := "MillBoats$River", name := "launch", desc := "(III)I" } : Jvm.MethodName)) ∈ ALLG := tk3 88 rfl rfl
theorem w569 : (Jvm.Cond.instanceMethod ({ cls := "MillBoats$River", name := "launch", desc := "(III)I" } : Jvm.MethodName)) ∈ ALLG := tk3 89 rfl rfl
theorem w570 : (Jvm.Cond.selects "MillBoats$River" ({ cls := "MillBoats$River", name := "launch", desc := "(III)I" } : Jvm.MethodName) ({ cls := "MillBoats$River", name := "launch", desc := "(III)I" } : Jvm.MethodName)) ∈ ALLG := tk3 90 rfl rfl
theorem w571 : (Jvm.Cond.code ({ cls := "MillBoats$River", name := "launch", desc := "(III)I" } : Jvm.MethodName) prog_10_method_4_code (5 : Nat) (Option.some Jvm.ClassFile.FieldType.int)) ∈ ALLG := tk3 91 rfl rfl
theorem w576 : (Jvm.Cond.methodLink "MillBoats" (89 : Nat) ({ cls := "MillBoats$River", name := "has", desc := "(I)Z" } : Jvm.MethodName)) ∈ ALLG := tk3 96 rfl rfl
theorem w577 : (Jvm.Cond.instanceMethod ({ cls := "MillBoats$River", name := "has", desc := "(I)Z" } : Jvm.MethodName)) ∈ ALLG := tk3 97 rfl rfl
theorem w578 : (Jvm.Cond.selects "MillBoats$River" ({ cls := "MillBoats$River", name := "has", desc := "(I)Z" } : Jvm.MethodName) ({ cls := "MillBoats$River", name := "has", desc := "(I)Z" } : Jvm.MethodName)) ∈ ALLG := tk3 98 rfl rfl
theorem w579 : (Jvm.Cond.code ({ cls := "MillBoats$River", name := "has", desc := "(I)Z" } : Jvm.MethodName) prog_10_method_2_code (2 : Nat) (Option.some Jvm.ClassFile.FieldType.boolean)) ∈ ALLG := tk3 99 rfl rfl
theorem w580 : (Jvm.Cond.methodLink "MillBoats" (95 : Nat) ({ cls := "MillBoats$River", name := "lyingAt", desc := "(I[I)I" } : Jvm.MethodName)) ∈ ALLG := tk3 100 rfl rfl
theorem w581 : (Jvm.Cond.instanceMethod ({ cls := "MillBoats$River", name := "lyingAt", desc := "(I[I)I" } : Jvm.MethodName)) ∈ ALLG := tk3 101 rfl rfl
theorem w582 : (Jvm.Cond.selects "MillBoats$River" ({ cls := "MillBoats$River", name := "lyingAt", desc := "(I[I)I" } : Jvm.MethodName) ({ cls := "MillBoats$River", name := "lyingAt", desc := "(I[I)I" } : Jvm.MethodName)) ∈ ALLG := tk3 102 rfl rfl
theorem w583 : (Jvm.Cond.code ({ cls := "MillBoats$River", name := "lyingAt", desc := "(I[I)I" } : Jvm.MethodName) prog_10_method_5_code (4 : Nat) (Option.some Jvm.ClassFile.FieldType.int)) ∈ ALLG := tk3 103 rfl rfl
theorem w588 : (Jvm.Cond.methodLink "MillBoats" (107 : Nat) ({ cls := "MillBoats$Boat", name := "dressOn", desc := "(I)Z" } : Jvm.MethodName)) ∈ ALLG := tk3 108 rfl rfl
theorem w589 : (Jvm.Cond.instanceMethod ({ cls := "MillBoats$Boat", name := "dressOn", desc := "(I)Z" } : Jvm.MethodName)) ∈ ALLG := tk3 109 rfl rfl
theorem w590 : (Jvm.Cond.selects "MillBoats$Boat" ({ cls := "MillBoats$Boat", name := "dressOn", desc := "(I)Z" } : Jvm.MethodName) ({ cls := "MillBoats$Boat", name := "dressOn", desc := "(I)Z" } : Jvm.MethodName)) ∈ ALLG := tk3 110 rfl rfl
theorem w591 : (Jvm.Cond.code ({ cls := "MillBoats$Boat", name := "dressOn", desc := "(I)Z" } : Jvm.MethodName) prog_2_method_3_code (2 : Nat) (Option.some Jvm.ClassFile.FieldType.boolean)) ∈ ALLG := tk3 111 rfl rfl
theorem w596 : (Jvm.Cond.methodLink "MillBoats" (112 : Nat) ({ cls := "MillBoats$River", name := "liesAtBerth", desc := "(I)Z" } : Jvm.MethodName)) ∈ ALLG := tk3 116 rfl rfl
theorem w597 : (Jvm.Cond.instanceMethod ({ cls := "MillBoats$River", name := "liesAtBerth", desc := "(I)Z" } : Jvm.MethodName)) ∈ ALLG := tk3 117 rfl rfl
theorem w598 : (Jvm.Cond.selects "MillBoats$River" ({ cls := "MillBoats$River", name := "liesAtBerth", desc := "(I)Z" } : Jvm.MethodName) ({ cls := "MillBoats$River", name := "liesAtBerth", desc := "(I)Z" } : Jvm.MethodName)) ∈ ALLG := tk3 118 rfl rfl
theorem w599 : (Jvm.Cond.code ({ cls := "MillBoats$River", name := "liesAtBerth", desc := "(I)Z" } : Jvm.MethodName) prog_10_method_3_code (2 : Nat) (Option.some Jvm.ClassFile.FieldType.boolean)) ∈ ALLG := tk3 119 rfl rfl
theorem w600 : (Jvm.Cond.methodLink "MillBoats$River" (45 : Nat) ({ cls := "MillBoats$River", name := "has", desc := "(I)Z" } : Jvm.MethodName)) ∈ ALLG := tk3 120 rfl rfl
theorem w601 : (Jvm.Cond.methodLink "MillBoats" (115 : Nat) ({ cls := "MillBoats$River", name := "flowMet", desc := "(I[II)I" } : Jvm.MethodName)) ∈ ALLG := tk3 121 rfl rfl
theorem w602 : (Jvm.Cond.instanceMethod ({ cls := "MillBoats$River", name := "flowMet", desc := "(I[II)I" } : Jvm.MethodName)) ∈ ALLG := tk3 122 rfl rfl
theorem w603 : (Jvm.Cond.selects "MillBoats$River" ({ cls := "MillBoats$River", name := "flowMet", desc := "(I[II)I" } : Jvm.MethodName) ({ cls := "MillBoats$River", name := "flowMet", desc := "(I[II)I" } : Jvm.MethodName)) ∈ ALLG := tk3 123 rfl rfl
theorem w604 : (Jvm.Cond.code ({ cls := "MillBoats$River", name := "flowMet", desc := "(I[II)I" } : Jvm.MethodName) prog_10_method_8_code (8 : Nat) (Option.some Jvm.ClassFile.FieldType.int)) ∈ ALLG := tk3 124 rfl rfl
theorem w605 : (Jvm.Cond.methodLinkNest "MillBoats$River" (62 : Nat) ({ cls := "MillBoats", name := "isBerth", desc := "(I)Z" } : Jvm.MethodName) "MillBoats") ∈ NESTL := nk3 125 rfl rfl
theorem w606 : (Jvm.Cond.methodLinkNest "MillBoats$River" (65 : Nat) ({ cls := "MillBoats", name := "laneOf", desc := "(I)I" } : Jvm.MethodName) "MillBoats") ∈ NESTL := nk3 126 rfl rfl
theorem w607 : (Jvm.Cond.static ({ cls := "MillBoats", name := "laneOf", desc := "(I)I" } : Jvm.MethodName)) ∈ ALLG := tk3 127 rfl rfl
theorem w608 : (Jvm.Cond.code ({ cls := "MillBoats", name := "laneOf", desc := "(I)I" } : Jvm.MethodName) prog_1_method_44_code (1 : Nat) (Option.some Jvm.ClassFile.FieldType.int)) ∈ ALLG := tk3 128 rfl rfl
theorem w609 : (Jvm.Cond.methodLink "MillBoats$River" (69 : Nat) ({ cls := "MillBoats$Table", name := "at", desc := "(I)I" } : Jvm.MethodName)) ∈ ALLG := tk3 129 rfl rfl
theorem w610 : (Jvm.Cond.methodLink "MillBoats$River" (72 : Nat) ({ cls := "MillBoats$River", name := "shadow", desc := "(IIII)I" } : Jvm.MethodName)) ∈ ALLG := tk3 130 rfl rfl
theorem w611 : (Jvm.Cond.static ({ cls := "MillBoats$River", name := "shadow", desc := "(IIII)I" } : Jvm.MethodName)) ∈ ALLG := tk3 131 rfl rfl
theorem w612 : (Jvm.Cond.code ({ cls := "MillBoats$River", name := "shadow", desc := "(IIII)I" } : Jvm.MethodName) prog_10_method_9_code (5 : Nat) (Option.some Jvm.ClassFile.FieldType.int)) ∈ ALLG := tk3 132 rfl rfl
theorem w613 : (Jvm.Cond.methodLink "MillBoats$River" (76 : Nat) ({ cls := "java/lang/Math", name := "max", desc := "(II)I" } : Jvm.MethodName)) ∈ ALLG := tk3 133 rfl rfl
theorem w618 : (Jvm.Cond.methodLink "MillBoats" (119 : Nat) ({ cls := "MillBoats$River", name := "powerHad", desc := "(I[II)I" } : Jvm.MethodName)) ∈ ALLG := tk3 138 rfl rfl
theorem w619 : (Jvm.Cond.instanceMethod ({ cls := "MillBoats$River", name := "powerHad", desc := "(I[II)I" } : Jvm.MethodName)) ∈ ALLG := tk3 139 rfl rfl
theorem w620 : (Jvm.Cond.selects "MillBoats$River" ({ cls := "MillBoats$River", name := "powerHad", desc := "(I[II)I" } : Jvm.MethodName) ({ cls := "MillBoats$River", name := "powerHad", desc := "(I[II)I" } : Jvm.MethodName)) ∈ ALLG := tk3 140 rfl rfl
theorem w621 : (Jvm.Cond.code ({ cls := "MillBoats$River", name := "powerHad", desc := "(I[II)I" } : Jvm.MethodName) prog_10_method_10_code (4 : Nat) (Option.some Jvm.ClassFile.FieldType.int)) ∈ ALLG := tk3 141 rfl rfl
theorem w622 : (Jvm.Cond.methodLink "MillBoats$River" (81 : Nat) ({ cls := "MillBoats$River", name := "bears", desc := "(III)Z" } : Jvm.MethodName)) ∈ ALLG := tk3 142 rfl rfl
theorem w623 : (Jvm.Cond.instanceMethod ({ cls := "MillBoats$River", name := "bears", desc := "(III)Z" } : Jvm.MethodName)) ∈ ALLG := tk3 143 rfl rfl
theorem w624 : (Jvm.Cond.selects "MillBoats$River" ({ cls := "MillBoats$River", name := "bears", desc := "(III)Z" } : Jvm.MethodName) ({ cls := "MillBoats$River", name := "bears", desc := "(III)Z" } : Jvm.MethodName)) ∈ ALLG := tk3 144 rfl rfl
theorem w625 : (Jvm.Cond.code ({ cls := "MillBoats$River", name := "bears", desc := "(III)Z" } : Jvm.MethodName) prog_10_method_7_code (4 : Nat) (Option.some Jvm.ClassFile.FieldType.boolean)) ∈ ALLG := tk3 145 rfl rfl
theorem w626 : (Jvm.Cond.methodLink "MillBoats$River" (58 : Nat) ({ cls := "MillBoats$River", name := "depth", desc := "(II)I" } : Jvm.MethodName)) ∈ ALLG := tk3 146 rfl rfl
theorem w627 : (Jvm.Cond.instanceMethod ({ cls := "MillBoats$River", name := "depth", desc := "(II)I" } : Jvm.MethodName)) ∈ ALLG := tk3 147 rfl rfl
theorem w628 : (Jvm.Cond.selects "MillBoats$River" ({ cls := "MillBoats$River", name := "depth", desc := "(II)I" } : Jvm.MethodName) ({ cls := "MillBoats$River", name := "depth", desc := "(II)I" } : Jvm.MethodName)) ∈ ALLG := tk3 148 rfl rfl
theorem w629 : (Jvm.Cond.code ({ cls := "MillBoats$River", name := "depth", desc := "(II)I" } : Jvm.MethodName) prog_10_method_6_code (4 : Nat) (Option.some Jvm.ClassFile.FieldType.int)) ∈ ALLG := tk3 149 rfl rfl
theorem w630 : (Jvm.Cond.methodLink "MillBoats$River" (85 : Nat) ({ cls := "MillBoats$River", name := "flowMet", desc := "(I[II)I" } : Jvm.MethodName)) ∈ ALLG := tk3 150 rfl rfl
theorem w631 : (Jvm.Cond.methodLink "MillBoats$River" (89 : Nat) ({ cls := "MillBoats$Boat", name := "worn", desc := "()I" } : Jvm.MethodName)) ∈ ALLG := tk3 151 rfl rfl
theorem w632 : (Jvm.Cond.instanceMethod ({ cls := "MillBoats$Boat", name := "worn", desc := "()I" } : Jvm.MethodName)) ∈ ALLG := tk3 152 rfl rfl
theorem w633 : (Jvm.Cond.selects "MillBoats$Boat" ({ cls := "MillBoats$Boat", name := "worn", desc := "()I" } : Jvm.MethodName) ({ cls := "MillBoats$Boat", name := "worn", desc := "()I" } : Jvm.MethodName)) ∈ ALLG := tk3 153 rfl rfl
theorem w634 : (Jvm.Cond.code ({ cls := "MillBoats$Boat", name := "worn", desc := "()I" } : Jvm.MethodName) prog_2_method_2_code (1 : Nat) (Option.some Jvm.ClassFile.FieldType.int)) ∈ ALLG := tk3 154 rfl rfl
theorem w635 : (Jvm.Cond.methodLink "MillBoats$Boat" (18 : Nat) ({ cls := "java/lang/Math", name := "min", desc := "(II)I" } : Jvm.MethodName)) ∈ ALLG := tk3 155 rfl rfl
theorem w636 : (Jvm.Cond.static ({ cls := "java/lang/Math", name := "min", desc := "(II)I" } : Jvm.MethodName)) ∈ ALLG := tk3 156 rfl rfl
theorem w637 : (Jvm.Cond.code ({ cls := "java/lang/Math", name := "min", desc := "(II)I" } : Jvm.MethodName) prog_20_method_69_code (2 : Nat) (Option.some Jvm.ClassFile.FieldType.int)) ∈ ALLG := tk3 157 rfl rfl
theorem w642 : (Jvm.Cond.methodLink "MillBoats" (122 : Nat) ({ cls := "MillBoats$River", name := "pullBorne", desc := "(I[IIZ)I" } : Jvm.MethodName)) ∈ ALLG := tk3 162 rfl rfl
theorem w643 : (Jvm.Cond.instanceMethod ({ cls := "MillBoats$River", name := "pullBorne", desc := "(I[IIZ)I" } : Jvm.MethodName)) ∈ ALLG := tk3 163 rfl rfl
theorem w644 : (Jvm.Cond.selects "MillBoats$River" ({ cls := "MillBoats$River", name := "pullBorne", desc := "(I[IIZ)I" } : Jvm.MethodName) ({ cls := "MillBoats$River", name := "pullBorne", desc := "(I[IIZ)I" } : Jvm.MethodName)) ∈ ALLG := tk3 164 rfl rfl
theorem w645 : (Jvm.Cond.code ({ cls := "MillBoats$River", name := "pullBorne", desc := "(I[IIZ)I" } : Jvm.MethodName) prog_10_method_13_code (6 : Nat) (Option.some Jvm.ClassFile.FieldType.int)) ∈ ALLG := tk3 165 rfl rfl
theorem w650 : (Jvm.Cond.methodLink "MillBoats" (126 : Nat) ({ cls := "MillBoats$River", name := "powerWithout", desc := "(III)I" } : Jvm.MethodName)) ∈ ALLG := tk3 170 rfl rfl
theorem w651 : (Jvm.Cond.instanceMethod ({ cls := "MillBoats$River", name := "powerWithout", desc := "(III)I" } : Jvm.MethodName)) ∈ ALLG := tk3 171 rfl rfl
theorem w652 : (Jvm.Cond.selects "MillBoats$River" ({ cls := "MillBoats$River", name := "powerWithout", desc := "(III)I" } : Jvm.MethodName) ({ cls := "MillBoats$River", name := "powerWithout", desc := "(III)I" } : Jvm.MethodName)) ∈ ALLG := tk3 172 rfl rfl
theorem w653 : (Jvm.Cond.code ({ cls := "MillBoats$River", name := "powerWithout", desc := "(III)I" } : Jvm.MethodName) prog_10_method_12_code (4 : Nat) (Option.some Jvm.ClassFile.FieldType.int)) ∈ ALLG := tk3 173 rfl rfl
theorem w654 : (Jvm.Cond.methodLink "MillBoats$River" (96 : Nat) ({ cls := "java/lang/System", name := "arraycopy", desc := "(Ljava/lang/Object;ILjava/lang/Object;II)V" } : Jvm.MethodName)) ∈ ALLG := tk3 174 rfl rfl
theorem w655 : (Jvm.Cond.static ({ cls := "java/lang/System", name := "arraycopy", desc := "(Ljava/lang/Object;ILjava/lang/Object;II)V" } : Jvm.MethodName)) ∈ ALLG := tk3 175 rfl rfl
theorem w656 : (Jvm.Cond.native ({ cls := "java/lang/System", name := "arraycopy", desc := "(Ljava/lang/Object;ILjava/lang/Object;II)V" } : Jvm.MethodName)) ∈ ALLG := tk3 176 rfl rfl
theorem w657 : (Jvm.Cond.methodLink "MillBoats$River" (102 : Nat) ({ cls := "MillBoats$River", name := "powerHad", desc := "(I[II)I" } : Jvm.MethodName)) ∈ ALLG := tk3 177 rfl rfl
theorem w662 : (Jvm.Cond.methodLink "MillBoats" (129 : Nat) ({ cls := "MillBoats", name := "isDay", desc := "(I)Z" } : Jvm.MethodName)) ∈ ALLG := tk3 182 rfl rfl
theorem w663 : (Jvm.Cond.static ({ cls := "MillBoats", name := "isDay", desc := "(I)Z" } : Jvm.MethodName)) ∈ ALLG := tk3 183 rfl rfl
theorem w664 : (Jvm.Cond.code ({ cls := "MillBoats", name := "isDay", desc := "(I)Z" } : Jvm.MethodName) prog_1_method_39_code (1 : Nat) (Option.some Jvm.ClassFile.FieldType.boolean)) ∈ ALLG := tk3 184 rfl rfl
theorem w665 : (Jvm.Cond.methodLink "MillBoats" (136 : Nat) ({ cls := "MillBoats$Book", name := "tell", desc := "(III)Z" } : Jvm.MethodName)) ∈ ALLG := tk3 185 rfl rfl
theorem w666 : (Jvm.Cond.instanceMethod ({ cls := "MillBoats$Book", name := "tell", desc := "(III)Z" } : Jvm.MethodName)) ∈ ALLG := tk3 186 rfl rfl
theorem w667 : (Jvm.Cond.selects "MillBoats$Book" ({ cls := "MillBoats$Book", name := "tell", desc := "(III)Z" } : Jvm.MethodName) ({ cls := "MillBoats$Book", name := "tell", desc := "(III)Z" } : Jvm.MethodName)) ∈ ALLG := tk3 187 rfl rfl
theorem w668 : (Jvm.Cond.code ({ cls := "MillBoats$Book", name := "tell", desc := "(III)Z" } : Jvm.MethodName) prog_3_method_2_code (4 : Nat) (Option.some Jvm.ClassFile.FieldType.boolean)) ∈ ALLG := tk3 188 rfl rfl
theorem w677 : (Jvm.Cond.methodLink "MillBoats" (145 : Nat) ({ cls := "MillBoats", name := "isKnownDay", desc := "(I)Z" } : Jvm.MethodName)) ∈ ALLG := tk3 197 rfl rfl
theorem w679 : (Jvm.Cond.instanceMethod ({ cls := "MillBoats", name := "isKnownDay", desc := "(I)Z" } : Jvm.MethodName)) ∈ ALLG := tk3 199 rfl rfl
theorem w680 : (Jvm.Cond.code ({ cls := "MillBoats", name := "isKnownDay", desc := "(I)Z" } : Jvm.MethodName) prog_1_method_38_code (2 : Nat) (Option.some Jvm.ClassFile.FieldType.boolean)) ∈ ALLG := tk3 200 rfl rfl
theorem w681 : (Jvm.Cond.methodLink "MillBoats" (148 : Nat) ({ cls := "MillBoats$Book", name := "latestOr", desc := "(III)I" } : Jvm.MethodName)) ∈ ALLG := tk3 201 rfl rfl
theorem w682 : (Jvm.Cond.instanceMethod ({ cls := "MillBoats$Book", name := "latestOr", desc := "(III)I" } : Jvm.MethodName)) ∈ ALLG := tk3 202 rfl rfl
theorem w683 : (Jvm.Cond.selects "MillBoats$Book" ({ cls := "MillBoats$Book", name := "latestOr", desc := "(III)I" } : Jvm.MethodName) ({ cls := "MillBoats$Book", name := "latestOr", desc := "(III)I" } : Jvm.MethodName)) ∈ ALLG := tk3 203 rfl rfl
theorem w684 : (Jvm.Cond.code ({ cls := "MillBoats$Book", name := "latestOr", desc := "(III)I" } : Jvm.MethodName) prog_3_method_4_code (5 : Nat) (Option.some Jvm.ClassFile.FieldType.int)) ∈ ALLG := tk3 204 rfl rfl
theorem w685 : (Jvm.Cond.methodLink "MillBoats$Book" (31 : Nat) ({ cls := "MillBoats$Book", name := "latest", desc := "(II)I" } : Jvm.MethodName)) ∈ ALLG := tk3 205 rfl rfl
theorem w686 : (Jvm.Cond.instanceMethod ({ cls := "MillBoats$Book", name := "latest", desc := "(II)I" } : Jvm.MethodName)) ∈ ALLG := tk3 206 rfl rfl
theorem w687 : (Jvm.Cond.selects "MillBoats$Book" ({ cls := "MillBoats$Book", name := "latest", desc := "(II)I" } : Jvm.MethodName) ({ cls := "MillBoats$Book", name := "latest", desc := "(II)I" } : Jvm.MethodName)) ∈ ALLG := tk3 207 rfl rfl
theorem w688 : (Jvm.Cond.code ({ cls := "MillBoats$Book", name := "latest", desc := "(II)I" } : Jvm.MethodName) prog_3_method_3_code (5 : Nat) (Option.some Jvm.ClassFile.FieldType.int)) ∈ ALLG := tk3 208 rfl rfl
theorem w693 : (Jvm.Cond.methodLink "MillBoats" (151 : Nat) ({ cls := "MillBoats$Book", name := "exactOr", desc := "(III)I" } : Jvm.MethodName)) ∈ ALLG := tk3 213 rfl rfl
theorem w694 : (Jvm.Cond.instanceMethod ({ cls := "MillBoats$Book", name := "exactOr", desc := "(III)I" } : Jvm.MethodName)) ∈ ALLG := tk3 214 rfl rfl
theorem w695 : (Jvm.Cond.selects "MillBoats$Book" ({ cls := "MillBoats$Book", name := "exactOr", desc := "(III)I" } : Jvm.MethodName) ({ cls := "MillBoats$Book", name := "exactOr", desc := "(III)I" } : Jvm.MethodName)) ∈ ALLG := tk3 215 rfl rfl
theorem w696 : (Jvm.Cond.code ({ cls := "MillBoats$Book", name := "exactOr", desc := "(III)I" } : Jvm.MethodName) prog_3_method_5_code (5 : Nat) (Option.some Jvm.ClassFile.FieldType.int)) ∈ ALLG := tk3 216 rfl rfl
theorem w701 : (Jvm.Cond.methodLink "MillBoats" (157 : Nat) ({ cls := "MillBoats", name := "addBytes", desc := "(I)V" } : Jvm.MethodName)) ∈ ALLG := tk3 221 rfl rfl
theorem w703 : (Jvm.Cond.instanceMethod ({ cls := "MillBoats", name := "addBytes", desc := "(I)V" } : Jvm.MethodName)) ∈ ALLG := tk3 223 rfl rfl
theorem w704 : (Jvm.Cond.code ({ cls := "MillBoats", name := "addBytes", desc := "(I)V" } : Jvm.MethodName) prog_1_method_37_code (3 : Nat) (Option.none : Option Jvm.ClassFile.FieldType)) ∈ ALLG := tk3 224 rfl rfl
theorem w713 : (Jvm.Cond.methodLink "MillBoats" (161 : Nat) ({ cls := "MillBoats", name := "isShore", desc := "(I)Z" } : Jvm.MethodName)) ∈ ALLG := tk3 233 rfl rfl
theorem w714 : (Jvm.Cond.static ({ cls := "MillBoats", name := "isShore", desc := "(I)Z" } : Jvm.MethodName)) ∈ ALLG := tk3 234 rfl rfl
theorem w715 : (Jvm.Cond.code ({ cls := "MillBoats", name := "isShore", desc := "(I)Z" } : Jvm.MethodName) prog_1_method_41_code (1 : Nat) (Option.some Jvm.ClassFile.FieldType.boolean)) ∈ ALLG := tk3 235 rfl rfl
theorem w716 : (Jvm.Cond.methodLink "MillBoats" (164 : Nat) ({ cls := "MillBoats$Law", name := "isFull", desc := "(I)Z" } : Jvm.MethodName)) ∈ ALLG := tk3 236 rfl rfl
theorem w717 : (Jvm.Cond.instanceMethod ({ cls := "MillBoats$Law", name := "isFull", desc := "(I)Z" } : Jvm.MethodName)) ∈ ALLG := tk3 237 rfl rfl
theorem w718 : (Jvm.Cond.selects "MillBoats$Law" ({ cls := "MillBoats$Law", name := "isFull", desc := "(I)Z" } : Jvm.MethodName) ({ cls := "MillBoats$Law", name := "isFull", desc := "(I)Z" } : Jvm.MethodName)) ∈ ALLG := tk3 238 rfl rfl
theorem w719 : (Jvm.Cond.code ({ cls := "MillBoats$Law", name := "isFull", desc := "(I)Z" } : Jvm.MethodName) prog_6_method_2_code (2 : Nat) (Option.some Jvm.ClassFile.FieldType.boolean)) ∈ ALLG := tk3 239 rfl rfl
theorem w720 : (Jvm.Cond.methodLink "MillBoats" (171 : Nat) ({ cls := "MillBoats$Reader", name := "read", desc := "([II)I" } : Jvm.MethodName)) ∈ ALLG := tk4 0 rfl rfl
theorem w721 : (Jvm.Cond.instanceMethod ({ cls := "MillBoats$Reader", name := "read", desc := "([II)I" } : Jvm.MethodName)) ∈ ALLG := tk4 1 rfl rfl
theorem w722 : (Jvm.Cond.selects "MillBoats$Reader" ({ cls := "MillBoats$Reader", name := "read", desc := "([II)I" } : Jvm.MethodName) ({ cls := "MillBoats$Reader", name := "read", desc := "([II)I" } : Jvm.MethodName)) ∈ ALLG := tk4 2 rfl rfl
theorem w723 : (Jvm.Cond.code ({ cls := "MillBoats$Reader", name := "read", desc := "([II)I" } : Jvm.MethodName) prog_9_method_4_code (5 : Nat) (Option.some Jvm.ClassFile.FieldType.int)) ∈ ALLG := tk4 3 rfl rfl
theorem w724 : (Jvm.Cond.methodLink "MillBoats$Reader" (65 : Nat) ({ cls := "java/lang/Math", name := "min", desc := "(II)I" } : Jvm.MethodName)) ∈ ALLG := tk4 4 rfl rfl
theorem w725 : (Jvm.Cond.methodLink "MillBoats$Reader" (71 : Nat) ({ cls := "MillBoats$Reader", name := "split", desc := "([II)V" } : Jvm.MethodName)) ∈ ALLG := tk4 5 rfl rfl
theorem w727 : (Jvm.Cond.instanceMethod ({ cls := "MillBoats$Reader", name := "split", desc := "([II)V" } : Jvm.MethodName)) ∈ ALLG := tk4 7 rfl rfl
theorem w728 : (Jvm.Cond.code ({ cls := "MillBoats$Reader", name := "split", desc := "([II)V" } : Jvm.MethodName) prog_9_method_5_code (6 : Nat) (Option.none : Option Jvm.ClassFile.FieldType)) ∈ ALLG := tk4 8 rfl rfl
theorem w729 : (Jvm.Cond.methodLink "MillBoats$Reader" (100 : Nat) ({ cls := "MillBoats$Reader", name := "isLetter", desc := "(I)Z" } : Jvm.MethodName)) ∈ ALLG := tk4 9 rfl rfl
theorem w730 : (Jvm.Cond.static ({ cls := "MillBoats$Reader", name := "isLetter", desc := "(I)Z" } : Jvm.MethodName)) ∈ ALLG := tk4 10 rfl rfl
theorem w731 : (Jvm.Cond.code ({ cls := "MillBoats$Reader", name := "isLetter", desc := "(I)Z" } : Jvm.MethodName) prog_9_method_8_code (1 : Nat) (Option.some Jvm.ClassFile.FieldType.boolean)) ∈ ALLG := tk4 11 rfl rfl
theorem w732 : (Jvm.Cond.methodLink "MillBoats$Reader" (104 : Nat) ({ cls := "MillBoats$Reader", name := "splitWord", desc := "([III)I" } : Jvm.MethodName)) ∈ ALLG := tk4 12 rfl rfl
theorem w734 : (Jvm.Cond.instanceMethod ({ cls := "MillBoats$Reader", name := "splitWord", desc := "([III)I" } : Jvm.MethodName)) ∈ ALLG := tk4 14 rfl rfl
theorem w735 : (Jvm.Cond.code ({ cls := "MillBoats$Reader", name := "splitWord", desc := "([III)I" } : Jvm.MethodName) prog_9_method_6_code (9 : Nat) (Option.some Jvm.ClassFile.FieldType.int)) ∈ ALLG := tk4 15 rfl rfl
theorem w736 : (Jvm.Cond.methodLink "MillBoats$Reader" (114 : Nat) ({ cls := "MillBoats$Reader", name := "addToken", desc := "(IIJ)V" } : Jvm.MethodName)) ∈ ALLG := tk4 16 rfl rfl
theorem w738 : (Jvm.Cond.instanceMethod ({ cls := "MillBoats$Reader", name := "addToken", desc := "(IIJ)V" } : Jvm.MethodName)) ∈ ALLG := tk4 18 rfl rfl
theorem w739 : (Jvm.Cond.code ({ cls := "MillBoats$Reader", name := "addToken", desc := "(IIJ)V" } : Jvm.MethodName) prog_9_method_10_code (5 : Nat) (Option.none : Option Jvm.ClassFile.FieldType)) ∈ ALLG := tk4 19 rfl rfl
theorem w740 : (Jvm.Cond.methodLink "MillBoats$Reader" (108 : Nat) ({ cls := "MillBoats$Reader", name := "isFigure", desc := "(I)Z" } : Jvm.MethodName)) ∈ ALLG := tk4 20 rfl rfl
theorem w741 : (Jvm.Cond.static ({ cls := "MillBoats$Reader", name := "isFigure", desc := "(I)Z" } : Jvm.MethodName)) ∈ ALLG := tk4 21 rfl rfl
theorem w742 : (Jvm.Cond.code ({ cls := "MillBoats$Reader", name := "isFigure", desc := "(I)Z" } : Jvm.MethodName) prog_9_method_9_code (1 : Nat) (Option.some Jvm.ClassFile.FieldType.boolean)) ∈ ALLG := tk4 22 rfl rfl
theorem w743 : (Jvm.Cond.methodLink "MillBoats$Reader" (111 : Nat) ({ cls := "MillBoats$Reader", name := "splitNumber", desc := "([III)I" } : Jvm.MethodName)) ∈ ALLG := tk4 23 rfl rfl
theorem w745 : (Jvm.Cond.instanceMethod ({ cls := "MillBoats$Reader", name := "splitNumber", desc := "([III)I" } : Jvm.MethodName)) ∈ ALLG := tk4 25 rfl rfl
theorem w746 : (Jvm.Cond.code ({ cls := "MillBoats$Reader", name := "splitNumber", desc := "([III)I" } : Jvm.MethodName) prog_9_method_7_code (7 : Nat) (Option.some Jvm.ClassFile.FieldType.int)) ∈ ALLG := tk4 26 rfl rfl
theorem w747 : (Jvm.Cond.constantLong "MillBoats$Reader" (118 : Nat) (10 : Int64)) ∈ ALLG := tk4 27 rfl rfl
theorem w748 : (Jvm.Cond.methodLink "MillBoats$Reader" (75 : Nat) ({ cls := "MillBoats$Text", name := "clear", desc := "()V" } : Jvm.MethodName)) ∈ ALLG := tk4 28 rfl rfl
theorem w749 : (Jvm.Cond.instanceMethod ({ cls := "MillBoats$Text", name := "clear", desc := "()V" } : Jvm.MethodName)) ∈ ALLG := tk4 29 rfl rfl
theorem w750 : (Jvm.Cond.selects "MillBoats$Text" ({ cls := "MillBoats$Text", name := "clear", desc := "()V" } : Jvm.MethodName) ({ cls := "MillBoats$Text", name := "clear", desc := "()V" } : Jvm.MethodName)) ∈ ALLG := tk4 30 rfl rfl
theorem w751 : (Jvm.Cond.code ({ cls := "MillBoats$Text", name := "clear", desc := "()V" } : Jvm.MethodName) prog_12_method_2_code (1 : Nat) (Option.none : Option Jvm.ClassFile.FieldType)) ∈ ALLG := tk4 31 rfl rfl
theorem w752 : (Jvm.Cond.methodLink "MillBoats$Reader" (93 : Nat) ({ cls := "MillBoats$Reader", name := "rule", desc := "()Z" } : Jvm.MethodName)) ∈ ALLG := tk4 32 rfl rfl
theorem w754 : (Jvm.Cond.instanceMethod ({ cls := "MillBoats$Reader", name := "rule", desc := "()Z" } : Jvm.MethodName)) ∈ ALLG := tk4 34 rfl rfl
theorem w755 : (Jvm.Cond.code ({ cls := "MillBoats$Reader", name := "rule", desc := "()Z" } : Jvm.MethodName) prog_9_method_15_code (2 : Nat) (Option.some Jvm.ClassFile.FieldType.boolean)) ∈ ALLG := tk4 35 rfl rfl
theorem w756 : (Jvm.Cond.methodLink "MillBoats$Reader" (120 : Nat) ({ cls := "MillBoats$Reader", name := "refuse", desc := "(I)Z" } : Jvm.MethodName)) ∈ ALLG := tk4 36 rfl rfl
theorem w758 : (Jvm.Cond.instanceMethod ({ cls := "MillBoats$Reader", name := "refuse", desc := "(I)Z" } : Jvm.MethodName)) ∈ ALLG := tk4 38 rfl rfl
theorem w759 : (Jvm.Cond.code ({ cls := "MillBoats$Reader", name := "refuse", desc := "(I)Z" } : Jvm.MethodName) prog_9_method_12_code (2 : Nat) (Option.some Jvm.ClassFile.FieldType.boolean)) ∈ ALLG := tk4 39 rfl rfl
theorem w760 : (Jvm.Cond.methodLink "MillBoats$Reader" (123 : Nat) ({ cls := "MillBoats$Reader", name := "step", desc := "()V" } : Jvm.MethodName)) ∈ ALLG := tk4 40 rfl rfl
theorem w762 : (Jvm.Cond.instanceMethod ({ cls := "MillBoats$Reader", name := "step", desc := "()V" } : Jvm.MethodName)) ∈ ALLG := tk4 42 rfl rfl
theorem w763 : (Jvm.Cond.code ({ cls := "MillBoats$Reader", name := "step", desc := "()V" } : Jvm.MethodName) prog_9_method_11_code (1 : Nat) (Option.none : Option Jvm.ClassFile.FieldType)) ∈ ALLG := tk4 43 rfl rfl
theorem w764 : (Jvm.Cond.methodLink "MillBoats$Reader" (129 : Nat) ({ cls := "MillBoats$Reader", name := "letRule", desc := "()Z" } : Jvm.MethodName)) ∈ ALLG := tk4 44 rfl rfl
theorem w766 : (Jvm.Cond.instanceMethod ({ cls := "MillBoats$Reader", name := "letRule", desc := "()Z" } : Jvm.MethodName)) ∈ ALLG := tk4 46 rfl rfl
theorem w767 : (Jvm.Cond.code ({ cls := "MillBoats$Reader", name := "letRule", desc := "()Z" } : Jvm.MethodName) prog_9_method_17_code (4 : Nat) (Option.some Jvm.ClassFile.FieldType.boolean)) ∈ ALLG := tk4 47 rfl rfl
theorem w768 : (Jvm.Cond.methodLink "MillBoats$Reader" (152 : Nat) ({ cls := "MillBoats$Reader", name := "valueHere", desc := "()J" } : Jvm.MethodName)) ∈ ALLG := tk4 48 rfl rfl
theorem w770 : (Jvm.Cond.instanceMethod ({ cls := "MillBoats$Reader", name := "valueHere", desc := "()J" } : Jvm.MethodName)) ∈ ALLG := tk4 50 rfl rfl
theorem w771 : (Jvm.Cond.code ({ cls := "MillBoats$Reader", name := "valueHere", desc := "()J" } : Jvm.MethodName) prog_9_method_14_code (1 : Nat) (Option.some Jvm.ClassFile.FieldType.long)) ∈ ALLG := tk4 51 rfl rfl
theorem w772 : (Jvm.Cond.methodLink "MillBoats$Reader" (156 : Nat) ({ cls := "MillBoats$Reader", name := "known", desc := "(J)I" } : Jvm.MethodName)) ∈ ALLG := tk4 52 rfl rfl
theorem w774 : (Jvm.Cond.instanceMethod ({ cls := "MillBoats$Reader", name := "known", desc := "(J)I" } : Jvm.MethodName)) ∈ ALLG := tk4 54 rfl rfl
theorem w775 : (Jvm.Cond.code ({ cls := "MillBoats$Reader", name := "known", desc := "(J)I" } : Jvm.MethodName) prog_9_method_29_code (4 : Nat) (Option.some Jvm.ClassFile.FieldType.int)) ∈ ALLG := tk4 55 rfl rfl
theorem w776 : (Jvm.Cond.methodLink "MillBoats$Reader" (138 : Nat) ({ cls := "MillBoats$Reader", name := "take", desc := "(I)Z" } : Jvm.MethodName)) ∈ ALLG := tk4 56 rfl rfl
theorem w778 : (Jvm.Cond.instanceMethod ({ cls := "MillBoats$Reader", name := "take", desc := "(I)Z" } : Jvm.MethodName)) ∈ ALLG := tk4 58 rfl rfl
theorem w779 : (Jvm.Cond.code ({ cls := "MillBoats$Reader", name := "take", desc := "(I)Z" } : Jvm.MethodName) prog_9_method_13_code (2 : Nat) (Option.some Jvm.ClassFile.FieldType.boolean)) ∈ ALLG := tk4 59 rfl rfl
theorem w780 : (Jvm.Cond.methodLink "MillBoats$Reader" (160 : Nat) ({ cls := "MillBoats$Reader", name := "sum", desc := "()Z" } : Jvm.MethodName)) ∈ ALLG := tk4 60 rfl rfl
theorem w782 : (Jvm.Cond.instanceMethod ({ cls := "MillBoats$Reader", name := "sum", desc := "()Z" } : Jvm.MethodName)) ∈ ALLG := tk4 62 rfl rfl
theorem w783 : (Jvm.Cond.code ({ cls := "MillBoats$Reader", name := "sum", desc := "()Z" } : Jvm.MethodName) prog_9_method_25_code (3 : Nat) (Option.some Jvm.ClassFile.FieldType.boolean)) ∈ ALLG := tk4 63 rfl rfl
theorem w784 : (Jvm.Cond.methodLink "MillBoats$Reader" (179 : Nat) ({ cls := "MillBoats$Reader", name := "product", desc := "()Z" } : Jvm.MethodName)) ∈ ALLG := tk4 64 rfl rfl
theorem w786 : (Jvm.Cond.instanceMethod ({ cls := "MillBoats$Reader", name := "product", desc := "()Z" } : Jvm.MethodName)) ∈ ALLG := tk4 66 rfl rfl
theorem w787 : (Jvm.Cond.code ({ cls := "MillBoats$Reader", name := "product", desc := "()Z" } : Jvm.MethodName) prog_9_method_26_code (2 : Nat) (Option.some Jvm.ClassFile.FieldType.boolean)) ∈ ALLG := tk4 67 rfl rfl
theorem w788 : (Jvm.Cond.methodLink "MillBoats$Reader" (182 : Nat) ({ cls := "MillBoats$Reader", name := "factor", desc := "()Z" } : Jvm.MethodName)) ∈ ALLG := tk4 68 rfl rfl
theorem w790 : (Jvm.Cond.instanceMethod ({ cls := "MillBoats$Reader", name := "factor", desc := "()Z" } : Jvm.MethodName)) ∈ ALLG := tk4 70 rfl rfl
theorem w791 : (Jvm.Cond.code ({ cls := "MillBoats$Reader", name := "factor", desc := "()Z" } : Jvm.MethodName) prog_9_method_27_code (2 : Nat) (Option.some Jvm.ClassFile.FieldType.boolean)) ∈ ALLG := tk4 71 rfl rfl
theorem w792 : (Jvm.Cond.methodLink "MillBoats$Reader" (185 : Nat) ({ cls := "MillBoats$Reader", name := "bracketedSum", desc := "()Z" } : Jvm.MethodName)) ∈ ALLG := tk4 72 rfl rfl
theorem w794 : (Jvm.Cond.instanceMethod ({ cls := "MillBoats$Reader", name := "bracketedSum", desc := "()Z" } : Jvm.MethodName)) ∈ ALLG := tk4 74 rfl rfl
theorem w795 : (Jvm.Cond.code ({ cls := "MillBoats$Reader", name := "bracketedSum", desc := "()Z" } : Jvm.MethodName) prog_9_method_28_code (1 : Nat) (Option.some Jvm.ClassFile.FieldType.boolean)) ∈ ALLG := tk4 75 rfl rfl
theorem w796 : (Jvm.Cond.methodLink "MillBoats$Reader" (166 : Nat) ({ cls := "MillBoats$Text", name := "emit", desc := "(I)V" } : Jvm.MethodName)) ∈ ALLG := tk4 76 rfl rfl
theorem w797 : (Jvm.Cond.instanceMethod ({ cls := "MillBoats$Text", name := "emit", desc := "(I)V" } : Jvm.MethodName)) ∈ ALLG := tk4 77 rfl rfl
theorem w798 : (Jvm.Cond.selects "MillBoats$Text" ({ cls := "MillBoats$Text", name := "emit", desc := "(I)V" } : Jvm.MethodName) ({ cls := "MillBoats$Text", name := "emit", desc := "(I)V" } : Jvm.MethodName)) ∈ ALLG := tk4 78 rfl rfl
theorem w799 : (Jvm.Cond.code ({ cls := "MillBoats$Text", name := "emit", desc := "(I)V" } : Jvm.MethodName) prog_12_method_3_code (2 : Nat) (Option.none : Option Jvm.ClassFile.FieldType)) ∈ ALLG := tk4 79 rfl rfl
theorem w800 : (Jvm.Cond.methodLink "MillBoats$Reader" (144 : Nat) ({ cls := "MillBoats$Reader", name := "closeRule", desc := "(III)Z" } : Jvm.MethodName)) ∈ ALLG := tk4 80 rfl rfl
theorem w802 : (Jvm.Cond.instanceMethod ({ cls := "MillBoats$Reader", name := "closeRule", desc := "(III)Z" } : Jvm.MethodName)) ∈ ALLG := tk4 82 rfl rfl
theorem w803 : (Jvm.Cond.code ({ cls := "MillBoats$Reader", name := "closeRule", desc := "(III)Z" } : Jvm.MethodName) prog_9_method_16_code (4 : Nat) (Option.some Jvm.ClassFile.FieldType.boolean)) ∈ ALLG := tk4 83 rfl rfl
theorem w804 : (Jvm.Cond.methodLink "MillBoats$Reader" (148 : Nat) ({ cls := "MillBoats$Text", name := "close", desc := "(III)V" } : Jvm.MethodName)) ∈ ALLG := tk4 84 rfl rfl
theorem w805 : (Jvm.Cond.instanceMethod ({ cls := "MillBoats$Text", name := "close", desc := "(III)V" } : Jvm.MethodName)) ∈ ALLG := tk4 85 rfl rfl
theorem w806 : (Jvm.Cond.selects "MillBoats$Text" ({ cls := "MillBoats$Text", name := "close", desc := "(III)V" } : Jvm.MethodName) ({ cls := "MillBoats$Text", name := "close", desc := "(III)V" } : Jvm.MethodName)) ∈ ALLG := tk4 86 rfl rfl
theorem w807 : (Jvm.Cond.code ({ cls := "MillBoats$Text", name := "close", desc := "(III)V" } : Jvm.MethodName) prog_12_method_4_code (4 : Nat) (Option.none : Option Jvm.ClassFile.FieldType)) ∈ ALLG := tk4 87 rfl rfl
theorem w808 : (Jvm.Cond.methodLink "MillBoats$Reader" (132 : Nat) ({ cls := "MillBoats$Reader", name := "tollRule", desc := "()Z" } : Jvm.MethodName)) ∈ ALLG := tk4 88 rfl rfl
theorem w810 : (Jvm.Cond.instanceMethod ({ cls := "MillBoats$Reader", name := "tollRule", desc := "()Z" } : Jvm.MethodName)) ∈ ALLG := tk4 90 rfl rfl
theorem w811 : (Jvm.Cond.code ({ cls := "MillBoats$Reader", name := "tollRule", desc := "()Z" } : Jvm.MethodName) prog_9_method_18_code (3 : Nat) (Option.some Jvm.ClassFile.FieldType.boolean)) ∈ ALLG := tk4 91 rfl rfl
theorem w812 : (Jvm.Cond.methodLink "MillBoats$Reader" (141 : Nat) ({ cls := "MillBoats$Reader", name := "cond", desc := "()Z" } : Jvm.MethodName)) ∈ ALLG := tk4 92 rfl rfl
theorem w814 : (Jvm.Cond.instanceMethod ({ cls := "MillBoats$Reader", name := "cond", desc := "()Z" } : Jvm.MethodName)) ∈ ALLG := tk4 94 rfl rfl
theorem w815 : (Jvm.Cond.code ({ cls := "MillBoats$Reader", name := "cond", desc := "()Z" } : Jvm.MethodName) prog_9_method_20_code (2 : Nat) (Option.some Jvm.ClassFile.FieldType.boolean)) ∈ ALLG := tk4 95 rfl rfl
theorem w816 : (Jvm.Cond.methodLink "MillBoats$Reader" (163 : Nat) ({ cls := "MillBoats$Reader", name := "both", desc := "()Z" } : Jvm.MethodName)) ∈ ALLG := tk4 96 rfl rfl
theorem w818 : (Jvm.Cond.instanceMethod ({ cls := "MillBoats$Reader", name := "both", desc := "()Z" } : Jvm.MethodName)) ∈ ALLG := tk4 98 rfl rfl
theorem w819 : (Jvm.Cond.code ({ cls := "MillBoats$Reader", name := "both", desc := "()Z" } : Jvm.MethodName) prog_9_method_21_code (2 : Nat) (Option.some Jvm.ClassFile.FieldType.boolean)) ∈ ALLG := tk4 99 rfl rfl
theorem w820 : (Jvm.Cond.methodLink "MillBoats$Reader" (170 : Nat) ({ cls := "MillBoats$Reader", name := "part", desc := "()Z" } : Jvm.MethodName)) ∈ ALLG := tk4 100 rfl rfl
theorem w822 : (Jvm.Cond.instanceMethod ({ cls := "MillBoats$Reader", name := "part", desc := "()Z" } : Jvm.MethodName)) ∈ ALLG := tk4 102 rfl rfl
theorem w823 : (Jvm.Cond.code ({ cls := "MillBoats$Reader", name := "part", desc := "()Z" } : Jvm.MethodName) prog_9_method_22_code (3 : Nat) (Option.some Jvm.ClassFile.FieldType.boolean)) ∈ ALLG := tk4 103 rfl rfl
theorem w824 : (Jvm.Cond.methodLink "MillBoats$Reader" (173 : Nat) ({ cls := "MillBoats$Reader", name := "bracketedCond", desc := "()Z" } : Jvm.MethodName)) ∈ ALLG := tk4 104 rfl rfl
theorem w826 : (Jvm.Cond.instanceMethod ({ cls := "MillBoats$Reader", name := "bracketedCond", desc := "()Z" } : Jvm.MethodName)) ∈ ALLG := tk4 106 rfl rfl
theorem w827 : (Jvm.Cond.code ({ cls := "MillBoats$Reader", name := "bracketedCond", desc := "()Z" } : Jvm.MethodName) prog_9_method_23_code (1 : Nat) (Option.some Jvm.ClassFile.FieldType.boolean)) ∈ ALLG := tk4 107 rfl rfl
theorem w828 : (Jvm.Cond.methodLink "MillBoats$Reader" (176 : Nat) ({ cls := "MillBoats$Reader", name := "comparison", desc := "()Z" } : Jvm.MethodName)) ∈ ALLG := tk4 108 rfl rfl
theorem w830 : (Jvm.Cond.instanceMethod ({ cls := "MillBoats$Reader", name := "comparison", desc := "()Z" } : Jvm.MethodName)) ∈ ALLG := tk4 110 rfl rfl
theorem w831 : (Jvm.Cond.code ({ cls := "MillBoats$Reader", name := "comparison", desc := "()Z" } : Jvm.MethodName) prog_9_method_24_code (2 : Nat) (Option.some Jvm.ClassFile.FieldType.boolean)) ∈ ALLG := tk4 111 rfl rfl
theorem w832 : (Jvm.Cond.methodLink "MillBoats$Reader" (135 : Nat) ({ cls := "MillBoats$Reader", name := "wayRule", desc := "()Z" } : Jvm.MethodName)) ∈ ALLG := tk4 112 rfl rfl
theorem w834 : (Jvm.Cond.instanceMethod ({ cls := "MillBoats$Reader", name := "wayRule", desc := "()Z" } : Jvm.MethodName)) ∈ ALLG := tk4 114 rfl rfl
theorem w835 : (Jvm.Cond.code ({ cls := "MillBoats$Reader", name := "wayRule", desc := "()Z" } : Jvm.MethodName) prog_9_method_19_code (2 : Nat) (Option.some Jvm.ClassFile.FieldType.boolean)) ∈ ALLG := tk4 115 rfl rfl
theorem w836 : (Jvm.Cond.methodLink "MillBoats" (177 : Nat) ({ cls := "MillBoats$Law", name := "keep", desc := "(III)I" } : Jvm.MethodName)) ∈ ALLG := tk4 116 rfl rfl
theorem w837 : (Jvm.Cond.instanceMethod ({ cls := "MillBoats$Law", name := "keep", desc := "(III)I" } : Jvm.MethodName)) ∈ ALLG := tk4 117 rfl rfl
theorem w838 : (Jvm.Cond.selects "MillBoats$Law" ({ cls := "MillBoats$Law", name := "keep", desc := "(III)I" } : Jvm.MethodName) ({ cls := "MillBoats$Law", name := "keep", desc := "(III)I" } : Jvm.MethodName)) ∈ ALLG := tk4 118 rfl rfl
theorem w839 : (Jvm.Cond.code ({ cls := "MillBoats$Law", name := "keep", desc := "(III)I" } : Jvm.MethodName) prog_6_method_4_code (5 : Nat) (Option.some Jvm.ClassFile.FieldType.int)) ∈ ALLG := tk4 119 rfl rfl
theorem w840 : (Jvm.Cond.methodLink "MillBoats$Law" (55 : Nat) ({ cls := "MillBoats$Book", name := "tell", desc := "(III)Z" } : Jvm.MethodName)) ∈ ALLG := tk4 120 rfl rfl
theorem w841 : (Jvm.Cond.methodLink "MillBoats$Law" (63 : Nat) ({ cls := "MillBoats$Text", name := "copy", desc := "()LMillBoats$Text;" } : Jvm.MethodName)) ∈ ALLG := tk4 121 rfl rfl
theorem w842 : (Jvm.Cond.instanceMethod ({ cls := "MillBoats$Text", name := "copy", desc := "()LMillBoats$Text;" } : Jvm.MethodName)) ∈ ALLG := tk4 122 rfl rfl
theorem w843 : (Jvm.Cond.selects "MillBoats$Text" ({ cls := "MillBoats$Text", name := "copy", desc := "()LMillBoats$Text;" } : Jvm.MethodName) ({ cls := "MillBoats$Text", name := "copy", desc := "()LMillBoats$Text;" } : Jvm.MethodName)) ∈ ALLG := tk4 123 rfl rfl
theorem w844 : (Jvm.Cond.code ({ cls := "MillBoats$Text", name := "copy", desc := "()LMillBoats$Text;" } : Jvm.MethodName) prog_12_method_5_code (2 : Nat) (Option.some (Jvm.ClassFile.FieldType.object "MillBoats$Text"))) ∈ ALLG := tk4 124 rfl rfl
theorem w845 : (Jvm.Cond.classLink "MillBoats$Text" (14 : Nat) "MillBoats$Text") ∈ ALLG := tk4 125 rfl rfl
theorem w846 : (Jvm.Cond.methodLink "MillBoats$Text" (38 : Nat) ({ cls := "MillBoats$Text", name := "<init>", desc := "(II)V" } : Jvm.MethodName)) ∈ ALLG := tk4 126 rfl rfl
theorem w847 : (Jvm.Cond.methodLink "MillBoats$Text" (41 : Nat) ({ cls := "java/lang/System", name := "arraycopy", desc := "(Ljava/lang/Object;ILjava/lang/Object;II)V" } : Jvm.MethodName)) ∈ ALLG := tk4 127 rfl rfl
theorem w856 : (Jvm.Cond.methodLink "MillBoats" (183 : Nat) ({ cls := "MillBoats$Law", name := "standing", desc := "(IIII)I" } : Jvm.MethodName)) ∈ ALLG := tk4 136 rfl rfl
theorem w857 : (Jvm.Cond.instanceMethod ({ cls := "MillBoats$Law", name := "standing", desc := "(IIII)I" } : Jvm.MethodName)) ∈ ALLG := tk4 137 rfl rfl
theorem w858 : (Jvm.Cond.selects "MillBoats$Law" ({ cls := "MillBoats$Law", name := "standing", desc := "(IIII)I" } : Jvm.MethodName) ({ cls := "MillBoats$Law", name := "standing", desc := "(IIII)I" } : Jvm.MethodName)) ∈ ALLG := tk4 138 rfl rfl
theorem w859 : (Jvm.Cond.code ({ cls := "MillBoats$Law", name := "standing", desc := "(IIII)I" } : Jvm.MethodName) prog_6_method_9_code (10 : Nat) (Option.some Jvm.ClassFile.FieldType.int)) ∈ ALLG := tk4 139 rfl rfl
theorem w860 : (Jvm.Cond.methodLink "MillBoats$Law" (103 : Nat) ({ cls := "MillBoats$Law", name := "giveBoat", desc := "(IIII)V" } : Jvm.MethodName)) ∈ ALLG := tk4 140 rfl rfl
theorem w862 : (Jvm.Cond.instanceMethod ({ cls := "MillBoats$Law", name := "giveBoat", desc := "(IIII)V" } : Jvm.MethodName)) ∈ ALLG := tk4 142 rfl rfl
theorem w863 : (Jvm.Cond.code ({ cls := "MillBoats$Law", name := "giveBoat", desc := "(IIII)V" } : Jvm.MethodName) prog_6_method_6_code (7 : Nat) (Option.none : Option Jvm.ClassFile.FieldType)) ∈ ALLG := tk4 143 rfl rfl
theorem w864 : (Jvm.Cond.methodLink "MillBoats$Law" (68 : Nat) ({ cls := "MillBoats$Book", name := "latestOr", desc := "(III)I" } : Jvm.MethodName)) ∈ ALLG := tk4 144 rfl rfl
theorem w865 : (Jvm.Cond.methodLinkNest "MillBoats$Law" (78 : Nat) ({ cls := "MillBoats", name := "laneOf", desc := "(I)I" } : Jvm.MethodName) "MillBoats") ∈ NESTL := nk4 145 rfl rfl
theorem w866 : (Jvm.Cond.methodLinkNest "MillBoats$Law" (82 : Nat) ({ cls := "MillBoats", name := "stretchOf", desc := "(I)I" } : Jvm.MethodName) "MillBoats") ∈ NESTL := nk4 146 rfl rfl
theorem w867 : (Jvm.Cond.static ({ cls := "MillBoats", name := "stretchOf", desc := "(I)I" } : Jvm.MethodName)) ∈ ALLG := tk4 147 rfl rfl
theorem w868 : (Jvm.Cond.code ({ cls := "MillBoats", name := "stretchOf", desc := "(I)I" } : Jvm.MethodName) prog_1_method_45_code (1 : Nat) (Option.some Jvm.ClassFile.FieldType.int)) ∈ ALLG := tk4 148 rfl rfl
theorem w869 : (Jvm.Cond.methodLink "MillBoats$Law" (85 : Nat) ({ cls := "MillBoats$River", name := "depth", desc := "(II)I" } : Jvm.MethodName)) ∈ ALLG := tk4 149 rfl rfl
theorem w870 : (Jvm.Cond.methodLink "MillBoats$Law" (107 : Nat) ({ cls := "MillBoats$Law", name := "inForce", desc := "(III)LMillBoats$Text;" } : Jvm.MethodName)) ∈ ALLG := tk4 150 rfl rfl
theorem w872 : (Jvm.Cond.instanceMethod ({ cls := "MillBoats$Law", name := "inForce", desc := "(III)LMillBoats$Text;" } : Jvm.MethodName)) ∈ ALLG := tk4 152 rfl rfl
theorem w873 : (Jvm.Cond.code ({ cls := "MillBoats$Law", name := "inForce", desc := "(III)LMillBoats$Text;" } : Jvm.MethodName) prog_6_method_5_code (5 : Nat) (Option.some (Jvm.ClassFile.FieldType.object "MillBoats$Text"))) ∈ ALLG := tk4 153 rfl rfl
theorem w874 : (Jvm.Cond.methodLink "MillBoats$Law" (115 : Nat) ({ cls := "MillBoats$Law", name := "wordKind", desc := "(LMillBoats$Text;)I" } : Jvm.MethodName)) ∈ ALLG := tk4 154 rfl rfl
theorem w876 : (Jvm.Cond.instanceMethod ({ cls := "MillBoats$Law", name := "wordKind", desc := "(LMillBoats$Text;)I" } : Jvm.MethodName)) ∈ ALLG := tk4 156 rfl rfl
theorem w877 : (Jvm.Cond.code ({ cls := "MillBoats$Law", name := "wordKind", desc := "(LMillBoats$Text;)I" } : Jvm.MethodName) prog_6_method_10_code (3 : Nat) (Option.some Jvm.ClassFile.FieldType.int)) ∈ ALLG := tk4 157 rfl rfl
theorem w878 : (Jvm.Cond.methodLink "MillBoats$Law" (111 : Nat) ({ cls := "MillBoats$Law", name := "lastHolding", desc := "(LMillBoats$Text;II)I" } : Jvm.MethodName)) ∈ ALLG := tk4 158 rfl rfl
theorem w880 : (Jvm.Cond.instanceMethod ({ cls := "MillBoats$Law", name := "lastHolding", desc := "(LMillBoats$Text;II)I" } : Jvm.MethodName)) ∈ ALLG := tk4 160 rfl rfl
theorem w881 : (Jvm.Cond.code ({ cls := "MillBoats$Law", name := "lastHolding", desc := "(LMillBoats$Text;II)I" } : Jvm.MethodName) prog_6_method_13_code (8 : Nat) (Option.some Jvm.ClassFile.FieldType.int)) ∈ ALLG := tk4 161 rfl rfl
theorem w882 : (Jvm.Cond.methodLink "MillBoats$Law" (137 : Nat) ({ cls := "MillBoats$Law", name := "workOut", desc := "(LMillBoats$Text;I)I" } : Jvm.MethodName)) ∈ ALLG := tk4 162 rfl rfl
theorem w884 : (Jvm.Cond.instanceMethod ({ cls := "MillBoats$Law", name := "workOut", desc := "(LMillBoats$Text;I)I" } : Jvm.MethodName)) ∈ ALLG := tk4 164 rfl rfl
theorem w885 : (Jvm.Cond.code ({ cls := "MillBoats$Law", name := "workOut", desc := "(LMillBoats$Text;I)I" } : Jvm.MethodName) prog_6_method_14_code (8 : Nat) (Option.some Jvm.ClassFile.FieldType.int)) ∈ ALLG := tk4 165 rfl rfl
theorem w886 : (Jvm.Cond.methodLink "MillBoats$Law" (147 : Nat) ({ cls := "java/lang/Math", name := "min", desc := "(II)I" } : Jvm.MethodName)) ∈ ALLG := tk4 166 rfl rfl
theorem w887 : (Jvm.Cond.methodLink "MillBoats$Law" (150 : Nat) ({ cls := "MillBoats$Law", name := "named", desc := "(I)I" } : Jvm.MethodName)) ∈ ALLG := tk4 167 rfl rfl
theorem w889 : (Jvm.Cond.instanceMethod ({ cls := "MillBoats$Law", name := "named", desc := "(I)I" } : Jvm.MethodName)) ∈ ALLG := tk4 169 rfl rfl
theorem w890 : (Jvm.Cond.code ({ cls := "MillBoats$Law", name := "named", desc := "(I)I" } : Jvm.MethodName) prog_6_method_15_code (2 : Nat) (Option.some Jvm.ClassFile.FieldType.int)) ∈ ALLG := tk4 170 rfl rfl
theorem w891 : (Jvm.Cond.methodLink "MillBoats$Law" (153 : Nat) ({ cls := "MillBoats$Law", name := "joined", desc := "(III)I" } : Jvm.MethodName)) ∈ ALLG := tk4 171 rfl rfl
theorem w892 : (Jvm.Cond.static ({ cls := "MillBoats$Law", name := "joined", desc := "(III)I" } : Jvm.MethodName)) ∈ ALLG := tk4 172 rfl rfl
theorem w893 : (Jvm.Cond.code ({ cls := "MillBoats$Law", name := "joined", desc := "(III)I" } : Jvm.MethodName) prog_6_method_16_code (5 : Nat) (Option.some Jvm.ClassFile.FieldType.int)) ∈ ALLG := tk4 173 rfl rfl
theorem w894 : (Jvm.Cond.constantLong "MillBoats$Law" (156 : Nat) (1000000000 : Int64)) ∈ ALLG := tk4 174 rfl rfl
theorem w895 : (Jvm.Cond.constant "MillBoats$Law" (158 : Nat) (1000000000 : Int32)) ∈ ALLG := tk4 175 rfl rfl
theorem w896 : (Jvm.Cond.constantLong "MillBoats$Law" (159 : Nat) (-1000000000 : Int64)) ∈ ALLG := tk4 176 rfl rfl
theorem w897 : (Jvm.Cond.constant "MillBoats$Law" (161 : Nat) (-1000000000 : Int32)) ∈ ALLG := tk4 177 rfl rfl
theorem w902 : (Jvm.Cond.methodLink "MillBoats" (187 : Nat) ({ cls := "MillBoats$Law", name := "wordRule", desc := "(IIIII)I" } : Jvm.MethodName)) ∈ ALLG := tk4 182 rfl rfl
theorem w903 : (Jvm.Cond.instanceMethod ({ cls := "MillBoats$Law", name := "wordRule", desc := "(IIIII)I" } : Jvm.MethodName)) ∈ ALLG := tk4 183 rfl rfl
theorem w904 : (Jvm.Cond.selects "MillBoats$Law" ({ cls := "MillBoats$Law", name := "wordRule", desc := "(IIIII)I" } : Jvm.MethodName) ({ cls := "MillBoats$Law", name := "wordRule", desc := "(IIIII)I" } : Jvm.MethodName)) ∈ ALLG := tk4 184 rfl rfl
theorem w905 : (Jvm.Cond.code ({ cls := "MillBoats$Law", name := "wordRule", desc := "(IIIII)I" } : Jvm.MethodName) prog_6_method_8_code (6 : Nat) (Option.some Jvm.ClassFile.FieldType.int)) ∈ ALLG := tk4 185 rfl rfl
theorem w910 : (Jvm.Cond.methodLink "MillBoats" (191 : Nat) ({ cls := "MillBoats", name := "isStretch", desc := "(I)Z" } : Jvm.MethodName)) ∈ ALLG := tk4 190 rfl rfl
theorem w911 : (Jvm.Cond.static ({ cls := "MillBoats", name := "isStretch", desc := "(I)Z" } : Jvm.MethodName)) ∈ ALLG := tk4 191 rfl rfl
theorem w912 : (Jvm.Cond.code ({ cls := "MillBoats", name := "isStretch", desc := "(I)Z" } : Jvm.MethodName) prog_1_method_42_code (1 : Nat) (Option.some Jvm.ClassFile.FieldType.boolean)) ∈ ALLG := tk4 192 rfl rfl
theorem w913 : (Jvm.Cond.methodLink "MillBoats" (194 : Nat) ({ cls := "MillBoats$Law", name := "wayOn", desc := "(III)I" } : Jvm.MethodName)) ∈ ALLG := tk4 193 rfl rfl
theorem w914 : (Jvm.Cond.instanceMethod ({ cls := "MillBoats$Law", name := "wayOn", desc := "(III)I" } : Jvm.MethodName)) ∈ ALLG := tk4 194 rfl rfl
theorem w915 : (Jvm.Cond.selects "MillBoats$Law" ({ cls := "MillBoats$Law", name := "wayOn", desc := "(III)I" } : Jvm.MethodName) ({ cls := "MillBoats$Law", name := "wayOn", desc := "(III)I" } : Jvm.MethodName)) ∈ ALLG := tk4 195 rfl rfl
theorem w916 : (Jvm.Cond.code ({ cls := "MillBoats$Law", name := "wayOn", desc := "(III)I" } : Jvm.MethodName) prog_6_method_11_code (8 : Nat) (Option.some Jvm.ClassFile.FieldType.int)) ∈ ALLG := tk4 196 rfl rfl
theorem w917 : (Jvm.Cond.methodLink "MillBoats$Law" (122 : Nat) ({ cls := "MillBoats$Law", name := "giveStretch", desc := "(III)V" } : Jvm.MethodName)) ∈ ALLG := tk4 197 rfl rfl
theorem w919 : (Jvm.Cond.instanceMethod ({ cls := "MillBoats$Law", name := "giveStretch", desc := "(III)V" } : Jvm.MethodName)) ∈ ALLG := tk4 199 rfl rfl
theorem w920 : (Jvm.Cond.code ({ cls := "MillBoats$Law", name := "giveStretch", desc := "(III)V" } : Jvm.MethodName) prog_6_method_7_code (4 : Nat) (Option.none : Option Jvm.ClassFile.FieldType)) ∈ ALLG := tk4 200 rfl rfl
theorem w921 : (Jvm.Cond.methodLink "MillBoats$Law" (97 : Nat) ({ cls := "java/util/Arrays", name := "fill", desc := "([II)V" } : Jvm.MethodName)) ∈ ALLG := tk4 201 rfl rfl
theorem w922 : (Jvm.Cond.methodLink "MillBoats$Law" (129 : Nat) ({ cls := "java/lang/Math", name := "max", desc := "(II)I" } : Jvm.MethodName)) ∈ ALLG := tk4 202 rfl rfl
theorem w927 : (Jvm.Cond.methodLink "MillBoats" (197 : Nat) ({ cls := "MillBoats", name := "heightToday", desc := "()I" } : Jvm.MethodName)) ∈ ALLG := tk4 207 rfl rfl
theorem w929 : (Jvm.Cond.instanceMethod ({ cls := "MillBoats", name := "heightToday", desc := "()I" } : Jvm.MethodName)) ∈ ALLG := tk4 209 rfl rfl
theorem w930 : (Jvm.Cond.code ({ cls := "MillBoats", name := "heightToday", desc := "()I" } : Jvm.MethodName) prog_1_method_36_code (1 : Nat) (Option.some Jvm.ClassFile.FieldType.int)) ∈ ALLG := tk4 210 rfl rfl
theorem w931 : (Jvm.Cond.methodLink "MillBoats" (201 : Nat) ({ cls := "MillBoats$River", name := "isOpen", desc := "(II[II)Z" } : Jvm.MethodName)) ∈ ALLG := tk4 211 rfl rfl
theorem w932 : (Jvm.Cond.instanceMethod ({ cls := "MillBoats$River", name := "isOpen", desc := "(II[II)Z" } : Jvm.MethodName)) ∈ ALLG := tk4 212 rfl rfl
theorem w933 : (Jvm.Cond.selects "MillBoats$River" ({ cls := "MillBoats$River", name := "isOpen", desc := "(II[II)Z" } : Jvm.MethodName) ({ cls := "MillBoats$River", name := "isOpen", desc := "(II[II)Z" } : Jvm.MethodName)) ∈ ALLG := tk4 213 rfl rfl
theorem w934 : (Jvm.Cond.code ({ cls := "MillBoats$River", name := "isOpen", desc := "(II[II)Z" } : Jvm.MethodName) prog_10_method_14_code (9 : Nat) (Option.some Jvm.ClassFile.FieldType.boolean)) ∈ ALLG := tk4 214 rfl rfl
theorem w935 : (Jvm.Cond.methodLink "MillBoats$River" (105 : Nat) ({ cls := "MillBoats$River", name := "lyingAt", desc := "(I[I)I" } : Jvm.MethodName)) ∈ ALLG := tk4 215 rfl rfl
theorem w944 : (Jvm.Cond.methodLink "MillBoats" (208 : Nat) ({ cls := "MillBoats$Grist", name := "take", desc := "(II)I" } : Jvm.MethodName)) ∈ ALLG := tk4 224 rfl rfl
theorem w945 : (Jvm.Cond.instanceMethod ({ cls := "MillBoats$Grist", name := "take", desc := "(II)I" } : Jvm.MethodName)) ∈ ALLG := tk4 225 rfl rfl
theorem w946 : (Jvm.Cond.selects "MillBoats$Grist" ({ cls := "MillBoats$Grist", name := "take", desc := "(II)I" } : Jvm.MethodName) ({ cls := "MillBoats$Grist", name := "take", desc := "(II)I" } : Jvm.MethodName)) ∈ ALLG := tk4 226 rfl rfl
theorem w947 : (Jvm.Cond.code ({ cls := "MillBoats$Grist", name := "take", desc := "(II)I" } : Jvm.MethodName) prog_5_method_2_code (3 : Nat) (Option.some Jvm.ClassFile.FieldType.int)) ∈ ALLG := tk4 227 rfl rfl
theorem w952 : (Jvm.Cond.methodLink "MillBoats" (212 : Nat) ({ cls := "MillBoats$Drift", name := "breakChains", desc := "(IIZ)V" } : Jvm.MethodName)) ∈ ALLG := tk4 232 rfl rfl
theorem w953 : (Jvm.Cond.instanceMethod ({ cls := "MillBoats$Drift", name := "breakChains", desc := "(IIZ)V" } : Jvm.MethodName)) ∈ ALLG := tk4 233 rfl rfl
theorem w954 : (Jvm.Cond.selects "MillBoats$Drift" ({ cls := "MillBoats$Drift", name := "breakChains", desc := "(IIZ)V" } : Jvm.MethodName) ({ cls := "MillBoats$Drift", name := "breakChains", desc := "(IIZ)V" } : Jvm.MethodName)) ∈ ALLG := tk4 234 rfl rfl
theorem w955 : (Jvm.Cond.code ({ cls := "MillBoats$Drift", name := "breakChains", desc := "(IIZ)V" } : Jvm.MethodName) prog_4_method_4_code (6 : Nat) (Option.none : Option Jvm.ClassFile.FieldType)) ∈ ALLG := tk4 235 rfl rfl
theorem w956 : (Jvm.Cond.methodLink "MillBoats$Drift" (39 : Nat) ({ cls := "MillBoats$River", name := "pullBorne", desc := "(I[IIZ)I" } : Jvm.MethodName)) ∈ ALLG := tk4 236 rfl rfl
theorem w957 : (Jvm.Cond.methodLink "MillBoats$Drift" (52 : Nat) ({ cls := "MillBoats$Drift", name := "tell", desc := "(IIII)V" } : Jvm.MethodName)) ∈ ALLG := tk4 237 rfl rfl
theorem w959 : (Jvm.Cond.instanceMethod ({ cls := "MillBoats$Drift", name := "tell", desc := "(IIII)V" } : Jvm.MethodName)) ∈ ALLG := tk4 239 rfl rfl
theorem w960 : (Jvm.Cond.code ({ cls := "MillBoats$Drift", name := "tell", desc := "(IIII)V" } : Jvm.MethodName) prog_4_method_3_code (6 : Nat) (Option.none : Option Jvm.ClassFile.FieldType)) ∈ ALLG := tk5 0 rfl rfl
theorem w961 : (Jvm.Cond.methodLink "MillBoats$Drift" (56 : Nat) ({ cls := "MillBoats$Drift", name := "driftOn", desc := "(III)V" } : Jvm.MethodName)) ∈ ALLG := tk5 1 rfl rfl
theorem w963 : (Jvm.Cond.instanceMethod ({ cls := "MillBoats$Drift", name := "driftOn", desc := "(III)V" } : Jvm.MethodName)) ∈ ALLG := tk5 3 rfl rfl
theorem w964 : (Jvm.Cond.code ({ cls := "MillBoats$Drift", name := "driftOn", desc := "(III)V" } : Jvm.MethodName) prog_4_method_5_code (8 : Nat) (Option.none : Option Jvm.ClassFile.FieldType)) ∈ ALLG := tk5 4 rfl rfl
theorem w965 : (Jvm.Cond.methodLink "MillBoats$Drift" (60 : Nat) ({ cls := "MillBoats$River", name := "liesAtBerth", desc := "(I)Z" } : Jvm.MethodName)) ∈ ALLG := tk5 5 rfl rfl
theorem w966 : (Jvm.Cond.methodLinkNest "MillBoats$Drift" (64 : Nat) ({ cls := "MillBoats", name := "stretchOf", desc := "(I)I" } : Jvm.MethodName) "MillBoats") ∈ NESTL := nk5 6 rfl rfl
theorem w967 : (Jvm.Cond.methodLink "MillBoats$Drift" (68 : Nat) ({ cls := "MillBoats$Drift", name := "nextBerth", desc := "(II)I" } : Jvm.MethodName)) ∈ ALLG := tk5 7 rfl rfl
theorem w969 : (Jvm.Cond.instanceMethod ({ cls := "MillBoats$Drift", name := "nextBerth", desc := "(II)I" } : Jvm.MethodName)) ∈ ALLG := tk5 9 rfl rfl
theorem w970 : (Jvm.Cond.code ({ cls := "MillBoats$Drift", name := "nextBerth", desc := "(II)I" } : Jvm.MethodName) prog_4_method_7_code (10 : Nat) (Option.some Jvm.ClassFile.FieldType.int)) ∈ ALLG := tk5 10 rfl rfl
theorem w971 : (Jvm.Cond.methodLinkNest "MillBoats$Drift" (80 : Nat) ({ cls := "MillBoats", name := "laneOf", desc := "(I)I" } : Jvm.MethodName) "MillBoats") ∈ NESTL := nk5 11 rfl rfl
theorem w972 : (Jvm.Cond.methodLink "MillBoats$Drift" (83 : Nat) ({ cls := "MillBoats$River", name := "bears", desc := "(III)Z" } : Jvm.MethodName)) ∈ ALLG := tk5 12 rfl rfl
theorem w973 : (Jvm.Cond.methodLink "MillBoats$Drift" (91 : Nat) ({ cls := "MillBoats$Table", name := "at", desc := "(I)I" } : Jvm.MethodName)) ∈ ALLG := tk5 13 rfl rfl
theorem w974 : (Jvm.Cond.methodLink "MillBoats$Drift" (72 : Nat) ({ cls := "MillBoats$River", name := "lyingAt", desc := "(I[I)I" } : Jvm.MethodName)) ∈ ALLG := tk5 14 rfl rfl
theorem w975 : (Jvm.Cond.methodLink "MillBoats$Drift" (76 : Nat) ({ cls := "MillBoats$Drift", name := "makesWay", desc := "(IIII)Z" } : Jvm.MethodName)) ∈ ALLG := tk5 15 rfl rfl
theorem w977 : (Jvm.Cond.instanceMethod ({ cls := "MillBoats$Drift", name := "makesWay", desc := "(IIII)Z" } : Jvm.MethodName)) ∈ ALLG := tk5 17 rfl rfl
theorem w978 : (Jvm.Cond.code ({ cls := "MillBoats$Drift", name := "makesWay", desc := "(IIII)Z" } : Jvm.MethodName) prog_4_method_6_code (7 : Nat) (Option.some Jvm.ClassFile.FieldType.boolean)) ∈ ALLG := tk5 18 rfl rfl
theorem w979 : (Jvm.Cond.methodLink "MillBoats" (216 : Nat) ({ cls := "MillBoats$Grist", name := "grindDay", desc := "(II)V" } : Jvm.MethodName)) ∈ ALLG := tk5 19 rfl rfl
theorem w980 : (Jvm.Cond.instanceMethod ({ cls := "MillBoats$Grist", name := "grindDay", desc := "(II)V" } : Jvm.MethodName)) ∈ ALLG := tk5 20 rfl rfl
theorem w981 : (Jvm.Cond.selects "MillBoats$Grist" ({ cls := "MillBoats$Grist", name := "grindDay", desc := "(II)V" } : Jvm.MethodName) ({ cls := "MillBoats$Grist", name := "grindDay", desc := "(II)V" } : Jvm.MethodName)) ∈ ALLG := tk5 21 rfl rfl
theorem w982 : (Jvm.Cond.code ({ cls := "MillBoats$Grist", name := "grindDay", desc := "(II)V" } : Jvm.MethodName) prog_5_method_5_code (6 : Nat) (Option.none : Option Jvm.ClassFile.FieldType)) ∈ ALLG := tk5 22 rfl rfl
theorem w983 : (Jvm.Cond.methodLink "MillBoats$Grist" (48 : Nat) ({ cls := "MillBoats$Grist", name := "mayGrind", desc := "(II)Z" } : Jvm.MethodName)) ∈ ALLG := tk5 23 rfl rfl
theorem w985 : (Jvm.Cond.instanceMethod ({ cls := "MillBoats$Grist", name := "mayGrind", desc := "(II)Z" } : Jvm.MethodName)) ∈ ALLG := tk5 25 rfl rfl
theorem w986 : (Jvm.Cond.code ({ cls := "MillBoats$Grist", name := "mayGrind", desc := "(II)Z" } : Jvm.MethodName) prog_5_method_6_code (3 : Nat) (Option.some Jvm.ClassFile.FieldType.boolean)) ∈ ALLG := tk5 26 rfl rfl
theorem w987 : (Jvm.Cond.methodLink "MillBoats$Grist" (63 : Nat) ({ cls := "MillBoats$River", name := "liesAtBerth", desc := "(I)Z" } : Jvm.MethodName)) ∈ ALLG := tk5 27 rfl rfl
theorem w988 : (Jvm.Cond.methodLink "MillBoats$Grist" (76 : Nat) ({ cls := "MillBoats$Law", name := "standing", desc := "(IIII)I" } : Jvm.MethodName)) ∈ ALLG := tk5 28 rfl rfl
theorem w989 : (Jvm.Cond.methodLink "MillBoats$Grist" (55 : Nat) ({ cls := "MillBoats$River", name := "powerHad", desc := "(I[II)I" } : Jvm.MethodName)) ∈ ALLG := tk5 29 rfl rfl
theorem w990 : (Jvm.Cond.methodLink "MillBoats$Grist" (59 : Nat) ({ cls := "MillBoats$Grist", name := "grindOrders", desc := "(III)V" } : Jvm.MethodName)) ∈ ALLG := tk5 30 rfl rfl
theorem w992 : (Jvm.Cond.instanceMethod ({ cls := "MillBoats$Grist", name := "grindOrders", desc := "(III)V" } : Jvm.MethodName)) ∈ ALLG := tk5 32 rfl rfl
theorem w993 : (Jvm.Cond.code ({ cls := "MillBoats$Grist", name := "grindOrders", desc := "(III)V" } : Jvm.MethodName) prog_5_method_7_code (13 : Nat) (Option.none : Option Jvm.ClassFile.FieldType)) ∈ ALLG := tk5 33 rfl rfl
theorem w994 : (Jvm.Cond.methodLinkNest "MillBoats$Grist" (82 : Nat) ({ cls := "MillBoats", name := "laneOf", desc := "(I)I" } : Jvm.MethodName) "MillBoats") ∈ NESTL := nk5 34 rfl rfl
theorem w995 : (Jvm.Cond.methodLink "MillBoats$Grist" (86 : Nat) ({ cls := "java/lang/Math", name := "min", desc := "(II)I" } : Jvm.MethodName)) ∈ ALLG := tk5 35 rfl rfl
theorem w996 : (Jvm.Cond.methodLink "MillBoats$Grist" (92 : Nat) ({ cls := "MillBoats$Law", name := "tollFor", desc := "(IIIIII)I" } : Jvm.MethodName)) ∈ ALLG := tk5 36 rfl rfl
theorem w997 : (Jvm.Cond.instanceMethod ({ cls := "MillBoats$Law", name := "tollFor", desc := "(IIIIII)I" } : Jvm.MethodName)) ∈ ALLG := tk5 37 rfl rfl
theorem w998 : (Jvm.Cond.selects "MillBoats$Law" ({ cls := "MillBoats$Law", name := "tollFor", desc := "(IIIIII)I" } : Jvm.MethodName) ({ cls := "MillBoats$Law", name := "tollFor", desc := "(IIIIII)I" } : Jvm.MethodName)) ∈ ALLG := tk5 38 rfl rfl
theorem w999 : (Jvm.Cond.code ({ cls := "MillBoats$Law", name := "tollFor", desc := "(IIIIII)I" } : Jvm.MethodName) prog_6_method_12_code (9 : Nat) (Option.some Jvm.ClassFile.FieldType.int)) ∈ ALLG := tk5 39 rfl rfl
theorem w1000 : (Jvm.Cond.methodLink "MillBoats$Grist" (96 : Nat) ({ cls := "MillBoats$Boat", name := "grindSacks", desc := "(II)V" } : Jvm.MethodName)) ∈ ALLG := tk5 40 rfl rfl
theorem w1001 : (Jvm.Cond.instanceMethod ({ cls := "MillBoats$Boat", name := "grindSacks", desc := "(II)V" } : Jvm.MethodName)) ∈ ALLG := tk5 41 rfl rfl
theorem w1002 : (Jvm.Cond.selects "MillBoats$Boat" ({ cls := "MillBoats$Boat", name := "grindSacks", desc := "(II)V" } : Jvm.MethodName) ({ cls := "MillBoats$Boat", name := "grindSacks", desc := "(II)V" } : Jvm.MethodName)) ∈ ALLG := tk5 42 rfl rfl
theorem w1003 : (Jvm.Cond.code ({ cls := "MillBoats$Boat", name := "grindSacks", desc := "(II)V" } : Jvm.MethodName) prog_2_method_4_code (3 : Nat) (Option.none : Option Jvm.ClassFile.FieldType)) ∈ ALLG := tk5 43 rfl rfl
theorem w1008 : (Jvm.Cond.methodLink "MillBoats" (220 : Nat) ({ cls := "MillBoats$Drift", name := "told", desc := "(II)I" } : Jvm.MethodName)) ∈ ALLG := tk5 48 rfl rfl
theorem w1009 : (Jvm.Cond.instanceMethod ({ cls := "MillBoats$Drift", name := "told", desc := "(II)I" } : Jvm.MethodName)) ∈ ALLG := tk5 49 rfl rfl
theorem w1010 : (Jvm.Cond.selects "MillBoats$Drift" ({ cls := "MillBoats$Drift", name := "told", desc := "(II)I" } : Jvm.MethodName) ({ cls := "MillBoats$Drift", name := "told", desc := "(II)I" } : Jvm.MethodName)) ∈ ALLG := tk5 50 rfl rfl
theorem w1011 : (Jvm.Cond.code ({ cls := "MillBoats$Drift", name := "told", desc := "(II)I" } : Jvm.MethodName) prog_4_method_2_code (3 : Nat) (Option.some Jvm.ClassFile.FieldType.int)) ∈ ALLG := tk5 51 rfl rfl
theorem w1016 : (Jvm.Cond.methodLink "MillBoats" (223 : Nat) ({ cls := "MillBoats$River", name := "canPlan", desc := "(I)Z" } : Jvm.MethodName)) ∈ ALLG := tk5 56 rfl rfl
theorem w1017 : (Jvm.Cond.instanceMethod ({ cls := "MillBoats$River", name := "canPlan", desc := "(I)Z" } : Jvm.MethodName)) ∈ ALLG := tk5 57 rfl rfl
theorem w1018 : (Jvm.Cond.selects "MillBoats$River" ({ cls := "MillBoats$River", name := "canPlan", desc := "(I)Z" } : Jvm.MethodName) ({ cls := "MillBoats$River", name := "canPlan", desc := "(I)Z" } : Jvm.MethodName)) ∈ ALLG := tk5 58 rfl rfl
theorem w1019 : (Jvm.Cond.code ({ cls := "MillBoats$River", name := "canPlan", desc := "(I)Z" } : Jvm.MethodName) prog_10_method_15_code (4 : Nat) (Option.some Jvm.ClassFile.FieldType.boolean)) ∈ ALLG := tk5 59 rfl rfl
theorem w1020 : (Jvm.Cond.methodLink "MillBoats$River" (109 : Nat) ({ cls := "java/lang/Integer", name := "bitCount", desc := "(I)I" } : Jvm.MethodName)) ∈ ALLG := tk5 60 rfl rfl
theorem w1021 : (Jvm.Cond.static ({ cls := "java/lang/Integer", name := "bitCount", desc := "(I)I" } : Jvm.MethodName)) ∈ ALLG := tk5 61 rfl rfl
theorem w1022 : (Jvm.Cond.code ({ cls := "java/lang/Integer", name := "bitCount", desc := "(I)I" } : Jvm.MethodName) prog_19_method_49_code (1 : Nat) (Option.some Jvm.ClassFile.FieldType.int)) ∈ ALLG := tk5 62 rfl rfl
theorem w1023 : (Jvm.Cond.constant "java/lang/Integer" (265 : Nat) (1431655765 : Int32)) ∈ ALLG := tk5 63 rfl rfl
theorem w1024 : (Jvm.Cond.constant "java/lang/Integer" (266 : Nat) (858993459 : Int32)) ∈ ALLG := tk5 64 rfl rfl
theorem w1025 : (Jvm.Cond.constant "java/lang/Integer" (267 : Nat) (252645135 : Int32)) ∈ ALLG := tk5 65 rfl rfl
theorem w1026 : (Jvm.Cond.methodLink "MillBoats" (226 : Nat) ({ cls := "MillBoats$Planner", name := "search", desc := "(IIIII)I" } : Jvm.MethodName)) ∈ ALLG := tk5 66 rfl rfl
theorem w1027 : (Jvm.Cond.instanceMethod ({ cls := "MillBoats$Planner", name := "search", desc := "(IIIII)I" } : Jvm.MethodName)) ∈ ALLG := tk5 67 rfl rfl
theorem w1028 : (Jvm.Cond.selects "MillBoats$Planner" ({ cls := "MillBoats$Planner", name := "search", desc := "(IIIII)I" } : Jvm.MethodName) ({ cls := "MillBoats$Planner", name := "search", desc := "(IIIII)I" } : Jvm.MethodName)) ∈ ALLG := tk5 68 rfl rfl
theorem w1029 : (Jvm.Cond.code ({ cls := "MillBoats$Planner", name := "search", desc := "(IIIII)I" } : Jvm.MethodName) prog_8_method_4_code (8 : Nat) (Option.some Jvm.ClassFile.FieldType.int)) ∈ ALLG := tk5 69 rfl rfl
theorem w1030 : (Jvm.Cond.methodLink "MillBoats$Planner" (59 : Nat) ({ cls := "MillBoats$Book", name := "latestOr", desc := "(III)I" } : Jvm.MethodName)) ∈ ALLG := tk5 70 rfl rfl
theorem w1031 : (Jvm.Cond.methodLink "MillBoats$Planner" (71 : Nat) ({ cls := "MillBoats$Book", name := "exactOr", desc := "(III)I" } : Jvm.MethodName)) ∈ ALLG := tk5 71 rfl rfl
theorem w1032 : (Jvm.Cond.methodLink "MillBoats$Planner" (78 : Nat) ({ cls := "MillBoats$Planner", name := "chooseMills", desc := "(I)V" } : Jvm.MethodName)) ∈ ALLG := tk5 72 rfl rfl
theorem w1034 : (Jvm.Cond.instanceMethod ({ cls := "MillBoats$Planner", name := "chooseMills", desc := "(I)V" } : Jvm.MethodName)) ∈ ALLG := tk5 74 rfl rfl
theorem w1035 : (Jvm.Cond.code ({ cls := "MillBoats$Planner", name := "chooseMills", desc := "(I)V" } : Jvm.MethodName) prog_8_method_5_code (3 : Nat) (Option.none : Option Jvm.ClassFile.FieldType)) ∈ ALLG := tk5 75 rfl rfl
theorem w1036 : (Jvm.Cond.methodLink "MillBoats$Planner" (82 : Nat) ({ cls := "MillBoats$Law", name := "wayOn", desc := "(III)I" } : Jvm.MethodName)) ∈ ALLG := tk5 76 rfl rfl
theorem w1037 : (Jvm.Cond.methodLink "MillBoats$Planner" (85 : Nat) ({ cls := "MillBoats$River", name := "isOpen", desc := "(II[II)Z" } : Jvm.MethodName)) ∈ ALLG := tk5 77 rfl rfl
theorem w1038 : (Jvm.Cond.methodLink "MillBoats$Planner" (94 : Nat) ({ cls := "MillBoats$Planner", name := "listChoices", desc := "(IIIII)V" } : Jvm.MethodName)) ∈ ALLG := tk5 78 rfl rfl
theorem w1040 : (Jvm.Cond.instanceMethod ({ cls := "MillBoats$Planner", name := "listChoices", desc := "(IIIII)V" } : Jvm.MethodName)) ∈ ALLG := tk5 80 rfl rfl
theorem w1041 : (Jvm.Cond.code ({ cls := "MillBoats$Planner", name := "listChoices", desc := "(IIIII)V" } : Jvm.MethodName) prog_8_method_6_code (12 : Nat) (Option.none : Option Jvm.ClassFile.FieldType)) ∈ ALLG := tk5 81 rfl rfl
theorem w1042 : (Jvm.Cond.methodLink "MillBoats$Planner" (116 : Nat) ({ cls := "MillBoats$River", name := "lyingAt", desc := "(I[I)I" } : Jvm.MethodName)) ∈ ALLG := tk5 82 rfl rfl
theorem w1043 : (Jvm.Cond.methodLink "MillBoats$Planner" (120 : Nat) ({ cls := "MillBoats$River", name := "bears", desc := "(III)Z" } : Jvm.MethodName)) ∈ ALLG := tk5 83 rfl rfl
theorem w1044 : (Jvm.Cond.methodLink "MillBoats$Planner" (124 : Nat) ({ cls := "MillBoats$Law", name := "standing", desc := "(IIII)I" } : Jvm.MethodName)) ∈ ALLG := tk5 84 rfl rfl
theorem w1045 : (Jvm.Cond.methodLink "MillBoats$Planner" (128 : Nat) ({ cls := "MillBoats$River", name := "topPower", desc := "(I[II)I" } : Jvm.MethodName)) ∈ ALLG := tk5 85 rfl rfl
theorem w1046 : (Jvm.Cond.instanceMethod ({ cls := "MillBoats$River", name := "topPower", desc := "(I[II)I" } : Jvm.MethodName)) ∈ ALLG := tk5 86 rfl rfl
theorem w1047 : (Jvm.Cond.selects "MillBoats$River" ({ cls := "MillBoats$River", name := "topPower", desc := "(I[II)I" } : Jvm.MethodName) ({ cls := "MillBoats$River", name := "topPower", desc := "(I[II)I" } : Jvm.MethodName)) ∈ ALLG := tk5 87 rfl rfl
theorem w1048 : (Jvm.Cond.code ({ cls := "MillBoats$River", name := "topPower", desc := "(I[II)I" } : Jvm.MethodName) prog_10_method_11_code (5 : Nat) (Option.some Jvm.ClassFile.FieldType.int)) ∈ ALLG := tk5 88 rfl rfl
theorem w1049 : (Jvm.Cond.methodLink "MillBoats$River" (93 : Nat) ({ cls := "MillBoats$Table", name := "topUpTo", desc := "(I)I" } : Jvm.MethodName)) ∈ ALLG := tk5 89 rfl rfl
theorem w1050 : (Jvm.Cond.instanceMethod ({ cls := "MillBoats$Table", name := "topUpTo", desc := "(I)I" } : Jvm.MethodName)) ∈ ALLG := tk5 90 rfl rfl
theorem w1051 : (Jvm.Cond.selects "MillBoats$Table" ({ cls := "MillBoats$Table", name := "topUpTo", desc := "(I)I" } : Jvm.MethodName) ({ cls := "MillBoats$Table", name := "topUpTo", desc := "(I)I" } : Jvm.MethodName)) ∈ ALLG := tk5 91 rfl rfl
theorem w1052 : (Jvm.Cond.code ({ cls := "MillBoats$Table", name := "topUpTo", desc := "(I)I" } : Jvm.MethodName) prog_11_method_4_code (4 : Nat) (Option.some Jvm.ClassFile.FieldType.int)) ∈ ALLG := tk5 92 rfl rfl
theorem w1053 : (Jvm.Cond.methodLink "MillBoats$Table" (26 : Nat) ({ cls := "MillBoats$Table", name := "at", desc := "(I)I" } : Jvm.MethodName)) ∈ ALLG := tk5 93 rfl rfl
theorem w1054 : (Jvm.Cond.methodLink "MillBoats$Table" (30 : Nat) ({ cls := "java/lang/Math", name := "max", desc := "(II)I" } : Jvm.MethodName)) ∈ ALLG := tk5 94 rfl rfl
theorem w1055 : (Jvm.Cond.methodLink "MillBoats$Planner" (98 : Nat) ({ cls := "MillBoats$Planner", name := "sumTops", desc := "()V" } : Jvm.MethodName)) ∈ ALLG := tk5 95 rfl rfl
theorem w1057 : (Jvm.Cond.instanceMethod ({ cls := "MillBoats$Planner", name := "sumTops", desc := "()V" } : Jvm.MethodName)) ∈ ALLG := tk5 97 rfl rfl
theorem w1058 : (Jvm.Cond.code ({ cls := "MillBoats$Planner", name := "sumTops", desc := "()V" } : Jvm.MethodName) prog_8_method_7_code (5 : Nat) (Option.none : Option Jvm.ClassFile.FieldType)) ∈ ALLG := tk5 98 rfl rfl
theorem w1059 : (Jvm.Cond.methodLink "MillBoats$Planner" (132 : Nat) ({ cls := "java/lang/Math", name := "max", desc := "(II)I" } : Jvm.MethodName)) ∈ ALLG := tk5 99 rfl rfl
theorem w1060 : (Jvm.Cond.methodLink "MillBoats$Planner" (104 : Nat) ({ cls := "MillBoats$Planner", name := "tryMill", desc := "(I)V" } : Jvm.MethodName)) ∈ ALLG := tk5 100 rfl rfl
theorem w1062 : (Jvm.Cond.instanceMethod ({ cls := "MillBoats$Planner", name := "tryMill", desc := "(I)V" } : Jvm.MethodName)) ∈ ALLG := tk5 102 rfl rfl
theorem w1063 : (Jvm.Cond.code ({ cls := "MillBoats$Planner", name := "tryMill", desc := "(I)V" } : Jvm.MethodName) prog_8_method_8_code (4 : Nat) (Option.none : Option Jvm.ClassFile.FieldType)) ∈ ALLG := tk5 103 rfl rfl
theorem w1064 : (Jvm.Cond.methodLink "MillBoats$Planner" (138 : Nat) ({ cls := "MillBoats$Planner", name := "weigh", desc := "()V" } : Jvm.MethodName)) ∈ ALLG := tk5 104 rfl rfl
theorem w1066 : (Jvm.Cond.instanceMethod ({ cls := "MillBoats$Planner", name := "weigh", desc := "()V" } : Jvm.MethodName)) ∈ ALLG := tk5 106 rfl rfl
theorem w1067 : (Jvm.Cond.code ({ cls := "MillBoats$Planner", name := "weigh", desc := "()V" } : Jvm.MethodName) prog_8_method_10_code (3 : Nat) (Option.none : Option Jvm.ClassFile.FieldType)) ∈ ALLG := tk5 107 rfl rfl
theorem w1068 : (Jvm.Cond.methodLink "MillBoats$Planner" (152 : Nat) ({ cls := "MillBoats$River", name := "pullBorne", desc := "(I[IIZ)I" } : Jvm.MethodName)) ∈ ALLG := tk5 108 rfl rfl
theorem w1069 : (Jvm.Cond.methodLink "MillBoats$Planner" (165 : Nat) ({ cls := "MillBoats$River", name := "powerHad", desc := "(I[II)I" } : Jvm.MethodName)) ∈ ALLG := tk5 109 rfl rfl
theorem w1070 : (Jvm.Cond.methodLink "MillBoats$Planner" (107 : Nat) ({ cls := "java/lang/System", name := "arraycopy", desc := "(Ljava/lang/Object;ILjava/lang/Object;II)V" } : Jvm.MethodName)) ∈ ALLG := tk5 110 rfl rfl
theorem w1071 : (Jvm.Cond.methodLink "MillBoats$Planner" (144 : Nat) ({ cls := "MillBoats$Planner", name := "tryBerth", desc := "(II)V" } : Jvm.MethodName)) ∈ ALLG := tk5 111 rfl rfl
theorem w1073 : (Jvm.Cond.instanceMethod ({ cls := "MillBoats$Planner", name := "tryBerth", desc := "(II)V" } : Jvm.MethodName)) ∈ ALLG := tk5 113 rfl rfl
theorem w1074 : (Jvm.Cond.code ({ cls := "MillBoats$Planner", name := "tryBerth", desc := "(II)V" } : Jvm.MethodName) prog_8_method_9_code (4 : Nat) (Option.none : Option Jvm.ClassFile.FieldType)) ∈ ALLG := tk5 114 rfl rfl
theorem w1075 : (Jvm.Cond.methodLinkNest "MillBoats$Planner" (148 : Nat) ({ cls := "MillBoats", name := "stretchOf", desc := "(I)I" } : Jvm.MethodName) "MillBoats") ∈ NESTL := nk5 115 rfl rfl
theorem w1080 : (Jvm.Cond.methodLink "MillBoats" (229 : Nat) ({ cls := "MillBoats$Planner", name := "has", desc := "(I)Z" } : Jvm.MethodName)) ∈ ALLG := tk5 120 rfl rfl
theorem w1081 : (Jvm.Cond.instanceMethod ({ cls := "MillBoats$Planner", name := "has", desc := "(I)Z" } : Jvm.MethodName)) ∈ ALLG := tk5 121 rfl rfl
theorem w1082 : (Jvm.Cond.selects "MillBoats$Planner" ({ cls := "MillBoats$Planner", name := "has", desc := "(I)Z" } : Jvm.MethodName) ({ cls := "MillBoats$Planner", name := "has", desc := "(I)Z" } : Jvm.MethodName)) ∈ ALLG := tk5 122 rfl rfl
theorem w1083 : (Jvm.Cond.code ({ cls := "MillBoats$Planner", name := "has", desc := "(I)Z" } : Jvm.MethodName) prog_8_method_3_code (2 : Nat) (Option.some Jvm.ClassFile.FieldType.boolean)) ∈ ALLG := tk5 123 rfl rfl
theorem w1088 : (Jvm.Cond.methodLink "MillBoats" (233 : Nat) ({ cls := "MillBoats$Mover", name := "find", desc := "(I)I" } : Jvm.MethodName)) ∈ ALLG := tk5 128 rfl rfl
theorem w1089 : (Jvm.Cond.instanceMethod ({ cls := "MillBoats$Mover", name := "find", desc := "(I)I" } : Jvm.MethodName)) ∈ ALLG := tk5 129 rfl rfl
theorem w1090 : (Jvm.Cond.selects "MillBoats$Mover" ({ cls := "MillBoats$Mover", name := "find", desc := "(I)I" } : Jvm.MethodName) ({ cls := "MillBoats$Mover", name := "find", desc := "(I)I" } : Jvm.MethodName)) ∈ ALLG := tk5 130 rfl rfl
theorem w1091 : (Jvm.Cond.code ({ cls := "MillBoats$Mover", name := "find", desc := "(I)I" } : Jvm.MethodName) prog_7_method_2_code (3 : Nat) (Option.some Jvm.ClassFile.FieldType.int)) ∈ ALLG := tk5 131 rfl rfl
theorem w1092 : (Jvm.Cond.methodLink "MillBoats$Mover" (35 : Nat) ({ cls := "MillBoats$Planner", name := "isThere", desc := "()Z" } : Jvm.MethodName)) ∈ ALLG := tk5 132 rfl rfl
theorem w1093 : (Jvm.Cond.instanceMethod ({ cls := "MillBoats$Planner", name := "isThere", desc := "()Z" } : Jvm.MethodName)) ∈ ALLG := tk5 133 rfl rfl
theorem w1094 : (Jvm.Cond.selects "MillBoats$Planner" ({ cls := "MillBoats$Planner", name := "isThere", desc := "()Z" } : Jvm.MethodName) ({ cls := "MillBoats$Planner", name := "isThere", desc := "()Z" } : Jvm.MethodName)) ∈ ALLG := tk5 134 rfl rfl
theorem w1095 : (Jvm.Cond.code ({ cls := "MillBoats$Planner", name := "isThere", desc := "()Z" } : Jvm.MethodName) prog_8_method_2_code (1 : Nat) (Option.some Jvm.ClassFile.FieldType.boolean)) ∈ ALLG := tk5 135 rfl rfl
theorem w1096 : (Jvm.Cond.methodLink "MillBoats$Mover" (50 : Nat) ({ cls := "MillBoats$Planner", name := "has", desc := "(I)Z" } : Jvm.MethodName)) ∈ ALLG := tk5 136 rfl rfl
theorem w1097 : (Jvm.Cond.methodLink "MillBoats$Mover" (57 : Nat) ({ cls := "MillBoats$Mover", name := "arrange", desc := "(I)Z" } : Jvm.MethodName)) ∈ ALLG := tk5 137 rfl rfl
theorem w1099 : (Jvm.Cond.instanceMethod ({ cls := "MillBoats$Mover", name := "arrange", desc := "(I)Z" } : Jvm.MethodName)) ∈ ALLG := tk5 139 rfl rfl
theorem w1100 : (Jvm.Cond.code ({ cls := "MillBoats$Mover", name := "arrange", desc := "(I)Z" } : Jvm.MethodName) prog_7_method_3_code (4 : Nat) (Option.some Jvm.ClassFile.FieldType.boolean)) ∈ ALLG := tk5 140 rfl rfl
theorem w1101 : (Jvm.Cond.methodLink "MillBoats$Mover" (63 : Nat) ({ cls := "MillBoats$Mover", name := "arrangeWith", desc := "(II)Z" } : Jvm.MethodName)) ∈ ALLG := tk5 141 rfl rfl
theorem w1103 : (Jvm.Cond.instanceMethod ({ cls := "MillBoats$Mover", name := "arrangeWith", desc := "(II)Z" } : Jvm.MethodName)) ∈ ALLG := tk5 143 rfl rfl
theorem w1104 : (Jvm.Cond.code ({ cls := "MillBoats$Mover", name := "arrangeWith", desc := "(II)Z" } : Jvm.MethodName) prog_7_method_4_code (6 : Nat) (Option.some Jvm.ClassFile.FieldType.boolean)) ∈ ALLG := tk5 144 rfl rfl
theorem w1105 : (Jvm.Cond.methodLink "MillBoats$Mover" (67 : Nat) ({ cls := "MillBoats$Mover", name := "fewestSteps", desc := "(II)I" } : Jvm.MethodName)) ∈ ALLG := tk5 145 rfl rfl
theorem w1107 : (Jvm.Cond.instanceMethod ({ cls := "MillBoats$Mover", name := "fewestSteps", desc := "(II)I" } : Jvm.MethodName)) ∈ ALLG := tk5 147 rfl rfl
theorem w1108 : (Jvm.Cond.code ({ cls := "MillBoats$Mover", name := "fewestSteps", desc := "(II)I" } : Jvm.MethodName) prog_7_method_5_code (8 : Nat) (Option.some Jvm.ClassFile.FieldType.int)) ∈ ALLG := tk5 148 rfl rfl
theorem w1109 : (Jvm.Cond.methodLink "MillBoats$Mover" (71 : Nat) ({ cls := "java/util/Arrays", name := "fill", desc := "([II)V" } : Jvm.MethodName)) ∈ ALLG := tk5 149 rfl rfl
theorem w1110 : (Jvm.Cond.methodLink "MillBoats$Mover" (80 : Nat) ({ cls := "MillBoats$Mover", name := "begin", desc := "(I)V" } : Jvm.MethodName)) ∈ ALLG := tk5 150 rfl rfl
theorem w1112 : (Jvm.Cond.instanceMethod ({ cls := "MillBoats$Mover", name := "begin", desc := "(I)V" } : Jvm.MethodName)) ∈ ALLG := tk5 152 rfl rfl
theorem w1113 : (Jvm.Cond.code ({ cls := "MillBoats$Mover", name := "begin", desc := "(I)V" } : Jvm.MethodName) prog_7_method_6_code (3 : Nat) (Option.none : Option Jvm.ClassFile.FieldType)) ∈ ALLG := tk5 153 rfl rfl
theorem w1114 : (Jvm.Cond.methodLinkNest "MillBoats$Mover" (95 : Nat) ({ cls := "MillBoats", name := "isBerth", desc := "(I)Z" } : Jvm.MethodName) "MillBoats") ∈ NESTL := nk5 154 rfl rfl
theorem w1115 : (Jvm.Cond.methodLink "MillBoats$Mover" (91 : Nat) ({ cls := "MillBoats$Mover", name := "reach", desc := "(IIII)V" } : Jvm.MethodName)) ∈ ALLG := tk5 155 rfl rfl
theorem w1117 : (Jvm.Cond.instanceMethod ({ cls := "MillBoats$Mover", name := "reach", desc := "(IIII)V" } : Jvm.MethodName)) ∈ ALLG := tk5 157 rfl rfl
theorem w1118 : (Jvm.Cond.code ({ cls := "MillBoats$Mover", name := "reach", desc := "(IIII)V" } : Jvm.MethodName) prog_7_method_7_code (6 : Nat) (Option.none : Option Jvm.ClassFile.FieldType)) ∈ ALLG := tk5 158 rfl rfl
theorem w1119 : (Jvm.Cond.methodLink "MillBoats$Mover" (98 : Nat) ({ cls := "MillBoats$River", name := "lyingAt", desc := "(I[I)I" } : Jvm.MethodName)) ∈ ALLG := tk5 159 rfl rfl
theorem w1120 : (Jvm.Cond.methodLink "MillBoats$Mover" (102 : Nat) ({ cls := "MillBoats$River", name := "bears", desc := "(III)Z" } : Jvm.MethodName)) ∈ ALLG := tk5 160 rfl rfl
theorem w1121 : (Jvm.Cond.methodLinkNest "MillBoats$Mover" (84 : Nat) ({ cls := "MillBoats", name := "laneOf", desc := "(I)I" } : Jvm.MethodName) "MillBoats") ∈ NESTL := nk5 161 rfl rfl
theorem w1122 : (Jvm.Cond.methodLinkNest "MillBoats$Mover" (88 : Nat) ({ cls := "MillBoats", name := "stretchOf", desc := "(I)I" } : Jvm.MethodName) "MillBoats") ∈ NESTL := nk5 162 rfl rfl
theorem w1135 : (Jvm.Cond.methodLink "MillBoats" (270 : Nat) ({ cls := "MillBoats$Grist", name := "told", desc := "(II)I" } : Jvm.MethodName)) ∈ ALLG := tk5 175 rfl rfl
theorem w1136 : (Jvm.Cond.instanceMethod ({ cls := "MillBoats$Grist", name := "told", desc := "(II)I" } : Jvm.MethodName)) ∈ ALLG := tk5 176 rfl rfl
theorem w1137 : (Jvm.Cond.selects "MillBoats$Grist" ({ cls := "MillBoats$Grist", name := "told", desc := "(II)I" } : Jvm.MethodName) ({ cls := "MillBoats$Grist", name := "told", desc := "(II)I" } : Jvm.MethodName)) ∈ ALLG := tk5 177 rfl rfl
theorem w1138 : (Jvm.Cond.code ({ cls := "MillBoats$Grist", name := "told", desc := "(II)I" } : Jvm.MethodName) prog_5_method_3_code (3 : Nat) (Option.some Jvm.ClassFile.FieldType.int)) ∈ ALLG := tk5 178 rfl rfl
theorem w1143 : (Jvm.Cond.methodLink "MillBoats" (276 : Nat) ({ cls := "MillBoats$Law", name := "textsOf", desc := "(I)I" } : Jvm.MethodName)) ∈ ALLG := tk5 183 rfl rfl
theorem w1144 : (Jvm.Cond.instanceMethod ({ cls := "MillBoats$Law", name := "textsOf", desc := "(I)I" } : Jvm.MethodName)) ∈ ALLG := tk5 184 rfl rfl
theorem w1145 : (Jvm.Cond.selects "MillBoats$Law" ({ cls := "MillBoats$Law", name := "textsOf", desc := "(I)I" } : Jvm.MethodName) ({ cls := "MillBoats$Law", name := "textsOf", desc := "(I)I" } : Jvm.MethodName)) ∈ ALLG := tk5 185 rfl rfl
theorem w1146 : (Jvm.Cond.code ({ cls := "MillBoats$Law", name := "textsOf", desc := "(I)I" } : Jvm.MethodName) prog_6_method_3_code (2 : Nat) (Option.some Jvm.ClassFile.FieldType.int)) ∈ ALLG := tk5 186 rfl rfl
theorem w1147 : (Jvm.Cond.methodLink "MillBoats" (279 : Nat) ({ cls := "MillBoats$Grist", name := "sacksLeft", desc := "()I" } : Jvm.MethodName)) ∈ ALLG := tk5 187 rfl rfl
theorem w1148 : (Jvm.Cond.instanceMethod ({ cls := "MillBoats$Grist", name := "sacksLeft", desc := "()I" } : Jvm.MethodName)) ∈ ALLG := tk5 188 rfl rfl
theorem w1149 : (Jvm.Cond.selects "MillBoats$Grist" ({ cls := "MillBoats$Grist", name := "sacksLeft", desc := "()I" } : Jvm.MethodName) ({ cls := "MillBoats$Grist", name := "sacksLeft", desc := "()I" } : Jvm.MethodName)) ∈ ALLG := tk5 189 rfl rfl
theorem w1150 : (Jvm.Cond.code ({ cls := "MillBoats$Grist", name := "sacksLeft", desc := "()I" } : Jvm.MethodName) prog_5_method_4_code (3 : Nat) (Option.some Jvm.ClassFile.FieldType.int)) ∈ ALLG := tk5 190 rfl rfl
theorem w1151 : (Jvm.Cond.methodLink "MillBoats" (282 : Nat) ({ cls := "MillBoats$River", name := "sacksGround", desc := "()I" } : Jvm.MethodName)) ∈ ALLG := tk5 191 rfl rfl
theorem w1152 : (Jvm.Cond.instanceMethod ({ cls := "MillBoats$River", name := "sacksGround", desc := "()I" } : Jvm.MethodName)) ∈ ALLG := tk5 192 rfl rfl
theorem w1153 : (Jvm.Cond.selects "MillBoats$River" ({ cls := "MillBoats$River", name := "sacksGround", desc := "()I" } : Jvm.MethodName) ({ cls := "MillBoats$River", name := "sacksGround", desc := "()I" } : Jvm.MethodName)) ∈ ALLG := tk5 193 rfl rfl
theorem w1154 : (Jvm.Cond.code ({ cls := "MillBoats$River", name := "sacksGround", desc := "()I" } : Jvm.MethodName) prog_10_method_16_code (3 : Nat) (Option.some Jvm.ClassFile.FieldType.int)) ∈ ALLG := tk5 194 rfl rfl
theorem w1155 : (Jvm.Cond.methodLink "MillBoats" (285 : Nat) ({ cls := "MillBoats$River", name := "tollsTaken", desc := "()I" } : Jvm.MethodName)) ∈ ALLG := tk5 195 rfl rfl
theorem w1156 : (Jvm.Cond.instanceMethod ({ cls := "MillBoats$River", name := "tollsTaken", desc := "()I" } : Jvm.MethodName)) ∈ ALLG := tk5 196 rfl rfl
theorem w1157 : (Jvm.Cond.selects "MillBoats$River" ({ cls := "MillBoats$River", name := "tollsTaken", desc := "()I" } : Jvm.MethodName) ({ cls := "MillBoats$River", name := "tollsTaken", desc := "()I" } : Jvm.MethodName)) ∈ ALLG := tk5 197 rfl rfl
theorem w1158 : (Jvm.Cond.code ({ cls := "MillBoats$River", name := "tollsTaken", desc := "()I" } : Jvm.MethodName) prog_10_method_17_code (3 : Nat) (Option.some Jvm.ClassFile.FieldType.int)) ∈ ALLG := tk5 198 rfl rfl
theorem w1159 : (Jvm.Cond.methodLink "MillBoats" (288 : Nat) ({ cls := "MillBoats$River", name := "lyingAtBerths", desc := "()I" } : Jvm.MethodName)) ∈ ALLG := tk5 199 rfl rfl
theorem w1160 : (Jvm.Cond.instanceMethod ({ cls := "MillBoats$River", name := "lyingAtBerths", desc := "()I" } : Jvm.MethodName)) ∈ ALLG := tk5 200 rfl rfl
theorem w1161 : (Jvm.Cond.selects "MillBoats$River" ({ cls := "MillBoats$River", name := "lyingAtBerths", desc := "()I" } : Jvm.MethodName) ({ cls := "MillBoats$River", name := "lyingAtBerths", desc := "()I" } : Jvm.MethodName)) ∈ ALLG := tk5 201 rfl rfl
theorem w1162 : (Jvm.Cond.code ({ cls := "MillBoats$River", name := "lyingAtBerths", desc := "()I" } : Jvm.MethodName) prog_10_method_18_code (3 : Nat) (Option.some Jvm.ClassFile.FieldType.int)) ∈ ALLG := tk5 202 rfl rfl
theorem w1163 : (Jvm.Cond.methodLink "MillBoats" (291 : Nat) ({ cls := "MillBoats$River", name := "goneBoats", desc := "()I" } : Jvm.MethodName)) ∈ ALLG := tk5 203 rfl rfl
theorem w1164 : (Jvm.Cond.instanceMethod ({ cls := "MillBoats$River", name := "goneBoats", desc := "()I" } : Jvm.MethodName)) ∈ ALLG := tk5 204 rfl rfl
theorem w1165 : (Jvm.Cond.selects "MillBoats$River" ({ cls := "MillBoats$River", name := "goneBoats", desc := "()I" } : Jvm.MethodName) ({ cls := "MillBoats$River", name := "goneBoats", desc := "()I" } : Jvm.MethodName)) ∈ ALLG := tk5 205 rfl rfl
theorem w1166 : (Jvm.Cond.code ({ cls := "MillBoats$River", name := "goneBoats", desc := "()I" } : Jvm.MethodName) prog_10_method_19_code (3 : Nat) (Option.some Jvm.ClassFile.FieldType.int)) ∈ ALLG := tk5 206 rfl rfl
theorem w1240 : (Jvm.Cond.methodLink "MillBoats" (258 : Nat) ({ cls := "MillBoats$Boat", name := "worn", desc := "()I" } : Jvm.MethodName)) ∈ ALLG := tk6 40 rfl rfl
theorem w1250 : (Jvm.Cond.methodLink "MillBoatsModel" (7 : Nat) ({ cls := "java/lang/Object", name := "<init>", desc := "()V" } : Jvm.MethodName)) ∈ ALLG := tk6 50 rfl rfl
theorem w1251 : (Jvm.Cond.fieldLink "MillBoatsModel" (1 : Nat) "MillBoatsModel" "thrown" "I") ∈ ALLG := tk6 51 rfl rfl
theorem w1252 : (Jvm.Cond.fieldLink "MillBoatsModel" (13 : Nat) "MillBoatsModel" "bed" "[I") ∈ ALLG := tk6 52 rfl rfl
theorem w1253 : (Jvm.Cond.fieldLink "MillBoatsModel" (17 : Nat) "MillBoatsModel" "points" "[I") ∈ ALLG := tk6 53 rfl rfl
theorem w1254 : (Jvm.Cond.fieldLink "MillBoatsModel" (20 : Nat) "MillBoatsModel" "pointX" "[I") ∈ ALLG := tk6 54 rfl rfl
theorem w1255 : (Jvm.Cond.fieldLink "MillBoatsModel" (23 : Nat) "MillBoatsModel" "pointY" "[I") ∈ ALLG := tk6 55 rfl rfl
theorem w1256 : (Jvm.Cond.fieldLink "MillBoatsModel" (184 : Nat) "MillBoatsModel" "mills" "I") ∈ ALLG := tk6 56 rfl rfl
theorem w1257 : (Jvm.Cond.fieldLink "MillBoatsModel" (26 : Nat) "MillBoatsModel" "draught" "[I") ∈ ALLG := tk6 57 rfl rfl
theorem w1258 : (Jvm.Cond.fieldLink "MillBoatsModel" (29 : Nat) "MillBoatsModel" "wheel" "[I") ∈ ALLG := tk6 58 rfl rfl
theorem w1259 : (Jvm.Cond.fieldLink "MillBoatsModel" (32 : Nat) "MillBoatsModel" "chain" "[I") ∈ ALLG := tk6 59 rfl rfl
theorem w1260 : (Jvm.Cond.fieldLink "MillBoatsModel" (35 : Nat) "MillBoatsModel" "lies" "[I") ∈ ALLG := tk6 60 rfl rfl
theorem w1261 : (Jvm.Cond.fieldLink "MillBoatsModel" (38 : Nat) "MillBoatsModel" "since" "[I") ∈ ALLG := tk6 61 rfl rfl
theorem w1262 : (Jvm.Cond.fieldLink "MillBoatsModel" (41 : Nat) "MillBoatsModel" "ground" "[I") ∈ ALLG := tk6 62 rfl rfl
theorem w1263 : (Jvm.Cond.fieldLink "MillBoatsModel" (44 : Nat) "MillBoatsModel" "tolls" "[I") ∈ ALLG := tk6 63 rfl rfl
theorem w1264 : (Jvm.Cond.fieldLink "MillBoatsModel" (47 : Nat) "MillBoatsModel" "dressed" "[I") ∈ ALLG := tk6 64 rfl rfl
theorem w1265 : (Jvm.Cond.fieldLink "MillBoatsModel" (194 : Nat) "MillBoatsModel" "today" "I") ∈ ALLG := tk6 65 rfl rfl
theorem w1266 : (Jvm.Cond.fieldLink "MillBoatsModel" (223 : Nat) "MillBoatsModel" "heights" "I") ∈ ALLG := tk6 66 rfl rfl
theorem w1267 : (Jvm.Cond.fieldLink "MillBoatsModel" (50 : Nat) "MillBoatsModel" "heightDay" "[I") ∈ ALLG := tk6 67 rfl rfl
theorem w1268 : (Jvm.Cond.fieldLink "MillBoatsModel" (53 : Nat) "MillBoatsModel" "heightV" "[I") ∈ ALLG := tk6 68 rfl rfl
theorem w1269 : (Jvm.Cond.fieldLink "MillBoatsModel" (56 : Nat) "MillBoatsModel" "heightTold" "[I") ∈ ALLG := tk6 69 rfl rfl
theorem w1270 : (Jvm.Cond.fieldLink "MillBoatsModel" (226 : Nat) "MillBoatsModel" "ices" "I") ∈ ALLG := tk6 70 rfl rfl
theorem w1271 : (Jvm.Cond.fieldLink "MillBoatsModel" (59 : Nat) "MillBoatsModel" "iceDay" "[I") ∈ ALLG := tk6 71 rfl rfl
theorem w1272 : (Jvm.Cond.fieldLink "MillBoatsModel" (62 : Nat) "MillBoatsModel" "iceV" "[Z") ∈ ALLG := tk6 72 rfl rfl
theorem w1273 : (Jvm.Cond.fieldLink "MillBoatsModel" (66 : Nat) "MillBoatsModel" "iceTold" "[I") ∈ ALLG := tk6 73 rfl rfl
theorem w1274 : (Jvm.Cond.fieldLink "MillBoatsModel" (69 : Nat) "MillBoatsModel" "signs" "[I") ∈ ALLG := tk6 74 rfl rfl
theorem w1275 : (Jvm.Cond.fieldLink "MillBoatsModel" (72 : Nat) "MillBoatsModel" "signMany" "[I") ∈ ALLG := tk6 75 rfl rfl
theorem w1276 : (Jvm.Cond.fieldLink "MillBoatsModel" (75 : Nat) "MillBoatsModel" "ruleMany" "[I") ∈ ALLG := tk6 76 rfl rfl
theorem w1277 : (Jvm.Cond.fieldLink "MillBoatsModel" (78 : Nat) "MillBoatsModel" "ruleKind" "[I") ∈ ALLG := tk6 77 rfl rfl
theorem w1278 : (Jvm.Cond.fieldLink "MillBoatsModel" (81 : Nat) "MillBoatsModel" "ruleA" "[I") ∈ ALLG := tk6 78 rfl rfl
theorem w1279 : (Jvm.Cond.fieldLink "MillBoatsModel" (84 : Nat) "MillBoatsModel" "ruleB" "[I") ∈ ALLG := tk6 79 rfl rfl
theorem w1280 : (Jvm.Cond.fieldLink "MillBoatsModel" (87 : Nat) "MillBoatsModel" "ruleBegin" "[I") ∈ ALLG := tk6 80 rfl rfl
theorem w1281 : (Jvm.Cond.fieldLink "MillBoatsModel" (90 : Nat) "MillBoatsModel" "ruleEnd" "[I") ∈ ALLG := tk6 81 rfl rfl
theorem w1282 : (Jvm.Cond.fieldLink "MillBoatsModel" (93 : Nat) "MillBoatsModel" "textFrom" "[I") ∈ ALLG := tk6 82 rfl rfl
theorem w1283 : (Jvm.Cond.fieldLink "MillBoatsModel" (96 : Nat) "MillBoatsModel" "textTold" "[I") ∈ ALLG := tk6 83 rfl rfl
theorem w1284 : (Jvm.Cond.fieldLink "MillBoatsModel" (99 : Nat) "MillBoatsModel" "texts" "[I") ∈ ALLG := tk6 84 rfl rfl
theorem w1285 : (Jvm.Cond.fieldLink "MillBoatsModel" (102 : Nat) "MillBoatsModel" "tape" "[B") ∈ ALLG := tk6 85 rfl rfl
theorem w1286 : (Jvm.Cond.fieldLink "MillBoatsModel" (238 : Nat) "MillBoatsModel" "taped" "I") ∈ ALLG := tk6 86 rfl rfl
theorem w1287 : (Jvm.Cond.fieldLink "MillBoatsModel" (241 : Nat) "MillBoatsModel" "at" "I") ∈ ALLG := tk6 87 rfl rfl
theorem w1288 : (Jvm.Cond.fieldLink "MillBoatsModel" (244 : Nat) "MillBoatsModel" "place" "I") ∈ ALLG := tk6 88 rfl rfl
theorem w1289 : (Jvm.Cond.fieldLink "MillBoatsModel" (247 : Nat) "MillBoatsModel" "sort" "I") ∈ ALLG := tk6 89 rfl rfl
theorem w1290 : (Jvm.Cond.fieldLink "MillBoatsModel" (250 : Nat) "MillBoatsModel" "value" "I") ∈ ALLG := tk6 90 rfl rfl
theorem w1291 : (Jvm.Cond.fieldLink "MillBoatsModel" (272 : Nat) "MillBoatsModel" "fault" "I") ∈ ALLG := tk6 91 rfl rfl
theorem w1292 : (Jvm.Cond.fieldLink "MillBoatsModel" (275 : Nat) "MillBoatsModel" "faultPlace" "I") ∈ ALLG := tk6 92 rfl rfl
theorem w1293 : (Jvm.Cond.fieldLink "MillBoatsModel" (106 : Nat) "MillBoatsModel" "lastPlace" "I") ∈ ALLG := tk6 93 rfl rfl
theorem w1294 : (Jvm.Cond.fieldLink "MillBoatsModel" (334 : Nat) "MillBoatsModel" "open" "I") ∈ ALLG := tk6 94 rfl rfl
theorem w1295 : (Jvm.Cond.fieldLink "MillBoatsModel" (331 : Nat) "MillBoatsModel" "lets" "I") ∈ ALLG := tk6 95 rfl rfl
theorem w1296 : (Jvm.Cond.fieldLink "MillBoatsModel" (109 : Nat) "MillBoatsModel" "letName" "[B") ∈ ALLG := tk6 96 rfl rfl
theorem w1297 : (Jvm.Cond.fieldLink "MillBoatsModel" (112 : Nat) "MillBoatsModel" "letSize" "[I") ∈ ALLG := tk6 97 rfl rfl
theorem w1298 : (Jvm.Cond.fieldLink "MillBoatsModel" (115 : Nat) "MillBoatsModel" "named" "[I") ∈ ALLG := tk6 98 rfl rfl
theorem w1299 : (Jvm.Cond.fieldLink "MillBoatsModel" (118 : Nat) "MillBoatsModel" "heap" "[I") ∈ ALLG := tk6 99 rfl rfl
theorem w1300 : (Jvm.Cond.fieldLink "MillBoatsModel" (442 : Nat) "MillBoatsModel" "events" "I") ∈ ALLG := tk6 100 rfl rfl
theorem w1301 : (Jvm.Cond.fieldLink "MillBoatsModel" (121 : Nat) "MillBoatsModel" "event" "[I") ∈ ALLG := tk6 101 rfl rfl
theorem w1302 : (Jvm.Cond.fieldLink "MillBoatsModel" (445 : Nat) "MillBoatsModel" "nowHeight" "I") ∈ ALLG := tk6 102 rfl rfl
theorem w1303 : (Jvm.Cond.fieldLink "MillBoatsModel" (455 : Nat) "MillBoatsModel" "nowIce" "Z") ∈ ALLG := tk6 103 rfl rfl
theorem w1304 : (Jvm.Cond.fieldLink "MillBoatsModel" (124 : Nat) "MillBoatsModel" "skiffs" "[I") ∈ ALLG := tk6 104 rfl rfl
theorem w1305 : (Jvm.Cond.fieldLink "MillBoatsModel" (127 : Nat) "MillBoatsModel" "rows" "[I") ∈ ALLG := tk6 105 rfl rfl
theorem w1306 : (Jvm.Cond.fieldLink "MillBoatsModel" (463 : Nat) "MillBoatsModel" "orders" "I") ∈ ALLG := tk6 106 rfl rfl
theorem w1307 : (Jvm.Cond.fieldLink "MillBoatsModel" (130 : Nat) "MillBoatsModel" "orderShore" "[I") ∈ ALLG := tk6 107 rfl rfl
theorem w1308 : (Jvm.Cond.fieldLink "MillBoatsModel" (133 : Nat) "MillBoatsModel" "orderSacks" "[I") ∈ ALLG := tk6 108 rfl rfl
theorem w1309 : (Jvm.Cond.fieldLink "MillBoatsModel" (136 : Nat) "MillBoatsModel" "orderLeft" "[I") ∈ ALLG := tk6 109 rfl rfl
theorem w1310 : (Jvm.Cond.fieldLink "MillBoatsModel" (139 : Nat) "MillBoatsModel" "orderToll" "[I") ∈ ALLG := tk6 110 rfl rfl
theorem w1311 : (Jvm.Cond.fieldLink "MillBoatsModel" (142 : Nat) "MillBoatsModel" "orderDone" "[I") ∈ ALLG := tk6 111 rfl rfl
theorem w1312 : (Jvm.Cond.fieldLink "MillBoatsModel" (517 : Nat) "MillBoatsModel" "hasPlan" "Z") ∈ ALLG := tk6 112 rfl rfl
theorem w1313 : (Jvm.Cond.fieldLink "MillBoatsModel" (484 : Nat) "MillBoatsModel" "planned" "I") ∈ ALLG := tk6 113 rfl rfl
theorem w1314 : (Jvm.Cond.fieldLink "MillBoatsModel" (145 : Nat) "MillBoatsModel" "planTo" "[I") ∈ ALLG := tk6 114 rfl rfl
theorem w1315 : (Jvm.Cond.fieldLink "MillBoatsModel" (148 : Nat) "MillBoatsModel" "wasAt" "[I") ∈ ALLG := tk6 115 rfl rfl
theorem w1316 : (Jvm.Cond.fieldLink "MillBoatsModel" (151 : Nat) "MillBoatsModel" "tried" "[I") ∈ ALLG := tk6 116 rfl rfl
theorem w1317 : (Jvm.Cond.fieldLink "MillBoatsModel" (154 : Nat) "MillBoatsModel" "mayLie" "[Z") ∈ ALLG := tk6 117 rfl rfl
theorem w1318 : (Jvm.Cond.fieldLink "MillBoatsModel" (157 : Nat) "MillBoatsModel" "ways" "[I") ∈ ALLG := tk6 118 rfl rfl
theorem w1319 : (Jvm.Cond.fieldLink "MillBoatsModel" (514 : Nat) "MillBoatsModel" "planDay" "I") ∈ ALLG := tk6 119 rfl rfl
theorem w1320 : (Jvm.Cond.fieldLink "MillBoatsModel" (490 : Nat) "MillBoatsModel" "planHeight" "I") ∈ ALLG := tk6 120 rfl rfl
theorem w1321 : (Jvm.Cond.fieldLink "MillBoatsModel" (493 : Nat) "MillBoatsModel" "planIce" "Z") ∈ ALLG := tk6 121 rfl rfl
theorem w1322 : (Jvm.Cond.fieldLink "MillBoatsModel" (496 : Nat) "MillBoatsModel" "planFrom" "I") ∈ ALLG := tk6 122 rfl rfl
theorem w1323 : (Jvm.Cond.fieldLink "MillBoatsModel" (499 : Nat) "MillBoatsModel" "planUntil" "I") ∈ ALLG := tk6 123 rfl rfl
theorem w1324 : (Jvm.Cond.fieldLink "MillBoatsModel" (505 : Nat) "MillBoatsModel" "bestSum" "I") ∈ ALLG := tk6 124 rfl rfl
theorem w1325 : (Jvm.Cond.fieldLink "MillBoatsModel" (160 : Nat) "MillBoatsModel" "moveMill" "[I") ∈ ALLG := tk6 125 rfl rfl
theorem w1326 : (Jvm.Cond.fieldLink "MillBoatsModel" (163 : Nat) "MillBoatsModel" "moveSteps" "[I") ∈ ALLG := tk6 126 rfl rfl
theorem w1327 : (Jvm.Cond.fieldLink "MillBoatsModel" (526 : Nat) "MillBoatsModel" "moveMany" "I") ∈ ALLG := tk6 127 rfl rfl
theorem w1328 : (Jvm.Cond.fieldLink "MillBoatsModel" (166 : Nat) "MillBoatsModel" "far" "[I") ∈ ALLG := tk6 128 rfl rfl
theorem w1329 : (Jvm.Cond.fieldLink "MillBoatsModel" (169 : Nat) "MillBoatsModel" "flood" "[I") ∈ ALLG := tk6 129 rfl rfl
theorem w1489 : (Jvm.Cond.arrayClass Jvm.ClassFile.FieldType.boolean) ∈ ALLG := tk7 49 rfl rfl
theorem w1494 : (Jvm.Cond.methodLink "MillBoatsModel" (172 : Nat) ({ cls := "MillBoatsModel", name := "isBerth", desc := "(I)Z" } : Jvm.MethodName)) ∈ ALLG := tk7 54 rfl rfl
theorem w1495 : (Jvm.Cond.static ({ cls := "MillBoatsModel", name := "isBerth", desc := "(I)Z" } : Jvm.MethodName)) ∈ ALLG := tk7 55 rfl rfl
theorem w1496 : (Jvm.Cond.code ({ cls := "MillBoatsModel", name := "isBerth", desc := "(I)Z" } : Jvm.MethodName) prog_14_method_4_code (1 : Nat) (Option.some Jvm.ClassFile.FieldType.boolean)) ∈ ALLG := tk7 56 rfl rfl
theorem w1497 : (Jvm.Cond.methodLink "MillBoatsModel" (176 : Nat) ({ cls := "MillBoatsModel", name := "within", desc := "(III)Z" } : Jvm.MethodName)) ∈ ALLG := tk7 57 rfl rfl
theorem w1498 : (Jvm.Cond.static ({ cls := "MillBoatsModel", name := "within", desc := "(III)Z" } : Jvm.MethodName)) ∈ ALLG := tk7 58 rfl rfl
theorem w1499 : (Jvm.Cond.code ({ cls := "MillBoatsModel", name := "within", desc := "(III)Z" } : Jvm.MethodName) prog_14_method_2_code (3 : Nat) (Option.some Jvm.ClassFile.FieldType.boolean)) ∈ ALLG := tk7 59 rfl rfl
theorem w1508 : (Jvm.Cond.methodLink "MillBoatsModel" (180 : Nat) ({ cls := "MillBoatsModel", name := "valueOf", desc := "(II)I" } : Jvm.MethodName)) ∈ ALLG := tk7 68 rfl rfl
theorem w1510 : (Jvm.Cond.instanceMethod ({ cls := "MillBoatsModel", name := "valueOf", desc := "(II)I" } : Jvm.MethodName)) ∈ ALLG := tk7 70 rfl rfl
theorem w1511 : (Jvm.Cond.code ({ cls := "MillBoatsModel", name := "valueOf", desc := "(II)I" } : Jvm.MethodName) prog_14_method_7_code (9 : Nat) (Option.some Jvm.ClassFile.FieldType.int)) ∈ ALLG := tk7 71 rfl rfl
theorem w1520 : (Jvm.Cond.methodLink "MillBoatsModel" (187 : Nat) ({ cls := "MillBoatsModel", name := "isMill", desc := "(I)Z" } : Jvm.MethodName)) ∈ ALLG := tk7 80 rfl rfl
theorem w1522 : (Jvm.Cond.instanceMethod ({ cls := "MillBoatsModel", name := "isMill", desc := "(I)Z" } : Jvm.MethodName)) ∈ ALLG := tk7 82 rfl rfl
theorem w1523 : (Jvm.Cond.code ({ cls := "MillBoatsModel", name := "isMill", desc := "(I)Z" } : Jvm.MethodName) prog_14_method_11_code (2 : Nat) (Option.some Jvm.ClassFile.FieldType.boolean)) ∈ ALLG := tk7 83 rfl rfl
theorem w1524 : (Jvm.Cond.methodLink "MillBoatsModel" (190 : Nat) ({ cls := "MillBoatsModel", name := "millAt", desc := "(I)I" } : Jvm.MethodName)) ∈ ALLG := tk7 84 rfl rfl
theorem w1526 : (Jvm.Cond.instanceMethod ({ cls := "MillBoatsModel", name := "millAt", desc := "(I)I" } : Jvm.MethodName)) ∈ ALLG := tk7 86 rfl rfl
theorem w1527 : (Jvm.Cond.code ({ cls := "MillBoatsModel", name := "millAt", desc := "(I)I" } : Jvm.MethodName) prog_14_method_12_code (3 : Nat) (Option.some Jvm.ClassFile.FieldType.int)) ∈ ALLG := tk7 87 rfl rfl
theorem w1536 : (Jvm.Cond.methodLink "MillBoatsModel" (210 : Nat) ({ cls := "MillBoatsModel", name := "isAsked", desc := "(II)Z" } : Jvm.MethodName)) ∈ ALLG := tk7 96 rfl rfl
theorem w1538 : (Jvm.Cond.instanceMethod ({ cls := "MillBoatsModel", name := "isAsked", desc := "(II)Z" } : Jvm.MethodName)) ∈ ALLG := tk7 98 rfl rfl
theorem w1539 : (Jvm.Cond.code ({ cls := "MillBoatsModel", name := "isAsked", desc := "(II)Z" } : Jvm.MethodName) prog_14_method_20_code (3 : Nat) (Option.some Jvm.ClassFile.FieldType.boolean)) ∈ ALLG := tk7 99 rfl rfl
theorem w1540 : (Jvm.Cond.methodLink "MillBoatsModel" (204 : Nat) ({ cls := "MillBoatsModel", name := "flowOf", desc := "(II)I" } : Jvm.MethodName)) ∈ ALLG := tk7 100 rfl rfl
theorem w1542 : (Jvm.Cond.instanceMethod ({ cls := "MillBoatsModel", name := "flowOf", desc := "(II)I" } : Jvm.MethodName)) ∈ ALLG := tk7 102 rfl rfl
theorem w1543 : (Jvm.Cond.code ({ cls := "MillBoatsModel", name := "flowOf", desc := "(II)I" } : Jvm.MethodName) prog_14_method_16_code (8 : Nat) (Option.some Jvm.ClassFile.FieldType.int)) ∈ ALLG := tk7 103 rfl rfl
theorem w1548 : (Jvm.Cond.methodLink "MillBoatsModel" (213 : Nat) ({ cls := "MillBoatsModel", name := "powerOf", desc := "(II)I" } : Jvm.MethodName)) ∈ ALLG := tk7 108 rfl rfl
theorem w1550 : (Jvm.Cond.instanceMethod ({ cls := "MillBoatsModel", name := "powerOf", desc := "(II)I" } : Jvm.MethodName)) ∈ ALLG := tk7 110 rfl rfl
theorem w1551 : (Jvm.Cond.code ({ cls := "MillBoatsModel", name := "powerOf", desc := "(II)I" } : Jvm.MethodName) prog_14_method_18_code (3 : Nat) (Option.some Jvm.ClassFile.FieldType.int)) ∈ ALLG := tk7 111 rfl rfl
theorem w1552 : (Jvm.Cond.methodLink "MillBoatsModel" (200 : Nat) ({ cls := "MillBoatsModel", name := "floats", desc := "(II)Z" } : Jvm.MethodName)) ∈ ALLG := tk7 112 rfl rfl
theorem w1554 : (Jvm.Cond.instanceMethod ({ cls := "MillBoatsModel", name := "floats", desc := "(II)Z" } : Jvm.MethodName)) ∈ ALLG := tk7 114 rfl rfl
theorem w1555 : (Jvm.Cond.code ({ cls := "MillBoatsModel", name := "floats", desc := "(II)Z" } : Jvm.MethodName) prog_14_method_17_code (3 : Nat) (Option.some Jvm.ClassFile.FieldType.boolean)) ∈ ALLG := tk7 115 rfl rfl
theorem w1556 : (Jvm.Cond.methodLink "MillBoatsModel" (197 : Nat) ({ cls := "MillBoatsModel", name := "depth", desc := "(II)I" } : Jvm.MethodName)) ∈ ALLG := tk7 116 rfl rfl
theorem w1558 : (Jvm.Cond.instanceMethod ({ cls := "MillBoatsModel", name := "depth", desc := "(II)I" } : Jvm.MethodName)) ∈ ALLG := tk7 118 rfl rfl
theorem w1559 : (Jvm.Cond.code ({ cls := "MillBoatsModel", name := "depth", desc := "(II)I" } : Jvm.MethodName) prog_14_method_9_code (3 : Nat) (Option.some Jvm.ClassFile.FieldType.int)) ∈ ALLG := tk7 119 rfl rfl
theorem w1560 : (Jvm.Cond.methodLink "MillBoatsModel" (207 : Nat) ({ cls := "MillBoatsModel", name := "worn", desc := "(I)I" } : Jvm.MethodName)) ∈ ALLG := tk7 120 rfl rfl
theorem w1562 : (Jvm.Cond.instanceMethod ({ cls := "MillBoatsModel", name := "worn", desc := "(I)I" } : Jvm.MethodName)) ∈ ALLG := tk7 122 rfl rfl
theorem w1563 : (Jvm.Cond.code ({ cls := "MillBoatsModel", name := "worn", desc := "(I)I" } : Jvm.MethodName) prog_14_method_15_code (2 : Nat) (Option.some Jvm.ClassFile.FieldType.int)) ∈ ALLG := tk7 123 rfl rfl
theorem w1568 : (Jvm.Cond.methodLink "MillBoatsModel" (216 : Nat) ({ cls := "MillBoatsModel", name := "pullOf", desc := "(IIZ)I" } : Jvm.MethodName)) ∈ ALLG := tk7 128 rfl rfl
theorem w1570 : (Jvm.Cond.instanceMethod ({ cls := "MillBoatsModel", name := "pullOf", desc := "(IIZ)I" } : Jvm.MethodName)) ∈ ALLG := tk7 130 rfl rfl
theorem w1571 : (Jvm.Cond.code ({ cls := "MillBoatsModel", name := "pullOf", desc := "(IIZ)I" } : Jvm.MethodName) prog_14_method_19_code (5 : Nat) (Option.some Jvm.ClassFile.FieldType.int)) ∈ ALLG := tk7 131 rfl rfl
theorem w1580 : (Jvm.Cond.methodLink "MillBoatsModel" (220 : Nat) ({ cls := "MillBoatsModel", name := "isDay", desc := "(I)Z" } : Jvm.MethodName)) ∈ ALLG := tk7 140 rfl rfl
theorem w1581 : (Jvm.Cond.static ({ cls := "MillBoatsModel", name := "isDay", desc := "(I)Z" } : Jvm.MethodName)) ∈ ALLG := tk7 141 rfl rfl
theorem w1582 : (Jvm.Cond.code ({ cls := "MillBoatsModel", name := "isDay", desc := "(I)Z" } : Jvm.MethodName) prog_14_method_25_code (1 : Nat) (Option.some Jvm.ClassFile.FieldType.boolean)) ∈ ALLG := tk7 142 rfl rfl
theorem w1591 : (Jvm.Cond.methodLink "MillBoatsModel" (229 : Nat) ({ cls := "MillBoatsModel", name := "isKnown", desc := "(II)Z" } : Jvm.MethodName)) ∈ ALLG := tk7 151 rfl rfl
theorem w1593 : (Jvm.Cond.instanceMethod ({ cls := "MillBoatsModel", name := "isKnown", desc := "(II)Z" } : Jvm.MethodName)) ∈ ALLG := tk7 153 rfl rfl
theorem w1594 : (Jvm.Cond.code ({ cls := "MillBoatsModel", name := "isKnown", desc := "(II)Z" } : Jvm.MethodName) prog_14_method_30_code (3 : Nat) (Option.some Jvm.ClassFile.FieldType.boolean)) ∈ ALLG := tk7 154 rfl rfl
theorem w1595 : (Jvm.Cond.methodLink "MillBoatsModel" (232 : Nat) ({ cls := "MillBoatsModel", name := "heightAt", desc := "(II)I" } : Jvm.MethodName)) ∈ ALLG := tk7 155 rfl rfl
theorem w1597 : (Jvm.Cond.instanceMethod ({ cls := "MillBoatsModel", name := "heightAt", desc := "(II)I" } : Jvm.MethodName)) ∈ ALLG := tk7 157 rfl rfl
theorem w1598 : (Jvm.Cond.code ({ cls := "MillBoatsModel", name := "heightAt", desc := "(II)I" } : Jvm.MethodName) prog_14_method_28_code (5 : Nat) (Option.some Jvm.ClassFile.FieldType.int)) ∈ ALLG := tk7 158 rfl rfl
theorem w1603 : (Jvm.Cond.methodLink "MillBoatsModel" (235 : Nat) ({ cls := "MillBoatsModel", name := "iceAt", desc := "(II)Z" } : Jvm.MethodName)) ∈ ALLG := tk7 163 rfl rfl
theorem w1605 : (Jvm.Cond.instanceMethod ({ cls := "MillBoatsModel", name := "iceAt", desc := "(II)Z" } : Jvm.MethodName)) ∈ ALLG := tk7 165 rfl rfl
theorem w1606 : (Jvm.Cond.code ({ cls := "MillBoatsModel", name := "iceAt", desc := "(II)Z" } : Jvm.MethodName) prog_14_method_29_code (4 : Nat) (Option.some Jvm.ClassFile.FieldType.boolean)) ∈ ALLG := tk7 166 rfl rfl
theorem w1619 : (Jvm.Cond.methodLink "MillBoatsModel" (285 : Nat) ({ cls := "MillBoatsModel", name := "next", desc := "()V" } : Jvm.MethodName)) ∈ ALLG := tk7 179 rfl rfl
theorem w1621 : (Jvm.Cond.instanceMethod ({ cls := "MillBoatsModel", name := "next", desc := "()V" } : Jvm.MethodName)) ∈ ALLG := tk7 181 rfl rfl
theorem w1622 : (Jvm.Cond.code ({ cls := "MillBoatsModel", name := "next", desc := "()V" } : Jvm.MethodName) prog_14_method_38_code (2 : Nat) (Option.none : Option Jvm.ClassFile.FieldType)) ∈ ALLG := tk7 182 rfl rfl
theorem w1623 : (Jvm.Cond.methodLink "MillBoatsModel" (253 : Nat) ({ cls := "MillBoatsModel", name := "isSmall", desc := "(I)Z" } : Jvm.MethodName)) ∈ ALLG := tk7 183 rfl rfl
theorem w1624 : (Jvm.Cond.static ({ cls := "MillBoatsModel", name := "isSmall", desc := "(I)Z" } : Jvm.MethodName)) ∈ ALLG := tk7 184 rfl rfl
theorem w1625 : (Jvm.Cond.code ({ cls := "MillBoatsModel", name := "isSmall", desc := "(I)Z" } : Jvm.MethodName) prog_14_method_36_code (1 : Nat) (Option.some Jvm.ClassFile.FieldType.boolean)) ∈ ALLG := tk7 185 rfl rfl
theorem w1626 : (Jvm.Cond.methodLink "MillBoatsModel" (256 : Nat) ({ cls := "MillBoatsModel", name := "see", desc := "(I)I" } : Jvm.MethodName)) ∈ ALLG := tk7 186 rfl rfl
theorem w1628 : (Jvm.Cond.instanceMethod ({ cls := "MillBoatsModel", name := "see", desc := "(I)I" } : Jvm.MethodName)) ∈ ALLG := tk7 188 rfl rfl
theorem w1629 : (Jvm.Cond.code ({ cls := "MillBoatsModel", name := "see", desc := "(I)I" } : Jvm.MethodName) prog_14_method_35_code (2 : Nat) (Option.some Jvm.ClassFile.FieldType.int)) ∈ ALLG := tk7 189 rfl rfl
theorem w1630 : (Jvm.Cond.methodLink "MillBoatsModel" (259 : Nat) ({ cls := "MillBoatsModel", name := "isDigit", desc := "(I)Z" } : Jvm.MethodName)) ∈ ALLG := tk7 190 rfl rfl
theorem w1631 : (Jvm.Cond.static ({ cls := "MillBoatsModel", name := "isDigit", desc := "(I)Z" } : Jvm.MethodName)) ∈ ALLG := tk7 191 rfl rfl
theorem w1632 : (Jvm.Cond.code ({ cls := "MillBoatsModel", name := "isDigit", desc := "(I)Z" } : Jvm.MethodName) prog_14_method_37_code (1 : Nat) (Option.some Jvm.ClassFile.FieldType.boolean)) ∈ ALLG := tk7 192 rfl rfl
theorem w1633 : (Jvm.Cond.methodLink "MillBoatsModel" (278 : Nat) ({ cls := "MillBoatsModel", name := "isWell", desc := "()Z" } : Jvm.MethodName)) ∈ ALLG := tk7 193 rfl rfl
theorem w1635 : (Jvm.Cond.instanceMethod ({ cls := "MillBoatsModel", name := "isWell", desc := "()Z" } : Jvm.MethodName)) ∈ ALLG := tk7 195 rfl rfl
theorem w1636 : (Jvm.Cond.code ({ cls := "MillBoatsModel", name := "isWell", desc := "()Z" } : Jvm.MethodName) prog_14_method_42_code (1 : Nat) (Option.some Jvm.ClassFile.FieldType.boolean)) ∈ ALLG := tk7 196 rfl rfl
theorem w1637 : (Jvm.Cond.methodLink "MillBoatsModel" (389 : Nat) ({ cls := "MillBoatsModel", name := "readRule", desc := "()V" } : Jvm.MethodName)) ∈ ALLG := tk7 197 rfl rfl
theorem w1639 : (Jvm.Cond.instanceMethod ({ cls := "MillBoatsModel", name := "readRule", desc := "()V" } : Jvm.MethodName)) ∈ ALLG := tk7 199 rfl rfl
theorem w1640 : (Jvm.Cond.code ({ cls := "MillBoatsModel", name := "readRule", desc := "()V" } : Jvm.MethodName) prog_14_method_60_code (3 : Nat) (Option.none : Option Jvm.ClassFile.FieldType)) ∈ ALLG := tk7 200 rfl rfl
theorem w1642 : (Jvm.Cond.methodLink "MillBoatsModel" (292 : Nat) ({ cls := "MillBoatsModel", name := "isWord", desc := "(Ljava/lang/String;)Z" } : Jvm.MethodName)) ∈ ALLG := tk7 202 rfl rfl
theorem w1644 : (Jvm.Cond.instanceMethod ({ cls := "MillBoatsModel", name := "isWord", desc := "(Ljava/lang/String;)Z" } : Jvm.MethodName)) ∈ ALLG := tk7 204 rfl rfl
theorem w1645 : (Jvm.Cond.code ({ cls := "MillBoatsModel", name := "isWord", desc := "(Ljava/lang/String;)Z" } : Jvm.MethodName) prog_14_method_39_code (3 : Nat) (Option.some Jvm.ClassFile.FieldType.boolean)) ∈ ALLG := tk7 205 rfl rfl
theorem w1646 : (Jvm.Cond.methodLink "MillBoatsModel" (262 : Nat) ({ cls := "java/lang/String", name := "length", desc := "()I" } : Jvm.MethodName)) ∈ ALLG := tk7 206 rfl rfl
theorem w1647 : (Jvm.Cond.methodLink "MillBoatsModel" (268 : Nat) ({ cls := "java/lang/String", name := "charAt", desc := "(I)C" } : Jvm.MethodName)) ∈ ALLG := tk7 207 rfl rfl
theorem w1652 : (Jvm.Cond.methodLink "MillBoatsModel" (288 : Nat) ({ cls := "MillBoatsModel", name := "fails", desc := "(I)V" } : Jvm.MethodName)) ∈ ALLG := tk7 212 rfl rfl
theorem w1654 : (Jvm.Cond.instanceMethod ({ cls := "MillBoatsModel", name := "fails", desc := "(I)V" } : Jvm.MethodName)) ∈ ALLG := tk7 214 rfl rfl
theorem w1655 : (Jvm.Cond.code ({ cls := "MillBoatsModel", name := "fails", desc := "(I)V" } : Jvm.MethodName) prog_14_method_41_code (2 : Nat) (Option.none : Option Jvm.ClassFile.FieldType)) ∈ ALLG := tk7 215 rfl rfl
theorem w1656 : (Jvm.Cond.methodLink "MillBoatsModel" (380 : Nat) ({ cls := "MillBoatsModel", name := "readLet", desc := "()V" } : Jvm.MethodName)) ∈ ALLG := tk7 216 rfl rfl
theorem w1658 : (Jvm.Cond.instanceMethod ({ cls := "MillBoatsModel", name := "readLet", desc := "()V" } : Jvm.MethodName)) ∈ ALLG := tk7 218 rfl rfl
theorem w1659 : (Jvm.Cond.code ({ cls := "MillBoatsModel", name := "readLet", desc := "()V" } : Jvm.MethodName) prog_14_method_57_code (5 : Nat) (Option.none : Option Jvm.ClassFile.FieldType)) ∈ ALLG := tk7 219 rfl rfl
theorem w1660 : (Jvm.Cond.methodLink "MillBoatsModel" (340 : Nat) ({ cls := "MillBoatsModel", name := "isBarredWord", desc := "()Z" } : Jvm.MethodName)) ∈ ALLG := tk7 220 rfl rfl
theorem w1662 : (Jvm.Cond.instanceMethod ({ cls := "MillBoatsModel", name := "isBarredWord", desc := "()Z" } : Jvm.MethodName)) ∈ ALLG := tk7 222 rfl rfl
theorem w1663 : (Jvm.Cond.code ({ cls := "MillBoatsModel", name := "isBarredWord", desc := "()Z" } : Jvm.MethodName) prog_14_method_45_code (1 : Nat) (Option.some Jvm.ClassFile.FieldType.boolean)) ∈ ALLG := tk7 223 rfl rfl
theorem w1669 : (Jvm.Cond.methodLink "MillBoatsModel" (343 : Nat) ({ cls := "MillBoatsModel", name := "name", desc := "()I" } : Jvm.MethodName)) ∈ ALLG := tk7 229 rfl rfl
theorem w1671 : (Jvm.Cond.instanceMethod ({ cls := "MillBoatsModel", name := "name", desc := "()I" } : Jvm.MethodName)) ∈ ALLG := tk7 231 rfl rfl
theorem w1672 : (Jvm.Cond.code ({ cls := "MillBoatsModel", name := "name", desc := "()I" } : Jvm.MethodName) prog_14_method_46_code (5 : Nat) (Option.some Jvm.ClassFile.FieldType.int)) ∈ ALLG := tk7 232 rfl rfl
theorem w1682 : (Jvm.Cond.methodLink "MillBoatsModel" (352 : Nat) ({ cls := "MillBoatsModel", name := "wantSign", desc := "(I)V" } : Jvm.MethodName)) ∈ ALLG := tk8 2 rfl rfl
theorem w1684 : (Jvm.Cond.instanceMethod ({ cls := "MillBoatsModel", name := "wantSign", desc := "(I)V" } : Jvm.MethodName)) ∈ ALLG := tk8 4 rfl rfl
theorem w1685 : (Jvm.Cond.code ({ cls := "MillBoatsModel", name := "wantSign", desc := "(I)V" } : Jvm.MethodName) prog_14_method_43_code (2 : Nat) (Option.none : Option Jvm.ClassFile.FieldType)) ∈ ALLG := tk8 5 rfl rfl
theorem w1686 : (Jvm.Cond.methodLink "MillBoatsModel" (282 : Nat) ({ cls := "MillBoatsModel", name := "isSign", desc := "(I)Z" } : Jvm.MethodName)) ∈ ALLG := tk8 6 rfl rfl
theorem w1688 : (Jvm.Cond.instanceMethod ({ cls := "MillBoatsModel", name := "isSign", desc := "(I)Z" } : Jvm.MethodName)) ∈ ALLG := tk8 8 rfl rfl
theorem w1689 : (Jvm.Cond.code ({ cls := "MillBoatsModel", name := "isSign", desc := "(I)Z" } : Jvm.MethodName) prog_14_method_40_code (2 : Nat) (Option.some Jvm.ClassFile.FieldType.boolean)) ∈ ALLG := tk8 9 rfl rfl
theorem w1690 : (Jvm.Cond.methodLink "MillBoatsModel" (349 : Nat) ({ cls := "MillBoatsModel", name := "sum", desc := "()V" } : Jvm.MethodName)) ∈ ALLG := tk8 10 rfl rfl
theorem w1692 : (Jvm.Cond.instanceMethod ({ cls := "MillBoatsModel", name := "sum", desc := "()V" } : Jvm.MethodName)) ∈ ALLG := tk8 12 rfl rfl
theorem w1693 : (Jvm.Cond.code ({ cls := "MillBoatsModel", name := "sum", desc := "()V" } : Jvm.MethodName) prog_14_method_51_code (2 : Nat) (Option.none : Option Jvm.ClassFile.FieldType)) ∈ ALLG := tk8 13 rfl rfl
theorem w1694 : (Jvm.Cond.methodLink "MillBoatsModel" (358 : Nat) ({ cls := "MillBoatsModel", name := "product", desc := "()V" } : Jvm.MethodName)) ∈ ALLG := tk8 14 rfl rfl
theorem w1696 : (Jvm.Cond.instanceMethod ({ cls := "MillBoatsModel", name := "product", desc := "()V" } : Jvm.MethodName)) ∈ ALLG := tk8 16 rfl rfl
theorem w1697 : (Jvm.Cond.code ({ cls := "MillBoatsModel", name := "product", desc := "()V" } : Jvm.MethodName) prog_14_method_50_code (1 : Nat) (Option.none : Option Jvm.ClassFile.FieldType)) ∈ ALLG := tk8 17 rfl rfl
theorem w1698 : (Jvm.Cond.methodLink "MillBoatsModel" (355 : Nat) ({ cls := "MillBoatsModel", name := "factor", desc := "()V" } : Jvm.MethodName)) ∈ ALLG := tk8 18 rfl rfl
theorem w1700 : (Jvm.Cond.instanceMethod ({ cls := "MillBoatsModel", name := "factor", desc := "()V" } : Jvm.MethodName)) ∈ ALLG := tk8 20 rfl rfl
theorem w1701 : (Jvm.Cond.code ({ cls := "MillBoatsModel", name := "factor", desc := "()V" } : Jvm.MethodName) prog_14_method_49_code (2 : Nat) (Option.none : Option Jvm.ClassFile.FieldType)) ∈ ALLG := tk8 21 rfl rfl
theorem w1702 : (Jvm.Cond.methodLink "MillBoatsModel" (337 : Nat) ({ cls := "MillBoatsModel", name := "emits", desc := "(I)V" } : Jvm.MethodName)) ∈ ALLG := tk8 22 rfl rfl
theorem w1704 : (Jvm.Cond.instanceMethod ({ cls := "MillBoatsModel", name := "emits", desc := "(I)V" } : Jvm.MethodName)) ∈ ALLG := tk8 24 rfl rfl
theorem w1705 : (Jvm.Cond.code ({ cls := "MillBoatsModel", name := "emits", desc := "(I)V" } : Jvm.MethodName) prog_14_method_47_code (2 : Nat) (Option.none : Option Jvm.ClassFile.FieldType)) ∈ ALLG := tk8 25 rfl rfl
theorem w1706 : (Jvm.Cond.methodLink "MillBoatsModel" (346 : Nat) ({ cls := "MillBoatsModel", name := "opens", desc := "()V" } : Jvm.MethodName)) ∈ ALLG := tk8 26 rfl rfl
theorem w1708 : (Jvm.Cond.instanceMethod ({ cls := "MillBoatsModel", name := "opens", desc := "()V" } : Jvm.MethodName)) ∈ ALLG := tk8 28 rfl rfl
theorem w1709 : (Jvm.Cond.code ({ cls := "MillBoatsModel", name := "opens", desc := "()V" } : Jvm.MethodName) prog_14_method_48_code (1 : Nat) (Option.none : Option Jvm.ClassFile.FieldType)) ∈ ALLG := tk8 29 rfl rfl
theorem w1710 : (Jvm.Cond.methodLink "MillBoatsModel" (383 : Nat) ({ cls := "MillBoatsModel", name := "readToll", desc := "(I)V" } : Jvm.MethodName)) ∈ ALLG := tk8 30 rfl rfl
theorem w1712 : (Jvm.Cond.instanceMethod ({ cls := "MillBoatsModel", name := "readToll", desc := "(I)V" } : Jvm.MethodName)) ∈ ALLG := tk8 32 rfl rfl
theorem w1713 : (Jvm.Cond.code ({ cls := "MillBoatsModel", name := "readToll", desc := "(I)V" } : Jvm.MethodName) prog_14_method_58_code (2 : Nat) (Option.none : Option Jvm.ClassFile.FieldType)) ∈ ALLG := tk8 33 rfl rfl
theorem w1714 : (Jvm.Cond.methodLink "MillBoatsModel" (373 : Nat) ({ cls := "MillBoatsModel", name := "number", desc := "()I" } : Jvm.MethodName)) ∈ ALLG := tk8 34 rfl rfl
theorem w1716 : (Jvm.Cond.instanceMethod ({ cls := "MillBoatsModel", name := "number", desc := "()I" } : Jvm.MethodName)) ∈ ALLG := tk8 36 rfl rfl
theorem w1717 : (Jvm.Cond.code ({ cls := "MillBoatsModel", name := "number", desc := "()I" } : Jvm.MethodName) prog_14_method_56_code (1 : Nat) (Option.some Jvm.ClassFile.FieldType.int)) ∈ ALLG := tk8 37 rfl rfl
theorem w1718 : (Jvm.Cond.methodLink "MillBoatsModel" (376 : Nat) ({ cls := "MillBoatsModel", name := "wantWord", desc := "(Ljava/lang/String;)V" } : Jvm.MethodName)) ∈ ALLG := tk8 38 rfl rfl
theorem w1720 : (Jvm.Cond.instanceMethod ({ cls := "MillBoatsModel", name := "wantWord", desc := "(Ljava/lang/String;)V" } : Jvm.MethodName)) ∈ ALLG := tk8 40 rfl rfl
theorem w1721 : (Jvm.Cond.code ({ cls := "MillBoatsModel", name := "wantWord", desc := "(Ljava/lang/String;)V" } : Jvm.MethodName) prog_14_method_44_code (2 : Nat) (Option.none : Option Jvm.ClassFile.FieldType)) ∈ ALLG := tk8 41 rfl rfl
theorem w1722 : (Jvm.Cond.methodLink "MillBoatsModel" (386 : Nat) ({ cls := "MillBoatsModel", name := "readWay", desc := "(I)V" } : Jvm.MethodName)) ∈ ALLG := tk8 42 rfl rfl
theorem w1724 : (Jvm.Cond.instanceMethod ({ cls := "MillBoatsModel", name := "readWay", desc := "(I)V" } : Jvm.MethodName)) ∈ ALLG := tk8 44 rfl rfl
theorem w1725 : (Jvm.Cond.code ({ cls := "MillBoatsModel", name := "readWay", desc := "(I)V" } : Jvm.MethodName) prog_14_method_59_code (2 : Nat) (Option.none : Option Jvm.ClassFile.FieldType)) ∈ ALLG := tk8 45 rfl rfl
theorem w1726 : (Jvm.Cond.methodLink "MillBoatsModel" (361 : Nat) ({ cls := "MillBoatsModel", name := "cond", desc := "()V" } : Jvm.MethodName)) ∈ ALLG := tk8 46 rfl rfl
theorem w1728 : (Jvm.Cond.instanceMethod ({ cls := "MillBoatsModel", name := "cond", desc := "()V" } : Jvm.MethodName)) ∈ ALLG := tk8 48 rfl rfl
theorem w1729 : (Jvm.Cond.code ({ cls := "MillBoatsModel", name := "cond", desc := "()V" } : Jvm.MethodName) prog_14_method_55_code (1 : Nat) (Option.none : Option Jvm.ClassFile.FieldType)) ∈ ALLG := tk8 49 rfl rfl
theorem w1730 : (Jvm.Cond.methodLink "MillBoatsModel" (370 : Nat) ({ cls := "MillBoatsModel", name := "both", desc := "()V" } : Jvm.MethodName)) ∈ ALLG := tk8 50 rfl rfl
theorem w1732 : (Jvm.Cond.instanceMethod ({ cls := "MillBoatsModel", name := "both", desc := "()V" } : Jvm.MethodName)) ∈ ALLG := tk8 52 rfl rfl
theorem w1733 : (Jvm.Cond.code ({ cls := "MillBoatsModel", name := "both", desc := "()V" } : Jvm.MethodName) prog_14_method_54_code (1 : Nat) (Option.none : Option Jvm.ClassFile.FieldType)) ∈ ALLG := tk8 53 rfl rfl
theorem w1734 : (Jvm.Cond.methodLink "MillBoatsModel" (367 : Nat) ({ cls := "MillBoatsModel", name := "part", desc := "()V" } : Jvm.MethodName)) ∈ ALLG := tk8 54 rfl rfl
theorem w1736 : (Jvm.Cond.instanceMethod ({ cls := "MillBoatsModel", name := "part", desc := "()V" } : Jvm.MethodName)) ∈ ALLG := tk8 56 rfl rfl
theorem w1737 : (Jvm.Cond.code ({ cls := "MillBoatsModel", name := "part", desc := "()V" } : Jvm.MethodName) prog_14_method_52_code (2 : Nat) (Option.none : Option Jvm.ClassFile.FieldType)) ∈ ALLG := tk8 57 rfl rfl
theorem w1738 : (Jvm.Cond.methodLink "MillBoatsModel" (364 : Nat) ({ cls := "MillBoatsModel", name := "compares", desc := "()V" } : Jvm.MethodName)) ∈ ALLG := tk8 58 rfl rfl
theorem w1740 : (Jvm.Cond.instanceMethod ({ cls := "MillBoatsModel", name := "compares", desc := "()V" } : Jvm.MethodName)) ∈ ALLG := tk8 60 rfl rfl
theorem w1741 : (Jvm.Cond.code ({ cls := "MillBoatsModel", name := "compares", desc := "()V" } : Jvm.MethodName) prog_14_method_53_code (2 : Nat) (Option.none : Option Jvm.ClassFile.FieldType)) ∈ ALLG := tk8 61 rfl rfl
theorem w1742 : (Jvm.Cond.methodLink "MillBoatsModel" (392 : Nat) ({ cls := "MillBoatsModel", name := "copyText", desc := "(I)V" } : Jvm.MethodName)) ∈ ALLG := tk8 62 rfl rfl
theorem w1744 : (Jvm.Cond.instanceMethod ({ cls := "MillBoatsModel", name := "copyText", desc := "(I)V" } : Jvm.MethodName)) ∈ ALLG := tk8 64 rfl rfl
theorem w1745 : (Jvm.Cond.code ({ cls := "MillBoatsModel", name := "copyText", desc := "(I)V" } : Jvm.MethodName) prog_14_method_61_code (5 : Nat) (Option.none : Option Jvm.ClassFile.FieldType)) ∈ ALLG := tk8 65 rfl rfl
theorem w1754 : (Jvm.Cond.methodLink "MillBoatsModel" (432 : Nat) ({ cls := "MillBoatsModel", name := "barredBy", desc := "(IIII)I" } : Jvm.MethodName)) ∈ ALLG := tk8 74 rfl rfl
theorem w1756 : (Jvm.Cond.instanceMethod ({ cls := "MillBoatsModel", name := "barredBy", desc := "(IIII)I" } : Jvm.MethodName)) ∈ ALLG := tk8 76 rfl rfl
theorem w1757 : (Jvm.Cond.code ({ cls := "MillBoatsModel", name := "barredBy", desc := "(IIII)I" } : Jvm.MethodName) prog_14_method_73_code (8 : Nat) (Option.some Jvm.ClassFile.FieldType.int)) ∈ ALLG := tk8 77 rfl rfl
theorem w1758 : (Jvm.Cond.methodLink "MillBoatsModel" (426 : Nat) ({ cls := "MillBoatsModel", name := "hasSay", desc := "(II)Z" } : Jvm.MethodName)) ∈ ALLG := tk8 78 rfl rfl
theorem w1759 : (Jvm.Cond.static ({ cls := "MillBoatsModel", name := "hasSay", desc := "(II)Z" } : Jvm.MethodName)) ∈ ALLG := tk8 79 rfl rfl
theorem w1760 : (Jvm.Cond.code ({ cls := "MillBoatsModel", name := "hasSay", desc := "(II)Z" } : Jvm.MethodName) prog_14_method_71_code (2 : Nat) (Option.some Jvm.ClassFile.FieldType.boolean)) ∈ ALLG := tk8 80 rfl rfl
theorem w1761 : (Jvm.Cond.methodLink "MillBoatsModel" (429 : Nat) ({ cls := "MillBoatsModel", name := "saysOf", desc := "(IIIII)I" } : Jvm.MethodName)) ∈ ALLG := tk8 81 rfl rfl
theorem w1763 : (Jvm.Cond.instanceMethod ({ cls := "MillBoatsModel", name := "saysOf", desc := "(IIIII)I" } : Jvm.MethodName)) ∈ ALLG := tk8 83 rfl rfl
theorem w1764 : (Jvm.Cond.code ({ cls := "MillBoatsModel", name := "saysOf", desc := "(IIIII)I" } : Jvm.MethodName) prog_14_method_72_code (7 : Nat) (Option.some Jvm.ClassFile.FieldType.int)) ∈ ALLG := tk8 84 rfl rfl
theorem w1765 : (Jvm.Cond.methodLink "MillBoatsModel" (422 : Nat) ({ cls := "MillBoatsModel", name := "wordOf", desc := "(IIIII)I" } : Jvm.MethodName)) ∈ ALLG := tk8 85 rfl rfl
theorem w1767 : (Jvm.Cond.instanceMethod ({ cls := "MillBoatsModel", name := "wordOf", desc := "(IIIII)I" } : Jvm.MethodName)) ∈ ALLG := tk8 87 rfl rfl
theorem w1768 : (Jvm.Cond.code ({ cls := "MillBoatsModel", name := "wordOf", desc := "(IIIII)I" } : Jvm.MethodName) prog_14_method_70_code (6 : Nat) (Option.some Jvm.ClassFile.FieldType.int)) ∈ ALLG := tk8 88 rfl rfl
theorem w1769 : (Jvm.Cond.methodLink "MillBoatsModel" (412 : Nat) ({ cls := "MillBoatsModel", name := "names", desc := "(IIIII)V" } : Jvm.MethodName)) ∈ ALLG := tk8 89 rfl rfl
theorem w1771 : (Jvm.Cond.instanceMethod ({ cls := "MillBoatsModel", name := "names", desc := "(IIIII)V" } : Jvm.MethodName)) ∈ ALLG := tk8 91 rfl rfl
theorem w1772 : (Jvm.Cond.code ({ cls := "MillBoatsModel", name := "names", desc := "(IIIII)V" } : Jvm.MethodName) prog_14_method_69_code (6 : Nat) (Option.none : Option Jvm.ClassFile.FieldType)) ∈ ALLG := tk8 92 rfl rfl
theorem w1773 : (Jvm.Cond.methodLink "MillBoatsModel" (416 : Nat) ({ cls := "MillBoatsModel", name := "textOf", desc := "(III)I" } : Jvm.MethodName)) ∈ ALLG := tk8 93 rfl rfl
theorem w1775 : (Jvm.Cond.instanceMethod ({ cls := "MillBoatsModel", name := "textOf", desc := "(III)I" } : Jvm.MethodName)) ∈ ALLG := tk8 95 rfl rfl
theorem w1776 : (Jvm.Cond.code ({ cls := "MillBoatsModel", name := "textOf", desc := "(III)I" } : Jvm.MethodName) prog_14_method_64_code (6 : Nat) (Option.some Jvm.ClassFile.FieldType.int)) ∈ ALLG := tk8 96 rfl rfl
theorem w1777 : (Jvm.Cond.methodLink "MillBoatsModel" (419 : Nat) ({ cls := "MillBoatsModel", name := "last", desc := "(III)I" } : Jvm.MethodName)) ∈ ALLG := tk8 97 rfl rfl
theorem w1779 : (Jvm.Cond.instanceMethod ({ cls := "MillBoatsModel", name := "last", desc := "(III)I" } : Jvm.MethodName)) ∈ ALLG := tk8 99 rfl rfl
theorem w1780 : (Jvm.Cond.code ({ cls := "MillBoatsModel", name := "last", desc := "(III)I" } : Jvm.MethodName) prog_14_method_68_code (8 : Nat) (Option.some Jvm.ClassFile.FieldType.int)) ∈ ALLG := tk8 100 rfl rfl
theorem w1781 : (Jvm.Cond.methodLink "MillBoatsModel" (409 : Nat) ({ cls := "MillBoatsModel", name := "works", desc := "(II)I" } : Jvm.MethodName)) ∈ ALLG := tk8 101 rfl rfl
theorem w1783 : (Jvm.Cond.instanceMethod ({ cls := "MillBoatsModel", name := "works", desc := "(II)I" } : Jvm.MethodName)) ∈ ALLG := tk8 103 rfl rfl
theorem w1784 : (Jvm.Cond.code ({ cls := "MillBoatsModel", name := "works", desc := "(II)I" } : Jvm.MethodName) prog_14_method_66_code (7 : Nat) (Option.some Jvm.ClassFile.FieldType.int)) ∈ ALLG := tk8 104 rfl rfl
theorem w1785 : (Jvm.Cond.methodLink "MillBoatsModel" (401 : Nat) ({ cls := "MillBoatsModel", name := "joined", desc := "(III)I" } : Jvm.MethodName)) ∈ ALLG := tk8 105 rfl rfl
theorem w1786 : (Jvm.Cond.static ({ cls := "MillBoatsModel", name := "joined", desc := "(III)I" } : Jvm.MethodName)) ∈ ALLG := tk8 106 rfl rfl
theorem w1787 : (Jvm.Cond.code ({ cls := "MillBoatsModel", name := "joined", desc := "(III)I" } : Jvm.MethodName) prog_14_method_67_code (3 : Nat) (Option.some Jvm.ClassFile.FieldType.int)) ∈ ALLG := tk8 107 rfl rfl
theorem w1788 : (Jvm.Cond.methodLink "MillBoatsModel" (405 : Nat) ({ cls := "MillBoatsModel", name := "bounded", desc := "(J)I" } : Jvm.MethodName)) ∈ ALLG := tk8 108 rfl rfl
theorem w1789 : (Jvm.Cond.static ({ cls := "MillBoatsModel", name := "bounded", desc := "(J)I" } : Jvm.MethodName)) ∈ ALLG := tk8 109 rfl rfl
theorem w1790 : (Jvm.Cond.code ({ cls := "MillBoatsModel", name := "bounded", desc := "(J)I" } : Jvm.MethodName) prog_14_method_65_code (2 : Nat) (Option.some Jvm.ClassFile.FieldType.int)) ∈ ALLG := tk8 110 rfl rfl
theorem w1791 : (Jvm.Cond.constantLong "MillBoatsModel" (395 : Nat) (1000000000 : Int64)) ∈ ALLG := tk8 111 rfl rfl
theorem w1792 : (Jvm.Cond.constant "MillBoatsModel" (397 : Nat) (1000000000 : Int32)) ∈ ALLG := tk8 112 rfl rfl
theorem w1793 : (Jvm.Cond.constantLong "MillBoatsModel" (398 : Nat) (-1000000000 : Int64)) ∈ ALLG := tk8 113 rfl rfl
theorem w1794 : (Jvm.Cond.constant "MillBoatsModel" (400 : Nat) (-1000000000 : Int32)) ∈ ALLG := tk8 114 rfl rfl
theorem w1803 : (Jvm.Cond.methodLink "MillBoatsModel" (436 : Nat) ({ cls := "MillBoatsModel", name := "wayOf", desc := "(III)I" } : Jvm.MethodName)) ∈ ALLG := tk8 123 rfl rfl
theorem w1805 : (Jvm.Cond.instanceMethod ({ cls := "MillBoatsModel", name := "wayOf", desc := "(III)I" } : Jvm.MethodName)) ∈ ALLG := tk8 125 rfl rfl
theorem w1806 : (Jvm.Cond.code ({ cls := "MillBoatsModel", name := "wayOf", desc := "(III)I" } : Jvm.MethodName) prog_14_method_77_code (8 : Nat) (Option.some Jvm.ClassFile.FieldType.int)) ∈ ALLG := tk8 126 rfl rfl
theorem w1811 : (Jvm.Cond.methodLink "MillBoatsModel" (439 : Nat) ({ cls := "MillBoatsModel", name := "freeLanes", desc := "(II)I" } : Jvm.MethodName)) ∈ ALLG := tk8 131 rfl rfl
theorem w1813 : (Jvm.Cond.instanceMethod ({ cls := "MillBoatsModel", name := "freeLanes", desc := "(II)I" } : Jvm.MethodName)) ∈ ALLG := tk8 133 rfl rfl
theorem w1814 : (Jvm.Cond.code ({ cls := "MillBoatsModel", name := "freeLanes", desc := "(II)I" } : Jvm.MethodName) prog_14_method_79_code (7 : Nat) (Option.some Jvm.ClassFile.FieldType.int)) ∈ ALLG := tk8 134 rfl rfl
theorem w1831 : (Jvm.Cond.methodLink "MillBoatsModel" (474 : Nat) ({ cls := "MillBoatsModel", name := "chains", desc := "()V" } : Jvm.MethodName)) ∈ ALLG := tk8 151 rfl rfl
theorem w1833 : (Jvm.Cond.instanceMethod ({ cls := "MillBoatsModel", name := "chains", desc := "()V" } : Jvm.MethodName)) ∈ ALLG := tk8 153 rfl rfl
theorem w1834 : (Jvm.Cond.code ({ cls := "MillBoatsModel", name := "chains", desc := "()V" } : Jvm.MethodName) prog_14_method_85_code (3 : Nat) (Option.none : Option Jvm.ClassFile.FieldType)) ∈ ALLG := tk8 154 rfl rfl
theorem w1835 : (Jvm.Cond.methodLink "MillBoatsModel" (448 : Nat) ({ cls := "MillBoatsModel", name := "tells", desc := "(IIII)V" } : Jvm.MethodName)) ∈ ALLG := tk8 155 rfl rfl
theorem w1837 : (Jvm.Cond.instanceMethod ({ cls := "MillBoatsModel", name := "tells", desc := "(IIII)V" } : Jvm.MethodName)) ∈ ALLG := tk8 157 rfl rfl
theorem w1838 : (Jvm.Cond.code ({ cls := "MillBoatsModel", name := "tells", desc := "(IIII)V" } : Jvm.MethodName) prog_14_method_81_code (6 : Nat) (Option.none : Option Jvm.ClassFile.FieldType)) ∈ ALLG := tk8 158 rfl rfl
theorem w1839 : (Jvm.Cond.methodLink "MillBoatsModel" (459 : Nat) ({ cls := "MillBoatsModel", name := "drifts", desc := "(II)V" } : Jvm.MethodName)) ∈ ALLG := tk8 159 rfl rfl
theorem w1841 : (Jvm.Cond.instanceMethod ({ cls := "MillBoatsModel", name := "drifts", desc := "(II)V" } : Jvm.MethodName)) ∈ ALLG := tk8 161 rfl rfl
theorem w1842 : (Jvm.Cond.code ({ cls := "MillBoatsModel", name := "drifts", desc := "(II)V" } : Jvm.MethodName) prog_14_method_84_code (7 : Nat) (Option.none : Option Jvm.ClassFile.FieldType)) ∈ ALLG := tk8 162 rfl rfl
theorem w1843 : (Jvm.Cond.methodLink "MillBoatsModel" (452 : Nat) ({ cls := "MillBoatsModel", name := "driftsTo", desc := "(I)I" } : Jvm.MethodName)) ∈ ALLG := tk8 163 rfl rfl
theorem w1845 : (Jvm.Cond.instanceMethod ({ cls := "MillBoatsModel", name := "driftsTo", desc := "(I)I" } : Jvm.MethodName)) ∈ ALLG := tk8 165 rfl rfl
theorem w1846 : (Jvm.Cond.code ({ cls := "MillBoatsModel", name := "driftsTo", desc := "(I)I" } : Jvm.MethodName) prog_14_method_83_code (7 : Nat) (Option.some Jvm.ClassFile.FieldType.int)) ∈ ALLG := tk8 166 rfl rfl
theorem w1847 : (Jvm.Cond.methodLink "MillBoatsModel" (477 : Nat) ({ cls := "MillBoatsModel", name := "isBarred", desc := "(IIII)Z" } : Jvm.MethodName)) ∈ ALLG := tk8 167 rfl rfl
theorem w1849 : (Jvm.Cond.instanceMethod ({ cls := "MillBoatsModel", name := "isBarred", desc := "(IIII)Z" } : Jvm.MethodName)) ∈ ALLG := tk8 169 rfl rfl
theorem w1850 : (Jvm.Cond.code ({ cls := "MillBoatsModel", name := "isBarred", desc := "(IIII)Z" } : Jvm.MethodName) prog_14_method_74_code (5 : Nat) (Option.some Jvm.ClassFile.FieldType.boolean)) ∈ ALLG := tk8 170 rfl rfl
theorem w1851 : (Jvm.Cond.methodLink "MillBoatsModel" (481 : Nat) ({ cls := "MillBoatsModel", name := "grinds", desc := "(I)V" } : Jvm.MethodName)) ∈ ALLG := tk8 171 rfl rfl
theorem w1853 : (Jvm.Cond.instanceMethod ({ cls := "MillBoatsModel", name := "grinds", desc := "(I)V" } : Jvm.MethodName)) ∈ ALLG := tk8 173 rfl rfl
theorem w1854 : (Jvm.Cond.code ({ cls := "MillBoatsModel", name := "grinds", desc := "(I)V" } : Jvm.MethodName) prog_14_method_89_code (10 : Nat) (Option.none : Option Jvm.ClassFile.FieldType)) ∈ ALLG := tk8 174 rfl rfl
theorem w1855 : (Jvm.Cond.methodLink "MillBoatsModel" (466 : Nat) ({ cls := "java/lang/Math", name := "min", desc := "(II)I" } : Jvm.MethodName)) ∈ ALLG := tk8 175 rfl rfl
theorem w1856 : (Jvm.Cond.methodLink "MillBoatsModel" (471 : Nat) ({ cls := "MillBoatsModel", name := "tollOf", desc := "(III)I" } : Jvm.MethodName)) ∈ ALLG := tk8 176 rfl rfl
theorem w1858 : (Jvm.Cond.instanceMethod ({ cls := "MillBoatsModel", name := "tollOf", desc := "(III)I" } : Jvm.MethodName)) ∈ ALLG := tk8 178 rfl rfl
theorem w1859 : (Jvm.Cond.code ({ cls := "MillBoatsModel", name := "tollOf", desc := "(III)I" } : Jvm.MethodName) prog_14_method_88_code (6 : Nat) (Option.some Jvm.ClassFile.FieldType.int)) ∈ ALLG := tk8 179 rfl rfl
theorem w1864 : (Jvm.Cond.methodLink "MillBoatsModel" (511 : Nat) ({ cls := "MillBoatsModel", name := "arePlanned", desc := "(I)Z" } : Jvm.MethodName)) ∈ ALLG := tk8 184 rfl rfl
theorem w1866 : (Jvm.Cond.instanceMethod ({ cls := "MillBoatsModel", name := "arePlanned", desc := "(I)Z" } : Jvm.MethodName)) ∈ ALLG := tk8 186 rfl rfl
theorem w1867 : (Jvm.Cond.code ({ cls := "MillBoatsModel", name := "arePlanned", desc := "(I)Z" } : Jvm.MethodName) prog_14_method_94_code (4 : Nat) (Option.some Jvm.ClassFile.FieldType.boolean)) ∈ ALLG := tk8 187 rfl rfl
theorem w1868 : (Jvm.Cond.methodLink "MillBoatsModel" (487 : Nat) ({ cls := "MillBoatsModel", name := "isIn", desc := "(I)Z" } : Jvm.MethodName)) ∈ ALLG := tk8 188 rfl rfl
theorem w1870 : (Jvm.Cond.instanceMethod ({ cls := "MillBoatsModel", name := "isIn", desc := "(I)Z" } : Jvm.MethodName)) ∈ ALLG := tk8 190 rfl rfl
theorem w1871 : (Jvm.Cond.code ({ cls := "MillBoatsModel", name := "isIn", desc := "(I)Z" } : Jvm.MethodName) prog_14_method_91_code (2 : Nat) (Option.some Jvm.ClassFile.FieldType.boolean)) ∈ ALLG := tk8 191 rfl rfl
theorem w1872 : (Jvm.Cond.methodLink "MillBoatsModel" (508 : Nat) ({ cls := "MillBoatsModel", name := "tries", desc := "(I)V" } : Jvm.MethodName)) ∈ ALLG := tk8 192 rfl rfl
theorem w1874 : (Jvm.Cond.instanceMethod ({ cls := "MillBoatsModel", name := "tries", desc := "(I)V" } : Jvm.MethodName)) ∈ ALLG := tk8 194 rfl rfl
theorem w1875 : (Jvm.Cond.code ({ cls := "MillBoatsModel", name := "tries", desc := "(I)V" } : Jvm.MethodName) prog_14_method_93_code (4 : Nat) (Option.none : Option Jvm.ClassFile.FieldType)) ∈ ALLG := tk8 195 rfl rfl
theorem w1876 : (Jvm.Cond.methodLink "MillBoatsModel" (502 : Nat) ({ cls := "MillBoatsModel", name := "weighs", desc := "()I" } : Jvm.MethodName)) ∈ ALLG := tk8 196 rfl rfl
theorem w1878 : (Jvm.Cond.instanceMethod ({ cls := "MillBoatsModel", name := "weighs", desc := "()I" } : Jvm.MethodName)) ∈ ALLG := tk8 198 rfl rfl
theorem w1879 : (Jvm.Cond.code ({ cls := "MillBoatsModel", name := "weighs", desc := "()I" } : Jvm.MethodName) prog_14_method_92_code (3 : Nat) (Option.some Jvm.ClassFile.FieldType.int)) ∈ ALLG := tk8 199 rfl rfl
theorem w1888 : (Jvm.Cond.methodLink "MillBoatsModel" (534 : Nat) ({ cls := "MillBoatsModel", name := "findMoves", desc := "()I" } : Jvm.MethodName)) ∈ ALLG := tk8 208 rfl rfl
theorem w1890 : (Jvm.Cond.instanceMethod ({ cls := "MillBoatsModel", name := "findMoves", desc := "()I" } : Jvm.MethodName)) ∈ ALLG := tk8 210 rfl rfl
theorem w1891 : (Jvm.Cond.code ({ cls := "MillBoatsModel", name := "findMoves", desc := "()I" } : Jvm.MethodName) prog_14_method_101_code (2 : Nat) (Option.some Jvm.ClassFile.FieldType.int)) ∈ ALLG := tk8 211 rfl rfl
theorem w1892 : (Jvm.Cond.methodLink "MillBoatsModel" (532 : Nat) ({ cls := "MillBoatsModel", name := "orders", desc := "(II)Z" } : Jvm.MethodName)) ∈ ALLG := tk8 212 rfl rfl
theorem w1894 : (Jvm.Cond.instanceMethod ({ cls := "MillBoatsModel", name := "orders", desc := "(II)Z" } : Jvm.MethodName)) ∈ ALLG := tk8 214 rfl rfl
theorem w1895 : (Jvm.Cond.code ({ cls := "MillBoatsModel", name := "orders", desc := "(II)Z" } : Jvm.MethodName) prog_14_method_100_code (8 : Nat) (Option.some Jvm.ClassFile.FieldType.boolean)) ∈ ALLG := tk8 215 rfl rfl
theorem w1896 : (Jvm.Cond.methodLink "MillBoatsModel" (529 : Nat) ({ cls := "MillBoatsModel", name := "stepsTo", desc := "(III)I" } : Jvm.MethodName)) ∈ ALLG := tk8 216 rfl rfl
theorem w1898 : (Jvm.Cond.instanceMethod ({ cls := "MillBoatsModel", name := "stepsTo", desc := "(III)I" } : Jvm.MethodName)) ∈ ALLG := tk8 218 rfl rfl
theorem w1899 : (Jvm.Cond.code ({ cls := "MillBoatsModel", name := "stepsTo", desc := "(III)I" } : Jvm.MethodName) prog_14_method_99_code (12 : Nat) (Option.some Jvm.ClassFile.FieldType.int)) ∈ ALLG := tk8 219 rfl rfl
theorem w1900 : (Jvm.Cond.methodLink "MillBoatsModel" (520 : Nat) ({ cls := "MillBoatsModel", name := "isShore", desc := "(I)Z" } : Jvm.MethodName)) ∈ ALLG := tk8 220 rfl rfl
theorem w1901 : (Jvm.Cond.static ({ cls := "MillBoatsModel", name := "isShore", desc := "(I)Z" } : Jvm.MethodName)) ∈ ALLG := tk8 221 rfl rfl
theorem w1902 : (Jvm.Cond.code ({ cls := "MillBoatsModel", name := "isShore", desc := "(I)Z" } : Jvm.MethodName) prog_14_method_98_code (1 : Nat) (Option.some Jvm.ClassFile.FieldType.boolean)) ∈ ALLG := tk8 222 rfl rfl
theorem w1903 : (Jvm.Cond.methodLink "MillBoatsModel" (523 : Nat) ({ cls := "MillBoatsModel", name := "isFree", desc := "(III)Z" } : Jvm.MethodName)) ∈ ALLG := tk8 223 rfl rfl
theorem w1905 : (Jvm.Cond.instanceMethod ({ cls := "MillBoatsModel", name := "isFree", desc := "(III)Z" } : Jvm.MethodName)) ∈ ALLG := tk8 225 rfl rfl
theorem w1906 : (Jvm.Cond.code ({ cls := "MillBoatsModel", name := "isFree", desc := "(III)Z" } : Jvm.MethodName) prog_14_method_97_code (5 : Nat) (Option.some Jvm.ClassFile.FieldType.boolean)) ∈ ALLG := tk8 226 rfl rfl
theorem w1927 : (Jvm.Cond.methodLink "MillBoatsModel" (537 : Nat) ({ cls := "MillBoatsModel", name := "sum", desc := "([II)I" } : Jvm.MethodName)) ∈ ALLG := tk9 7 rfl rfl
theorem w1929 : (Jvm.Cond.instanceMethod ({ cls := "MillBoatsModel", name := "sum", desc := "([II)I" } : Jvm.MethodName)) ∈ ALLG := tk9 9 rfl rfl
theorem w1930 : (Jvm.Cond.code ({ cls := "MillBoatsModel", name := "sum", desc := "([II)I" } : Jvm.MethodName) prog_14_method_107_code (5 : Nat) (Option.some Jvm.ClassFile.FieldType.int)) ∈ ALLG := tk9 10 rfl rfl
theorem w1931 : (Jvm.Cond.methodLink "MillBoatsModel" (540 : Nat) ({ cls := "MillBoatsModel", name := "many", desc := "(Z)I" } : Jvm.MethodName)) ∈ ALLG := tk9 11 rfl rfl
theorem w1933 : (Jvm.Cond.instanceMethod ({ cls := "MillBoatsModel", name := "many", desc := "(Z)I" } : Jvm.MethodName)) ∈ ALLG := tk9 13 rfl rfl
theorem w1934 : (Jvm.Cond.code ({ cls := "MillBoatsModel", name := "many", desc := "(Z)I" } : Jvm.MethodName) prog_14_method_108_code (4 : Nat) (Option.some Jvm.ClassFile.FieldType.int)) ∈ ALLG := tk9 14 rfl rfl
theorem w1952 : (Jvm.Cond.fieldLink "java/lang/String" (9 : Nat) "java/lang/String" "value" "[B") ∈ ALLG := tk9 32 rfl rfl
theorem w1953 : (Jvm.Cond.fieldLink "java/lang/String" (15 : Nat) "java/lang/String" "coder" "B") ∈ ALLG := tk9 33 rfl rfl
theorem pv1 {q : MethodName × Nat} (h : q ∈ lw_privs_1) : q ∈ lw_privs := List.mem_append_left _ h
theorem pk1 {q : MethodName × Nat} (i : Nat) (h : lw_privs_1[i]? = some q) (hg : goodWord (Cond.selects q.1.cls q.1 q.1) = true) : Cond.selects q.1.cls q.1 q.1 ∈ ALLG := List.mem_filter.mpr ⟨List.mem_append_left _ (List.mem_map.mpr ⟨q, pv1 (List.mem_of_getElem? h), rfl⟩), hg⟩
theorem pv2 {q : MethodName × Nat} (h : q ∈ lw_privs_2) : q ∈ lw_privs := List.mem_append_right _ (List.mem_append_left _ h)
theorem pk2 {q : MethodName × Nat} (i : Nat) (h : lw_privs_2[i]? = some q) (hg : goodWord (Cond.selects q.1.cls q.1 q.1) = true) : Cond.selects q.1.cls q.1 q.1 ∈ ALLG := List.mem_filter.mpr ⟨List.mem_append_left _ (List.mem_map.mpr ⟨q, pv2 (List.mem_of_getElem? h), rfl⟩), hg⟩
theorem pv3 {q : MethodName × Nat} (h : q ∈ lw_privs_3) : q ∈ lw_privs := List.mem_append_right _ (List.mem_append_right _ (List.mem_append_left _ h))
theorem pk3 {q : MethodName × Nat} (i : Nat) (h : lw_privs_3[i]? = some q) (hg : goodWord (Cond.selects q.1.cls q.1 q.1) = true) : Cond.selects q.1.cls q.1 q.1 ∈ ALLG := List.mem_filter.mpr ⟨List.mem_append_left _ (List.mem_map.mpr ⟨q, pv3 (List.mem_of_getElem? h), rfl⟩), hg⟩
theorem pv4 {q : MethodName × Nat} (h : q ∈ lw_privs_4) : q ∈ lw_privs := List.mem_append_right _ (List.mem_append_right _ (List.mem_append_right _ (List.mem_append_left _ h)))
theorem pk4 {q : MethodName × Nat} (i : Nat) (h : lw_privs_4[i]? = some q) (hg : goodWord (Cond.selects q.1.cls q.1 q.1) = true) : Cond.selects q.1.cls q.1 q.1 ∈ ALLG := List.mem_filter.mpr ⟨List.mem_append_left _ (List.mem_map.mpr ⟨q, pv4 (List.mem_of_getElem? h), rfl⟩), hg⟩
theorem pv5 {q : MethodName × Nat} (h : q ∈ lw_privs_5) : q ∈ lw_privs := List.mem_append_right _ (List.mem_append_right _ (List.mem_append_right _ (List.mem_append_right _ (List.mem_append_left _ h))))
theorem pk5 {q : MethodName × Nat} (i : Nat) (h : lw_privs_5[i]? = some q) (hg : goodWord (Cond.selects q.1.cls q.1 q.1) = true) : Cond.selects q.1.cls q.1 q.1 ∈ ALLG := List.mem_filter.mpr ⟨List.mem_append_left _ (List.mem_map.mpr ⟨q, pv5 (List.mem_of_getElem? h), rfl⟩), hg⟩
theorem pv6 {q : MethodName × Nat} (h : q ∈ lw_privs_6) : q ∈ lw_privs := List.mem_append_right _ (List.mem_append_right _ (List.mem_append_right _ (List.mem_append_right _ (List.mem_append_right _ (List.mem_append_left _ h)))))
theorem pk6 {q : MethodName × Nat} (i : Nat) (h : lw_privs_6[i]? = some q) (hg : goodWord (Cond.selects q.1.cls q.1 q.1) = true) : Cond.selects q.1.cls q.1 q.1 ∈ ALLG := List.mem_filter.mpr ⟨List.mem_append_left _ (List.mem_map.mpr ⟨q, pv6 (List.mem_of_getElem? h), rfl⟩), hg⟩
theorem pv7 {q : MethodName × Nat} (h : q ∈ lw_privs_7) : q ∈ lw_privs := List.mem_append_right _ (List.mem_append_right _ (List.mem_append_right _ (List.mem_append_right _ (List.mem_append_right _ (List.mem_append_right _ (List.mem_append_left _ h))))))
theorem pk7 {q : MethodName × Nat} (i : Nat) (h : lw_privs_7[i]? = some q) (hg : goodWord (Cond.selects q.1.cls q.1 q.1) = true) : Cond.selects q.1.cls q.1 q.1 ∈ ALLG := List.mem_filter.mpr ⟨List.mem_append_left _ (List.mem_map.mpr ⟨q, pv7 (List.mem_of_getElem? h), rfl⟩), hg⟩
theorem pv8 {q : MethodName × Nat} (h : q ∈ lw_privs_8) : q ∈ lw_privs := List.mem_append_right _ (List.mem_append_right _ (List.mem_append_right _ (List.mem_append_right _ (List.mem_append_right _ (List.mem_append_right _ (List.mem_append_right _ (h)))))))
theorem pk8 {q : MethodName × Nat} (i : Nat) (h : lw_privs_8[i]? = some q) (hg : goodWord (Cond.selects q.1.cls q.1 q.1) = true) : Cond.selects q.1.cls q.1 q.1 ∈ ALLG := List.mem_filter.mpr ⟨List.mem_append_left _ (List.mem_map.mpr ⟨q, pv8 (List.mem_of_getElem? h), rfl⟩), hg⟩
theorem ws0 : Cond.selects "MillBoats" ⟨"MillBoats", "isKnownDay", "(I)Z"⟩ ⟨"MillBoats", "isKnownDay", "(I)Z"⟩ ∈ ALLG := pk1 (q := (⟨"MillBoats", "isKnownDay", "(I)Z"⟩, 9)) 0 rfl rfl
theorem ws1 : Cond.selects "MillBoats" ⟨"MillBoats", "addBytes", "(I)V"⟩ ⟨"MillBoats", "addBytes", "(I)V"⟩ ∈ ALLG := pk1 (q := (⟨"MillBoats", "addBytes", "(I)V"⟩, 9)) 1 rfl rfl
theorem ws2 : Cond.selects "MillBoats$Reader" ⟨"MillBoats$Reader", "split", "([II)V"⟩ ⟨"MillBoats$Reader", "split", "([II)V"⟩ ∈ ALLG := pk1 (q := (⟨"MillBoats$Reader", "split", "([II)V"⟩, 13)) 2 rfl rfl
theorem ws3 : Cond.selects "MillBoats$Reader" ⟨"MillBoats$Reader", "splitWord", "([III)I"⟩ ⟨"MillBoats$Reader", "splitWord", "([III)I"⟩ ∈ ALLG := pk1 (q := (⟨"MillBoats$Reader", "splitWord", "([III)I"⟩, 13)) 3 rfl rfl
theorem ws4 : Cond.selects "MillBoats$Reader" ⟨"MillBoats$Reader", "addToken", "(IIJ)V"⟩ ⟨"MillBoats$Reader", "addToken", "(IIJ)V"⟩ ∈ ALLG := pk1 (q := (⟨"MillBoats$Reader", "addToken", "(IIJ)V"⟩, 13)) 4 rfl rfl
theorem ws5 : Cond.selects "MillBoats$Reader" ⟨"MillBoats$Reader", "splitNumber", "([III)I"⟩ ⟨"MillBoats$Reader", "splitNumber", "([III)I"⟩ ∈ ALLG := pk1 (q := (⟨"MillBoats$Reader", "splitNumber", "([III)I"⟩, 13)) 5 rfl rfl
theorem ws6 : Cond.selects "MillBoats$Reader" ⟨"MillBoats$Reader", "rule", "()Z"⟩ ⟨"MillBoats$Reader", "rule", "()Z"⟩ ∈ ALLG := pk1 (q := (⟨"MillBoats$Reader", "rule", "()Z"⟩, 13)) 6 rfl rfl
theorem ws7 : Cond.selects "MillBoats$Reader" ⟨"MillBoats$Reader", "refuse", "(I)Z"⟩ ⟨"MillBoats$Reader", "refuse", "(I)Z"⟩ ∈ ALLG := pk1 (q := (⟨"MillBoats$Reader", "refuse", "(I)Z"⟩, 13)) 7 rfl rfl
theorem ws8 : Cond.selects "MillBoats$Reader" ⟨"MillBoats$Reader", "step", "()V"⟩ ⟨"MillBoats$Reader", "step", "()V"⟩ ∈ ALLG := pk1 (q := (⟨"MillBoats$Reader", "step", "()V"⟩, 13)) 8 rfl rfl
theorem ws9 : Cond.selects "MillBoats$Reader" ⟨"MillBoats$Reader", "letRule", "()Z"⟩ ⟨"MillBoats$Reader", "letRule", "()Z"⟩ ∈ ALLG := pk1 (q := (⟨"MillBoats$Reader", "letRule", "()Z"⟩, 13)) 9 rfl rfl
theorem ws10 : Cond.selects "MillBoats$Reader" ⟨"MillBoats$Reader", "valueHere", "()J"⟩ ⟨"MillBoats$Reader", "valueHere", "()J"⟩ ∈ ALLG := pk1 (q := (⟨"MillBoats$Reader", "valueHere", "()J"⟩, 13)) 10 rfl rfl
theorem ws11 : Cond.selects "MillBoats$Reader" ⟨"MillBoats$Reader", "known", "(J)I"⟩ ⟨"MillBoats$Reader", "known", "(J)I"⟩ ∈ ALLG := pk1 (q := (⟨"MillBoats$Reader", "known", "(J)I"⟩, 13)) 11 rfl rfl
theorem ws12 : Cond.selects "MillBoats$Reader" ⟨"MillBoats$Reader", "take", "(I)Z"⟩ ⟨"MillBoats$Reader", "take", "(I)Z"⟩ ∈ ALLG := pk1 (q := (⟨"MillBoats$Reader", "take", "(I)Z"⟩, 13)) 12 rfl rfl
theorem ws13 : Cond.selects "MillBoats$Reader" ⟨"MillBoats$Reader", "sum", "()Z"⟩ ⟨"MillBoats$Reader", "sum", "()Z"⟩ ∈ ALLG := pk1 (q := (⟨"MillBoats$Reader", "sum", "()Z"⟩, 13)) 13 rfl rfl
theorem ws14 : Cond.selects "MillBoats$Reader" ⟨"MillBoats$Reader", "product", "()Z"⟩ ⟨"MillBoats$Reader", "product", "()Z"⟩ ∈ ALLG := pk1 (q := (⟨"MillBoats$Reader", "product", "()Z"⟩, 13)) 14 rfl rfl
theorem ws15 : Cond.selects "MillBoats$Reader" ⟨"MillBoats$Reader", "factor", "()Z"⟩ ⟨"MillBoats$Reader", "factor", "()Z"⟩ ∈ ALLG := pk1 (q := (⟨"MillBoats$Reader", "factor", "()Z"⟩, 13)) 15 rfl rfl
theorem ws16 : Cond.selects "MillBoats$Reader" ⟨"MillBoats$Reader", "bracketedSum", "()Z"⟩ ⟨"MillBoats$Reader", "bracketedSum", "()Z"⟩ ∈ ALLG := pk2 (q := (⟨"MillBoats$Reader", "bracketedSum", "()Z"⟩, 13)) 0 rfl rfl
theorem ws17 : Cond.selects "MillBoats$Reader" ⟨"MillBoats$Reader", "closeRule", "(III)Z"⟩ ⟨"MillBoats$Reader", "closeRule", "(III)Z"⟩ ∈ ALLG := pk2 (q := (⟨"MillBoats$Reader", "closeRule", "(III)Z"⟩, 13)) 1 rfl rfl
theorem ws18 : Cond.selects "MillBoats$Reader" ⟨"MillBoats$Reader", "tollRule", "()Z"⟩ ⟨"MillBoats$Reader", "tollRule", "()Z"⟩ ∈ ALLG := pk2 (q := (⟨"MillBoats$Reader", "tollRule", "()Z"⟩, 13)) 2 rfl rfl
theorem ws19 : Cond.selects "MillBoats$Reader" ⟨"MillBoats$Reader", "cond", "()Z"⟩ ⟨"MillBoats$Reader", "cond", "()Z"⟩ ∈ ALLG := pk2 (q := (⟨"MillBoats$Reader", "cond", "()Z"⟩, 13)) 3 rfl rfl
theorem ws20 : Cond.selects "MillBoats$Reader" ⟨"MillBoats$Reader", "both", "()Z"⟩ ⟨"MillBoats$Reader", "both", "()Z"⟩ ∈ ALLG := pk2 (q := (⟨"MillBoats$Reader", "both", "()Z"⟩, 13)) 4 rfl rfl
theorem ws21 : Cond.selects "MillBoats$Reader" ⟨"MillBoats$Reader", "part", "()Z"⟩ ⟨"MillBoats$Reader", "part", "()Z"⟩ ∈ ALLG := pk2 (q := (⟨"MillBoats$Reader", "part", "()Z"⟩, 13)) 5 rfl rfl
theorem ws22 : Cond.selects "MillBoats$Reader" ⟨"MillBoats$Reader", "bracketedCond", "()Z"⟩ ⟨"MillBoats$Reader", "bracketedCond", "()Z"⟩ ∈ ALLG := pk2 (q := (⟨"MillBoats$Reader", "bracketedCond", "()Z"⟩, 13)) 6 rfl rfl
theorem ws23 : Cond.selects "MillBoats$Reader" ⟨"MillBoats$Reader", "comparison", "()Z"⟩ ⟨"MillBoats$Reader", "comparison", "()Z"⟩ ∈ ALLG := pk2 (q := (⟨"MillBoats$Reader", "comparison", "()Z"⟩, 13)) 7 rfl rfl
theorem ws24 : Cond.selects "MillBoats$Reader" ⟨"MillBoats$Reader", "wayRule", "()Z"⟩ ⟨"MillBoats$Reader", "wayRule", "()Z"⟩ ∈ ALLG := pk2 (q := (⟨"MillBoats$Reader", "wayRule", "()Z"⟩, 13)) 8 rfl rfl
theorem ws25 : Cond.selects "MillBoats$Law" ⟨"MillBoats$Law", "giveBoat", "(IIII)V"⟩ ⟨"MillBoats$Law", "giveBoat", "(IIII)V"⟩ ∈ ALLG := pk2 (q := (⟨"MillBoats$Law", "giveBoat", "(IIII)V"⟩, 8)) 9 rfl rfl
theorem ws26 : Cond.selects "MillBoats$Law" ⟨"MillBoats$Law", "inForce", "(III)LMillBoats$Text;"⟩ ⟨"MillBoats$Law", "inForce", "(III)LMillBoats$Text;"⟩ ∈ ALLG := pk2 (q := (⟨"MillBoats$Law", "inForce", "(III)LMillBoats$Text;"⟩, 8)) 10 rfl rfl
theorem ws27 : Cond.selects "MillBoats$Law" ⟨"MillBoats$Law", "wordKind", "(LMillBoats$Text;)I"⟩ ⟨"MillBoats$Law", "wordKind", "(LMillBoats$Text;)I"⟩ ∈ ALLG := pk2 (q := (⟨"MillBoats$Law", "wordKind", "(LMillBoats$Text;)I"⟩, 8)) 11 rfl rfl
theorem ws28 : Cond.selects "MillBoats$Law" ⟨"MillBoats$Law", "lastHolding", "(LMillBoats$Text;II)I"⟩ ⟨"MillBoats$Law", "lastHolding", "(LMillBoats$Text;II)I"⟩ ∈ ALLG := pk2 (q := (⟨"MillBoats$Law", "lastHolding", "(LMillBoats$Text;II)I"⟩, 8)) 12 rfl rfl
theorem ws29 : Cond.selects "MillBoats$Law" ⟨"MillBoats$Law", "workOut", "(LMillBoats$Text;I)I"⟩ ⟨"MillBoats$Law", "workOut", "(LMillBoats$Text;I)I"⟩ ∈ ALLG := pk2 (q := (⟨"MillBoats$Law", "workOut", "(LMillBoats$Text;I)I"⟩, 8)) 13 rfl rfl
theorem ws30 : Cond.selects "MillBoats$Law" ⟨"MillBoats$Law", "named", "(I)I"⟩ ⟨"MillBoats$Law", "named", "(I)I"⟩ ∈ ALLG := pk2 (q := (⟨"MillBoats$Law", "named", "(I)I"⟩, 8)) 14 rfl rfl
theorem ws31 : Cond.selects "MillBoats$Law" ⟨"MillBoats$Law", "giveStretch", "(III)V"⟩ ⟨"MillBoats$Law", "giveStretch", "(III)V"⟩ ∈ ALLG := pk2 (q := (⟨"MillBoats$Law", "giveStretch", "(III)V"⟩, 8)) 15 rfl rfl
theorem ws32 : Cond.selects "MillBoats" ⟨"MillBoats", "heightToday", "()I"⟩ ⟨"MillBoats", "heightToday", "()I"⟩ ∈ ALLG := pk3 (q := (⟨"MillBoats", "heightToday", "()I"⟩, 9)) 0 rfl rfl
theorem ws33 : Cond.selects "MillBoats$Drift" ⟨"MillBoats$Drift", "tell", "(IIII)V"⟩ ⟨"MillBoats$Drift", "tell", "(IIII)V"⟩ ∈ ALLG := pk3 (q := (⟨"MillBoats$Drift", "tell", "(IIII)V"⟩, 6)) 1 rfl rfl
theorem ws34 : Cond.selects "MillBoats$Drift" ⟨"MillBoats$Drift", "driftOn", "(III)V"⟩ ⟨"MillBoats$Drift", "driftOn", "(III)V"⟩ ∈ ALLG := pk3 (q := (⟨"MillBoats$Drift", "driftOn", "(III)V"⟩, 6)) 2 rfl rfl
theorem ws35 : Cond.selects "MillBoats$Drift" ⟨"MillBoats$Drift", "nextBerth", "(II)I"⟩ ⟨"MillBoats$Drift", "nextBerth", "(II)I"⟩ ∈ ALLG := pk3 (q := (⟨"MillBoats$Drift", "nextBerth", "(II)I"⟩, 6)) 3 rfl rfl
theorem ws36 : Cond.selects "MillBoats$Drift" ⟨"MillBoats$Drift", "makesWay", "(IIII)Z"⟩ ⟨"MillBoats$Drift", "makesWay", "(IIII)Z"⟩ ∈ ALLG := pk3 (q := (⟨"MillBoats$Drift", "makesWay", "(IIII)Z"⟩, 6)) 4 rfl rfl
theorem ws37 : Cond.selects "MillBoats$Grist" ⟨"MillBoats$Grist", "mayGrind", "(II)Z"⟩ ⟨"MillBoats$Grist", "mayGrind", "(II)Z"⟩ ∈ ALLG := pk3 (q := (⟨"MillBoats$Grist", "mayGrind", "(II)Z"⟩, 10)) 5 rfl rfl
theorem ws38 : Cond.selects "MillBoats$Grist" ⟨"MillBoats$Grist", "grindOrders", "(III)V"⟩ ⟨"MillBoats$Grist", "grindOrders", "(III)V"⟩ ∈ ALLG := pk3 (q := (⟨"MillBoats$Grist", "grindOrders", "(III)V"⟩, 10)) 6 rfl rfl
theorem ws39 : Cond.selects "MillBoats$Planner" ⟨"MillBoats$Planner", "chooseMills", "(I)V"⟩ ⟨"MillBoats$Planner", "chooseMills", "(I)V"⟩ ∈ ALLG := pk3 (q := (⟨"MillBoats$Planner", "chooseMills", "(I)V"⟩, 16)) 7 rfl rfl
theorem ws40 : Cond.selects "MillBoats$Planner" ⟨"MillBoats$Planner", "listChoices", "(IIIII)V"⟩ ⟨"MillBoats$Planner", "listChoices", "(IIIII)V"⟩ ∈ ALLG := pk3 (q := (⟨"MillBoats$Planner", "listChoices", "(IIIII)V"⟩, 16)) 8 rfl rfl
theorem ws41 : Cond.selects "MillBoats$Planner" ⟨"MillBoats$Planner", "sumTops", "()V"⟩ ⟨"MillBoats$Planner", "sumTops", "()V"⟩ ∈ ALLG := pk3 (q := (⟨"MillBoats$Planner", "sumTops", "()V"⟩, 16)) 9 rfl rfl
theorem ws42 : Cond.selects "MillBoats$Planner" ⟨"MillBoats$Planner", "tryMill", "(I)V"⟩ ⟨"MillBoats$Planner", "tryMill", "(I)V"⟩ ∈ ALLG := pk3 (q := (⟨"MillBoats$Planner", "tryMill", "(I)V"⟩, 16)) 10 rfl rfl
theorem ws43 : Cond.selects "MillBoats$Planner" ⟨"MillBoats$Planner", "weigh", "()V"⟩ ⟨"MillBoats$Planner", "weigh", "()V"⟩ ∈ ALLG := pk3 (q := (⟨"MillBoats$Planner", "weigh", "()V"⟩, 16)) 11 rfl rfl
theorem ws44 : Cond.selects "MillBoats$Planner" ⟨"MillBoats$Planner", "tryBerth", "(II)V"⟩ ⟨"MillBoats$Planner", "tryBerth", "(II)V"⟩ ∈ ALLG := pk3 (q := (⟨"MillBoats$Planner", "tryBerth", "(II)V"⟩, 16)) 12 rfl rfl
theorem ws45 : Cond.selects "MillBoats$Mover" ⟨"MillBoats$Mover", "arrange", "(I)Z"⟩ ⟨"MillBoats$Mover", "arrange", "(I)Z"⟩ ∈ ALLG := pk3 (q := (⟨"MillBoats$Mover", "arrange", "(I)Z"⟩, 10)) 13 rfl rfl
theorem ws46 : Cond.selects "MillBoats$Mover" ⟨"MillBoats$Mover", "arrangeWith", "(II)Z"⟩ ⟨"MillBoats$Mover", "arrangeWith", "(II)Z"⟩ ∈ ALLG := pk3 (q := (⟨"MillBoats$Mover", "arrangeWith", "(II)Z"⟩, 10)) 14 rfl rfl
theorem ws47 : Cond.selects "MillBoats$Mover" ⟨"MillBoats$Mover", "fewestSteps", "(II)I"⟩ ⟨"MillBoats$Mover", "fewestSteps", "(II)I"⟩ ∈ ALLG := pk3 (q := (⟨"MillBoats$Mover", "fewestSteps", "(II)I"⟩, 10)) 15 rfl rfl
theorem ws48 : Cond.selects "MillBoats$Mover" ⟨"MillBoats$Mover", "begin", "(I)V"⟩ ⟨"MillBoats$Mover", "begin", "(I)V"⟩ ∈ ALLG := pk4 (q := (⟨"MillBoats$Mover", "begin", "(I)V"⟩, 10)) 0 rfl rfl
theorem ws49 : Cond.selects "MillBoats$Mover" ⟨"MillBoats$Mover", "reach", "(IIII)V"⟩ ⟨"MillBoats$Mover", "reach", "(IIII)V"⟩ ∈ ALLG := pk4 (q := (⟨"MillBoats$Mover", "reach", "(IIII)V"⟩, 10)) 1 rfl rfl
theorem ws51 : Cond.selects "MillBoatsModel" ⟨"MillBoatsModel", "valueOf", "(II)I"⟩ ⟨"MillBoatsModel", "valueOf", "(II)I"⟩ ∈ ALLG := pk4 (q := (⟨"MillBoatsModel", "valueOf", "(II)I"⟩, 79)) 3 rfl rfl
theorem ws52 : Cond.selects "MillBoatsModel" ⟨"MillBoatsModel", "isMill", "(I)Z"⟩ ⟨"MillBoatsModel", "isMill", "(I)Z"⟩ ∈ ALLG := pk4 (q := (⟨"MillBoatsModel", "isMill", "(I)Z"⟩, 79)) 4 rfl rfl
theorem ws53 : Cond.selects "MillBoatsModel" ⟨"MillBoatsModel", "millAt", "(I)I"⟩ ⟨"MillBoatsModel", "millAt", "(I)I"⟩ ∈ ALLG := pk4 (q := (⟨"MillBoatsModel", "millAt", "(I)I"⟩, 79)) 5 rfl rfl
theorem ws54 : Cond.selects "MillBoatsModel" ⟨"MillBoatsModel", "isAsked", "(II)Z"⟩ ⟨"MillBoatsModel", "isAsked", "(II)Z"⟩ ∈ ALLG := pk4 (q := (⟨"MillBoatsModel", "isAsked", "(II)Z"⟩, 79)) 6 rfl rfl
theorem ws55 : Cond.selects "MillBoatsModel" ⟨"MillBoatsModel", "flowOf", "(II)I"⟩ ⟨"MillBoatsModel", "flowOf", "(II)I"⟩ ∈ ALLG := pk4 (q := (⟨"MillBoatsModel", "flowOf", "(II)I"⟩, 79)) 7 rfl rfl
theorem ws56 : Cond.selects "MillBoatsModel" ⟨"MillBoatsModel", "powerOf", "(II)I"⟩ ⟨"MillBoatsModel", "powerOf", "(II)I"⟩ ∈ ALLG := pk4 (q := (⟨"MillBoatsModel", "powerOf", "(II)I"⟩, 79)) 8 rfl rfl
theorem ws57 : Cond.selects "MillBoatsModel" ⟨"MillBoatsModel", "floats", "(II)Z"⟩ ⟨"MillBoatsModel", "floats", "(II)Z"⟩ ∈ ALLG := pk4 (q := (⟨"MillBoatsModel", "floats", "(II)Z"⟩, 79)) 9 rfl rfl
theorem ws58 : Cond.selects "MillBoatsModel" ⟨"MillBoatsModel", "depth", "(II)I"⟩ ⟨"MillBoatsModel", "depth", "(II)I"⟩ ∈ ALLG := pk4 (q := (⟨"MillBoatsModel", "depth", "(II)I"⟩, 79)) 10 rfl rfl
theorem ws59 : Cond.selects "MillBoatsModel" ⟨"MillBoatsModel", "worn", "(I)I"⟩ ⟨"MillBoatsModel", "worn", "(I)I"⟩ ∈ ALLG := pk4 (q := (⟨"MillBoatsModel", "worn", "(I)I"⟩, 79)) 11 rfl rfl
theorem ws60 : Cond.selects "MillBoatsModel" ⟨"MillBoatsModel", "pullOf", "(IIZ)I"⟩ ⟨"MillBoatsModel", "pullOf", "(IIZ)I"⟩ ∈ ALLG := pk4 (q := (⟨"MillBoatsModel", "pullOf", "(IIZ)I"⟩, 79)) 12 rfl rfl
theorem ws61 : Cond.selects "MillBoatsModel" ⟨"MillBoatsModel", "isKnown", "(II)Z"⟩ ⟨"MillBoatsModel", "isKnown", "(II)Z"⟩ ∈ ALLG := pk4 (q := (⟨"MillBoatsModel", "isKnown", "(II)Z"⟩, 79)) 13 rfl rfl
theorem ws62 : Cond.selects "MillBoatsModel" ⟨"MillBoatsModel", "heightAt", "(II)I"⟩ ⟨"MillBoatsModel", "heightAt", "(II)I"⟩ ∈ ALLG := pk4 (q := (⟨"MillBoatsModel", "heightAt", "(II)I"⟩, 79)) 14 rfl rfl
theorem ws63 : Cond.selects "MillBoatsModel" ⟨"MillBoatsModel", "iceAt", "(II)Z"⟩ ⟨"MillBoatsModel", "iceAt", "(II)Z"⟩ ∈ ALLG := pk4 (q := (⟨"MillBoatsModel", "iceAt", "(II)Z"⟩, 79)) 15 rfl rfl
theorem ws64 : Cond.selects "MillBoatsModel" ⟨"MillBoatsModel", "next", "()V"⟩ ⟨"MillBoatsModel", "next", "()V"⟩ ∈ ALLG := pk5 (q := (⟨"MillBoatsModel", "next", "()V"⟩, 79)) 0 rfl rfl
theorem ws65 : Cond.selects "MillBoatsModel" ⟨"MillBoatsModel", "see", "(I)I"⟩ ⟨"MillBoatsModel", "see", "(I)I"⟩ ∈ ALLG := pk5 (q := (⟨"MillBoatsModel", "see", "(I)I"⟩, 79)) 1 rfl rfl
theorem ws66 : Cond.selects "MillBoatsModel" ⟨"MillBoatsModel", "isWell", "()Z"⟩ ⟨"MillBoatsModel", "isWell", "()Z"⟩ ∈ ALLG := pk5 (q := (⟨"MillBoatsModel", "isWell", "()Z"⟩, 79)) 2 rfl rfl
theorem ws67 : Cond.selects "MillBoatsModel" ⟨"MillBoatsModel", "readRule", "()V"⟩ ⟨"MillBoatsModel", "readRule", "()V"⟩ ∈ ALLG := pk5 (q := (⟨"MillBoatsModel", "readRule", "()V"⟩, 79)) 3 rfl rfl
theorem ws68 : Cond.selects "MillBoatsModel" ⟨"MillBoatsModel", "isWord", "(Ljava/lang/String;)Z"⟩ ⟨"MillBoatsModel", "isWord", "(Ljava/lang/String;)Z"⟩ ∈ ALLG := pk5 (q := (⟨"MillBoatsModel", "isWord", "(Ljava/lang/String;)Z"⟩, 79)) 4 rfl rfl
theorem ws69 : Cond.selects "MillBoatsModel" ⟨"MillBoatsModel", "fails", "(I)V"⟩ ⟨"MillBoatsModel", "fails", "(I)V"⟩ ∈ ALLG := pk5 (q := (⟨"MillBoatsModel", "fails", "(I)V"⟩, 79)) 5 rfl rfl
theorem ws70 : Cond.selects "MillBoatsModel" ⟨"MillBoatsModel", "readLet", "()V"⟩ ⟨"MillBoatsModel", "readLet", "()V"⟩ ∈ ALLG := pk5 (q := (⟨"MillBoatsModel", "readLet", "()V"⟩, 79)) 6 rfl rfl
theorem ws71 : Cond.selects "MillBoatsModel" ⟨"MillBoatsModel", "isBarredWord", "()Z"⟩ ⟨"MillBoatsModel", "isBarredWord", "()Z"⟩ ∈ ALLG := pk5 (q := (⟨"MillBoatsModel", "isBarredWord", "()Z"⟩, 79)) 7 rfl rfl
theorem ws72 : Cond.selects "MillBoatsModel" ⟨"MillBoatsModel", "name", "()I"⟩ ⟨"MillBoatsModel", "name", "()I"⟩ ∈ ALLG := pk5 (q := (⟨"MillBoatsModel", "name", "()I"⟩, 79)) 8 rfl rfl
theorem ws73 : Cond.selects "MillBoatsModel" ⟨"MillBoatsModel", "wantSign", "(I)V"⟩ ⟨"MillBoatsModel", "wantSign", "(I)V"⟩ ∈ ALLG := pk5 (q := (⟨"MillBoatsModel", "wantSign", "(I)V"⟩, 79)) 9 rfl rfl
theorem ws74 : Cond.selects "MillBoatsModel" ⟨"MillBoatsModel", "isSign", "(I)Z"⟩ ⟨"MillBoatsModel", "isSign", "(I)Z"⟩ ∈ ALLG := pk5 (q := (⟨"MillBoatsModel", "isSign", "(I)Z"⟩, 79)) 10 rfl rfl
theorem ws75 : Cond.selects "MillBoatsModel" ⟨"MillBoatsModel", "sum", "()V"⟩ ⟨"MillBoatsModel", "sum", "()V"⟩ ∈ ALLG := pk5 (q := (⟨"MillBoatsModel", "sum", "()V"⟩, 79)) 11 rfl rfl
theorem ws76 : Cond.selects "MillBoatsModel" ⟨"MillBoatsModel", "product", "()V"⟩ ⟨"MillBoatsModel", "product", "()V"⟩ ∈ ALLG := pk5 (q := (⟨"MillBoatsModel", "product", "()V"⟩, 79)) 12 rfl rfl
theorem ws77 : Cond.selects "MillBoatsModel" ⟨"MillBoatsModel", "factor", "()V"⟩ ⟨"MillBoatsModel", "factor", "()V"⟩ ∈ ALLG := pk5 (q := (⟨"MillBoatsModel", "factor", "()V"⟩, 79)) 13 rfl rfl
theorem ws78 : Cond.selects "MillBoatsModel" ⟨"MillBoatsModel", "emits", "(I)V"⟩ ⟨"MillBoatsModel", "emits", "(I)V"⟩ ∈ ALLG := pk5 (q := (⟨"MillBoatsModel", "emits", "(I)V"⟩, 79)) 14 rfl rfl
theorem ws79 : Cond.selects "MillBoatsModel" ⟨"MillBoatsModel", "opens", "()V"⟩ ⟨"MillBoatsModel", "opens", "()V"⟩ ∈ ALLG := pk5 (q := (⟨"MillBoatsModel", "opens", "()V"⟩, 79)) 15 rfl rfl
theorem ws80 : Cond.selects "MillBoatsModel" ⟨"MillBoatsModel", "readToll", "(I)V"⟩ ⟨"MillBoatsModel", "readToll", "(I)V"⟩ ∈ ALLG := pk6 (q := (⟨"MillBoatsModel", "readToll", "(I)V"⟩, 79)) 0 rfl rfl
theorem ws81 : Cond.selects "MillBoatsModel" ⟨"MillBoatsModel", "number", "()I"⟩ ⟨"MillBoatsModel", "number", "()I"⟩ ∈ ALLG := pk6 (q := (⟨"MillBoatsModel", "number", "()I"⟩, 79)) 1 rfl rfl
theorem ws82 : Cond.selects "MillBoatsModel" ⟨"MillBoatsModel", "wantWord", "(Ljava/lang/String;)V"⟩ ⟨"MillBoatsModel", "wantWord", "(Ljava/lang/String;)V"⟩ ∈ ALLG := pk6 (q := (⟨"MillBoatsModel", "wantWord", "(Ljava/lang/String;)V"⟩, 79)) 2 rfl rfl
theorem ws83 : Cond.selects "MillBoatsModel" ⟨"MillBoatsModel", "readWay", "(I)V"⟩ ⟨"MillBoatsModel", "readWay", "(I)V"⟩ ∈ ALLG := pk6 (q := (⟨"MillBoatsModel", "readWay", "(I)V"⟩, 79)) 3 rfl rfl
theorem ws84 : Cond.selects "MillBoatsModel" ⟨"MillBoatsModel", "cond", "()V"⟩ ⟨"MillBoatsModel", "cond", "()V"⟩ ∈ ALLG := pk6 (q := (⟨"MillBoatsModel", "cond", "()V"⟩, 79)) 4 rfl rfl
theorem ws85 : Cond.selects "MillBoatsModel" ⟨"MillBoatsModel", "both", "()V"⟩ ⟨"MillBoatsModel", "both", "()V"⟩ ∈ ALLG := pk6 (q := (⟨"MillBoatsModel", "both", "()V"⟩, 79)) 5 rfl rfl
theorem ws86 : Cond.selects "MillBoatsModel" ⟨"MillBoatsModel", "part", "()V"⟩ ⟨"MillBoatsModel", "part", "()V"⟩ ∈ ALLG := pk6 (q := (⟨"MillBoatsModel", "part", "()V"⟩, 79)) 6 rfl rfl
theorem ws87 : Cond.selects "MillBoatsModel" ⟨"MillBoatsModel", "compares", "()V"⟩ ⟨"MillBoatsModel", "compares", "()V"⟩ ∈ ALLG := pk6 (q := (⟨"MillBoatsModel", "compares", "()V"⟩, 79)) 7 rfl rfl
theorem ws88 : Cond.selects "MillBoatsModel" ⟨"MillBoatsModel", "copyText", "(I)V"⟩ ⟨"MillBoatsModel", "copyText", "(I)V"⟩ ∈ ALLG := pk6 (q := (⟨"MillBoatsModel", "copyText", "(I)V"⟩, 79)) 8 rfl rfl
theorem ws89 : Cond.selects "MillBoatsModel" ⟨"MillBoatsModel", "barredBy", "(IIII)I"⟩ ⟨"MillBoatsModel", "barredBy", "(IIII)I"⟩ ∈ ALLG := pk6 (q := (⟨"MillBoatsModel", "barredBy", "(IIII)I"⟩, 79)) 9 rfl rfl
theorem ws90 : Cond.selects "MillBoatsModel" ⟨"MillBoatsModel", "saysOf", "(IIIII)I"⟩ ⟨"MillBoatsModel", "saysOf", "(IIIII)I"⟩ ∈ ALLG := pk6 (q := (⟨"MillBoatsModel", "saysOf", "(IIIII)I"⟩, 79)) 10 rfl rfl
theorem ws91 : Cond.selects "MillBoatsModel" ⟨"MillBoatsModel", "wordOf", "(IIIII)I"⟩ ⟨"MillBoatsModel", "wordOf", "(IIIII)I"⟩ ∈ ALLG := pk6 (q := (⟨"MillBoatsModel", "wordOf", "(IIIII)I"⟩, 79)) 11 rfl rfl
theorem ws92 : Cond.selects "MillBoatsModel" ⟨"MillBoatsModel", "names", "(IIIII)V"⟩ ⟨"MillBoatsModel", "names", "(IIIII)V"⟩ ∈ ALLG := pk6 (q := (⟨"MillBoatsModel", "names", "(IIIII)V"⟩, 79)) 12 rfl rfl
theorem ws93 : Cond.selects "MillBoatsModel" ⟨"MillBoatsModel", "textOf", "(III)I"⟩ ⟨"MillBoatsModel", "textOf", "(III)I"⟩ ∈ ALLG := pk6 (q := (⟨"MillBoatsModel", "textOf", "(III)I"⟩, 79)) 13 rfl rfl
theorem ws94 : Cond.selects "MillBoatsModel" ⟨"MillBoatsModel", "last", "(III)I"⟩ ⟨"MillBoatsModel", "last", "(III)I"⟩ ∈ ALLG := pk6 (q := (⟨"MillBoatsModel", "last", "(III)I"⟩, 79)) 14 rfl rfl
theorem ws95 : Cond.selects "MillBoatsModel" ⟨"MillBoatsModel", "works", "(II)I"⟩ ⟨"MillBoatsModel", "works", "(II)I"⟩ ∈ ALLG := pk6 (q := (⟨"MillBoatsModel", "works", "(II)I"⟩, 79)) 15 rfl rfl
theorem ws96 : Cond.selects "MillBoatsModel" ⟨"MillBoatsModel", "wayOf", "(III)I"⟩ ⟨"MillBoatsModel", "wayOf", "(III)I"⟩ ∈ ALLG := pk7 (q := (⟨"MillBoatsModel", "wayOf", "(III)I"⟩, 79)) 0 rfl rfl
theorem ws97 : Cond.selects "MillBoatsModel" ⟨"MillBoatsModel", "freeLanes", "(II)I"⟩ ⟨"MillBoatsModel", "freeLanes", "(II)I"⟩ ∈ ALLG := pk7 (q := (⟨"MillBoatsModel", "freeLanes", "(II)I"⟩, 79)) 1 rfl rfl
theorem ws98 : Cond.selects "MillBoatsModel" ⟨"MillBoatsModel", "chains", "()V"⟩ ⟨"MillBoatsModel", "chains", "()V"⟩ ∈ ALLG := pk7 (q := (⟨"MillBoatsModel", "chains", "()V"⟩, 79)) 2 rfl rfl
theorem ws99 : Cond.selects "MillBoatsModel" ⟨"MillBoatsModel", "tells", "(IIII)V"⟩ ⟨"MillBoatsModel", "tells", "(IIII)V"⟩ ∈ ALLG := pk7 (q := (⟨"MillBoatsModel", "tells", "(IIII)V"⟩, 79)) 3 rfl rfl
theorem ws100 : Cond.selects "MillBoatsModel" ⟨"MillBoatsModel", "drifts", "(II)V"⟩ ⟨"MillBoatsModel", "drifts", "(II)V"⟩ ∈ ALLG := pk7 (q := (⟨"MillBoatsModel", "drifts", "(II)V"⟩, 79)) 4 rfl rfl
theorem ws101 : Cond.selects "MillBoatsModel" ⟨"MillBoatsModel", "driftsTo", "(I)I"⟩ ⟨"MillBoatsModel", "driftsTo", "(I)I"⟩ ∈ ALLG := pk7 (q := (⟨"MillBoatsModel", "driftsTo", "(I)I"⟩, 79)) 5 rfl rfl
theorem ws102 : Cond.selects "MillBoatsModel" ⟨"MillBoatsModel", "isBarred", "(IIII)Z"⟩ ⟨"MillBoatsModel", "isBarred", "(IIII)Z"⟩ ∈ ALLG := pk7 (q := (⟨"MillBoatsModel", "isBarred", "(IIII)Z"⟩, 79)) 6 rfl rfl
theorem ws103 : Cond.selects "MillBoatsModel" ⟨"MillBoatsModel", "grinds", "(I)V"⟩ ⟨"MillBoatsModel", "grinds", "(I)V"⟩ ∈ ALLG := pk7 (q := (⟨"MillBoatsModel", "grinds", "(I)V"⟩, 79)) 7 rfl rfl
theorem ws104 : Cond.selects "MillBoatsModel" ⟨"MillBoatsModel", "tollOf", "(III)I"⟩ ⟨"MillBoatsModel", "tollOf", "(III)I"⟩ ∈ ALLG := pk7 (q := (⟨"MillBoatsModel", "tollOf", "(III)I"⟩, 79)) 8 rfl rfl
theorem ws105 : Cond.selects "MillBoatsModel" ⟨"MillBoatsModel", "arePlanned", "(I)Z"⟩ ⟨"MillBoatsModel", "arePlanned", "(I)Z"⟩ ∈ ALLG := pk7 (q := (⟨"MillBoatsModel", "arePlanned", "(I)Z"⟩, 79)) 9 rfl rfl
theorem ws106 : Cond.selects "MillBoatsModel" ⟨"MillBoatsModel", "isIn", "(I)Z"⟩ ⟨"MillBoatsModel", "isIn", "(I)Z"⟩ ∈ ALLG := pk7 (q := (⟨"MillBoatsModel", "isIn", "(I)Z"⟩, 79)) 10 rfl rfl
theorem ws107 : Cond.selects "MillBoatsModel" ⟨"MillBoatsModel", "tries", "(I)V"⟩ ⟨"MillBoatsModel", "tries", "(I)V"⟩ ∈ ALLG := pk7 (q := (⟨"MillBoatsModel", "tries", "(I)V"⟩, 79)) 11 rfl rfl
theorem ws108 : Cond.selects "MillBoatsModel" ⟨"MillBoatsModel", "weighs", "()I"⟩ ⟨"MillBoatsModel", "weighs", "()I"⟩ ∈ ALLG := pk7 (q := (⟨"MillBoatsModel", "weighs", "()I"⟩, 79)) 12 rfl rfl
theorem ws109 : Cond.selects "MillBoatsModel" ⟨"MillBoatsModel", "findMoves", "()I"⟩ ⟨"MillBoatsModel", "findMoves", "()I"⟩ ∈ ALLG := pk7 (q := (⟨"MillBoatsModel", "findMoves", "()I"⟩, 79)) 13 rfl rfl
theorem ws110 : Cond.selects "MillBoatsModel" ⟨"MillBoatsModel", "orders", "(II)Z"⟩ ⟨"MillBoatsModel", "orders", "(II)Z"⟩ ∈ ALLG := pk7 (q := (⟨"MillBoatsModel", "orders", "(II)Z"⟩, 79)) 14 rfl rfl
theorem ws111 : Cond.selects "MillBoatsModel" ⟨"MillBoatsModel", "stepsTo", "(III)I"⟩ ⟨"MillBoatsModel", "stepsTo", "(III)I"⟩ ∈ ALLG := pk7 (q := (⟨"MillBoatsModel", "stepsTo", "(III)I"⟩, 79)) 15 rfl rfl
theorem ws112 : Cond.selects "MillBoatsModel" ⟨"MillBoatsModel", "isFree", "(III)Z"⟩ ⟨"MillBoatsModel", "isFree", "(III)Z"⟩ ∈ ALLG := pk8 (q := (⟨"MillBoatsModel", "isFree", "(III)Z"⟩, 79)) 0 rfl rfl
theorem ws113 : Cond.selects "MillBoatsModel" ⟨"MillBoatsModel", "sum", "([II)I"⟩ ⟨"MillBoatsModel", "sum", "([II)I"⟩ ∈ ALLG := pk8 (q := (⟨"MillBoatsModel", "sum", "([II)I"⟩, 79)) 1 rfl rfl
theorem ws114 : Cond.selects "MillBoatsModel" ⟨"MillBoatsModel", "many", "(Z)I"⟩ ⟨"MillBoatsModel", "many", "(Z)I"⟩ ∈ ALLG := pk8 (q := (⟨"MillBoatsModel", "many", "(Z)I"⟩, 79)) 2 rfl rfl
set_option maxRecDepth 100000 in
theorem cw0 : ∀ k, k < 7 → u_lay RX0 TX0 k ∈ ALLG := by
  intro k hk
  match k, hk with
  | 0, _ => exact tk1 85 rfl rfl
  | 1, _ => exact tk1 87 rfl rfl
  | 2, _ => exact tk1 89 rfl rfl
  | 3, _ => exact tk1 91 rfl rfl
  | 4, _ => exact tk1 93 rfl rfl
  | 5, _ => exact tk1 95 rfl rfl
  | 6, _ => exact tk1 97 rfl rfl
theorem cls0 : Cls 0 RX0 TX0 7 := ⟨rfl, by decide, rfl, fun w hw => by obtain ⟨k, hk, rfl⟩ := List.mem_map.mp hw; exact cw0 k (List.mem_range.mp hk), tyX0_ok, nmX0⟩
set_option maxRecDepth 100000 in
theorem cw1 : ∀ k, k < 4 → u_lay RX1 TX1 k ∈ ALLG := by
  intro k hk
  match k, hk with
  | 0, _ => exact tk1 159 rfl rfl
  | 1, _ => exact tk1 161 rfl rfl
  | 2, _ => exact tk1 163 rfl rfl
  | 3, _ => exact tk1 165 rfl rfl
theorem cls1 : Cls 1 RX1 TX1 4 := ⟨rfl, by decide, rfl, fun w hw => by obtain ⟨k, hk, rfl⟩ := List.mem_map.mp hw; exact cw1 k (List.mem_range.mp hk), tyX1_ok, nmX1⟩
set_option maxRecDepth 100000 in
theorem cw2 : ∀ k, k < 6 → u_lay RX2 TX2 k ∈ ALLG := by
  intro k hk
  match k, hk with
  | 0, _ => exact tk2 117 rfl rfl
  | 1, _ => exact tk2 119 rfl rfl
  | 2, _ => exact tk2 121 rfl rfl
  | 3, _ => exact tk2 123 rfl rfl
  | 4, _ => exact tk2 125 rfl rfl
  | 5, _ => exact tk2 127 rfl rfl
theorem cls2 : Cls 2 RX2 TX2 6 := ⟨rfl, by decide, rfl, fun w hw => by obtain ⟨k, hk, rfl⟩ := List.mem_map.mp hw; exact cw2 k (List.mem_range.mp hk), tyX2_ok, nmX2⟩
set_option maxRecDepth 100000 in
theorem cw3 : ∀ k, k < 10 → u_lay RX3 TX3 k ∈ ALLG := by
  intro k hk
  match k, hk with
  | 0, _ => exact tk2 148 rfl rfl
  | 1, _ => exact tk2 150 rfl rfl
  | 2, _ => exact tk2 152 rfl rfl
  | 3, _ => exact tk2 154 rfl rfl
  | 4, _ => exact tk2 156 rfl rfl
  | 5, _ => exact tk2 158 rfl rfl
  | 6, _ => exact tk2 160 rfl rfl
  | 7, _ => exact tk2 162 rfl rfl
  | 8, _ => exact tk2 164 rfl rfl
  | 9, _ => exact tk2 166 rfl rfl
theorem cls3 : Cls 3 RX3 TX3 10 := ⟨rfl, by decide, rfl, fun w hw => by obtain ⟨k, hk, rfl⟩ := List.mem_map.mp hw; exact cw3 k (List.mem_range.mp hk), tyX3_ok, nmX3⟩
set_option maxRecDepth 100000 in
theorem cw4 : ∀ k, k < 8 → u_lay RX4 TX4 k ∈ ALLG := by
  intro k hk
  match k, hk with
  | 0, _ => exact tk2 87 rfl rfl
  | 1, _ => exact tk2 89 rfl rfl
  | 2, _ => exact tk2 91 rfl rfl
  | 3, _ => exact tk2 93 rfl rfl
  | 4, _ => exact tk2 95 rfl rfl
  | 5, _ => exact tk2 97 rfl rfl
  | 6, _ => exact tk2 99 rfl rfl
  | 7, _ => exact tk2 101 rfl rfl
theorem cls4 : Cls 4 RX4 TX4 8 := ⟨rfl, by decide, rfl, fun w hw => by obtain ⟨k, hk, rfl⟩ := List.mem_map.mp hw; exact cw4 k (List.mem_range.mp hk), tyX4_ok, nmX4⟩
set_option maxRecDepth 100000 in
theorem cw5 : ∀ k, k < 10 → u_lay RX5 TX5 k ∈ ALLG := by
  intro k hk
  match k, hk with
  | 0, _ => exact tk3 6 rfl rfl
  | 1, _ => exact tk3 8 rfl rfl
  | 2, _ => exact tk3 10 rfl rfl
  | 3, _ => exact tk3 12 rfl rfl
  | 4, _ => exact tk3 14 rfl rfl
  | 5, _ => exact tk3 16 rfl rfl
  | 6, _ => exact tk3 18 rfl rfl
  | 7, _ => exact tk3 20 rfl rfl
  | 8, _ => exact tk3 22 rfl rfl
  | 9, _ => exact tk3 24 rfl rfl
theorem cls5 : Cls 5 RX5 TX5 10 := ⟨rfl, by decide, rfl, fun w hw => by obtain ⟨k, hk, rfl⟩ := List.mem_map.mp hw; exact cw5 k (List.mem_range.mp hk), tyX5_ok, nmX5⟩
set_option maxRecDepth 100000 in
theorem cw6 : ∀ k, k < 16 → u_lay RX6 TX6 k ∈ ALLG := by
  intro k hk
  match k, hk with
  | 0, _ => exact tk2 195 rfl rfl
  | 1, _ => exact tk2 197 rfl rfl
  | 2, _ => exact tk2 199 rfl rfl
  | 3, _ => exact tk2 201 rfl rfl
  | 4, _ => exact tk2 203 rfl rfl
  | 5, _ => exact tk2 205 rfl rfl
  | 6, _ => exact tk2 207 rfl rfl
  | 7, _ => exact tk2 209 rfl rfl
  | 8, _ => exact tk2 211 rfl rfl
  | 9, _ => exact tk2 213 rfl rfl
  | 10, _ => exact tk2 215 rfl rfl
  | 11, _ => exact tk2 217 rfl rfl
  | 12, _ => exact tk2 219 rfl rfl
  | 13, _ => exact tk2 221 rfl rfl
  | 14, _ => exact tk2 223 rfl rfl
  | 15, _ => exact tk2 225 rfl rfl
  | k + 16, h => exact absurd h (by omega)
theorem cls6 : Cls 6 RX6 TX6 16 := ⟨rfl, by decide, rfl, fun w hw => by obtain ⟨k, hk, rfl⟩ := List.mem_map.mp hw; exact cw6 k (List.mem_range.mp hk), tyX6_ok, nmX6⟩
set_option maxRecDepth 100000 in
theorem cw7 : ∀ k, k < 13 → u_lay RX7 TX7 k ∈ ALLG := by
  intro k hk
  match k, hk with
  | 0, _ => exact tk2 46 rfl rfl
  | 1, _ => exact tk2 48 rfl rfl
  | 2, _ => exact tk2 50 rfl rfl
  | 3, _ => exact tk2 52 rfl rfl
  | 4, _ => exact tk2 54 rfl rfl
  | 5, _ => exact tk2 56 rfl rfl
  | 6, _ => exact tk2 58 rfl rfl
  | 7, _ => exact tk2 60 rfl rfl
  | 8, _ => exact tk2 62 rfl rfl
  | 9, _ => exact tk2 64 rfl rfl
  | 10, _ => exact tk2 66 rfl rfl
  | 11, _ => exact tk2 68 rfl rfl
  | 12, _ => exact tk2 70 rfl rfl
  | k + 13, h => exact absurd h (by omega)
theorem cls7 : Cls 7 RX7 TX7 13 := ⟨rfl, by decide, rfl, fun w hw => by obtain ⟨k, hk, rfl⟩ := List.mem_map.mp hw; exact cw7 k (List.mem_range.mp hk), tyX7_ok, nmX7⟩
set_option maxRecDepth 100000 in
theorem cw8 : ∀ k, k < 6 → u_lay RX8 TX8 k ∈ ALLG := by
  intro k hk
  match k, hk with
  | 0, _ => exact tk1 126 rfl rfl
  | 1, _ => exact tk1 128 rfl rfl
  | 2, _ => exact tk1 130 rfl rfl
  | 3, _ => exact tk1 132 rfl rfl
  | 4, _ => exact tk1 134 rfl rfl
  | 5, _ => exact tk1 136 rfl rfl
theorem cls8 : Cls 8 RX8 TX8 6 := ⟨rfl, by decide, rfl, fun w hw => by obtain ⟨k, hk, rfl⟩ := List.mem_map.mp hw; exact cw8 k (List.mem_range.mp hk), tyX8_ok, nmX8⟩
set_option maxRecDepth 100000 in
theorem cw9 : ∀ k, k < 3 → u_lay RX9 TX9 k ∈ ALLG := by
  intro k hk
  match k, hk with
  | 0, _ => exact tk1 52 rfl rfl
  | 1, _ => exact tk1 54 rfl rfl
  | 2, _ => exact tk1 56 rfl rfl
theorem cls9 : Cls 9 RX9 TX9 3 := ⟨rfl, by decide, rfl, fun w hw => by obtain ⟨k, hk, rfl⟩ := List.mem_map.mp hw; exact cw9 k (List.mem_range.mp hk), tyX9_ok, nmX9⟩
set_option maxRecDepth 100000 in
theorem cw10 : ∀ k, k < 7 → u_lay RX10 TX10 k ∈ ALLG := by
  intro k hk
  match k, hk with
  | 0, _ => exact tk1 198 rfl rfl
  | 1, _ => exact tk1 200 rfl rfl
  | 2, _ => exact tk1 202 rfl rfl
  | 3, _ => exact tk1 204 rfl rfl
  | 4, _ => exact tk1 206 rfl rfl
  | 5, _ => exact tk1 208 rfl rfl
  | 6, _ => exact tk1 210 rfl rfl
theorem cls10 : Cls 10 RX10 TX10 7 := ⟨rfl, by decide, rfl, fun w hw => by obtain ⟨k, hk, rfl⟩ := List.mem_map.mp hw; exact cw10 k (List.mem_range.mp hk), tyX10_ok, nmX10⟩
set_option maxRecDepth 100000 in
theorem cw11 : ∀ k, k < 9 → u_lay RX11 TX11 k ∈ ALLG := by
  intro k hk
  match k, hk with
  | 0, _ => exact tk3 36 rfl rfl
  | 1, _ => exact tk3 38 rfl rfl
  | 2, _ => exact tk3 40 rfl rfl
  | 3, _ => exact tk3 42 rfl rfl
  | 4, _ => exact tk3 44 rfl rfl
  | 5, _ => exact tk3 46 rfl rfl
  | 6, _ => exact tk3 48 rfl rfl
  | 7, _ => exact tk3 50 rfl rfl
  | 8, _ => exact tk3 52 rfl rfl
theorem cls11 : Cls 11 RX11 TX11 9 := ⟨rfl, by decide, rfl, fun w hw => by obtain ⟨k, hk, rfl⟩ := List.mem_map.mp hw; exact cw11 k (List.mem_range.mp hk), tyX11_ok, nmX11⟩
set_option maxRecDepth 100000 in
theorem cw12 : ∀ k, k < 79 → u_lay RX12 TX12 k ∈ ALLG := by
  intro k hk
  match k, hk with
  | 0, _ => exact tk6 130 rfl rfl
  | 1, _ => exact tk6 132 rfl rfl
  | 2, _ => exact tk6 134 rfl rfl
  | 3, _ => exact tk6 136 rfl rfl
  | 4, _ => exact tk6 138 rfl rfl
  | 5, _ => exact tk6 140 rfl rfl
  | 6, _ => exact tk6 142 rfl rfl
  | 7, _ => exact tk6 144 rfl rfl
  | 8, _ => exact tk6 146 rfl rfl
  | 9, _ => exact tk6 148 rfl rfl
  | 10, _ => exact tk6 150 rfl rfl
  | 11, _ => exact tk6 152 rfl rfl
  | 12, _ => exact tk6 154 rfl rfl
  | 13, _ => exact tk6 156 rfl rfl
  | 14, _ => exact tk6 158 rfl rfl
  | 15, _ => exact tk6 160 rfl rfl
  | 16, _ => exact tk6 162 rfl rfl
  | 17, _ => exact tk6 164 rfl rfl
  | 18, _ => exact tk6 166 rfl rfl
  | 19, _ => exact tk6 168 rfl rfl
  | 20, _ => exact tk6 170 rfl rfl
  | 21, _ => exact tk6 172 rfl rfl
  | 22, _ => exact tk6 174 rfl rfl
  | 23, _ => exact tk6 176 rfl rfl
  | 24, _ => exact tk6 178 rfl rfl
  | 25, _ => exact tk6 180 rfl rfl
  | 26, _ => exact tk6 182 rfl rfl
  | 27, _ => exact tk6 184 rfl rfl
  | 28, _ => exact tk6 186 rfl rfl
  | 29, _ => exact tk6 188 rfl rfl
  | 30, _ => exact tk6 190 rfl rfl
  | 31, _ => exact tk6 192 rfl rfl
  | 32, _ => exact tk6 194 rfl rfl
  | 33, _ => exact tk6 196 rfl rfl
  | 34, _ => exact tk6 198 rfl rfl
  | 35, _ => exact tk6 200 rfl rfl
  | 36, _ => exact tk6 202 rfl rfl
  | 37, _ => exact tk6 204 rfl rfl
  | 38, _ => exact tk6 206 rfl rfl
  | 39, _ => exact tk6 208 rfl rfl
  | 40, _ => exact tk6 210 rfl rfl
  | 41, _ => exact tk6 212 rfl rfl
  | 42, _ => exact tk6 214 rfl rfl
  | 43, _ => exact tk6 216 rfl rfl
  | 44, _ => exact tk6 218 rfl rfl
  | 45, _ => exact tk6 220 rfl rfl
  | 46, _ => exact tk6 222 rfl rfl
  | 47, _ => exact tk6 224 rfl rfl
  | 48, _ => exact tk6 226 rfl rfl
  | 49, _ => exact tk6 228 rfl rfl
  | 50, _ => exact tk6 230 rfl rfl
  | 51, _ => exact tk6 232 rfl rfl
  | 52, _ => exact tk6 234 rfl rfl
  | 53, _ => exact tk6 236 rfl rfl
  | 54, _ => exact tk6 238 rfl rfl
  | 55, _ => exact tk7 0 rfl rfl
  | 56, _ => exact tk7 2 rfl rfl
  | 57, _ => exact tk7 4 rfl rfl
  | 58, _ => exact tk7 6 rfl rfl
  | 59, _ => exact tk7 8 rfl rfl
  | 60, _ => exact tk7 10 rfl rfl
  | 61, _ => exact tk7 12 rfl rfl
  | 62, _ => exact tk7 14 rfl rfl
  | 63, _ => exact tk7 16 rfl rfl
  | 64, _ => exact tk7 18 rfl rfl
  | 65, _ => exact tk7 20 rfl rfl
  | 66, _ => exact tk7 22 rfl rfl
  | 67, _ => exact tk7 24 rfl rfl
  | 68, _ => exact tk7 26 rfl rfl
  | 69, _ => exact tk7 28 rfl rfl
  | 70, _ => exact tk7 30 rfl rfl
  | 71, _ => exact tk7 32 rfl rfl
  | 72, _ => exact tk7 34 rfl rfl
  | 73, _ => exact tk7 36 rfl rfl
  | 74, _ => exact tk7 38 rfl rfl
  | 75, _ => exact tk7 40 rfl rfl
  | 76, _ => exact tk7 42 rfl rfl
  | 77, _ => exact tk7 44 rfl rfl
  | 78, _ => exact tk7 46 rfl rfl
  | k + 79, h => exact absurd h (by omega)
theorem cls12 : Cls 12 RX12 TX12 79 := ⟨rfl, by decide, rfl, fun w hw => by obtain ⟨k, hk, rfl⟩ := List.mem_map.mp hw; exact cw12 k (List.mem_range.mp hk), tyX12_ok, nmX12⟩
