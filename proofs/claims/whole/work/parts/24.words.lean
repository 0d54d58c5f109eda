/-! the words of the tables, each by its place -/
def xw_ALL : List Cond := lw_tbl.filter qx_okw
theorem xw_in {w : Cond} (h : w ∈ tables_1) (g : qx_okw w = true) : w ∈ xw_ALL := List.mem_filter.mpr ⟨List.mem_append_right _ h, g⟩
theorem xw_in1 {w : Cond} (i : Nat) (h : tables_1_1[i]? = some w) (g : qx_okw w = true) : w ∈ xw_ALL := xw_in (List.mem_append_left _ (List.mem_of_getElem? h)) g
theorem xw_in2 {w : Cond} (i : Nat) (h : tables_1_2[i]? = some w) (g : qx_okw w = true) : w ∈ xw_ALL := xw_in (List.mem_append_right _ (List.mem_append_left _ (List.mem_of_getElem? h))) g
theorem xw_in3 {w : Cond} (i : Nat) (h : tables_1_3[i]? = some w) (g : qx_okw w = true) : w ∈ xw_ALL := xw_in (List.mem_append_right _ (List.mem_append_right _ (List.mem_append_left _ (List.mem_of_getElem? h)))) g
theorem xw_in4 {w : Cond} (i : Nat) (h : tables_1_4[i]? = some w) (g : qx_okw w = true) : w ∈ xw_ALL := xw_in (List.mem_append_right _ (List.mem_append_right _ (List.mem_append_right _ (List.mem_append_left _ (List.mem_of_getElem? h))))) g
theorem xw_in5 {w : Cond} (i : Nat) (h : tables_1_5[i]? = some w) (g : qx_okw w = true) : w ∈ xw_ALL := xw_in (List.mem_append_right _ (List.mem_append_right _ (List.mem_append_right _ (List.mem_append_right _ (List.mem_append_left _ (List.mem_of_getElem? h)))))) g
theorem xw_in6 {w : Cond} (i : Nat) (h : tables_1_6[i]? = some w) (g : qx_okw w = true) : w ∈ xw_ALL := xw_in (List.mem_append_right _ (List.mem_append_right _ (List.mem_append_right _ (List.mem_append_right _ (List.mem_append_right _ (List.mem_of_getElem? h)))))) g
theorem xw_sel {w : Cond} (q : MethodName × Nat) (hq : q ∈ lw_privs) (h : w ∈ k2_sels lw_privs) (g : qx_okw w = true) : w ∈ xw_ALL := List.mem_filter.mpr ⟨List.mem_append_left _ h, g⟩
theorem xw_good : ∀ w ∈ xw_ALL, qx_okw w = true := fun w h => (List.mem_filter.mp h).2
theorem xw_sub : ∀ w ∈ xw_ALL, w ∈ lw_tbl := fun w h => (List.mem_filter.mp h).1
theorem ww_0 : (Jvm.Cond.initialized "NetMenderLaw") ∈ xw_ALL := xw_in1 0 (by rfl) rfl
theorem ww_1 : (Jvm.Cond.initialized "NetMender") ∈ xw_ALL := xw_in1 1 (by rfl) rfl
theorem ww_2 : (Jvm.Cond.initialized "NetMender$Quay") ∈ xw_ALL := xw_in1 2 (by rfl) rfl
theorem ww_3 : (Jvm.Cond.initialized "NetMender$Net") ∈ xw_ALL := xw_in1 3 (by rfl) rfl
theorem ww_4 : (Jvm.Cond.initialized "NetMender$Law") ∈ xw_ALL := xw_in1 4 (by rfl) rfl
theorem ww_5 : (Jvm.Cond.initialized "NetMender$TextReader") ∈ xw_ALL := xw_in1 5 (by rfl) rfl
theorem ww_6 : (Jvm.Cond.initialized "NetMender$Mending") ∈ xw_ALL := xw_in1 6 (by rfl) rfl
theorem ww_7 : (Jvm.Cond.initialized "NetMender$Hour") ∈ xw_ALL := xw_in1 7 (by rfl) rfl
theorem ww_8 : (Jvm.Cond.initialized "NetMender$Voices") ∈ xw_ALL := xw_in1 8 (by rfl) rfl
theorem ww_9 : (Jvm.Cond.initialized "NetMender$Sheet") ∈ xw_ALL := xw_in1 9 (by rfl) rfl
theorem ww_10 : (Jvm.Cond.initialized "NetMenderModel") ∈ xw_ALL := xw_in1 10 (by rfl) rfl
theorem ww_11 : (Jvm.Cond.initialized "java/lang/Math") ∈ xw_ALL := xw_in1 11 (by rfl) rfl
theorem ww_12 : (Jvm.Cond.initialized "NetMender$Kinds") ∈ xw_ALL := xw_in1 12 (by rfl) rfl
theorem ww_13 : (Jvm.Cond.initialized "NetMender$Grid") ∈ xw_ALL := xw_in1 13 (by rfl) rfl
theorem ww_14 : (Jvm.Cond.initialized "java/lang/Integer") ∈ xw_ALL := xw_in1 14 (by rfl) rfl
theorem ww_15 : (Jvm.Cond.initialized "java/lang/System") ∈ xw_ALL := xw_in1 15 (by rfl) rfl
theorem ww_16 : (Jvm.Cond.classLink "NetMenderLaw" (7 : Nat) "NetMender") ∈ xw_ALL := xw_in1 16 (by rfl) rfl
theorem ww_17 : (Jvm.Cond.instantiable "NetMender" (11 : Nat)) ∈ xw_ALL := xw_in1 17 (by rfl) rfl
theorem ww_18 : (Jvm.Cond.methodLink "NetMenderLaw" (9 : Nat) ({ cls := "NetMender", name := "<init>", desc := "()V" } : Jvm.MethodName)) ∈ xw_ALL := xw_in1 18 (by rfl) rfl
theorem ww_19 : (Jvm.Cond.instanceMethod ({ cls := "NetMender", name := "<init>", desc := "()V" } : Jvm.MethodName)) ∈ xw_ALL := xw_in1 19 (by rfl) rfl
theorem ww_20 : (Jvm.Cond.code ({ cls := "NetMender", name := "<init>", desc := "()V" } : Jvm.MethodName) prog_1_method_1_code (2 : Nat) (Option.none : Option Jvm.ClassFile.FieldType)) ∈ xw_ALL := xw_in1 20 (by rfl) rfl
theorem ww_21 : (Jvm.Cond.methodLink "NetMender" (3 : Nat) ({ cls := "java/lang/Object", name := "<init>", desc := "()V" } : Jvm.MethodName)) ∈ xw_ALL := xw_in1 21 (by rfl) rfl
theorem ww_22 : (Jvm.Cond.instanceMethod ({ cls := "java/lang/Object", name := "<init>", desc := "()V" } : Jvm.MethodName)) ∈ xw_ALL := xw_in1 22 (by rfl) rfl
theorem ww_23 : (Jvm.Cond.code ({ cls := "java/lang/Object", name := "<init>", desc := "()V" } : Jvm.MethodName) object_method_1_code (1 : Nat) (Option.none : Option Jvm.ClassFile.FieldType)) ∈ xw_ALL := xw_in1 23 (by rfl) rfl
theorem ww_24 : (Jvm.Cond.classLink "NetMender" (9 : Nat) "NetMender$Quay") ∈ xw_ALL := xw_in1 24 (by rfl) rfl
theorem ww_25 : (Jvm.Cond.instantiable "NetMender$Quay" (8 : Nat)) ∈ xw_ALL := xw_in1 25 (by rfl) rfl
theorem ww_26 : (Jvm.Cond.methodLink "NetMender" (11 : Nat) ({ cls := "NetMender$Quay", name := "<init>", desc := "()V" } : Jvm.MethodName)) ∈ xw_ALL := xw_in1 26 (by rfl) rfl
theorem ww_27 : (Jvm.Cond.instanceMethod ({ cls := "NetMender$Quay", name := "<init>", desc := "()V" } : Jvm.MethodName)) ∈ xw_ALL := xw_in1 27 (by rfl) rfl
theorem ww_28 : (Jvm.Cond.code ({ cls := "NetMender$Quay", name := "<init>", desc := "()V" } : Jvm.MethodName) prog_8_method_1_code (2 : Nat) (Option.none : Option Jvm.ClassFile.FieldType)) ∈ xw_ALL := xw_in1 28 (by rfl) rfl
theorem ww_29 : (Jvm.Cond.methodLink "NetMender$Quay" (3 : Nat) ({ cls := "java/lang/Object", name := "<init>", desc := "()V" } : Jvm.MethodName)) ∈ xw_ALL := xw_in1 29 (by rfl) rfl
theorem ww_30 : (Jvm.Cond.classLink "NetMender$Quay" (9 : Nat) "NetMender$Net") ∈ xw_ALL := xw_in1 30 (by rfl) rfl
theorem ww_31 : (Jvm.Cond.instantiable "NetMender$Net" (11 : Nat)) ∈ xw_ALL := xw_in1 31 (by rfl) rfl
theorem ww_32 : (Jvm.Cond.methodLink "NetMender$Quay" (11 : Nat) ({ cls := "NetMender$Net", name := "<init>", desc := "()V" } : Jvm.MethodName)) ∈ xw_ALL := xw_in1 32 (by rfl) rfl
theorem ww_33 : (Jvm.Cond.instanceMethod ({ cls := "NetMender$Net", name := "<init>", desc := "()V" } : Jvm.MethodName)) ∈ xw_ALL := xw_in1 33 (by rfl) rfl
theorem ww_34 : (Jvm.Cond.code ({ cls := "NetMender$Net", name := "<init>", desc := "()V" } : Jvm.MethodName) prog_7_method_1_code (2 : Nat) (Option.none : Option Jvm.ClassFile.FieldType)) ∈ xw_ALL := xw_in1 34 (by rfl) rfl
theorem ww_35 : (Jvm.Cond.methodLink "NetMender$Net" (3 : Nat) ({ cls := "java/lang/Object", name := "<init>", desc := "()V" } : Jvm.MethodName)) ∈ xw_ALL := xw_in1 35 (by rfl) rfl
theorem ww_36 : (Jvm.Cond.classLink "NetMender$Net" (33 : Nat) "NetMender$Law") ∈ xw_ALL := xw_in1 36 (by rfl) rfl
theorem ww_37 : (Jvm.Cond.instantiable "NetMender$Law" (3 : Nat)) ∈ xw_ALL := xw_in1 37 (by rfl) rfl
theorem ww_38 : (Jvm.Cond.methodLinkNest "NetMender$Net" (35 : Nat) ({ cls := "NetMender$Law", name := "<init>", desc := "()V" } : Jvm.MethodName) "NetMender") ∈ xw_ALL := xw_in1 38 (by rfl) rfl
theorem ww_39 : (Jvm.Cond.instanceMethod ({ cls := "NetMender$Law", name := "<init>", desc := "()V" } : Jvm.MethodName)) ∈ xw_ALL := xw_in1 39 (by rfl) rfl
theorem ww_40 : (Jvm.Cond.code ({ cls := "NetMender$Law", name := "<init>", desc := "()V" } : Jvm.MethodName) prog_5_method_1_code (1 : Nat) (Option.none : Option Jvm.ClassFile.FieldType)) ∈ xw_ALL := xw_in1 40 (by rfl) rfl
theorem ww_41 : (Jvm.Cond.methodLink "NetMender$Law" (3 : Nat) ({ cls := "java/lang/Object", name := "<init>", desc := "()V" } : Jvm.MethodName)) ∈ xw_ALL := xw_in1 41 (by rfl) rfl
theorem ww_42 : (Jvm.Cond.fieldLink "NetMender$Law" (9 : Nat) "NetMender$Law" "items" "[I") ∈ xw_ALL := xw_in1 42 (by rfl) rfl
theorem ww_43 : (Jvm.Cond.fieldLink "NetMender$Law" (15 : Nat) "NetMender$Law" "stack" "[I") ∈ xw_ALL := xw_in1 43 (by rfl) rfl
theorem ww_44 : (Jvm.Cond.fieldLink "NetMender$Law" (18 : Nat) "NetMender$Law" "length" "I") ∈ xw_ALL := xw_in1 44 (by rfl) rfl
theorem ww_45 : (Jvm.Cond.laysFinal "NetMender$Law" "NetMender$Law" "items" "[I") ∈ xw_ALL := xw_in1 45 (by rfl) rfl
theorem ww_47 : (Jvm.Cond.laysFinal "NetMender$Law" "NetMender$Law" "stack" "[I") ∈ xw_ALL := xw_in1 47 (by rfl) rfl
theorem ww_49 : (Jvm.Cond.lays "NetMender$Law" "NetMender$Law" "length" "I") ∈ xw_ALL := xw_in1 49 (by rfl) rfl
theorem ww_52 : (Jvm.Cond.arrayClass Jvm.ClassFile.FieldType.int) ∈ xw_ALL := xw_in1 52 (by rfl) rfl
theorem ww_53 : (Jvm.Cond.fieldLink "NetMender$Net" (9 : Nat) "NetMender$Net" "kinds" "[I") ∈ xw_ALL := xw_in1 53 (by rfl) rfl
theorem ww_54 : (Jvm.Cond.fieldLinkNest "NetMender" (84 : Nat) "NetMender$Net" "kinds" "[I" "NetMender") ∈ xw_ALL := xw_in1 54 (by rfl) rfl
theorem ww_55 : (Jvm.Cond.fieldLink "NetMender$Net" (15 : Nat) "NetMender$Net" "numbers" "[I") ∈ xw_ALL := xw_in1 55 (by rfl) rfl
theorem ww_56 : (Jvm.Cond.fieldLinkNest "NetMender" (87 : Nat) "NetMender$Net" "numbers" "[I" "NetMender") ∈ xw_ALL := xw_in1 56 (by rfl) rfl
theorem ww_57 : (Jvm.Cond.fieldLink "NetMender$Net" (18 : Nat) "NetMender$Net" "tiers" "[I") ∈ xw_ALL := xw_in1 57 (by rfl) rfl
theorem ww_58 : (Jvm.Cond.fieldLinkNest "NetMender" (94 : Nat) "NetMender$Net" "tiers" "[I" "NetMender") ∈ xw_ALL := xw_in1 58 (by rfl) rfl
theorem ww_59 : (Jvm.Cond.fieldLink "NetMender$Net" (21 : Nat) "NetMender$Net" "tiedOn" "[I") ∈ xw_ALL := xw_in1 59 (by rfl) rfl
theorem ww_60 : (Jvm.Cond.fieldLinkNest "NetMender" (97 : Nat) "NetMender$Net" "tiedOn" "[I" "NetMender") ∈ xw_ALL := xw_in1 60 (by rfl) rfl
theorem ww_61 : (Jvm.Cond.fieldLink "NetMender$Net" (24 : Nat) "NetMender$Net" "worn" "[I") ∈ xw_ALL := xw_in1 61 (by rfl) rfl
theorem ww_62 : (Jvm.Cond.fieldLinkNest "NetMender" (146 : Nat) "NetMender$Net" "worn" "[I" "NetMender") ∈ xw_ALL := xw_in1 62 (by rfl) rfl
theorem ww_63 : (Jvm.Cond.fieldLink "NetMender$Net" (27 : Nat) "NetMender$Net" "cameOn" "[I") ∈ xw_ALL := xw_in1 63 (by rfl) rfl
theorem ww_64 : (Jvm.Cond.fieldLink "NetMender$Net" (30 : Nat) "NetMender$Net" "held" "[I") ∈ xw_ALL := xw_in1 64 (by rfl) rfl
theorem ww_65 : (Jvm.Cond.fieldLink "NetMender$Net" (36 : Nat) "NetMender$Net" "holdsLaw" "LNetMender$Law;") ∈ xw_ALL := xw_in1 65 (by rfl) rfl
theorem ww_66 : (Jvm.Cond.fieldLink "NetMender$Net" (40 : Nat) "NetMender$Net" "wearsLaw" "LNetMender$Law;") ∈ xw_ALL := xw_in1 66 (by rfl) rfl
theorem ww_67 : (Jvm.Cond.fieldLink "NetMender$Net" (43 : Nat) "NetMender$Net" "missing" "I") ∈ xw_ALL := xw_in1 67 (by rfl) rfl
theorem ww_68 : (Jvm.Cond.fieldLinkNest "NetMender" (108 : Nat) "NetMender$Net" "missing" "I" "NetMender") ∈ xw_ALL := xw_in1 68 (by rfl) rfl
theorem ww_69 : (Jvm.Cond.fieldLink "NetMender$Net" (47 : Nat) "NetMender$Net" "day" "I") ∈ xw_ALL := xw_in1 69 (by rfl) rfl
theorem ww_70 : (Jvm.Cond.fieldLinkNest "NetMender" (304 : Nat) "NetMender$Net" "day" "I" "NetMender") ∈ xw_ALL := xw_in1 70 (by rfl) rfl
theorem ww_71 : (Jvm.Cond.laysFinal "NetMender$Net" "NetMender$Net" "kinds" "[I") ∈ xw_ALL := xw_in1 71 (by rfl) rfl
theorem ww_73 : (Jvm.Cond.laysFinal "NetMender$Net" "NetMender$Net" "numbers" "[I") ∈ xw_ALL := xw_in1 73 (by rfl) rfl
theorem ww_75 : (Jvm.Cond.laysFinal "NetMender$Net" "NetMender$Net" "tiers" "[I") ∈ xw_ALL := xw_in1 75 (by rfl) rfl
theorem ww_77 : (Jvm.Cond.laysFinal "NetMender$Net" "NetMender$Net" "tiedOn" "[I") ∈ xw_ALL := xw_in1 77 (by rfl) rfl
theorem ww_79 : (Jvm.Cond.laysFinal "NetMender$Net" "NetMender$Net" "worn" "[I") ∈ xw_ALL := xw_in1 79 (by rfl) rfl
theorem ww_81 : (Jvm.Cond.laysFinal "NetMender$Net" "NetMender$Net" "cameOn" "[I") ∈ xw_ALL := xw_in1 81 (by rfl) rfl
theorem ww_83 : (Jvm.Cond.laysFinal "NetMender$Net" "NetMender$Net" "held" "[I") ∈ xw_ALL := xw_in1 83 (by rfl) rfl
theorem ww_85 : (Jvm.Cond.laysFinal "NetMender$Net" "NetMender$Net" "holdsLaw" "LNetMender$Law;") ∈ xw_ALL := xw_in1 85 (by rfl) rfl
theorem ww_87 : (Jvm.Cond.laysFinal "NetMender$Net" "NetMender$Net" "wearsLaw" "LNetMender$Law;") ∈ xw_ALL := xw_in1 87 (by rfl) rfl
theorem ww_89 : (Jvm.Cond.lays "NetMender$Net" "NetMender$Net" "missing" "I") ∈ xw_ALL := xw_in1 89 (by rfl) rfl
theorem ww_91 : (Jvm.Cond.lays "NetMender$Net" "NetMender$Net" "day" "I") ∈ xw_ALL := xw_in1 91 (by rfl) rfl
theorem ww_94 : (Jvm.Cond.fieldLink "NetMender$Quay" (12 : Nat) "NetMender$Quay" "net" "LNetMender$Net;") ∈ xw_ALL := xw_in1 94 (by rfl) rfl
theorem ww_95 : (Jvm.Cond.fieldLinkNest "NetMender" (81 : Nat) "NetMender$Quay" "net" "LNetMender$Net;" "NetMender") ∈ xw_ALL := xw_in1 95 (by rfl) rfl
theorem ww_96 : (Jvm.Cond.fieldLink "NetMender$Quay" (18 : Nat) "NetMender$Quay" "speeds" "[I") ∈ xw_ALL := xw_in1 96 (by rfl) rfl
theorem ww_97 : (Jvm.Cond.fieldLinkNest "NetMender" (152 : Nat) "NetMender$Quay" "speeds" "[I" "NetMender") ∈ xw_ALL := xw_in1 97 (by rfl) rfl
theorem ww_98 : (Jvm.Cond.fieldLink "NetMender$Quay" (22 : Nat) "NetMender$Quay" "tape" "[I") ∈ xw_ALL := xw_in1 98 (by rfl) rfl
theorem ww_99 : (Jvm.Cond.fieldLinkNest "NetMender" (159 : Nat) "NetMender$Quay" "tape" "[I" "NetMender") ∈ xw_ALL := xw_in1 99 (by rfl) rfl
theorem ww_100 : (Jvm.Cond.fieldLink "NetMender$Quay" (25 : Nat) "NetMender$Quay" "waiting" "[I") ∈ xw_ALL := xw_in1 100 (by rfl) rfl
theorem ww_101 : (Jvm.Cond.fieldLinkNest "NetMender" (310 : Nat) "NetMender$Quay" "waiting" "[I" "NetMender") ∈ xw_ALL := xw_in1 101 (by rfl) rfl
theorem ww_102 : (Jvm.Cond.fieldLink "NetMender$Quay" (28 : Nat) "NetMender$Quay" "taped" "I") ∈ xw_ALL := xw_in1 102 (by rfl) rfl
theorem ww_103 : (Jvm.Cond.fieldLinkNest "NetMender" (155 : Nat) "NetMender$Quay" "taped" "I" "NetMender") ∈ xw_ALL := xw_in1 103 (by rfl) rfl
theorem ww_104 : (Jvm.Cond.fieldLink "NetMender$Quay" (32 : Nat) "NetMender$Quay" "waits" "I") ∈ xw_ALL := xw_in1 104 (by rfl) rfl
theorem ww_105 : (Jvm.Cond.fieldLinkNest "NetMender" (307 : Nat) "NetMender$Quay" "waits" "I" "NetMender") ∈ xw_ALL := xw_in1 105 (by rfl) rfl
theorem ww_106 : (Jvm.Cond.fieldLink "NetMender$Quay" (35 : Nat) "NetMender$Quay" "ells" "I") ∈ xw_ALL := xw_in1 106 (by rfl) rfl
theorem ww_107 : (Jvm.Cond.fieldLinkNest "NetMender" (149 : Nat) "NetMender$Quay" "ells" "I" "NetMender") ∈ xw_ALL := xw_in1 107 (by rfl) rfl
theorem ww_108 : (Jvm.Cond.fieldLink "NetMender$Quay" (38 : Nat) "NetMender$Quay" "z" "I") ∈ xw_ALL := xw_in1 108 (by rfl) rfl
theorem ww_109 : (Jvm.Cond.fieldLinkNest "NetMender" (250 : Nat) "NetMender$Quay" "z" "I" "NetMender") ∈ xw_ALL := xw_in1 109 (by rfl) rfl
theorem ww_110 : (Jvm.Cond.laysFinal "NetMender$Quay" "NetMender$Quay" "net" "LNetMender$Net;") ∈ xw_ALL := xw_in1 110 (by rfl) rfl
theorem ww_112 : (Jvm.Cond.laysFinal "NetMender$Quay" "NetMender$Quay" "speeds" "[I") ∈ xw_ALL := xw_in1 112 (by rfl) rfl
theorem ww_114 : (Jvm.Cond.laysFinal "NetMender$Quay" "NetMender$Quay" "tape" "[I") ∈ xw_ALL := xw_in1 114 (by rfl) rfl
theorem ww_116 : (Jvm.Cond.laysFinal "NetMender$Quay" "NetMender$Quay" "waiting" "[I") ∈ xw_ALL := xw_in1 116 (by rfl) rfl
theorem ww_118 : (Jvm.Cond.lays "NetMender$Quay" "NetMender$Quay" "taped" "I") ∈ xw_ALL := xw_in1 118 (by rfl) rfl
theorem ww_120 : (Jvm.Cond.lays "NetMender$Quay" "NetMender$Quay" "waits" "I") ∈ xw_ALL := xw_in1 120 (by rfl) rfl
theorem ww_122 : (Jvm.Cond.lays "NetMender$Quay" "NetMender$Quay" "ells" "I") ∈ xw_ALL := xw_in1 122 (by rfl) rfl
theorem ww_124 : (Jvm.Cond.lays "NetMender$Quay" "NetMender$Quay" "z" "I") ∈ xw_ALL := xw_in1 124 (by rfl) rfl
theorem ww_127 : (Jvm.Cond.classLink "NetMender" (19 : Nat) "NetMender$Net") ∈ xw_ALL := xw_in1 127 (by rfl) rfl
theorem ww_128 : (Jvm.Cond.methodLink "NetMender" (21 : Nat) ({ cls := "NetMender$Net", name := "<init>", desc := "()V" } : Jvm.MethodName)) ∈ xw_ALL := xw_in1 128 (by rfl) rfl
theorem ww_129 : (Jvm.Cond.classLink "NetMender" (29 : Nat) "NetMender$TextReader") ∈ xw_ALL := xw_in1 129 (by rfl) rfl
theorem ww_130 : (Jvm.Cond.instantiable "NetMender$TextReader" (5 : Nat)) ∈ xw_ALL := xw_in1 130 (by rfl) rfl
theorem ww_131 : (Jvm.Cond.methodLinkNest "NetMender" (31 : Nat) ({ cls := "NetMender$TextReader", name := "<init>", desc := "()V" } : Jvm.MethodName) "NetMender") ∈ xw_ALL := xw_in1 131 (by rfl) rfl
theorem ww_132 : (Jvm.Cond.instanceMethod ({ cls := "NetMender$TextReader", name := "<init>", desc := "()V" } : Jvm.MethodName)) ∈ xw_ALL := xw_in1 132 (by rfl) rfl
theorem ww_133 : (Jvm.Cond.code ({ cls := "NetMender$TextReader", name := "<init>", desc := "()V" } : Jvm.MethodName) prog_10_method_1_code (1 : Nat) (Option.none : Option Jvm.ClassFile.FieldType)) ∈ xw_ALL := xw_in1 133 (by rfl) rfl
theorem ww_134 : (Jvm.Cond.methodLink "NetMender$TextReader" (3 : Nat) ({ cls := "java/lang/Object", name := "<init>", desc := "()V" } : Jvm.MethodName)) ∈ xw_ALL := xw_in1 134 (by rfl) rfl
theorem ww_135 : (Jvm.Cond.classLink "NetMender$TextReader" (9 : Nat) "NetMender$Law") ∈ xw_ALL := xw_in1 135 (by rfl) rfl
theorem ww_136 : (Jvm.Cond.methodLinkNest "NetMender$TextReader" (11 : Nat) ({ cls := "NetMender$Law", name := "<init>", desc := "()V" } : Jvm.MethodName) "NetMender") ∈ xw_ALL := xw_in1 136 (by rfl) rfl
theorem ww_137 : (Jvm.Cond.fieldLink "NetMender$TextReader" (12 : Nat) "NetMender$TextReader" "law" "LNetMender$Law;") ∈ xw_ALL := xw_in1 137 (by rfl) rfl
theorem ww_138 : (Jvm.Cond.fieldLinkNest "NetMender" (170 : Nat) "NetMender$TextReader" "law" "LNetMender$Law;" "NetMender") ∈ xw_ALL := xw_in1 138 (by rfl) rfl
theorem ww_139 : (Jvm.Cond.fieldLink "NetMender$TextReader" (18 : Nat) "NetMender$TextReader" "signs" "[I") ∈ xw_ALL := xw_in1 139 (by rfl) rfl
theorem ww_140 : (Jvm.Cond.fieldLink "NetMender$TextReader" (22 : Nat) "NetMender$TextReader" "stacked" "I") ∈ xw_ALL := xw_in1 140 (by rfl) rfl
theorem ww_141 : (Jvm.Cond.fieldLink "NetMender$TextReader" (26 : Nat) "NetMender$TextReader" "opened" "I") ∈ xw_ALL := xw_in1 141 (by rfl) rfl
theorem ww_142 : (Jvm.Cond.fieldLink "NetMender$TextReader" (29 : Nat) "NetMender$TextReader" "wantsValue" "Z") ∈ xw_ALL := xw_in1 142 (by rfl) rfl
theorem ww_143 : (Jvm.Cond.laysFinal "NetMender$TextReader" "NetMender$TextReader" "law" "LNetMender$Law;") ∈ xw_ALL := xw_in1 143 (by rfl) rfl
theorem ww_145 : (Jvm.Cond.laysFinal "NetMender$TextReader" "NetMender$TextReader" "signs" "[I") ∈ xw_ALL := xw_in1 145 (by rfl) rfl
theorem ww_147 : (Jvm.Cond.lays "NetMender$TextReader" "NetMender$TextReader" "stacked" "I") ∈ xw_ALL := xw_in1 147 (by rfl) rfl
theorem ww_149 : (Jvm.Cond.lays "NetMender$TextReader" "NetMender$TextReader" "opened" "I") ∈ xw_ALL := xw_in1 149 (by rfl) rfl
theorem ww_151 : (Jvm.Cond.lays "NetMender$TextReader" "NetMender$TextReader" "wantsValue" "Z") ∈ xw_ALL := xw_in1 151 (by rfl) rfl
theorem ww_154 : (Jvm.Cond.classLink "NetMender" (36 : Nat) "NetMender$Mending") ∈ xw_ALL := xw_in1 154 (by rfl) rfl
theorem ww_155 : (Jvm.Cond.instantiable "NetMender$Mending" (1 : Nat)) ∈ xw_ALL := xw_in1 155 (by rfl) rfl
theorem ww_156 : (Jvm.Cond.methodLinkNest "NetMender" (38 : Nat) ({ cls := "NetMender$Mending", name := "<init>", desc := "()V" } : Jvm.MethodName) "NetMender") ∈ xw_ALL := xw_in1 156 (by rfl) rfl
theorem ww_157 : (Jvm.Cond.instanceMethod ({ cls := "NetMender$Mending", name := "<init>", desc := "()V" } : Jvm.MethodName)) ∈ xw_ALL := xw_in1 157 (by rfl) rfl
theorem ww_158 : (Jvm.Cond.code ({ cls := "NetMender$Mending", name := "<init>", desc := "()V" } : Jvm.MethodName) prog_6_method_1_code (1 : Nat) (Option.none : Option Jvm.ClassFile.FieldType)) ∈ xw_ALL := xw_in1 158 (by rfl) rfl
theorem ww_159 : (Jvm.Cond.methodLink "NetMender$Mending" (3 : Nat) ({ cls := "java/lang/Object", name := "<init>", desc := "()V" } : Jvm.MethodName)) ∈ xw_ALL := xw_in1 159 (by rfl) rfl
theorem ww_160 : (Jvm.Cond.fieldLink "NetMender$Mending" (9 : Nat) "NetMender$Mending" "chosen" "[I") ∈ xw_ALL := xw_in1 160 (by rfl) rfl
theorem ww_161 : (Jvm.Cond.fieldLinkNest "NetMender" (213 : Nat) "NetMender$Mending" "chosen" "[I" "NetMender") ∈ xw_ALL := xw_in1 161 (by rfl) rfl
theorem ww_162 : (Jvm.Cond.laysFinal "NetMender$Mending" "NetMender$Mending" "chosen" "[I") ∈ xw_ALL := xw_in1 162 (by rfl) rfl
theorem ww_165 : (Jvm.Cond.classLink "NetMender" (43 : Nat) "NetMender$Hour") ∈ xw_ALL := xw_in1 165 (by rfl) rfl
theorem ww_166 : (Jvm.Cond.instantiable "NetMender$Hour" (5 : Nat)) ∈ xw_ALL := xw_in1 166 (by rfl) rfl
theorem ww_167 : (Jvm.Cond.methodLinkNest "NetMender" (45 : Nat) ({ cls := "NetMender$Hour", name := "<init>", desc := "()V" } : Jvm.MethodName) "NetMender") ∈ xw_ALL := xw_in1 167 (by rfl) rfl
theorem ww_168 : (Jvm.Cond.instanceMethod ({ cls := "NetMender$Hour", name := "<init>", desc := "()V" } : Jvm.MethodName)) ∈ xw_ALL := xw_in1 168 (by rfl) rfl
theorem ww_169 : (Jvm.Cond.code ({ cls := "NetMender$Hour", name := "<init>", desc := "()V" } : Jvm.MethodName) prog_3_method_1_code (1 : Nat) (Option.none : Option Jvm.ClassFile.FieldType)) ∈ xw_ALL := xw_in1 169 (by rfl) rfl
theorem ww_170 : (Jvm.Cond.methodLink "NetMender$Hour" (3 : Nat) ({ cls := "java/lang/Object", name := "<init>", desc := "()V" } : Jvm.MethodName)) ∈ xw_ALL := xw_in1 170 (by rfl) rfl
theorem ww_171 : (Jvm.Cond.fieldLink "NetMender$Hour" (9 : Nat) "NetMender$Hour" "sizes" "[I") ∈ xw_ALL := xw_in1 171 (by rfl) rfl
theorem ww_172 : (Jvm.Cond.fieldLink "NetMender$Hour" (15 : Nat) "NetMender$Hour" "tried" "[I") ∈ xw_ALL := xw_in1 172 (by rfl) rfl
theorem ww_173 : (Jvm.Cond.fieldLink "NetMender$Hour" (18 : Nat) "NetMender$Hour" "who" "[I") ∈ xw_ALL := xw_in1 173 (by rfl) rfl
theorem ww_174 : (Jvm.Cond.fieldLinkNest "NetMender" (235 : Nat) "NetMender$Hour" "who" "[I" "NetMender") ∈ xw_ALL := xw_in1 174 (by rfl) rfl
theorem ww_175 : (Jvm.Cond.fieldLink "NetMender$Hour" (21 : Nat) "NetMender$Hour" "busy" "[I") ∈ xw_ALL := xw_in1 175 (by rfl) rfl
theorem ww_176 : (Jvm.Cond.fieldLink "NetMender$Hour" (24 : Nat) "NetMender$Hour" "least" "I") ∈ xw_ALL := xw_in1 176 (by rfl) rfl
theorem ww_177 : (Jvm.Cond.fieldLinkNest "NetMender" (232 : Nat) "NetMender$Hour" "least" "I" "NetMender") ∈ xw_ALL := xw_in1 177 (by rfl) rfl
theorem ww_178 : (Jvm.Cond.laysFinal "NetMender$Hour" "NetMender$Hour" "sizes" "[I") ∈ xw_ALL := xw_in1 178 (by rfl) rfl
theorem ww_180 : (Jvm.Cond.laysFinal "NetMender$Hour" "NetMender$Hour" "tried" "[I") ∈ xw_ALL := xw_in1 180 (by rfl) rfl
theorem ww_182 : (Jvm.Cond.laysFinal "NetMender$Hour" "NetMender$Hour" "who" "[I") ∈ xw_ALL := xw_in1 182 (by rfl) rfl
theorem ww_184 : (Jvm.Cond.laysFinal "NetMender$Hour" "NetMender$Hour" "busy" "[I") ∈ xw_ALL := xw_in1 184 (by rfl) rfl
theorem ww_186 : (Jvm.Cond.lays "NetMender$Hour" "NetMender$Hour" "least" "I") ∈ xw_ALL := xw_in1 186 (by rfl) rfl
theorem ww_189 : (Jvm.Cond.classLink "NetMender" (50 : Nat) "NetMender$Voices") ∈ xw_ALL := xw_in1 189 (by rfl) rfl
theorem ww_190 : (Jvm.Cond.instantiable "NetMender$Voices" (6 : Nat)) ∈ xw_ALL := xw_in1 190 (by rfl) rfl
theorem ww_191 : (Jvm.Cond.methodLinkNest "NetMender" (52 : Nat) ({ cls := "NetMender$Voices", name := "<init>", desc := "()V" } : Jvm.MethodName) "NetMender") ∈ xw_ALL := xw_in1 191 (by rfl) rfl
theorem ww_192 : (Jvm.Cond.instanceMethod ({ cls := "NetMender$Voices", name := "<init>", desc := "()V" } : Jvm.MethodName)) ∈ xw_ALL := xw_in1 192 (by rfl) rfl
theorem ww_193 : (Jvm.Cond.code ({ cls := "NetMender$Voices", name := "<init>", desc := "()V" } : Jvm.MethodName) prog_11_method_1_code (1 : Nat) (Option.none : Option Jvm.ClassFile.FieldType)) ∈ xw_ALL := xw_in1 193 (by rfl) rfl
theorem ww_194 : (Jvm.Cond.methodLink "NetMender$Voices" (3 : Nat) ({ cls := "java/lang/Object", name := "<init>", desc := "()V" } : Jvm.MethodName)) ∈ xw_ALL := xw_in1 194 (by rfl) rfl
theorem ww_195 : (Jvm.Cond.fieldLink "NetMender$Voices" (11 : Nat) "NetMender$Voices" "trace" "[I") ∈ xw_ALL := xw_in1 195 (by rfl) rfl
theorem ww_196 : (Jvm.Cond.fieldLinkNest "NetMender" (276 : Nat) "NetMender$Voices" "trace" "[I" "NetMender") ∈ xw_ALL := xw_in1 196 (by rfl) rfl
theorem ww_197 : (Jvm.Cond.fieldLink "NetMender$Voices" (15 : Nat) "NetMender$Voices" "traced" "I") ∈ xw_ALL := xw_in1 197 (by rfl) rfl
theorem ww_198 : (Jvm.Cond.fieldLinkNest "NetMender" (273 : Nat) "NetMender$Voices" "traced" "I" "NetMender") ∈ xw_ALL := xw_in1 198 (by rfl) rfl
theorem ww_199 : (Jvm.Cond.fieldLink "NetMender$Voices" (19 : Nat) "NetMender$Voices" "parted" "Z") ∈ xw_ALL := xw_in1 199 (by rfl) rfl
theorem ww_200 : (Jvm.Cond.fieldLinkNest "NetMender" (268 : Nat) "NetMender$Voices" "parted" "Z" "NetMender") ∈ xw_ALL := xw_in1 200 (by rfl) rfl
theorem ww_201 : (Jvm.Cond.fieldLink "NetMender$Voices" (23 : Nat) "NetMender$Voices" "kind" "I") ∈ xw_ALL := xw_in1 201 (by rfl) rfl
theorem ww_202 : (Jvm.Cond.fieldLink "NetMender$Voices" (26 : Nat) "NetMender$Voices" "m" "I") ∈ xw_ALL := xw_in1 202 (by rfl) rfl
theorem ww_203 : (Jvm.Cond.fieldLink "NetMender$Voices" (29 : Nat) "NetMender$Voices" "k" "I") ∈ xw_ALL := xw_in1 203 (by rfl) rfl
theorem ww_204 : (Jvm.Cond.laysFinal "NetMender$Voices" "NetMender$Voices" "trace" "[I") ∈ xw_ALL := xw_in1 204 (by rfl) rfl
theorem ww_206 : (Jvm.Cond.lays "NetMender$Voices" "NetMender$Voices" "traced" "I") ∈ xw_ALL := xw_in1 206 (by rfl) rfl
theorem ww_208 : (Jvm.Cond.lays "NetMender$Voices" "NetMender$Voices" "parted" "Z") ∈ xw_ALL := xw_in1 208 (by rfl) rfl
theorem ww_210 : (Jvm.Cond.lays "NetMender$Voices" "NetMender$Voices" "kind" "I") ∈ xw_ALL := xw_in1 210 (by rfl) rfl
theorem ww_212 : (Jvm.Cond.lays "NetMender$Voices" "NetMender$Voices" "m" "I") ∈ xw_ALL := xw_in1 212 (by rfl) rfl
theorem ww_214 : (Jvm.Cond.lays "NetMender$Voices" "NetMender$Voices" "k" "I") ∈ xw_ALL := xw_in1 214 (by rfl) rfl
theorem ww_217 : (Jvm.Cond.classLink "NetMender" (57 : Nat) "NetMender$Sheet") ∈ xw_ALL := xw_in1 217 (by rfl) rfl
theorem ww_218 : (Jvm.Cond.arrayOver (Jvm.ClassFile.FieldType.object "NetMender$Sheet")) ∈ xw_ALL := xw_in1 218 (by rfl) rfl
theorem ww_219 : (Jvm.Cond.instantiable "NetMender$Sheet" (3 : Nat)) ∈ xw_ALL := xw_in1 219 (by rfl) rfl
theorem ww_220 : (Jvm.Cond.methodLinkNest "NetMender" (71 : Nat) ({ cls := "NetMender$Sheet", name := "<init>", desc := "()V" } : Jvm.MethodName) "NetMender") ∈ xw_ALL := xw_in1 220 (by rfl) rfl
theorem ww_221 : (Jvm.Cond.instanceMethod ({ cls := "NetMender$Sheet", name := "<init>", desc := "()V" } : Jvm.MethodName)) ∈ xw_ALL := xw_in1 221 (by rfl) rfl
theorem ww_222 : (Jvm.Cond.code ({ cls := "NetMender$Sheet", name := "<init>", desc := "()V" } : Jvm.MethodName) prog_9_method_1_code (1 : Nat) (Option.none : Option Jvm.ClassFile.FieldType)) ∈ xw_ALL := xw_in1 222 (by rfl) rfl
theorem ww_223 : (Jvm.Cond.methodLink "NetMender$Sheet" (3 : Nat) ({ cls := "java/lang/Object", name := "<init>", desc := "()V" } : Jvm.MethodName)) ∈ xw_ALL := xw_in1 223 (by rfl) rfl
theorem ww_224 : (Jvm.Cond.fieldLink "NetMender$Sheet" (9 : Nat) "NetMender$Sheet" "numbers" "[I") ∈ xw_ALL := xw_in1 224 (by rfl) rfl
theorem ww_225 : (Jvm.Cond.fieldLinkNest "NetMender$Net" (119 : Nat) "NetMender$Sheet" "numbers" "[I" "NetMender") ∈ xw_ALL := xw_in1 225 (by rfl) rfl
theorem ww_226 : (Jvm.Cond.fieldLinkNest "NetMender" (291 : Nat) "NetMender$Sheet" "numbers" "[I" "NetMender") ∈ xw_ALL := xw_in1 226 (by rfl) rfl
theorem ww_227 : (Jvm.Cond.fieldLink "NetMender$Sheet" (15 : Nat) "NetMender$Sheet" "bits" "I") ∈ xw_ALL := xw_in1 227 (by rfl) rfl
theorem ww_228 : (Jvm.Cond.fieldLinkNest "NetMender" (285 : Nat) "NetMender$Sheet" "bits" "I" "NetMender") ∈ xw_ALL := xw_in1 228 (by rfl) rfl
theorem ww_229 : (Jvm.Cond.fieldLink "NetMender$Sheet" (19 : Nat) "NetMender$Sheet" "size" "I") ∈ xw_ALL := xw_in1 229 (by rfl) rfl
theorem ww_230 : (Jvm.Cond.fieldLinkNest "NetMender" (189 : Nat) "NetMender$Sheet" "size" "I" "NetMender") ∈ xw_ALL := xw_in1 230 (by rfl) rfl
theorem ww_231 : (Jvm.Cond.fieldLinkNest "NetMender$Net" (114 : Nat) "NetMender$Sheet" "size" "I" "NetMender") ∈ xw_ALL := xw_in1 231 (by rfl) rfl
theorem ww_232 : (Jvm.Cond.laysFinal "NetMender$Sheet" "NetMender$Sheet" "numbers" "[I") ∈ xw_ALL := xw_in1 232 (by rfl) rfl
theorem ww_234 : (Jvm.Cond.lays "NetMender$Sheet" "NetMender$Sheet" "bits" "I") ∈ xw_ALL := xw_in1 234 (by rfl) rfl
theorem ww_236 : (Jvm.Cond.lays "NetMender$Sheet" "NetMender$Sheet" "size" "I") ∈ xw_ALL := xw_in1 236 (by rfl) rfl
theorem ww_239 : (Jvm.Cond.fieldLink "NetMender" (12 : Nat) "NetMender" "now" "LNetMender$Quay;") ∈ xw_ALL := xw_in1 239 (by rfl) rfl
theorem ww_240 : (Jvm.Cond.fieldLink "NetMender" (16 : Nat) "NetMender" "kept" "LNetMender$Quay;") ∈ xw_ALL := xw_in2 0 (by rfl) rfl
theorem ww_241 : (Jvm.Cond.fieldLink "NetMender" (22 : Nat) "NetMender" "ahead" "LNetMender$Net;") ∈ xw_ALL := xw_in2 1 (by rfl) rfl
theorem ww_242 : (Jvm.Cond.fieldLink "NetMender" (26 : Nat) "NetMender" "renewed" "LNetMender$Net;") ∈ xw_ALL := xw_in2 2 (by rfl) rfl
theorem ww_243 : (Jvm.Cond.fieldLink "NetMender" (32 : Nat) "NetMender" "reader" "LNetMender$TextReader;") ∈ xw_ALL := xw_in2 3 (by rfl) rfl
theorem ww_244 : (Jvm.Cond.fieldLink "NetMender" (39 : Nat) "NetMender" "mending" "LNetMender$Mending;") ∈ xw_ALL := xw_in2 4 (by rfl) rfl
theorem ww_245 : (Jvm.Cond.fieldLink "NetMender" (46 : Nat) "NetMender" "hour" "LNetMender$Hour;") ∈ xw_ALL := xw_in2 5 (by rfl) rfl
theorem ww_246 : (Jvm.Cond.fieldLink "NetMender" (53 : Nat) "NetMender" "voices" "LNetMender$Voices;") ∈ xw_ALL := xw_in2 6 (by rfl) rfl
theorem ww_247 : (Jvm.Cond.fieldLink "NetMender" (59 : Nat) "NetMender" "sheets" "[LNetMender$Sheet;") ∈ xw_ALL := xw_in2 7 (by rfl) rfl
theorem ww_248 : (Jvm.Cond.fieldLink "NetMender" (63 : Nat) "NetMender" "refusals" "[I") ∈ xw_ALL := xw_in2 8 (by rfl) rfl
theorem ww_249 : (Jvm.Cond.fieldLink "NetMender" (67 : Nat) "NetMender" "images" "I") ∈ xw_ALL := xw_in2 9 (by rfl) rfl
theorem ww_250 : (Jvm.Cond.laysFinal "NetMender" "NetMender" "now" "LNetMender$Quay;") ∈ xw_ALL := xw_in2 10 (by rfl) rfl
theorem ww_252 : (Jvm.Cond.laysFinal "NetMender" "NetMender" "kept" "LNetMender$Quay;") ∈ xw_ALL := xw_in2 12 (by rfl) rfl
theorem ww_254 : (Jvm.Cond.laysFinal "NetMender" "NetMender" "ahead" "LNetMender$Net;") ∈ xw_ALL := xw_in2 14 (by rfl) rfl
theorem ww_256 : (Jvm.Cond.laysFinal "NetMender" "NetMender" "renewed" "LNetMender$Net;") ∈ xw_ALL := xw_in2 16 (by rfl) rfl
theorem ww_258 : (Jvm.Cond.laysFinal "NetMender" "NetMender" "reader" "LNetMender$TextReader;") ∈ xw_ALL := xw_in2 18 (by rfl) rfl
theorem ww_260 : (Jvm.Cond.laysFinal "NetMender" "NetMender" "mending" "LNetMender$Mending;") ∈ xw_ALL := xw_in2 20 (by rfl) rfl
theorem ww_262 : (Jvm.Cond.laysFinal "NetMender" "NetMender" "hour" "LNetMender$Hour;") ∈ xw_ALL := xw_in2 22 (by rfl) rfl
theorem ww_264 : (Jvm.Cond.laysFinal "NetMender" "NetMender" "voices" "LNetMender$Voices;") ∈ xw_ALL := xw_in2 24 (by rfl) rfl
theorem ww_266 : (Jvm.Cond.laysFinal "NetMender" "NetMender" "sheets" "[LNetMender$Sheet;") ∈ xw_ALL := xw_in2 26 (by rfl) rfl
theorem ww_268 : (Jvm.Cond.laysFinal "NetMender" "NetMender" "refusals" "[I") ∈ xw_ALL := xw_in2 28 (by rfl) rfl
theorem ww_270 : (Jvm.Cond.lays "NetMender" "NetMender" "images" "I") ∈ xw_ALL := xw_in2 30 (by rfl) rfl
theorem ww_273 : (Jvm.Cond.methodLink "NetMenderLaw" (13 : Nat) ({ cls := "NetMender", name := "tie", desc := "(III)I" } : Jvm.MethodName)) ∈ xw_ALL := xw_in2 33 (by rfl) rfl
theorem ww_274 : (Jvm.Cond.instanceMethod ({ cls := "NetMender", name := "tie", desc := "(III)I" } : Jvm.MethodName)) ∈ xw_ALL := xw_in2 34 (by rfl) rfl
theorem ww_275 : (Jvm.Cond.selects "NetMender" ({ cls := "NetMender", name := "tie", desc := "(III)I" } : Jvm.MethodName) ({ cls := "NetMender", name := "tie", desc := "(III)I" } : Jvm.MethodName)) ∈ xw_ALL := xw_in2 35 (by rfl) rfl
theorem ww_276 : (Jvm.Cond.code ({ cls := "NetMender", name := "tie", desc := "(III)I" } : Jvm.MethodName) prog_1_method_2_code (6 : Nat) (Option.some Jvm.ClassFile.FieldType.int)) ∈ xw_ALL := xw_in2 36 (by rfl) rfl
theorem ww_277 : (Jvm.Cond.methodLink "NetMender" (72 : Nat) ({ cls := "NetMender", name := "isBelow", desc := "(II)Z" } : Jvm.MethodName)) ∈ xw_ALL := xw_in2 37 (by rfl) rfl
theorem ww_278 : (Jvm.Cond.static ({ cls := "NetMender", name := "isBelow", desc := "(II)Z" } : Jvm.MethodName)) ∈ xw_ALL := xw_in2 38 (by rfl) rfl
theorem ww_279 : (Jvm.Cond.code ({ cls := "NetMender", name := "isBelow", desc := "(II)Z" } : Jvm.MethodName) prog_1_method_41_code (2 : Nat) (Option.some Jvm.ClassFile.FieldType.boolean)) ∈ xw_ALL := xw_in2 39 (by rfl) rfl
theorem ww_280 : (Jvm.Cond.constant "NetMender" (76 : Nat) (-1000000001 : Int32)) ∈ xw_ALL := xw_in2 40 (by rfl) rfl
theorem ww_281 : (Jvm.Cond.methodLink "NetMender" (77 : Nat) ({ cls := "NetMender", name := "refuse", desc := "(I)I" } : Jvm.MethodName)) ∈ xw_ALL := xw_in2 41 (by rfl) rfl
theorem ww_283 : (Jvm.Cond.instanceMethod ({ cls := "NetMender", name := "refuse", desc := "(I)I" } : Jvm.MethodName)) ∈ xw_ALL := xw_in2 43 (by rfl) rfl
theorem ww_284 : (Jvm.Cond.code ({ cls := "NetMender", name := "refuse", desc := "(I)I" } : Jvm.MethodName) prog_1_method_44_code (3 : Nat) (Option.some Jvm.ClassFile.FieldType.int)) ∈ xw_ALL := xw_in2 44 (by rfl) rfl
theorem ww_285 : (Jvm.Cond.constant "NetMender" (327 : Nat) (-1000000000 : Int32)) ∈ xw_ALL := xw_in2 45 (by rfl) rfl
theorem ww_286 : (Jvm.Cond.methodLink "NetMender" (142 : Nat) ({ cls := "NetMender", name := "isWithin", desc := "(III)Z" } : Jvm.MethodName)) ∈ xw_ALL := xw_in2 46 (by rfl) rfl
theorem ww_287 : (Jvm.Cond.static ({ cls := "NetMender", name := "isWithin", desc := "(III)Z" } : Jvm.MethodName)) ∈ xw_ALL := xw_in2 47 (by rfl) rfl
theorem ww_288 : (Jvm.Cond.code ({ cls := "NetMender", name := "isWithin", desc := "(III)Z" } : Jvm.MethodName) prog_1_method_42_code (3 : Nat) (Option.some Jvm.ClassFile.FieldType.boolean)) ∈ xw_ALL := xw_in2 48 (by rfl) rfl
theorem ww_289 : (Jvm.Cond.methodLink "NetMender" (90 : Nat) ({ cls := "NetMender$Net", name := "tieAnew", desc := "(II)V" } : Jvm.MethodName)) ∈ xw_ALL := xw_in2 49 (by rfl) rfl
theorem ww_290 : (Jvm.Cond.instanceMethod ({ cls := "NetMender$Net", name := "tieAnew", desc := "(II)V" } : Jvm.MethodName)) ∈ xw_ALL := xw_in2 50 (by rfl) rfl
theorem ww_291 : (Jvm.Cond.selects "NetMender$Net" ({ cls := "NetMender$Net", name := "tieAnew", desc := "(II)V" } : Jvm.MethodName) ({ cls := "NetMender$Net", name := "tieAnew", desc := "(II)V" } : Jvm.MethodName)) ∈ xw_ALL := xw_in2 51 (by rfl) rfl
theorem ww_292 : (Jvm.Cond.code ({ cls := "NetMender$Net", name := "tieAnew", desc := "(II)V" } : Jvm.MethodName) prog_7_method_4_code (3 : Nat) (Option.none : Option Jvm.ClassFile.FieldType)) ∈ xw_ALL := xw_in2 52 (by rfl) rfl
theorem ww_293 : (Jvm.Cond.methodLink "NetMenderLaw" (18 : Nat) ({ cls := "NetMender", name := "knotIs", desc := "(II)I" } : Jvm.MethodName)) ∈ xw_ALL := xw_in2 53 (by rfl) rfl
theorem ww_294 : (Jvm.Cond.instanceMethod ({ cls := "NetMender", name := "knotIs", desc := "(II)I" } : Jvm.MethodName)) ∈ xw_ALL := xw_in2 54 (by rfl) rfl
theorem ww_295 : (Jvm.Cond.selects "NetMender" ({ cls := "NetMender", name := "knotIs", desc := "(II)I" } : Jvm.MethodName) ({ cls := "NetMender", name := "knotIs", desc := "(II)I" } : Jvm.MethodName)) ∈ xw_ALL := xw_in2 55 (by rfl) rfl
theorem ww_296 : (Jvm.Cond.code ({ cls := "NetMender", name := "knotIs", desc := "(II)I" } : Jvm.MethodName) prog_1_method_3_code (4 : Nat) (Option.some Jvm.ClassFile.FieldType.int)) ∈ xw_ALL := xw_in2 56 (by rfl) rfl
theorem ww_297 : (Jvm.Cond.methodLink "NetMender" (100 : Nat) ({ cls := "NetMender$Net", name := "holdsOf", desc := "(I)I" } : Jvm.MethodName)) ∈ xw_ALL := xw_in2 57 (by rfl) rfl
theorem ww_298 : (Jvm.Cond.instanceMethod ({ cls := "NetMender$Net", name := "holdsOf", desc := "(I)I" } : Jvm.MethodName)) ∈ xw_ALL := xw_in2 58 (by rfl) rfl
theorem ww_299 : (Jvm.Cond.selects "NetMender$Net" ({ cls := "NetMender$Net", name := "holdsOf", desc := "(I)I" } : Jvm.MethodName) ({ cls := "NetMender$Net", name := "holdsOf", desc := "(I)I" } : Jvm.MethodName)) ∈ xw_ALL := xw_in2 59 (by rfl) rfl
theorem ww_300 : (Jvm.Cond.code ({ cls := "NetMender$Net", name := "holdsOf", desc := "(I)I" } : Jvm.MethodName) prog_7_method_5_code (8 : Nat) (Option.some Jvm.ClassFile.FieldType.int)) ∈ xw_ALL := xw_in2 60 (by rfl) rfl
theorem ww_301 : (Jvm.Cond.methodLink "NetMender$Net" (60 : Nat) ({ cls := "java/lang/Math", name := "min", desc := "(II)I" } : Jvm.MethodName)) ∈ xw_ALL := xw_in2 61 (by rfl) rfl
theorem ww_302 : (Jvm.Cond.static ({ cls := "java/lang/Math", name := "min", desc := "(II)I" } : Jvm.MethodName)) ∈ xw_ALL := xw_in2 62 (by rfl) rfl
theorem ww_303 : (Jvm.Cond.code ({ cls := "java/lang/Math", name := "min", desc := "(II)I" } : Jvm.MethodName) prog_15_method_69_code (2 : Nat) (Option.some Jvm.ClassFile.FieldType.int)) ∈ xw_ALL := xw_in2 63 (by rfl) rfl
theorem ww_304 : (Jvm.Cond.methodLink "NetMender$Net" (66 : Nat) ({ cls := "NetMender$Law", name := "isThere", desc := "()Z" } : Jvm.MethodName)) ∈ xw_ALL := xw_in2 64 (by rfl) rfl
theorem ww_305 : (Jvm.Cond.instanceMethod ({ cls := "NetMender$Law", name := "isThere", desc := "()Z" } : Jvm.MethodName)) ∈ xw_ALL := xw_in2 65 (by rfl) rfl
theorem ww_306 : (Jvm.Cond.selects "NetMender$Law" ({ cls := "NetMender$Law", name := "isThere", desc := "()Z" } : Jvm.MethodName) ({ cls := "NetMender$Law", name := "isThere", desc := "()Z" } : Jvm.MethodName)) ∈ xw_ALL := xw_in2 66 (by rfl) rfl
theorem ww_307 : (Jvm.Cond.code ({ cls := "NetMender$Law", name := "isThere", desc := "()Z" } : Jvm.MethodName) prog_5_method_2_code (1 : Nat) (Option.some Jvm.ClassFile.FieldType.boolean)) ∈ xw_ALL := xw_in2 67 (by rfl) rfl
theorem ww_308 : (Jvm.Cond.methodLink "NetMender$Net" (70 : Nat) ({ cls := "NetMender$Law", name := "worth", desc := "(III)I" } : Jvm.MethodName)) ∈ xw_ALL := xw_in2 68 (by rfl) rfl
theorem ww_309 : (Jvm.Cond.instanceMethod ({ cls := "NetMender$Law", name := "worth", desc := "(III)I" } : Jvm.MethodName)) ∈ xw_ALL := xw_in2 69 (by rfl) rfl
theorem ww_310 : (Jvm.Cond.selects "NetMender$Law" ({ cls := "NetMender$Law", name := "worth", desc := "(III)I" } : Jvm.MethodName) ({ cls := "NetMender$Law", name := "worth", desc := "(III)I" } : Jvm.MethodName)) ∈ xw_ALL := xw_in2 70 (by rfl) rfl
theorem ww_311 : (Jvm.Cond.code ({ cls := "NetMender$Law", name := "worth", desc := "(III)I" } : Jvm.MethodName) prog_5_method_6_code (7 : Nat) (Option.some Jvm.ClassFile.FieldType.int)) ∈ xw_ALL := xw_in2 71 (by rfl) rfl
theorem ww_312 : (Jvm.Cond.methodLink "NetMender$Law" (28 : Nat) ({ cls := "NetMender$Law", name := "valueOf", desc := "(IIII)I" } : Jvm.MethodName)) ∈ xw_ALL := xw_in2 72 (by rfl) rfl
theorem ww_313 : (Jvm.Cond.static ({ cls := "NetMender$Law", name := "valueOf", desc := "(IIII)I" } : Jvm.MethodName)) ∈ xw_ALL := xw_in2 73 (by rfl) rfl
theorem ww_314 : (Jvm.Cond.code ({ cls := "NetMender$Law", name := "valueOf", desc := "(IIII)I" } : Jvm.MethodName) prog_5_method_7_code (4 : Nat) (Option.some Jvm.ClassFile.FieldType.int)) ∈ xw_ALL := xw_in2 74 (by rfl) rfl
theorem ww_315 : (Jvm.Cond.methodLink "NetMender$Law" (32 : Nat) ({ cls := "NetMender$Law", name := "join", desc := "(III)I" } : Jvm.MethodName)) ∈ xw_ALL := xw_in2 75 (by rfl) rfl
theorem ww_316 : (Jvm.Cond.static ({ cls := "NetMender$Law", name := "join", desc := "(III)I" } : Jvm.MethodName)) ∈ xw_ALL := xw_in2 76 (by rfl) rfl
theorem ww_317 : (Jvm.Cond.code ({ cls := "NetMender$Law", name := "join", desc := "(III)I" } : Jvm.MethodName) prog_5_method_8_code (3 : Nat) (Option.some Jvm.ClassFile.FieldType.int)) ∈ xw_ALL := xw_in2 77 (by rfl) rfl
theorem ww_318 : (Jvm.Cond.methodLinkNest "NetMender$Net" (74 : Nat) ({ cls := "NetMender", name := "heldWithin", desc := "(III)I" } : Jvm.MethodName) "NetMender") ∈ xw_ALL := xw_in2 78 (by rfl) rfl
theorem ww_319 : (Jvm.Cond.static ({ cls := "NetMender", name := "heldWithin", desc := "(III)I" } : Jvm.MethodName)) ∈ xw_ALL := xw_in2 79 (by rfl) rfl
theorem ww_320 : (Jvm.Cond.code ({ cls := "NetMender", name := "heldWithin", desc := "(III)I" } : Jvm.MethodName) prog_1_method_43_code (3 : Nat) (Option.some Jvm.ClassFile.FieldType.int)) ∈ xw_ALL := xw_in2 80 (by rfl) rfl
theorem ww_321 : (Jvm.Cond.methodLink "NetMender" (319 : Nat) ({ cls := "java/lang/Math", name := "min", desc := "(II)I" } : Jvm.MethodName)) ∈ xw_ALL := xw_in2 81 (by rfl) rfl
theorem ww_322 : (Jvm.Cond.methodLink "NetMender" (324 : Nat) ({ cls := "java/lang/Math", name := "max", desc := "(II)I" } : Jvm.MethodName)) ∈ xw_ALL := xw_in2 82 (by rfl) rfl
theorem ww_323 : (Jvm.Cond.static ({ cls := "java/lang/Math", name := "max", desc := "(II)I" } : Jvm.MethodName)) ∈ xw_ALL := xw_in2 83 (by rfl) rfl
theorem ww_324 : (Jvm.Cond.code ({ cls := "java/lang/Math", name := "max", desc := "(II)I" } : Jvm.MethodName) prog_15_method_65_code (2 : Nat) (Option.some Jvm.ClassFile.FieldType.int)) ∈ xw_ALL := xw_in2 84 (by rfl) rfl
theorem ww_325 : (Jvm.Cond.methodLink "NetMender" (103 : Nat) ({ cls := "NetMender$Kinds", name := "takesOf", desc := "(I)I" } : Jvm.MethodName)) ∈ xw_ALL := xw_in2 85 (by rfl) rfl
theorem ww_326 : (Jvm.Cond.static ({ cls := "NetMender$Kinds", name := "takesOf", desc := "(I)I" } : Jvm.MethodName)) ∈ xw_ALL := xw_in2 86 (by rfl) rfl
theorem ww_327 : (Jvm.Cond.code ({ cls := "NetMender$Kinds", name := "takesOf", desc := "(I)I" } : Jvm.MethodName) prog_4_method_4_code (1 : Nat) (Option.some Jvm.ClassFile.FieldType.int)) ∈ xw_ALL := xw_in2 87 (by rfl) rfl
theorem ww_328 : (Jvm.Cond.methodLink "NetMender" (111 : Nat) ({ cls := "NetMender$Grid", name := "threadsAt", desc := "(II)I" } : Jvm.MethodName)) ∈ xw_ALL := xw_in2 88 (by rfl) rfl
theorem ww_329 : (Jvm.Cond.static ({ cls := "NetMender$Grid", name := "threadsAt", desc := "(II)I" } : Jvm.MethodName)) ∈ xw_ALL := xw_in2 89 (by rfl) rfl
theorem ww_330 : (Jvm.Cond.code ({ cls := "NetMender$Grid", name := "threadsAt", desc := "(II)I" } : Jvm.MethodName) prog_2_method_8_code (4 : Nat) (Option.some Jvm.ClassFile.FieldType.int)) ∈ xw_ALL := xw_in2 90 (by rfl) rfl
theorem ww_331 : (Jvm.Cond.methodLink "NetMender$Grid" (27 : Nat) ({ cls := "NetMender$Grid", name := "endsOf", desc := "(I)I" } : Jvm.MethodName)) ∈ xw_ALL := xw_in2 91 (by rfl) rfl
theorem ww_332 : (Jvm.Cond.static ({ cls := "NetMender$Grid", name := "endsOf", desc := "(I)I" } : Jvm.MethodName)) ∈ xw_ALL := xw_in2 92 (by rfl) rfl
theorem ww_333 : (Jvm.Cond.code ({ cls := "NetMender$Grid", name := "endsOf", desc := "(I)I" } : Jvm.MethodName) prog_2_method_4_code (2 : Nat) (Option.some Jvm.ClassFile.FieldType.int)) ∈ xw_ALL := xw_in2 93 (by rfl) rfl
theorem ww_334 : (Jvm.Cond.methodLink "NetMender$Grid" (9 : Nat) ({ cls := "NetMender$Grid", name := "lesserKnot", desc := "(I)I" } : Jvm.MethodName)) ∈ xw_ALL := xw_in2 94 (by rfl) rfl
theorem ww_335 : (Jvm.Cond.static ({ cls := "NetMender$Grid", name := "lesserKnot", desc := "(I)I" } : Jvm.MethodName)) ∈ xw_ALL := xw_in2 95 (by rfl) rfl
theorem ww_336 : (Jvm.Cond.code ({ cls := "NetMender$Grid", name := "lesserKnot", desc := "(I)I" } : Jvm.MethodName) prog_2_method_2_code (1 : Nat) (Option.some Jvm.ClassFile.FieldType.int)) ∈ xw_ALL := xw_in2 96 (by rfl) rfl
theorem ww_337 : (Jvm.Cond.methodLink "NetMender" (117 : Nat) ({ cls := "java/lang/Integer", name := "bitCount", desc := "(I)I" } : Jvm.MethodName)) ∈ xw_ALL := xw_in2 97 (by rfl) rfl
theorem ww_338 : (Jvm.Cond.static ({ cls := "java/lang/Integer", name := "bitCount", desc := "(I)I" } : Jvm.MethodName)) ∈ xw_ALL := xw_in2 98 (by rfl) rfl
theorem ww_339 : (Jvm.Cond.code ({ cls := "java/lang/Integer", name := "bitCount", desc := "(I)I" } : Jvm.MethodName) prog_14_method_49_code (1 : Nat) (Option.some Jvm.ClassFile.FieldType.int)) ∈ xw_ALL := xw_in2 99 (by rfl) rfl
theorem ww_340 : (Jvm.Cond.constant "java/lang/Integer" (265 : Nat) (1431655765 : Int32)) ∈ xw_ALL := xw_in2 100 (by rfl) rfl
theorem ww_341 : (Jvm.Cond.constant "java/lang/Integer" (266 : Nat) (858993459 : Int32)) ∈ xw_ALL := xw_in2 101 (by rfl) rfl
theorem ww_342 : (Jvm.Cond.constant "java/lang/Integer" (267 : Nat) (252645135 : Int32)) ∈ xw_ALL := xw_in2 102 (by rfl) rfl
theorem ww_343 : (Jvm.Cond.methodLink "NetMenderLaw" (23 : Nat) ({ cls := "NetMender", name := "as", desc := "(II)I" } : Jvm.MethodName)) ∈ xw_ALL := xw_in2 103 (by rfl) rfl
theorem ww_344 : (Jvm.Cond.instanceMethod ({ cls := "NetMender", name := "as", desc := "(II)I" } : Jvm.MethodName)) ∈ xw_ALL := xw_in2 104 (by rfl) rfl
theorem ww_345 : (Jvm.Cond.selects "NetMender" ({ cls := "NetMender", name := "as", desc := "(II)I" } : Jvm.MethodName) ({ cls := "NetMender", name := "as", desc := "(II)I" } : Jvm.MethodName)) ∈ xw_ALL := xw_in2 105 (by rfl) rfl
theorem ww_346 : (Jvm.Cond.code ({ cls := "NetMender", name := "as", desc := "(II)I" } : Jvm.MethodName) prog_1_method_4_code (3 : Nat) (Option.some Jvm.ClassFile.FieldType.int)) ∈ xw_ALL := xw_in2 106 (by rfl) rfl
theorem ww_347 : (Jvm.Cond.methodLink "NetMender" (122 : Nat) ({ cls := "NetMender$Kinds", name := "isUnder", desc := "(II)Z" } : Jvm.MethodName)) ∈ xw_ALL := xw_in2 107 (by rfl) rfl
theorem ww_348 : (Jvm.Cond.static ({ cls := "NetMender$Kinds", name := "isUnder", desc := "(II)Z" } : Jvm.MethodName)) ∈ xw_ALL := xw_in2 108 (by rfl) rfl
theorem ww_349 : (Jvm.Cond.code ({ cls := "NetMender$Kinds", name := "isUnder", desc := "(II)Z" } : Jvm.MethodName) prog_4_method_3_code (4 : Nat) (Option.some Jvm.ClassFile.FieldType.boolean)) ∈ xw_ALL := xw_in2 109 (by rfl) rfl
theorem ww_350 : (Jvm.Cond.methodLink "NetMender$Kinds" (9 : Nat) ({ cls := "NetMender$Kinds", name := "above", desc := "(I)I" } : Jvm.MethodName)) ∈ xw_ALL := xw_in2 110 (by rfl) rfl
theorem ww_351 : (Jvm.Cond.static ({ cls := "NetMender$Kinds", name := "above", desc := "(I)I" } : Jvm.MethodName)) ∈ xw_ALL := xw_in2 111 (by rfl) rfl
theorem ww_352 : (Jvm.Cond.code ({ cls := "NetMender$Kinds", name := "above", desc := "(I)I" } : Jvm.MethodName) prog_4_method_2_code (1 : Nat) (Option.some Jvm.ClassFile.FieldType.int)) ∈ xw_ALL := xw_in2 112 (by rfl) rfl
theorem ww_353 : (Jvm.Cond.constant "NetMender" (125 : Nat) (-1000000005 : Int32)) ∈ xw_ALL := xw_in2 113 (by rfl) rfl
theorem ww_354 : (Jvm.Cond.methodLink "NetMenderLaw" (27 : Nat) ({ cls := "NetMender", name := "threadIs", desc := "(II)I" } : Jvm.MethodName)) ∈ xw_ALL := xw_in2 114 (by rfl) rfl
theorem ww_355 : (Jvm.Cond.instanceMethod ({ cls := "NetMender", name := "threadIs", desc := "(II)I" } : Jvm.MethodName)) ∈ xw_ALL := xw_in2 115 (by rfl) rfl
theorem ww_356 : (Jvm.Cond.selects "NetMender" ({ cls := "NetMender", name := "threadIs", desc := "(II)I" } : Jvm.MethodName) ({ cls := "NetMender", name := "threadIs", desc := "(II)I" } : Jvm.MethodName)) ∈ xw_ALL := xw_in2 116 (by rfl) rfl
theorem ww_357 : (Jvm.Cond.code ({ cls := "NetMender", name := "threadIs", desc := "(II)I" } : Jvm.MethodName) prog_1_method_5_code (3 : Nat) (Option.some Jvm.ClassFile.FieldType.int)) ∈ xw_ALL := xw_in2 117 (by rfl) rfl
theorem ww_358 : (Jvm.Cond.methodLink "NetMender" (126 : Nat) ({ cls := "NetMender$Net", name := "threadFact", desc := "(II)I" } : Jvm.MethodName)) ∈ xw_ALL := xw_in2 118 (by rfl) rfl
theorem ww_359 : (Jvm.Cond.instanceMethod ({ cls := "NetMender$Net", name := "threadFact", desc := "(II)I" } : Jvm.MethodName)) ∈ xw_ALL := xw_in2 119 (by rfl) rfl
theorem ww_360 : (Jvm.Cond.selects "NetMender$Net" ({ cls := "NetMender$Net", name := "threadFact", desc := "(II)I" } : Jvm.MethodName) ({ cls := "NetMender$Net", name := "threadFact", desc := "(II)I" } : Jvm.MethodName)) ∈ xw_ALL := xw_in2 120 (by rfl) rfl
theorem ww_361 : (Jvm.Cond.code ({ cls := "NetMender$Net", name := "threadFact", desc := "(II)I" } : Jvm.MethodName) prog_7_method_8_code (3 : Nat) (Option.some Jvm.ClassFile.FieldType.int)) ∈ xw_ALL := xw_in2 121 (by rfl) rfl
theorem ww_362 : (Jvm.Cond.methodLink "NetMender$Net" (89 : Nat) ({ cls := "NetMender$Net", name := "isMissing", desc := "(I)Z" } : Jvm.MethodName)) ∈ xw_ALL := xw_in2 122 (by rfl) rfl
theorem ww_363 : (Jvm.Cond.instanceMethod ({ cls := "NetMender$Net", name := "isMissing", desc := "(I)Z" } : Jvm.MethodName)) ∈ xw_ALL := xw_in2 123 (by rfl) rfl
theorem ww_364 : (Jvm.Cond.selects "NetMender$Net" ({ cls := "NetMender$Net", name := "isMissing", desc := "(I)Z" } : Jvm.MethodName) ({ cls := "NetMender$Net", name := "isMissing", desc := "(I)Z" } : Jvm.MethodName)) ∈ xw_ALL := xw_in2 124 (by rfl) rfl
theorem ww_365 : (Jvm.Cond.code ({ cls := "NetMender$Net", name := "isMissing", desc := "(I)Z" } : Jvm.MethodName) prog_7_method_9_code (2 : Nat) (Option.some Jvm.ClassFile.FieldType.boolean)) ∈ xw_ALL := xw_in2 125 (by rfl) rfl
theorem ww_366 : (Jvm.Cond.methodLink "NetMender$Net" (93 : Nat) ({ cls := "NetMender$Net", name := "strengthOf", desc := "(I)I" } : Jvm.MethodName)) ∈ xw_ALL := xw_in2 126 (by rfl) rfl
theorem ww_367 : (Jvm.Cond.instanceMethod ({ cls := "NetMender$Net", name := "strengthOf", desc := "(I)I" } : Jvm.MethodName)) ∈ xw_ALL := xw_in2 127 (by rfl) rfl
theorem ww_368 : (Jvm.Cond.selects "NetMender$Net" ({ cls := "NetMender$Net", name := "strengthOf", desc := "(I)I" } : Jvm.MethodName) ({ cls := "NetMender$Net", name := "strengthOf", desc := "(I)I" } : Jvm.MethodName)) ∈ xw_ALL := xw_in2 128 (by rfl) rfl
theorem ww_369 : (Jvm.Cond.code ({ cls := "NetMender$Net", name := "strengthOf", desc := "(I)I" } : Jvm.MethodName) prog_7_method_7_code (2 : Nat) (Option.some Jvm.ClassFile.FieldType.int)) ∈ xw_ALL := xw_in2 129 (by rfl) rfl
theorem ww_370 : (Jvm.Cond.methodLink "NetMender$Net" (77 : Nat) ({ cls := "NetMender$Grid", name := "lesserKnot", desc := "(I)I" } : Jvm.MethodName)) ∈ xw_ALL := xw_in2 130 (by rfl) rfl
theorem ww_371 : (Jvm.Cond.methodLink "NetMender$Net" (83 : Nat) ({ cls := "NetMender$Net", name := "holdsOf", desc := "(I)I" } : Jvm.MethodName)) ∈ xw_ALL := xw_in2 131 (by rfl) rfl
theorem ww_372 : (Jvm.Cond.methodLink "NetMender$Net" (86 : Nat) ({ cls := "NetMender$Grid", name := "greaterKnot", desc := "(I)I" } : Jvm.MethodName)) ∈ xw_ALL := xw_in2 132 (by rfl) rfl
theorem ww_373 : (Jvm.Cond.static ({ cls := "NetMender$Grid", name := "greaterKnot", desc := "(I)I" } : Jvm.MethodName)) ∈ xw_ALL := xw_in2 133 (by rfl) rfl
theorem ww_374 : (Jvm.Cond.code ({ cls := "NetMender$Grid", name := "greaterKnot", desc := "(I)I" } : Jvm.MethodName) prog_2_method_3_code (1 : Nat) (Option.some Jvm.ClassFile.FieldType.int)) ∈ xw_ALL := xw_in2 134 (by rfl) rfl
theorem ww_375 : (Jvm.Cond.methodLink "NetMenderLaw" (31 : Nat) ({ cls := "NetMender", name := "cut", desc := "(I)I" } : Jvm.MethodName)) ∈ xw_ALL := xw_in2 135 (by rfl) rfl
theorem ww_376 : (Jvm.Cond.instanceMethod ({ cls := "NetMender", name := "cut", desc := "(I)I" } : Jvm.MethodName)) ∈ xw_ALL := xw_in2 136 (by rfl) rfl
theorem ww_377 : (Jvm.Cond.selects "NetMender" ({ cls := "NetMender", name := "cut", desc := "(I)I" } : Jvm.MethodName) ({ cls := "NetMender", name := "cut", desc := "(I)I" } : Jvm.MethodName)) ∈ xw_ALL := xw_in2 137 (by rfl) rfl
theorem ww_378 : (Jvm.Cond.code ({ cls := "NetMender", name := "cut", desc := "(I)I" } : Jvm.MethodName) prog_1_method_6_code (2 : Nat) (Option.some Jvm.ClassFile.FieldType.int)) ∈ xw_ALL := xw_in2 138 (by rfl) rfl
theorem ww_379 : (Jvm.Cond.methodLink "NetMender" (129 : Nat) ({ cls := "NetMender$Net", name := "isMissing", desc := "(I)Z" } : Jvm.MethodName)) ∈ xw_ALL := xw_in2 139 (by rfl) rfl
theorem ww_380 : (Jvm.Cond.constant "NetMender" (133 : Nat) (-1000000003 : Int32)) ∈ xw_ALL := xw_in2 140 (by rfl) rfl
theorem ww_381 : (Jvm.Cond.methodLink "NetMender" (134 : Nat) ({ cls := "NetMender$Net", name := "lose", desc := "(I)V" } : Jvm.MethodName)) ∈ xw_ALL := xw_in2 141 (by rfl) rfl
theorem ww_382 : (Jvm.Cond.instanceMethod ({ cls := "NetMender$Net", name := "lose", desc := "(I)V" } : Jvm.MethodName)) ∈ xw_ALL := xw_in2 142 (by rfl) rfl
theorem ww_383 : (Jvm.Cond.selects "NetMender$Net" ({ cls := "NetMender$Net", name := "lose", desc := "(I)V" } : Jvm.MethodName) ({ cls := "NetMender$Net", name := "lose", desc := "(I)V" } : Jvm.MethodName)) ∈ xw_ALL := xw_in2 143 (by rfl) rfl
theorem ww_384 : (Jvm.Cond.code ({ cls := "NetMender$Net", name := "lose", desc := "(I)V" } : Jvm.MethodName) prog_7_method_13_code (2 : Nat) (Option.none : Option Jvm.ClassFile.FieldType)) ∈ xw_ALL := xw_in2 144 (by rfl) rfl
theorem ww_385 : (Jvm.Cond.methodLink "NetMender" (138 : Nat) ({ cls := "NetMender$Net", name := "missingThreads", desc := "()I" } : Jvm.MethodName)) ∈ xw_ALL := xw_in2 145 (by rfl) rfl
theorem ww_386 : (Jvm.Cond.instanceMethod ({ cls := "NetMender$Net", name := "missingThreads", desc := "()I" } : Jvm.MethodName)) ∈ xw_ALL := xw_in2 146 (by rfl) rfl
theorem ww_387 : (Jvm.Cond.selects "NetMender$Net" ({ cls := "NetMender$Net", name := "missingThreads", desc := "()I" } : Jvm.MethodName) ({ cls := "NetMender$Net", name := "missingThreads", desc := "()I" } : Jvm.MethodName)) ∈ xw_ALL := xw_in2 147 (by rfl) rfl
theorem ww_388 : (Jvm.Cond.code ({ cls := "NetMender$Net", name := "missingThreads", desc := "()I" } : Jvm.MethodName) prog_7_method_10_code (1 : Nat) (Option.some Jvm.ClassFile.FieldType.int)) ∈ xw_ALL := xw_in2 148 (by rfl) rfl
theorem ww_389 : (Jvm.Cond.methodLink "NetMender$Net" (96 : Nat) ({ cls := "java/lang/Integer", name := "bitCount", desc := "(I)I" } : Jvm.MethodName)) ∈ xw_ALL := xw_in2 149 (by rfl) rfl
theorem ww_390 : (Jvm.Cond.methodLink "NetMenderLaw" (36 : Nat) ({ cls := "NetMender", name := "wear", desc := "(II)I" } : Jvm.MethodName)) ∈ xw_ALL := xw_in2 150 (by rfl) rfl
theorem ww_391 : (Jvm.Cond.instanceMethod ({ cls := "NetMender", name := "wear", desc := "(II)I" } : Jvm.MethodName)) ∈ xw_ALL := xw_in2 151 (by rfl) rfl
theorem ww_392 : (Jvm.Cond.selects "NetMender" ({ cls := "NetMender", name := "wear", desc := "(II)I" } : Jvm.MethodName) ({ cls := "NetMender", name := "wear", desc := "(II)I" } : Jvm.MethodName)) ∈ xw_ALL := xw_in2 152 (by rfl) rfl
theorem ww_393 : (Jvm.Cond.code ({ cls := "NetMender", name := "wear", desc := "(II)I" } : Jvm.MethodName) prog_1_method_7_code (4 : Nat) (Option.some Jvm.ClassFile.FieldType.int)) ∈ xw_ALL := xw_in2 153 (by rfl) rfl
theorem ww_394 : (Jvm.Cond.methodLink "NetMenderLaw" (40 : Nat) ({ cls := "NetMender", name := "twine", desc := "(I)I" } : Jvm.MethodName)) ∈ xw_ALL := xw_in2 154 (by rfl) rfl
theorem ww_395 : (Jvm.Cond.instanceMethod ({ cls := "NetMender", name := "twine", desc := "(I)I" } : Jvm.MethodName)) ∈ xw_ALL := xw_in2 155 (by rfl) rfl
theorem ww_396 : (Jvm.Cond.selects "NetMender" ({ cls := "NetMender", name := "twine", desc := "(I)I" } : Jvm.MethodName) ({ cls := "NetMender", name := "twine", desc := "(I)I" } : Jvm.MethodName)) ∈ xw_ALL := xw_in2 156 (by rfl) rfl
theorem ww_397 : (Jvm.Cond.code ({ cls := "NetMender", name := "twine", desc := "(I)I" } : Jvm.MethodName) prog_1_method_8_code (3 : Nat) (Option.some Jvm.ClassFile.FieldType.int)) ∈ xw_ALL := xw_in2 157 (by rfl) rfl
theorem ww_398 : (Jvm.Cond.methodLink "NetMenderLaw" (44 : Nat) ({ cls := "NetMender", name := "speed", desc := "(II)I" } : Jvm.MethodName)) ∈ xw_ALL := xw_in2 158 (by rfl) rfl
theorem ww_399 : (Jvm.Cond.instanceMethod ({ cls := "NetMender", name := "speed", desc := "(II)I" } : Jvm.MethodName)) ∈ xw_ALL := xw_in2 159 (by rfl) rfl
theorem ww_400 : (Jvm.Cond.selects "NetMender" ({ cls := "NetMender", name := "speed", desc := "(II)I" } : Jvm.MethodName) ({ cls := "NetMender", name := "speed", desc := "(II)I" } : Jvm.MethodName)) ∈ xw_ALL := xw_in2 160 (by rfl) rfl
theorem ww_401 : (Jvm.Cond.code ({ cls := "NetMender", name := "speed", desc := "(II)I" } : Jvm.MethodName) prog_1_method_9_code (4 : Nat) (Option.some Jvm.ClassFile.FieldType.int)) ∈ xw_ALL := xw_in2 161 (by rfl) rfl
theorem ww_402 : (Jvm.Cond.methodLink "NetMenderLaw" (50 : Nat) ({ cls := "NetMender", name := "feed", desc := "(JI)I" } : Jvm.MethodName)) ∈ xw_ALL := xw_in2 162 (by rfl) rfl
theorem ww_403 : (Jvm.Cond.instanceMethod ({ cls := "NetMender", name := "feed", desc := "(JI)I" } : Jvm.MethodName)) ∈ xw_ALL := xw_in2 163 (by rfl) rfl
theorem ww_404 : (Jvm.Cond.selects "NetMender" ({ cls := "NetMender", name := "feed", desc := "(JI)I" } : Jvm.MethodName) ({ cls := "NetMender", name := "feed", desc := "(JI)I" } : Jvm.MethodName)) ∈ xw_ALL := xw_in2 164 (by rfl) rfl
theorem ww_405 : (Jvm.Cond.code ({ cls := "NetMender", name := "feed", desc := "(JI)I" } : Jvm.MethodName) prog_1_method_10_code (5 : Nat) (Option.some Jvm.ClassFile.FieldType.int)) ∈ xw_ALL := xw_in2 165 (by rfl) rfl
theorem ww_406 : (Jvm.Cond.constant "NetMender" (158 : Nat) (-1000000004 : Int32)) ∈ xw_ALL := xw_in2 166 (by rfl) rfl
theorem ww_407 : (Jvm.Cond.methodLink "NetMenderLaw" (55 : Nat) ({ cls := "NetMender", name := "text", desc := "(I)I" } : Jvm.MethodName)) ∈ xw_ALL := xw_in2 167 (by rfl) rfl
theorem ww_408 : (Jvm.Cond.instanceMethod ({ cls := "NetMender", name := "text", desc := "(I)I" } : Jvm.MethodName)) ∈ xw_ALL := xw_in2 168 (by rfl) rfl
theorem ww_409 : (Jvm.Cond.selects "NetMender" ({ cls := "NetMender", name := "text", desc := "(I)I" } : Jvm.MethodName) ({ cls := "NetMender", name := "text", desc := "(I)I" } : Jvm.MethodName)) ∈ xw_ALL := xw_in2 169 (by rfl) rfl
theorem ww_410 : (Jvm.Cond.code ({ cls := "NetMender", name := "text", desc := "(I)I" } : Jvm.MethodName) prog_1_method_11_code (3 : Nat) (Option.some Jvm.ClassFile.FieldType.int)) ∈ xw_ALL := xw_in2 170 (by rfl) rfl
theorem ww_411 : (Jvm.Cond.methodLink "NetMender" (162 : Nat) ({ cls := "NetMender$TextReader", name := "read", desc := "([III)I" } : Jvm.MethodName)) ∈ xw_ALL := xw_in2 171 (by rfl) rfl
theorem ww_412 : (Jvm.Cond.instanceMethod ({ cls := "NetMender$TextReader", name := "read", desc := "([III)I" } : Jvm.MethodName)) ∈ xw_ALL := xw_in2 172 (by rfl) rfl
theorem ww_413 : (Jvm.Cond.selects "NetMender$TextReader" ({ cls := "NetMender$TextReader", name := "read", desc := "([III)I" } : Jvm.MethodName) ({ cls := "NetMender$TextReader", name := "read", desc := "([III)I" } : Jvm.MethodName)) ∈ xw_ALL := xw_in2 173 (by rfl) rfl
theorem ww_414 : (Jvm.Cond.code ({ cls := "NetMender$TextReader", name := "read", desc := "([III)I" } : Jvm.MethodName) prog_10_method_2_code (6 : Nat) (Option.some Jvm.ClassFile.FieldType.int)) ∈ xw_ALL := xw_in2 174 (by rfl) rfl
theorem ww_415 : (Jvm.Cond.methodLink "NetMender$TextReader" (33 : Nat) ({ cls := "NetMender$Law", name := "forget", desc := "()V" } : Jvm.MethodName)) ∈ xw_ALL := xw_in2 175 (by rfl) rfl
theorem ww_416 : (Jvm.Cond.instanceMethod ({ cls := "NetMender$Law", name := "forget", desc := "()V" } : Jvm.MethodName)) ∈ xw_ALL := xw_in2 176 (by rfl) rfl
theorem ww_417 : (Jvm.Cond.selects "NetMender$Law" ({ cls := "NetMender$Law", name := "forget", desc := "()V" } : Jvm.MethodName) ({ cls := "NetMender$Law", name := "forget", desc := "()V" } : Jvm.MethodName)) ∈ xw_ALL := xw_in2 177 (by rfl) rfl
theorem ww_418 : (Jvm.Cond.code ({ cls := "NetMender$Law", name := "forget", desc := "()V" } : Jvm.MethodName) prog_5_method_3_code (1 : Nat) (Option.none : Option Jvm.ClassFile.FieldType)) ∈ xw_ALL := xw_in2 178 (by rfl) rfl
theorem ww_419 : (Jvm.Cond.methodLink "NetMender$TextReader" (36 : Nat) ({ cls := "NetMender$TextReader", name := "takeValue", desc := "([IIII)I" } : Jvm.MethodName)) ∈ xw_ALL := xw_in2 179 (by rfl) rfl
theorem ww_421 : (Jvm.Cond.instanceMethod ({ cls := "NetMender$TextReader", name := "takeValue", desc := "([IIII)I" } : Jvm.MethodName)) ∈ xw_ALL := xw_in2 181 (by rfl) rfl
theorem ww_422 : (Jvm.Cond.code ({ cls := "NetMender$TextReader", name := "takeValue", desc := "([IIII)I" } : Jvm.MethodName) prog_10_method_3_code (8 : Nat) (Option.some Jvm.ClassFile.FieldType.int)) ∈ xw_ALL := xw_in2 182 (by rfl) rfl
theorem ww_423 : (Jvm.Cond.methodLink "NetMender$TextReader" (48 : Nat) ({ cls := "NetMender$TextReader", name := "push", desc := "(I)V" } : Jvm.MethodName)) ∈ xw_ALL := xw_in2 183 (by rfl) rfl
theorem ww_425 : (Jvm.Cond.instanceMethod ({ cls := "NetMender$TextReader", name := "push", desc := "(I)V" } : Jvm.MethodName)) ∈ xw_ALL := xw_in2 185 (by rfl) rfl
theorem ww_426 : (Jvm.Cond.code ({ cls := "NetMender$TextReader", name := "push", desc := "(I)V" } : Jvm.MethodName) prog_10_method_5_code (2 : Nat) (Option.none : Option Jvm.ClassFile.FieldType)) ∈ xw_ALL := xw_in2 186 (by rfl) rfl
theorem ww_427 : (Jvm.Cond.methodLink "NetMender$TextReader" (51 : Nat) ({ cls := "NetMender$TextReader", name := "nameOf", desc := "(II)I" } : Jvm.MethodName)) ∈ xw_ALL := xw_in2 187 (by rfl) rfl
theorem ww_428 : (Jvm.Cond.static ({ cls := "NetMender$TextReader", name := "nameOf", desc := "(II)I" } : Jvm.MethodName)) ∈ xw_ALL := xw_in2 188 (by rfl) rfl
theorem ww_429 : (Jvm.Cond.code ({ cls := "NetMender$TextReader", name := "nameOf", desc := "(II)I" } : Jvm.MethodName) prog_10_method_10_code (3 : Nat) (Option.some Jvm.ClassFile.FieldType.int)) ∈ xw_ALL := xw_in2 189 (by rfl) rfl
theorem ww_430 : (Jvm.Cond.methodLink "NetMender$TextReader" (55 : Nat) ({ cls := "NetMender$TextReader", name := "isDigit", desc := "(I)Z" } : Jvm.MethodName)) ∈ xw_ALL := xw_in2 190 (by rfl) rfl
theorem ww_431 : (Jvm.Cond.static ({ cls := "NetMender$TextReader", name := "isDigit", desc := "(I)Z" } : Jvm.MethodName)) ∈ xw_ALL := xw_in2 191 (by rfl) rfl
theorem ww_432 : (Jvm.Cond.code ({ cls := "NetMender$TextReader", name := "isDigit", desc := "(I)Z" } : Jvm.MethodName) prog_10_method_8_code (1 : Nat) (Option.some Jvm.ClassFile.FieldType.boolean)) ∈ xw_ALL := xw_in2 192 (by rfl) rfl
theorem ww_433 : (Jvm.Cond.methodLink "NetMender$TextReader" (59 : Nat) ({ cls := "NetMender$Law", name := "add", desc := "(I)V" } : Jvm.MethodName)) ∈ xw_ALL := xw_in2 193 (by rfl) rfl
theorem ww_434 : (Jvm.Cond.instanceMethod ({ cls := "NetMender$Law", name := "add", desc := "(I)V" } : Jvm.MethodName)) ∈ xw_ALL := xw_in2 194 (by rfl) rfl
theorem ww_435 : (Jvm.Cond.selects "NetMender$Law" ({ cls := "NetMender$Law", name := "add", desc := "(I)V" } : Jvm.MethodName) ({ cls := "NetMender$Law", name := "add", desc := "(I)V" } : Jvm.MethodName)) ∈ xw_ALL := xw_in2 195 (by rfl) rfl
theorem ww_436 : (Jvm.Cond.code ({ cls := "NetMender$Law", name := "add", desc := "(I)V" } : Jvm.MethodName) prog_5_method_5_code (2 : Nat) (Option.none : Option Jvm.ClassFile.FieldType)) ∈ xw_ALL := xw_in2 196 (by rfl) rfl
theorem ww_437 : (Jvm.Cond.methodLink "NetMender$TextReader" (62 : Nat) ({ cls := "NetMender$TextReader", name := "endValue", desc := "()V" } : Jvm.MethodName)) ∈ xw_ALL := xw_in2 197 (by rfl) rfl
theorem ww_439 : (Jvm.Cond.instanceMethod ({ cls := "NetMender$TextReader", name := "endValue", desc := "()V" } : Jvm.MethodName)) ∈ xw_ALL := xw_in2 199 (by rfl) rfl
theorem ww_440 : (Jvm.Cond.code ({ cls := "NetMender$TextReader", name := "endValue", desc := "()V" } : Jvm.MethodName) prog_10_method_6_code (1 : Nat) (Option.none : Option Jvm.ClassFile.FieldType)) ∈ xw_ALL := xw_in2 200 (by rfl) rfl
theorem ww_441 : (Jvm.Cond.methodLink "NetMender$TextReader" (40 : Nat) ({ cls := "NetMender$TextReader", name := "takeSign", desc := "(I)I" } : Jvm.MethodName)) ∈ xw_ALL := xw_in2 201 (by rfl) rfl
theorem ww_443 : (Jvm.Cond.instanceMethod ({ cls := "NetMender$TextReader", name := "takeSign", desc := "(I)I" } : Jvm.MethodName)) ∈ xw_ALL := xw_in2 203 (by rfl) rfl
theorem ww_444 : (Jvm.Cond.code ({ cls := "NetMender$TextReader", name := "takeSign", desc := "(I)I" } : Jvm.MethodName) prog_10_method_4_code (3 : Nat) (Option.some Jvm.ClassFile.FieldType.int)) ∈ xw_ALL := xw_in2 204 (by rfl) rfl
theorem ww_445 : (Jvm.Cond.methodLink "NetMender$TextReader" (44 : Nat) ({ cls := "NetMender$TextReader", name := "settle", desc := "(I)V" } : Jvm.MethodName)) ∈ xw_ALL := xw_in2 205 (by rfl) rfl
theorem ww_447 : (Jvm.Cond.instanceMethod ({ cls := "NetMender$TextReader", name := "settle", desc := "(I)V" } : Jvm.MethodName)) ∈ xw_ALL := xw_in2 207 (by rfl) rfl
theorem ww_448 : (Jvm.Cond.code ({ cls := "NetMender$TextReader", name := "settle", desc := "(I)V" } : Jvm.MethodName) prog_10_method_7_code (2 : Nat) (Option.none : Option Jvm.ClassFile.FieldType)) ∈ xw_ALL := xw_in2 208 (by rfl) rfl
theorem ww_449 : (Jvm.Cond.methodLink "NetMender$TextReader" (65 : Nat) ({ cls := "NetMender$TextReader", name := "rankOf", desc := "(I)I" } : Jvm.MethodName)) ∈ xw_ALL := xw_in2 209 (by rfl) rfl
theorem ww_450 : (Jvm.Cond.static ({ cls := "NetMender$TextReader", name := "rankOf", desc := "(I)I" } : Jvm.MethodName)) ∈ xw_ALL := xw_in2 210 (by rfl) rfl
theorem ww_451 : (Jvm.Cond.code ({ cls := "NetMender$TextReader", name := "rankOf", desc := "(I)I" } : Jvm.MethodName) prog_10_method_9_code (1 : Nat) (Option.some Jvm.ClassFile.FieldType.int)) ∈ xw_ALL := xw_in2 211 (by rfl) rfl
theorem ww_452 : (Jvm.Cond.methodLink "NetMender" (166 : Nat) ({ cls := "NetMender$Net", name := "lawOf", desc := "(I)LNetMender$Law;" } : Jvm.MethodName)) ∈ xw_ALL := xw_in2 212 (by rfl) rfl
theorem ww_453 : (Jvm.Cond.instanceMethod ({ cls := "NetMender$Net", name := "lawOf", desc := "(I)LNetMender$Law;" } : Jvm.MethodName)) ∈ xw_ALL := xw_in2 213 (by rfl) rfl
theorem ww_454 : (Jvm.Cond.selects "NetMender$Net" ({ cls := "NetMender$Net", name := "lawOf", desc := "(I)LNetMender$Law;" } : Jvm.MethodName) ({ cls := "NetMender$Net", name := "lawOf", desc := "(I)LNetMender$Law;" } : Jvm.MethodName)) ∈ xw_ALL := xw_in2 214 (by rfl) rfl
theorem ww_455 : (Jvm.Cond.code ({ cls := "NetMender$Net", name := "lawOf", desc := "(I)LNetMender$Law;" } : Jvm.MethodName) prog_7_method_3_code (2 : Nat) (Option.some (Jvm.ClassFile.FieldType.object "NetMender$Law"))) ∈ xw_ALL := xw_in2 215 (by rfl) rfl
theorem ww_456 : (Jvm.Cond.methodLink "NetMender" (174 : Nat) ({ cls := "NetMender$Law", name := "become", desc := "(LNetMender$Law;)V" } : Jvm.MethodName)) ∈ xw_ALL := xw_in2 216 (by rfl) rfl
theorem ww_457 : (Jvm.Cond.instanceMethod ({ cls := "NetMender$Law", name := "become", desc := "(LNetMender$Law;)V" } : Jvm.MethodName)) ∈ xw_ALL := xw_in2 217 (by rfl) rfl
theorem ww_458 : (Jvm.Cond.selects "NetMender$Law" ({ cls := "NetMender$Law", name := "become", desc := "(LNetMender$Law;)V" } : Jvm.MethodName) ({ cls := "NetMender$Law", name := "become", desc := "(LNetMender$Law;)V" } : Jvm.MethodName)) ∈ xw_ALL := xw_in2 218 (by rfl) rfl
theorem ww_459 : (Jvm.Cond.code ({ cls := "NetMender$Law", name := "become", desc := "(LNetMender$Law;)V" } : Jvm.MethodName) prog_5_method_4_code (2 : Nat) (Option.none : Option Jvm.ClassFile.FieldType)) ∈ xw_ALL := xw_in2 219 (by rfl) rfl
theorem ww_460 : (Jvm.Cond.methodLink "NetMender$Law" (22 : Nat) ({ cls := "java/lang/System", name := "arraycopy", desc := "(Ljava/lang/Object;ILjava/lang/Object;II)V" } : Jvm.MethodName)) ∈ xw_ALL := xw_in2 220 (by rfl) rfl
theorem ww_461 : (Jvm.Cond.static ({ cls := "java/lang/System", name := "arraycopy", desc := "(Ljava/lang/Object;ILjava/lang/Object;II)V" } : Jvm.MethodName)) ∈ xw_ALL := xw_in2 221 (by rfl) rfl
theorem ww_462 : (Jvm.Cond.native ({ cls := "java/lang/System", name := "arraycopy", desc := "(Ljava/lang/Object;ILjava/lang/Object;II)V" } : Jvm.MethodName)) ∈ xw_ALL := xw_in2 222 (by rfl) rfl
theorem ww_463 : (Jvm.Cond.methodLink "NetMenderLaw" (59 : Nat) ({ cls := "NetMender", name := "untell", desc := "(I)I" } : Jvm.MethodName)) ∈ xw_ALL := xw_in2 223 (by rfl) rfl
theorem ww_464 : (Jvm.Cond.instanceMethod ({ cls := "NetMender", name := "untell", desc := "(I)I" } : Jvm.MethodName)) ∈ xw_ALL := xw_in2 224 (by rfl) rfl
theorem ww_465 : (Jvm.Cond.selects "NetMender" ({ cls := "NetMender", name := "untell", desc := "(I)I" } : Jvm.MethodName) ({ cls := "NetMender", name := "untell", desc := "(I)I" } : Jvm.MethodName)) ∈ xw_ALL := xw_in2 225 (by rfl) rfl
theorem ww_466 : (Jvm.Cond.code ({ cls := "NetMender", name := "untell", desc := "(I)I" } : Jvm.MethodName) prog_1_method_12_code (4 : Nat) (Option.some Jvm.ClassFile.FieldType.int)) ∈ xw_ALL := xw_in2 226 (by rfl) rfl
theorem ww_467 : (Jvm.Cond.methodLink "NetMender" (180 : Nat) ({ cls := "NetMender$Law", name := "isThere", desc := "()Z" } : Jvm.MethodName)) ∈ xw_ALL := xw_in2 227 (by rfl) rfl
theorem ww_468 : (Jvm.Cond.methodLink "NetMender" (184 : Nat) ({ cls := "NetMender$Law", name := "forget", desc := "()V" } : Jvm.MethodName)) ∈ xw_ALL := xw_in2 228 (by rfl) rfl
theorem ww_469 : (Jvm.Cond.methodLink "NetMenderLaw" (63 : Nat) ({ cls := "NetMender", name := "run", desc := "(II)I" } : Jvm.MethodName)) ∈ xw_ALL := xw_in2 229 (by rfl) rfl
theorem ww_470 : (Jvm.Cond.instanceMethod ({ cls := "NetMender", name := "run", desc := "(II)I" } : Jvm.MethodName)) ∈ xw_ALL := xw_in2 230 (by rfl) rfl
theorem ww_471 : (Jvm.Cond.selects "NetMender" ({ cls := "NetMender", name := "run", desc := "(II)I" } : Jvm.MethodName) ({ cls := "NetMender", name := "run", desc := "(II)I" } : Jvm.MethodName)) ∈ xw_ALL := xw_in2 231 (by rfl) rfl
theorem ww_472 : (Jvm.Cond.code ({ cls := "NetMender", name := "run", desc := "(II)I" } : Jvm.MethodName) prog_1_method_13_code (6 : Nat) (Option.some Jvm.ClassFile.FieldType.int)) ∈ xw_ALL := xw_in2 232 (by rfl) rfl
theorem ww_473 : (Jvm.Cond.methodLink "NetMender" (187 : Nat) ({ cls := "NetMender$Sheet", name := "isMissing", desc := "()Z" } : Jvm.MethodName)) ∈ xw_ALL := xw_in2 233 (by rfl) rfl
theorem ww_474 : (Jvm.Cond.instanceMethod ({ cls := "NetMender$Sheet", name := "isMissing", desc := "()Z" } : Jvm.MethodName)) ∈ xw_ALL := xw_in2 234 (by rfl) rfl
theorem ww_475 : (Jvm.Cond.selects "NetMender$Sheet" ({ cls := "NetMender$Sheet", name := "isMissing", desc := "()Z" } : Jvm.MethodName) ({ cls := "NetMender$Sheet", name := "isMissing", desc := "()Z" } : Jvm.MethodName)) ∈ xw_ALL := xw_in2 235 (by rfl) rfl
theorem ww_476 : (Jvm.Cond.code ({ cls := "NetMender$Sheet", name := "isMissing", desc := "()Z" } : Jvm.MethodName) prog_9_method_2_code (1 : Nat) (Option.some Jvm.ClassFile.FieldType.boolean)) ∈ xw_ALL := xw_in2 236 (by rfl) rfl
theorem ww_477 : (Jvm.Cond.constant "NetMender" (192 : Nat) (-1000000002 : Int32)) ∈ xw_ALL := xw_in2 237 (by rfl) rfl
theorem ww_478 : (Jvm.Cond.methodLink "NetMender" (193 : Nat) ({ cls := "NetMender$Net", name := "runStops", desc := "(LNetMender$Sheet;)I" } : Jvm.MethodName)) ∈ xw_ALL := xw_in2 238 (by rfl) rfl
theorem ww_479 : (Jvm.Cond.instanceMethod ({ cls := "NetMender$Net", name := "runStops", desc := "(LNetMender$Sheet;)I" } : Jvm.MethodName)) ∈ xw_ALL := xw_in2 239 (by rfl) rfl
theorem ww_480 : (Jvm.Cond.selects "NetMender$Net" ({ cls := "NetMender$Net", name := "runStops", desc := "(LNetMender$Sheet;)I" } : Jvm.MethodName) ({ cls := "NetMender$Net", name := "runStops", desc := "(LNetMender$Sheet;)I" } : Jvm.MethodName)) ∈ xw_ALL := xw_in3 0 (by rfl) rfl
theorem ww_481 : (Jvm.Cond.code ({ cls := "NetMender$Net", name := "runStops", desc := "(LNetMender$Sheet;)I" } : Jvm.MethodName) prog_7_method_18_code (5 : Nat) (Option.some Jvm.ClassFile.FieldType.int)) ∈ xw_ALL := xw_in3 1 (by rfl) rfl
theorem ww_482 : (Jvm.Cond.methodLinkNest "NetMender$Net" (120 : Nat) ({ cls := "NetMender", name := "isBelow", desc := "(II)Z" } : Jvm.MethodName) "NetMender") ∈ xw_ALL := xw_in3 2 (by rfl) rfl
theorem ww_483 : (Jvm.Cond.methodLink "NetMender$Net" (124 : Nat) ({ cls := "NetMender$Grid", name := "between", desc := "(II)I" } : Jvm.MethodName)) ∈ xw_ALL := xw_in3 3 (by rfl) rfl
theorem ww_484 : (Jvm.Cond.static ({ cls := "NetMender$Grid", name := "between", desc := "(II)I" } : Jvm.MethodName)) ∈ xw_ALL := xw_in3 4 (by rfl) rfl
theorem ww_485 : (Jvm.Cond.code ({ cls := "NetMender$Grid", name := "between", desc := "(II)I" } : Jvm.MethodName) prog_2_method_5_code (4 : Nat) (Option.some Jvm.ClassFile.FieldType.int)) ∈ xw_ALL := xw_in3 5 (by rfl) rfl
theorem ww_486 : (Jvm.Cond.methodLink "NetMender$Grid" (15 : Nat) ({ cls := "java/lang/Math", name := "min", desc := "(II)I" } : Jvm.MethodName)) ∈ xw_ALL := xw_in3 6 (by rfl) rfl
theorem ww_487 : (Jvm.Cond.methodLink "NetMender$Grid" (21 : Nat) ({ cls := "java/lang/Math", name := "max", desc := "(II)I" } : Jvm.MethodName)) ∈ xw_ALL := xw_in3 7 (by rfl) rfl
theorem ww_488 : (Jvm.Cond.methodLink "NetMender" (197 : Nat) ({ cls := "NetMender$Net", name := "ellsOfRun", desc := "(LNetMender$Sheet;)I" } : Jvm.MethodName)) ∈ xw_ALL := xw_in3 8 (by rfl) rfl
theorem ww_489 : (Jvm.Cond.instanceMethod ({ cls := "NetMender$Net", name := "ellsOfRun", desc := "(LNetMender$Sheet;)I" } : Jvm.MethodName)) ∈ xw_ALL := xw_in3 9 (by rfl) rfl
theorem ww_490 : (Jvm.Cond.selects "NetMender$Net" ({ cls := "NetMender$Net", name := "ellsOfRun", desc := "(LNetMender$Sheet;)I" } : Jvm.MethodName) ({ cls := "NetMender$Net", name := "ellsOfRun", desc := "(LNetMender$Sheet;)I" } : Jvm.MethodName)) ∈ xw_ALL := xw_in3 10 (by rfl) rfl
theorem ww_491 : (Jvm.Cond.code ({ cls := "NetMender$Net", name := "ellsOfRun", desc := "(LNetMender$Sheet;)I" } : Jvm.MethodName) prog_7_method_19_code (5 : Nat) (Option.some Jvm.ClassFile.FieldType.int)) ∈ xw_ALL := xw_in3 11 (by rfl) rfl
theorem ww_492 : (Jvm.Cond.methodLink "NetMender$Net" (127 : Nat) ({ cls := "NetMender$Kinds", name := "takesOf", desc := "(I)I" } : Jvm.MethodName)) ∈ xw_ALL := xw_in3 12 (by rfl) rfl
theorem ww_493 : (Jvm.Cond.methodLink "NetMender" (200 : Nat) ({ cls := "NetMender$Net", name := "mendRun", desc := "(LNetMender$Sheet;I)V" } : Jvm.MethodName)) ∈ xw_ALL := xw_in3 13 (by rfl) rfl
theorem ww_494 : (Jvm.Cond.instanceMethod ({ cls := "NetMender$Net", name := "mendRun", desc := "(LNetMender$Sheet;I)V" } : Jvm.MethodName)) ∈ xw_ALL := xw_in3 14 (by rfl) rfl
theorem ww_495 : (Jvm.Cond.selects "NetMender$Net" ({ cls := "NetMender$Net", name := "mendRun", desc := "(LNetMender$Sheet;I)V" } : Jvm.MethodName) ({ cls := "NetMender$Net", name := "mendRun", desc := "(LNetMender$Sheet;I)V" } : Jvm.MethodName)) ∈ xw_ALL := xw_in3 15 (by rfl) rfl
theorem ww_496 : (Jvm.Cond.code ({ cls := "NetMender$Net", name := "mendRun", desc := "(LNetMender$Sheet;I)V" } : Jvm.MethodName) prog_7_method_20_code (5 : Nat) (Option.none : Option Jvm.ClassFile.FieldType)) ∈ xw_ALL := xw_in3 16 (by rfl) rfl
theorem ww_497 : (Jvm.Cond.methodLink "NetMender$Net" (101 : Nat) ({ cls := "NetMender$Net", name := "renew", desc := "(I)V" } : Jvm.MethodName)) ∈ xw_ALL := xw_in3 17 (by rfl) rfl
theorem ww_498 : (Jvm.Cond.instanceMethod ({ cls := "NetMender$Net", name := "renew", desc := "(I)V" } : Jvm.MethodName)) ∈ xw_ALL := xw_in3 18 (by rfl) rfl
theorem ww_499 : (Jvm.Cond.selects "NetMender$Net" ({ cls := "NetMender$Net", name := "renew", desc := "(I)V" } : Jvm.MethodName) ({ cls := "NetMender$Net", name := "renew", desc := "(I)V" } : Jvm.MethodName)) ∈ xw_ALL := xw_in3 19 (by rfl) rfl
theorem ww_500 : (Jvm.Cond.code ({ cls := "NetMender$Net", name := "renew", desc := "(I)V" } : Jvm.MethodName) prog_7_method_14_code (2 : Nat) (Option.none : Option Jvm.ClassFile.FieldType)) ∈ xw_ALL := xw_in3 20 (by rfl) rfl
theorem ww_501 : (Jvm.Cond.methodLink "NetMender$Net" (132 : Nat) ({ cls := "NetMender$Net", name := "tieAnew", desc := "(II)V" } : Jvm.MethodName)) ∈ xw_ALL := xw_in3 21 (by rfl) rfl
theorem ww_502 : (Jvm.Cond.methodLink "NetMenderLaw" (67 : Nat) ({ cls := "NetMender", name := "odd", desc := "(I)I" } : Jvm.MethodName)) ∈ xw_ALL := xw_in3 22 (by rfl) rfl
theorem ww_503 : (Jvm.Cond.instanceMethod ({ cls := "NetMender", name := "odd", desc := "(I)I" } : Jvm.MethodName)) ∈ xw_ALL := xw_in3 23 (by rfl) rfl
theorem ww_504 : (Jvm.Cond.selects "NetMender" ({ cls := "NetMender", name := "odd", desc := "(I)I" } : Jvm.MethodName) ({ cls := "NetMender", name := "odd", desc := "(I)I" } : Jvm.MethodName)) ∈ xw_ALL := xw_in3 24 (by rfl) rfl
theorem ww_505 : (Jvm.Cond.code ({ cls := "NetMender", name := "odd", desc := "(I)I" } : Jvm.MethodName) prog_1_method_14_code (2 : Nat) (Option.some Jvm.ClassFile.FieldType.int)) ∈ xw_ALL := xw_in3 25 (by rfl) rfl
theorem ww_506 : (Jvm.Cond.methodLink "NetMender" (204 : Nat) ({ cls := "NetMender$Grid", name := "oddKnots", desc := "(I)I" } : Jvm.MethodName)) ∈ xw_ALL := xw_in3 26 (by rfl) rfl
theorem ww_507 : (Jvm.Cond.static ({ cls := "NetMender$Grid", name := "oddKnots", desc := "(I)I" } : Jvm.MethodName)) ∈ xw_ALL := xw_in3 27 (by rfl) rfl
theorem ww_508 : (Jvm.Cond.code ({ cls := "NetMender$Grid", name := "oddKnots", desc := "(I)I" } : Jvm.MethodName) prog_2_method_10_code (3 : Nat) (Option.some Jvm.ClassFile.FieldType.int)) ∈ xw_ALL := xw_in3 28 (by rfl) rfl
theorem ww_509 : (Jvm.Cond.methodLink "NetMender" (207 : Nat) ({ cls := "NetMender$Mending", name := "isOneRun", desc := "(I)Z" } : Jvm.MethodName)) ∈ xw_ALL := xw_in3 29 (by rfl) rfl
theorem ww_510 : (Jvm.Cond.static ({ cls := "NetMender$Mending", name := "isOneRun", desc := "(I)Z" } : Jvm.MethodName)) ∈ xw_ALL := xw_in3 30 (by rfl) rfl
theorem ww_511 : (Jvm.Cond.code ({ cls := "NetMender$Mending", name := "isOneRun", desc := "(I)Z" } : Jvm.MethodName) prog_6_method_2_code (1 : Nat) (Option.some Jvm.ClassFile.FieldType.boolean)) ∈ xw_ALL := xw_in3 31 (by rfl) rfl
theorem ww_512 : (Jvm.Cond.methodLink "NetMender$Mending" (15 : Nat) ({ cls := "NetMender$Grid", name := "oddKnots", desc := "(I)I" } : Jvm.MethodName)) ∈ xw_ALL := xw_in3 32 (by rfl) rfl
theorem ww_513 : (Jvm.Cond.methodLink "NetMender$Mending" (21 : Nat) ({ cls := "NetMender$Mending", name := "isOneRunBy", desc := "(II)Z" } : Jvm.MethodName)) ∈ xw_ALL := xw_in3 33 (by rfl) rfl
theorem ww_514 : (Jvm.Cond.static ({ cls := "NetMender$Mending", name := "isOneRunBy", desc := "(II)Z" } : Jvm.MethodName)) ∈ xw_ALL := xw_in3 34 (by rfl) rfl
theorem ww_515 : (Jvm.Cond.code ({ cls := "NetMender$Mending", name := "isOneRunBy", desc := "(II)Z" } : Jvm.MethodName) prog_6_method_3_code (3 : Nat) (Option.some Jvm.ClassFile.FieldType.boolean)) ∈ xw_ALL := xw_in3 35 (by rfl) rfl
theorem ww_516 : (Jvm.Cond.methodLink "NetMender$Mending" (25 : Nat) ({ cls := "java/lang/Integer", name := "bitCount", desc := "(I)I" } : Jvm.MethodName)) ∈ xw_ALL := xw_in3 36 (by rfl) rfl
theorem ww_517 : (Jvm.Cond.methodLink "NetMender$Mending" (30 : Nat) ({ cls := "NetMender$Grid", name := "firstHole", desc := "(I)I" } : Jvm.MethodName)) ∈ xw_ALL := xw_in3 37 (by rfl) rfl
theorem ww_518 : (Jvm.Cond.static ({ cls := "NetMender$Grid", name := "firstHole", desc := "(I)I" } : Jvm.MethodName)) ∈ xw_ALL := xw_in3 38 (by rfl) rfl
theorem ww_519 : (Jvm.Cond.code ({ cls := "NetMender$Grid", name := "firstHole", desc := "(I)I" } : Jvm.MethodName) prog_2_method_12_code (2 : Nat) (Option.some Jvm.ClassFile.FieldType.int)) ∈ xw_ALL := xw_in3 39 (by rfl) rfl
theorem ww_520 : (Jvm.Cond.methodLink "NetMender$Grid" (30 : Nat) ({ cls := "NetMender$Grid", name := "firstOf", desc := "(I)I" } : Jvm.MethodName)) ∈ xw_ALL := xw_in3 40 (by rfl) rfl
theorem ww_521 : (Jvm.Cond.static ({ cls := "NetMender$Grid", name := "firstOf", desc := "(I)I" } : Jvm.MethodName)) ∈ xw_ALL := xw_in3 41 (by rfl) rfl
theorem ww_522 : (Jvm.Cond.code ({ cls := "NetMender$Grid", name := "firstOf", desc := "(I)I" } : Jvm.MethodName) prog_2_method_11_code (2 : Nat) (Option.some Jvm.ClassFile.FieldType.int)) ∈ xw_ALL := xw_in3 42 (by rfl) rfl
theorem ww_523 : (Jvm.Cond.methodLink "NetMender$Grid" (33 : Nat) ({ cls := "NetMender$Grid", name := "spread", desc := "(IIZ)I" } : Jvm.MethodName)) ∈ xw_ALL := xw_in3 43 (by rfl) rfl
theorem ww_524 : (Jvm.Cond.static ({ cls := "NetMender$Grid", name := "spread", desc := "(IIZ)I" } : Jvm.MethodName)) ∈ xw_ALL := xw_in3 44 (by rfl) rfl
theorem ww_525 : (Jvm.Cond.code ({ cls := "NetMender$Grid", name := "spread", desc := "(IIZ)I" } : Jvm.MethodName) prog_2_method_7_code (8 : Nat) (Option.some Jvm.ClassFile.FieldType.int)) ∈ xw_ALL := xw_in3 45 (by rfl) rfl
theorem ww_526 : (Jvm.Cond.methodLink "NetMender$Grid" (24 : Nat) ({ cls := "NetMender$Grid", name := "meshesBeside", desc := "(I)I" } : Jvm.MethodName)) ∈ xw_ALL := xw_in3 46 (by rfl) rfl
theorem ww_527 : (Jvm.Cond.static ({ cls := "NetMender$Grid", name := "meshesBeside", desc := "(I)I" } : Jvm.MethodName)) ∈ xw_ALL := xw_in3 47 (by rfl) rfl
theorem ww_528 : (Jvm.Cond.code ({ cls := "NetMender$Grid", name := "meshesBeside", desc := "(I)I" } : Jvm.MethodName) prog_2_method_6_code (4 : Nat) (Option.some Jvm.ClassFile.FieldType.int)) ∈ xw_ALL := xw_in3 48 (by rfl) rfl
theorem ww_529 : (Jvm.Cond.methodLink "NetMender$Grid" (37 : Nat) ({ cls := "NetMender$Grid", name := "threadsAt", desc := "(II)I" } : Jvm.MethodName)) ∈ xw_ALL := xw_in3 49 (by rfl) rfl
theorem ww_530 : (Jvm.Cond.methodLink "NetMenderLaw" (71 : Nat) ({ cls := "NetMender", name := "cuts", desc := "(I)I" } : Jvm.MethodName)) ∈ xw_ALL := xw_in3 50 (by rfl) rfl
theorem ww_531 : (Jvm.Cond.instanceMethod ({ cls := "NetMender", name := "cuts", desc := "(I)I" } : Jvm.MethodName)) ∈ xw_ALL := xw_in3 51 (by rfl) rfl
theorem ww_532 : (Jvm.Cond.selects "NetMender" ({ cls := "NetMender", name := "cuts", desc := "(I)I" } : Jvm.MethodName) ({ cls := "NetMender", name := "cuts", desc := "(I)I" } : Jvm.MethodName)) ∈ xw_ALL := xw_in3 52 (by rfl) rfl
theorem ww_533 : (Jvm.Cond.code ({ cls := "NetMender", name := "cuts", desc := "(I)I" } : Jvm.MethodName) prog_1_method_15_code (3 : Nat) (Option.some Jvm.ClassFile.FieldType.int)) ∈ xw_ALL := xw_in3 53 (by rfl) rfl
theorem ww_534 : (Jvm.Cond.methodLink "NetMender" (210 : Nat) ({ cls := "NetMender$Mending", name := "fewestCuts", desc := "(I)I" } : Jvm.MethodName)) ∈ xw_ALL := xw_in3 54 (by rfl) rfl
theorem ww_535 : (Jvm.Cond.instanceMethod ({ cls := "NetMender$Mending", name := "fewestCuts", desc := "(I)I" } : Jvm.MethodName)) ∈ xw_ALL := xw_in3 55 (by rfl) rfl
theorem ww_536 : (Jvm.Cond.selects "NetMender$Mending" ({ cls := "NetMender$Mending", name := "fewestCuts", desc := "(I)I" } : Jvm.MethodName) ({ cls := "NetMender$Mending", name := "fewestCuts", desc := "(I)I" } : Jvm.MethodName)) ∈ xw_ALL := xw_in3 56 (by rfl) rfl
theorem ww_537 : (Jvm.Cond.code ({ cls := "NetMender$Mending", name := "fewestCuts", desc := "(I)I" } : Jvm.MethodName) prog_6_method_4_code (4 : Nat) (Option.some Jvm.ClassFile.FieldType.int)) ∈ xw_ALL := xw_in3 57 (by rfl) rfl
theorem ww_538 : (Jvm.Cond.methodLink "NetMender$Mending" (33 : Nat) ({ cls := "NetMender$Mending", name := "choose", desc := "([IIIIII)Z" } : Jvm.MethodName)) ∈ xw_ALL := xw_in3 58 (by rfl) rfl
theorem ww_539 : (Jvm.Cond.static ({ cls := "NetMender$Mending", name := "choose", desc := "([IIIIII)Z" } : Jvm.MethodName)) ∈ xw_ALL := xw_in3 59 (by rfl) rfl
theorem ww_540 : (Jvm.Cond.code ({ cls := "NetMender$Mending", name := "choose", desc := "([IIIIII)Z" } : Jvm.MethodName) prog_6_method_5_code (7 : Nat) (Option.some Jvm.ClassFile.FieldType.boolean)) ∈ xw_ALL := xw_in3 60 (by rfl) rfl
theorem ww_541 : (Jvm.Cond.methodLink "NetMender$Mending" (37 : Nat) ({ cls := "NetMender$Grid", name := "endsOf", desc := "(I)I" } : Jvm.MethodName)) ∈ xw_ALL := xw_in3 61 (by rfl) rfl
theorem ww_542 : (Jvm.Cond.methodLink "NetMenderLaw" (75 : Nat) ({ cls := "NetMender", name := "way", desc := "(I)I" } : Jvm.MethodName)) ∈ xw_ALL := xw_in3 62 (by rfl) rfl
theorem ww_543 : (Jvm.Cond.instanceMethod ({ cls := "NetMender", name := "way", desc := "(I)I" } : Jvm.MethodName)) ∈ xw_ALL := xw_in3 63 (by rfl) rfl
theorem ww_544 : (Jvm.Cond.selects "NetMender" ({ cls := "NetMender", name := "way", desc := "(I)I" } : Jvm.MethodName) ({ cls := "NetMender", name := "way", desc := "(I)I" } : Jvm.MethodName)) ∈ xw_ALL := xw_in3 64 (by rfl) rfl
theorem ww_545 : (Jvm.Cond.code ({ cls := "NetMender", name := "way", desc := "(I)I" } : Jvm.MethodName) prog_1_method_16_code (2 : Nat) (Option.some Jvm.ClassFile.FieldType.int)) ∈ xw_ALL := xw_in3 65 (by rfl) rfl
theorem ww_546 : (Jvm.Cond.methodLink "NetMender" (216 : Nat) ({ cls := "NetMender$Mending", name := "wayKnot", desc := "(II)I" } : Jvm.MethodName)) ∈ xw_ALL := xw_in3 66 (by rfl) rfl
theorem ww_547 : (Jvm.Cond.static ({ cls := "NetMender$Mending", name := "wayKnot", desc := "(II)I" } : Jvm.MethodName)) ∈ xw_ALL := xw_in3 67 (by rfl) rfl
theorem ww_548 : (Jvm.Cond.code ({ cls := "NetMender$Mending", name := "wayKnot", desc := "(II)I" } : Jvm.MethodName) prog_6_method_6_code (8 : Nat) (Option.some Jvm.ClassFile.FieldType.int)) ∈ xw_ALL := xw_in3 68 (by rfl) rfl
theorem ww_549 : (Jvm.Cond.methodLink "NetMender$Mending" (40 : Nat) ({ cls := "NetMender$Grid", name := "knotsOf", desc := "(I)I" } : Jvm.MethodName)) ∈ xw_ALL := xw_in3 69 (by rfl) rfl
theorem ww_550 : (Jvm.Cond.static ({ cls := "NetMender$Grid", name := "knotsOf", desc := "(I)I" } : Jvm.MethodName)) ∈ xw_ALL := xw_in3 70 (by rfl) rfl
theorem ww_551 : (Jvm.Cond.code ({ cls := "NetMender$Grid", name := "knotsOf", desc := "(I)I" } : Jvm.MethodName) prog_2_method_9_code (3 : Nat) (Option.some Jvm.ClassFile.FieldType.int)) ∈ xw_ALL := xw_in3 71 (by rfl) rfl
theorem ww_552 : (Jvm.Cond.methodLink "NetMender$Mending" (43 : Nat) ({ cls := "NetMender$Grid", name := "firstOf", desc := "(I)I" } : Jvm.MethodName)) ∈ xw_ALL := xw_in3 72 (by rfl) rfl
theorem ww_553 : (Jvm.Cond.methodLink "NetMender$Mending" (46 : Nat) ({ cls := "NetMender$Mending", name := "nextKnot", desc := "(II)I" } : Jvm.MethodName)) ∈ xw_ALL := xw_in3 73 (by rfl) rfl
theorem ww_554 : (Jvm.Cond.static ({ cls := "NetMender$Mending", name := "nextKnot", desc := "(II)I" } : Jvm.MethodName)) ∈ xw_ALL := xw_in3 74 (by rfl) rfl
theorem ww_555 : (Jvm.Cond.code ({ cls := "NetMender$Mending", name := "nextKnot", desc := "(II)I" } : Jvm.MethodName) prog_6_method_7_code (5 : Nat) (Option.some Jvm.ClassFile.FieldType.int)) ∈ xw_ALL := xw_in3 75 (by rfl) rfl
theorem ww_556 : (Jvm.Cond.methodLink "NetMender$Mending" (50 : Nat) ({ cls := "NetMender$Grid", name := "between", desc := "(II)I" } : Jvm.MethodName)) ∈ xw_ALL := xw_in3 76 (by rfl) rfl
theorem ww_557 : (Jvm.Cond.methodLink "NetMender$Mending" (53 : Nat) ({ cls := "NetMender$Grid", name := "spread", desc := "(IIZ)I" } : Jvm.MethodName)) ∈ xw_ALL := xw_in3 77 (by rfl) rfl
theorem ww_558 : (Jvm.Cond.methodLink "NetMender$Mending" (57 : Nat) ({ cls := "NetMender$Grid", name := "threadsAt", desc := "(II)I" } : Jvm.MethodName)) ∈ xw_ALL := xw_in3 78 (by rfl) rfl
theorem ww_559 : (Jvm.Cond.methodLink "NetMenderLaw" (79 : Nat) ({ cls := "NetMender", name := "hole", desc := "(I)I" } : Jvm.MethodName)) ∈ xw_ALL := xw_in3 79 (by rfl) rfl
theorem ww_560 : (Jvm.Cond.instanceMethod ({ cls := "NetMender", name := "hole", desc := "(I)I" } : Jvm.MethodName)) ∈ xw_ALL := xw_in3 80 (by rfl) rfl
theorem ww_561 : (Jvm.Cond.selects "NetMender" ({ cls := "NetMender", name := "hole", desc := "(I)I" } : Jvm.MethodName) ({ cls := "NetMender", name := "hole", desc := "(I)I" } : Jvm.MethodName)) ∈ xw_ALL := xw_in3 81 (by rfl) rfl
theorem ww_562 : (Jvm.Cond.code ({ cls := "NetMender", name := "hole", desc := "(I)I" } : Jvm.MethodName) prog_1_method_17_code (3 : Nat) (Option.some Jvm.ClassFile.FieldType.int)) ∈ xw_ALL := xw_in3 82 (by rfl) rfl
theorem ww_563 : (Jvm.Cond.methodLink "NetMender" (219 : Nat) ({ cls := "NetMender$Grid", name := "holesIn", desc := "(I)I" } : Jvm.MethodName)) ∈ xw_ALL := xw_in3 83 (by rfl) rfl
theorem ww_564 : (Jvm.Cond.static ({ cls := "NetMender$Grid", name := "holesIn", desc := "(I)I" } : Jvm.MethodName)) ∈ xw_ALL := xw_in3 84 (by rfl) rfl
theorem ww_565 : (Jvm.Cond.code ({ cls := "NetMender$Grid", name := "holesIn", desc := "(I)I" } : Jvm.MethodName) prog_2_method_13_code (4 : Nat) (Option.some Jvm.ClassFile.FieldType.int)) ∈ xw_ALL := xw_in3 85 (by rfl) rfl
theorem ww_566 : (Jvm.Cond.methodLink "NetMender$Grid" (40 : Nat) ({ cls := "NetMender$Grid", name := "firstHole", desc := "(I)I" } : Jvm.MethodName)) ∈ xw_ALL := xw_in3 86 (by rfl) rfl
theorem ww_567 : (Jvm.Cond.methodLink "NetMender" (222 : Nat) ({ cls := "NetMender$Grid", name := "holeAt", desc := "(II)I" } : Jvm.MethodName)) ∈ xw_ALL := xw_in3 87 (by rfl) rfl
theorem ww_568 : (Jvm.Cond.static ({ cls := "NetMender$Grid", name := "holeAt", desc := "(II)I" } : Jvm.MethodName)) ∈ xw_ALL := xw_in3 88 (by rfl) rfl
theorem ww_569 : (Jvm.Cond.code ({ cls := "NetMender$Grid", name := "holeAt", desc := "(II)I" } : Jvm.MethodName) prog_2_method_14_code (4 : Nat) (Option.some Jvm.ClassFile.FieldType.int)) ∈ xw_ALL := xw_in3 89 (by rfl) rfl
theorem ww_570 : (Jvm.Cond.methodLink "NetMenderLaw" (83 : Nat) ({ cls := "NetMender", name := "open", desc := "()I" } : Jvm.MethodName)) ∈ xw_ALL := xw_in3 90 (by rfl) rfl
theorem ww_571 : (Jvm.Cond.instanceMethod ({ cls := "NetMender", name := "open", desc := "()I" } : Jvm.MethodName)) ∈ xw_ALL := xw_in3 91 (by rfl) rfl
theorem ww_572 : (Jvm.Cond.selects "NetMender" ({ cls := "NetMender", name := "open", desc := "()I" } : Jvm.MethodName) ({ cls := "NetMender", name := "open", desc := "()I" } : Jvm.MethodName)) ∈ xw_ALL := xw_in3 92 (by rfl) rfl
theorem ww_573 : (Jvm.Cond.code ({ cls := "NetMender", name := "open", desc := "()I" } : Jvm.MethodName) prog_1_method_18_code (1 : Nat) (Option.some Jvm.ClassFile.FieldType.int)) ∈ xw_ALL := xw_in3 93 (by rfl) rfl
theorem ww_574 : (Jvm.Cond.methodLink "NetMender" (225 : Nat) ({ cls := "NetMender$Grid", name := "greatestOpening", desc := "(I)I" } : Jvm.MethodName)) ∈ xw_ALL := xw_in3 94 (by rfl) rfl
theorem ww_575 : (Jvm.Cond.static ({ cls := "NetMender$Grid", name := "greatestOpening", desc := "(I)I" } : Jvm.MethodName)) ∈ xw_ALL := xw_in3 95 (by rfl) rfl
theorem ww_576 : (Jvm.Cond.code ({ cls := "NetMender$Grid", name := "greatestOpening", desc := "(I)I" } : Jvm.MethodName) prog_2_method_15_code (3 : Nat) (Option.some Jvm.ClassFile.FieldType.int)) ∈ xw_ALL := xw_in3 96 (by rfl) rfl
theorem ww_577 : (Jvm.Cond.methodLink "NetMender$Grid" (43 : Nat) ({ cls := "java/lang/Integer", name := "bitCount", desc := "(I)I" } : Jvm.MethodName)) ∈ xw_ALL := xw_in3 97 (by rfl) rfl
theorem ww_578 : (Jvm.Cond.methodLink "NetMenderLaw" (88 : Nat) ({ cls := "NetMender", name := "minutes", desc := "(I)I" } : Jvm.MethodName)) ∈ xw_ALL := xw_in3 98 (by rfl) rfl
theorem ww_579 : (Jvm.Cond.instanceMethod ({ cls := "NetMender", name := "minutes", desc := "(I)I" } : Jvm.MethodName)) ∈ xw_ALL := xw_in3 99 (by rfl) rfl
theorem ww_580 : (Jvm.Cond.selects "NetMender" ({ cls := "NetMender", name := "minutes", desc := "(I)I" } : Jvm.MethodName) ({ cls := "NetMender", name := "minutes", desc := "(I)I" } : Jvm.MethodName)) ∈ xw_ALL := xw_in3 100 (by rfl) rfl
theorem ww_581 : (Jvm.Cond.code ({ cls := "NetMender", name := "minutes", desc := "(I)I" } : Jvm.MethodName) prog_1_method_19_code (3 : Nat) (Option.some Jvm.ClassFile.FieldType.int)) ∈ xw_ALL := xw_in3 101 (by rfl) rfl
theorem ww_582 : (Jvm.Cond.methodLink "NetMender" (228 : Nat) ({ cls := "NetMender$Hour", name := "plan", desc := "(II[I)V" } : Jvm.MethodName)) ∈ xw_ALL := xw_in3 102 (by rfl) rfl
theorem ww_583 : (Jvm.Cond.instanceMethod ({ cls := "NetMender$Hour", name := "plan", desc := "(II[I)V" } : Jvm.MethodName)) ∈ xw_ALL := xw_in3 103 (by rfl) rfl
theorem ww_584 : (Jvm.Cond.selects "NetMender$Hour" ({ cls := "NetMender$Hour", name := "plan", desc := "(II[I)V" } : Jvm.MethodName) ({ cls := "NetMender$Hour", name := "plan", desc := "(II[I)V" } : Jvm.MethodName)) ∈ xw_ALL := xw_in3 104 (by rfl) rfl
theorem ww_585 : (Jvm.Cond.code ({ cls := "NetMender$Hour", name := "plan", desc := "(II[I)V" } : Jvm.MethodName) prog_3_method_2_code (9 : Nat) (Option.none : Option Jvm.ClassFile.FieldType)) ∈ xw_ALL := xw_in3 105 (by rfl) rfl
theorem ww_586 : (Jvm.Cond.methodLink "NetMender$Hour" (28 : Nat) ({ cls := "java/lang/Math", name := "min", desc := "(II)I" } : Jvm.MethodName)) ∈ xw_ALL := xw_in3 106 (by rfl) rfl
theorem ww_587 : (Jvm.Cond.methodLink "NetMender$Hour" (34 : Nat) ({ cls := "NetMender$Grid", name := "holeAt", desc := "(II)I" } : Jvm.MethodName)) ∈ xw_ALL := xw_in3 107 (by rfl) rfl
theorem ww_588 : (Jvm.Cond.methodLink "NetMender$Hour" (39 : Nat) ({ cls := "java/lang/Integer", name := "bitCount", desc := "(I)I" } : Jvm.MethodName)) ∈ xw_ALL := xw_in3 108 (by rfl) rfl
theorem ww_589 : (Jvm.Cond.methodLink "NetMender$Hour" (45 : Nat) ({ cls := "NetMender$Hour", name := "minutesOfTried", desc := "(I[I)I" } : Jvm.MethodName)) ∈ xw_ALL := xw_in3 109 (by rfl) rfl
theorem ww_591 : (Jvm.Cond.instanceMethod ({ cls := "NetMender$Hour", name := "minutesOfTried", desc := "(I[I)I" } : Jvm.MethodName)) ∈ xw_ALL := xw_in3 111 (by rfl) rfl
theorem ww_592 : (Jvm.Cond.code ({ cls := "NetMender$Hour", name := "minutesOfTried", desc := "(I[I)I" } : Jvm.MethodName) prog_3_method_3_code (6 : Nat) (Option.some Jvm.ClassFile.FieldType.int)) ∈ xw_ALL := xw_in3 112 (by rfl) rfl
theorem ww_593 : (Jvm.Cond.methodLink "NetMender$Hour" (55 : Nat) ({ cls := "java/lang/Math", name := "max", desc := "(II)I" } : Jvm.MethodName)) ∈ xw_ALL := xw_in3 113 (by rfl) rfl
theorem ww_594 : (Jvm.Cond.methodLink "NetMender$Hour" (49 : Nat) ({ cls := "java/lang/System", name := "arraycopy", desc := "(Ljava/lang/Object;ILjava/lang/Object;II)V" } : Jvm.MethodName)) ∈ xw_ALL := xw_in3 114 (by rfl) rfl
theorem ww_595 : (Jvm.Cond.methodLink "NetMenderLaw" (92 : Nat) ({ cls := "NetMender", name := "days", desc := "(I)I" } : Jvm.MethodName)) ∈ xw_ALL := xw_in3 115 (by rfl) rfl
theorem ww_596 : (Jvm.Cond.instanceMethod ({ cls := "NetMender", name := "days", desc := "(I)I" } : Jvm.MethodName)) ∈ xw_ALL := xw_in3 116 (by rfl) rfl
theorem ww_597 : (Jvm.Cond.selects "NetMender" ({ cls := "NetMender", name := "days", desc := "(I)I" } : Jvm.MethodName) ({ cls := "NetMender", name := "days", desc := "(I)I" } : Jvm.MethodName)) ∈ xw_ALL := xw_in3 117 (by rfl) rfl
theorem ww_598 : (Jvm.Cond.code ({ cls := "NetMender", name := "days", desc := "(I)I" } : Jvm.MethodName) prog_1_method_20_code (3 : Nat) (Option.some Jvm.ClassFile.FieldType.int)) ∈ xw_ALL := xw_in3 118 (by rfl) rfl
theorem ww_599 : (Jvm.Cond.methodLink "NetMender" (238 : Nat) ({ cls := "NetMender", name := "daysError", desc := "(I)I" } : Jvm.MethodName)) ∈ xw_ALL := xw_in3 119 (by rfl) rfl
theorem ww_601 : (Jvm.Cond.instanceMethod ({ cls := "NetMender", name := "daysError", desc := "(I)I" } : Jvm.MethodName)) ∈ xw_ALL := xw_in3 121 (by rfl) rfl
theorem ww_602 : (Jvm.Cond.code ({ cls := "NetMender", name := "daysError", desc := "(I)I" } : Jvm.MethodName) prog_1_method_45_code (2 : Nat) (Option.some Jvm.ClassFile.FieldType.int)) ∈ xw_ALL := xw_in3 122 (by rfl) rfl
theorem ww_603 : (Jvm.Cond.methodLink "NetMender" (241 : Nat) ({ cls := "NetMender$Net", name := "passDays", desc := "(I)V" } : Jvm.MethodName)) ∈ xw_ALL := xw_in3 123 (by rfl) rfl
theorem ww_604 : (Jvm.Cond.instanceMethod ({ cls := "NetMender$Net", name := "passDays", desc := "(I)V" } : Jvm.MethodName)) ∈ xw_ALL := xw_in3 124 (by rfl) rfl
theorem ww_605 : (Jvm.Cond.selects "NetMender$Net" ({ cls := "NetMender$Net", name := "passDays", desc := "(I)V" } : Jvm.MethodName) ({ cls := "NetMender$Net", name := "passDays", desc := "(I)V" } : Jvm.MethodName)) ∈ xw_ALL := xw_in3 125 (by rfl) rfl
theorem ww_606 : (Jvm.Cond.code ({ cls := "NetMender$Net", name := "passDays", desc := "(I)V" } : Jvm.MethodName) prog_7_method_16_code (3 : Nat) (Option.none : Option Jvm.ClassFile.FieldType)) ∈ xw_ALL := xw_in3 126 (by rfl) rfl
theorem ww_607 : (Jvm.Cond.methodLink "NetMender$Net" (105 : Nat) ({ cls := "NetMender$Net", name := "passDay", desc := "()V" } : Jvm.MethodName)) ∈ xw_ALL := xw_in3 127 (by rfl) rfl
theorem ww_608 : (Jvm.Cond.instanceMethod ({ cls := "NetMender$Net", name := "passDay", desc := "()V" } : Jvm.MethodName)) ∈ xw_ALL := xw_in3 128 (by rfl) rfl
theorem ww_609 : (Jvm.Cond.selects "NetMender$Net" ({ cls := "NetMender$Net", name := "passDay", desc := "()V" } : Jvm.MethodName) ({ cls := "NetMender$Net", name := "passDay", desc := "()V" } : Jvm.MethodName)) ∈ xw_ALL := xw_in3 129 (by rfl) rfl
theorem ww_610 : (Jvm.Cond.code ({ cls := "NetMender$Net", name := "passDay", desc := "()V" } : Jvm.MethodName) prog_7_method_17_code (3 : Nat) (Option.none : Option Jvm.ClassFile.FieldType)) ∈ xw_ALL := xw_in3 130 (by rfl) rfl
theorem ww_611 : (Jvm.Cond.methodLink "NetMender$Net" (108 : Nat) ({ cls := "NetMender$Net", name := "wearsOf", desc := "(I)I" } : Jvm.MethodName)) ∈ xw_ALL := xw_in3 131 (by rfl) rfl
theorem ww_612 : (Jvm.Cond.instanceMethod ({ cls := "NetMender$Net", name := "wearsOf", desc := "(I)I" } : Jvm.MethodName)) ∈ xw_ALL := xw_in3 132 (by rfl) rfl
theorem ww_613 : (Jvm.Cond.selects "NetMender$Net" ({ cls := "NetMender$Net", name := "wearsOf", desc := "(I)I" } : Jvm.MethodName) ({ cls := "NetMender$Net", name := "wearsOf", desc := "(I)I" } : Jvm.MethodName)) ∈ xw_ALL := xw_in3 133 (by rfl) rfl
theorem ww_614 : (Jvm.Cond.code ({ cls := "NetMender$Net", name := "wearsOf", desc := "(I)I" } : Jvm.MethodName) prog_7_method_6_code (2 : Nat) (Option.some Jvm.ClassFile.FieldType.int)) ∈ xw_ALL := xw_in3 134 (by rfl) rfl
theorem ww_615 : (Jvm.Cond.methodLink "NetMender$Net" (111 : Nat) ({ cls := "NetMender$Net", name := "lose", desc := "(I)V" } : Jvm.MethodName)) ∈ xw_ALL := xw_in3 135 (by rfl) rfl
theorem ww_616 : (Jvm.Cond.methodLink "NetMenderLaw" (96 : Nat) ({ cls := "NetMender", name := "draws", desc := "(I)I" } : Jvm.MethodName)) ∈ xw_ALL := xw_in3 136 (by rfl) rfl
theorem ww_617 : (Jvm.Cond.instanceMethod ({ cls := "NetMender", name := "draws", desc := "(I)I" } : Jvm.MethodName)) ∈ xw_ALL := xw_in3 137 (by rfl) rfl
theorem ww_618 : (Jvm.Cond.selects "NetMender" ({ cls := "NetMender", name := "draws", desc := "(I)I" } : Jvm.MethodName) ({ cls := "NetMender", name := "draws", desc := "(I)I" } : Jvm.MethodName)) ∈ xw_ALL := xw_in3 138 (by rfl) rfl
theorem ww_619 : (Jvm.Cond.code ({ cls := "NetMender", name := "draws", desc := "(I)I" } : Jvm.MethodName) prog_1_method_21_code (4 : Nat) (Option.some Jvm.ClassFile.FieldType.int)) ∈ xw_ALL := xw_in3 139 (by rfl) rfl
theorem ww_620 : (Jvm.Cond.methodLink "NetMender" (244 : Nat) ({ cls := "NetMender$Quay", name := "nextDraw", desc := "()I" } : Jvm.MethodName)) ∈ xw_ALL := xw_in3 140 (by rfl) rfl
theorem ww_621 : (Jvm.Cond.instanceMethod ({ cls := "NetMender$Quay", name := "nextDraw", desc := "()I" } : Jvm.MethodName)) ∈ xw_ALL := xw_in3 141 (by rfl) rfl
theorem ww_622 : (Jvm.Cond.selects "NetMender$Quay" ({ cls := "NetMender$Quay", name := "nextDraw", desc := "()I" } : Jvm.MethodName) ({ cls := "NetMender$Quay", name := "nextDraw", desc := "()I" } : Jvm.MethodName)) ∈ xw_ALL := xw_in3 142 (by rfl) rfl
theorem ww_623 : (Jvm.Cond.code ({ cls := "NetMender$Quay", name := "nextDraw", desc := "()I" } : Jvm.MethodName) prog_8_method_3_code (1 : Nat) (Option.some Jvm.ClassFile.FieldType.int)) ∈ xw_ALL := xw_in3 143 (by rfl) rfl
theorem ww_624 : (Jvm.Cond.constant "NetMender$Quay" (51 : Nat) (1103515245 : Int32)) ∈ xw_ALL := xw_in3 144 (by rfl) rfl
theorem ww_625 : (Jvm.Cond.methodLink "NetMender" (247 : Nat) ({ cls := "NetMender$Net", name := "passDay", desc := "()V" } : Jvm.MethodName)) ∈ xw_ALL := xw_in3 145 (by rfl) rfl
theorem ww_626 : (Jvm.Cond.methodLink "NetMenderLaw" (100 : Nat) ({ cls := "NetMender", name := "seed", desc := "(I)I" } : Jvm.MethodName)) ∈ xw_ALL := xw_in3 146 (by rfl) rfl
theorem ww_627 : (Jvm.Cond.instanceMethod ({ cls := "NetMender", name := "seed", desc := "(I)I" } : Jvm.MethodName)) ∈ xw_ALL := xw_in3 147 (by rfl) rfl
theorem ww_628 : (Jvm.Cond.selects "NetMender" ({ cls := "NetMender", name := "seed", desc := "(I)I" } : Jvm.MethodName) ({ cls := "NetMender", name := "seed", desc := "(I)I" } : Jvm.MethodName)) ∈ xw_ALL := xw_in3 148 (by rfl) rfl
theorem ww_629 : (Jvm.Cond.code ({ cls := "NetMender", name := "seed", desc := "(I)I" } : Jvm.MethodName) prog_1_method_22_code (3 : Nat) (Option.some Jvm.ClassFile.FieldType.int)) ∈ xw_ALL := xw_in3 149 (by rfl) rfl
theorem ww_630 : (Jvm.Cond.methodLink "NetMenderLaw" (104 : Nat) ({ cls := "NetMender", name := "then", desc := "(III)I" } : Jvm.MethodName)) ∈ xw_ALL := xw_in3 150 (by rfl) rfl
theorem ww_631 : (Jvm.Cond.instanceMethod ({ cls := "NetMender", name := "then", desc := "(III)I" } : Jvm.MethodName)) ∈ xw_ALL := xw_in3 151 (by rfl) rfl
theorem ww_632 : (Jvm.Cond.selects "NetMender" ({ cls := "NetMender", name := "then", desc := "(III)I" } : Jvm.MethodName) ({ cls := "NetMender", name := "then", desc := "(III)I" } : Jvm.MethodName)) ∈ xw_ALL := xw_in3 152 (by rfl) rfl
theorem ww_633 : (Jvm.Cond.code ({ cls := "NetMender", name := "then", desc := "(III)I" } : Jvm.MethodName) prog_1_method_23_code (4 : Nat) (Option.some Jvm.ClassFile.FieldType.int)) ∈ xw_ALL := xw_in3 153 (by rfl) rfl
theorem ww_634 : (Jvm.Cond.methodLink "NetMender" (253 : Nat) ({ cls := "NetMender$Net", name := "become", desc := "(LNetMender$Net;)V" } : Jvm.MethodName)) ∈ xw_ALL := xw_in3 154 (by rfl) rfl
theorem ww_635 : (Jvm.Cond.instanceMethod ({ cls := "NetMender$Net", name := "become", desc := "(LNetMender$Net;)V" } : Jvm.MethodName)) ∈ xw_ALL := xw_in3 155 (by rfl) rfl
theorem ww_636 : (Jvm.Cond.selects "NetMender$Net" ({ cls := "NetMender$Net", name := "become", desc := "(LNetMender$Net;)V" } : Jvm.MethodName) ({ cls := "NetMender$Net", name := "become", desc := "(LNetMender$Net;)V" } : Jvm.MethodName)) ∈ xw_ALL := xw_in3 156 (by rfl) rfl
theorem ww_637 : (Jvm.Cond.code ({ cls := "NetMender$Net", name := "become", desc := "(LNetMender$Net;)V" } : Jvm.MethodName) prog_7_method_2_code (2 : Nat) (Option.none : Option Jvm.ClassFile.FieldType)) ∈ xw_ALL := xw_in3 157 (by rfl) rfl
theorem ww_638 : (Jvm.Cond.methodLink "NetMender$Net" (50 : Nat) ({ cls := "java/lang/System", name := "arraycopy", desc := "(Ljava/lang/Object;ILjava/lang/Object;II)V" } : Jvm.MethodName)) ∈ xw_ALL := xw_in3 158 (by rfl) rfl
theorem ww_639 : (Jvm.Cond.methodLink "NetMender$Net" (56 : Nat) ({ cls := "NetMender$Law", name := "become", desc := "(LNetMender$Law;)V" } : Jvm.MethodName)) ∈ xw_ALL := xw_in3 159 (by rfl) rfl
theorem ww_640 : (Jvm.Cond.methodLink "NetMenderLaw" (108 : Nat) ({ cls := "NetMender", name := "goes", desc := "(II)I" } : Jvm.MethodName)) ∈ xw_ALL := xw_in3 160 (by rfl) rfl
theorem ww_641 : (Jvm.Cond.instanceMethod ({ cls := "NetMender", name := "goes", desc := "(II)I" } : Jvm.MethodName)) ∈ xw_ALL := xw_in3 161 (by rfl) rfl
theorem ww_642 : (Jvm.Cond.selects "NetMender" ({ cls := "NetMender", name := "goes", desc := "(II)I" } : Jvm.MethodName) ({ cls := "NetMender", name := "goes", desc := "(II)I" } : Jvm.MethodName)) ∈ xw_ALL := xw_in3 162 (by rfl) rfl
theorem ww_643 : (Jvm.Cond.code ({ cls := "NetMender", name := "goes", desc := "(II)I" } : Jvm.MethodName) prog_1_method_24_code (5 : Nat) (Option.some Jvm.ClassFile.FieldType.int)) ∈ xw_ALL := xw_in3 163 (by rfl) rfl
theorem ww_644 : (Jvm.Cond.methodLink "NetMender" (256 : Nat) ({ cls := "NetMender$Grid", name := "firstOf", desc := "(I)I" } : Jvm.MethodName)) ∈ xw_ALL := xw_in3 164 (by rfl) rfl
theorem ww_645 : (Jvm.Cond.methodLink "NetMenderLaw" (112 : Nat) ({ cls := "NetMender", name := "mendAhead", desc := "(II)I" } : Jvm.MethodName)) ∈ xw_ALL := xw_in3 165 (by rfl) rfl
theorem ww_646 : (Jvm.Cond.instanceMethod ({ cls := "NetMender", name := "mendAhead", desc := "(II)I" } : Jvm.MethodName)) ∈ xw_ALL := xw_in3 166 (by rfl) rfl
theorem ww_647 : (Jvm.Cond.selects "NetMender" ({ cls := "NetMender", name := "mendAhead", desc := "(II)I" } : Jvm.MethodName) ({ cls := "NetMender", name := "mendAhead", desc := "(II)I" } : Jvm.MethodName)) ∈ xw_ALL := xw_in3 167 (by rfl) rfl
theorem ww_648 : (Jvm.Cond.code ({ cls := "NetMender", name := "mendAhead", desc := "(II)I" } : Jvm.MethodName) prog_1_method_25_code (7 : Nat) (Option.some Jvm.ClassFile.FieldType.int)) ∈ xw_ALL := xw_in3 168 (by rfl) rfl
theorem ww_649 : (Jvm.Cond.methodLink "NetMender" (259 : Nat) ({ cls := "NetMender$Net", name := "renewAll", desc := "()V" } : Jvm.MethodName)) ∈ xw_ALL := xw_in3 169 (by rfl) rfl
theorem ww_650 : (Jvm.Cond.instanceMethod ({ cls := "NetMender$Net", name := "renewAll", desc := "()V" } : Jvm.MethodName)) ∈ xw_ALL := xw_in3 170 (by rfl) rfl
theorem ww_651 : (Jvm.Cond.selects "NetMender$Net" ({ cls := "NetMender$Net", name := "renewAll", desc := "()V" } : Jvm.MethodName) ({ cls := "NetMender$Net", name := "renewAll", desc := "()V" } : Jvm.MethodName)) ∈ xw_ALL := xw_in3 171 (by rfl) rfl
theorem ww_652 : (Jvm.Cond.code ({ cls := "NetMender$Net", name := "renewAll", desc := "()V" } : Jvm.MethodName) prog_7_method_15_code (2 : Nat) (Option.none : Option Jvm.ClassFile.FieldType)) ∈ xw_ALL := xw_in3 172 (by rfl) rfl
theorem ww_653 : (Jvm.Cond.methodLink "NetMenderLaw" (116 : Nat) ({ cls := "NetMender", name := "hands", desc := "(II)I" } : Jvm.MethodName)) ∈ xw_ALL := xw_in3 173 (by rfl) rfl
theorem ww_654 : (Jvm.Cond.instanceMethod ({ cls := "NetMender", name := "hands", desc := "(II)I" } : Jvm.MethodName)) ∈ xw_ALL := xw_in3 174 (by rfl) rfl
theorem ww_655 : (Jvm.Cond.selects "NetMender" ({ cls := "NetMender", name := "hands", desc := "(II)I" } : Jvm.MethodName) ({ cls := "NetMender", name := "hands", desc := "(II)I" } : Jvm.MethodName)) ∈ xw_ALL := xw_in3 175 (by rfl) rfl
theorem ww_656 : (Jvm.Cond.code ({ cls := "NetMender", name := "hands", desc := "(II)I" } : Jvm.MethodName) prog_1_method_26_code (5 : Nat) (Option.some Jvm.ClassFile.FieldType.int)) ∈ xw_ALL := xw_in3 176 (by rfl) rfl
theorem ww_657 : (Jvm.Cond.methodLink "NetMenderLaw" (120 : Nat) ({ cls := "NetMender", name := "swimsOut", desc := "(I)J" } : Jvm.MethodName)) ∈ xw_ALL := xw_in3 177 (by rfl) rfl
theorem ww_658 : (Jvm.Cond.instanceMethod ({ cls := "NetMender", name := "swimsOut", desc := "(I)J" } : Jvm.MethodName)) ∈ xw_ALL := xw_in3 178 (by rfl) rfl
theorem ww_659 : (Jvm.Cond.selects "NetMender" ({ cls := "NetMender", name := "swimsOut", desc := "(I)J" } : Jvm.MethodName) ({ cls := "NetMender", name := "swimsOut", desc := "(I)J" } : Jvm.MethodName)) ∈ xw_ALL := xw_in3 179 (by rfl) rfl
theorem ww_660 : (Jvm.Cond.code ({ cls := "NetMender", name := "swimsOut", desc := "(I)J" } : Jvm.MethodName) prog_1_method_27_code (4 : Nat) (Option.some Jvm.ClassFile.FieldType.long)) ∈ xw_ALL := xw_in3 180 (by rfl) rfl
theorem ww_661 : (Jvm.Cond.constantLong "NetMender" (262 : Nat) (31 : Int64)) ∈ xw_ALL := xw_in3 181 (by rfl) rfl
theorem ww_662 : (Jvm.Cond.methodLink "NetMenderLaw" (125 : Nat) ({ cls := "NetMender", name := "voice", desc := "(III)I" } : Jvm.MethodName)) ∈ xw_ALL := xw_in3 182 (by rfl) rfl
theorem ww_663 : (Jvm.Cond.instanceMethod ({ cls := "NetMender", name := "voice", desc := "(III)I" } : Jvm.MethodName)) ∈ xw_ALL := xw_in3 183 (by rfl) rfl
theorem ww_664 : (Jvm.Cond.selects "NetMender" ({ cls := "NetMender", name := "voice", desc := "(III)I" } : Jvm.MethodName) ({ cls := "NetMender", name := "voice", desc := "(III)I" } : Jvm.MethodName)) ∈ xw_ALL := xw_in3 184 (by rfl) rfl
theorem ww_665 : (Jvm.Cond.code ({ cls := "NetMender", name := "voice", desc := "(III)I" } : Jvm.MethodName) prog_1_method_28_code (5 : Nat) (Option.some Jvm.ClassFile.FieldType.int)) ∈ xw_ALL := xw_in3 185 (by rfl) rfl
theorem ww_666 : (Jvm.Cond.methodLink "NetMender" (264 : Nat) ({ cls := "NetMender$Voices", name := "hear", desc := "(IIIII)I" } : Jvm.MethodName)) ∈ xw_ALL := xw_in3 186 (by rfl) rfl
theorem ww_667 : (Jvm.Cond.instanceMethod ({ cls := "NetMender$Voices", name := "hear", desc := "(IIIII)I" } : Jvm.MethodName)) ∈ xw_ALL := xw_in3 187 (by rfl) rfl
theorem ww_668 : (Jvm.Cond.selects "NetMender$Voices" ({ cls := "NetMender$Voices", name := "hear", desc := "(IIIII)I" } : Jvm.MethodName) ({ cls := "NetMender$Voices", name := "hear", desc := "(IIIII)I" } : Jvm.MethodName)) ∈ xw_ALL := xw_in3 188 (by rfl) rfl
theorem ww_669 : (Jvm.Cond.code ({ cls := "NetMender$Voices", name := "hear", desc := "(IIIII)I" } : Jvm.MethodName) prog_11_method_2_code (6 : Nat) (Option.some Jvm.ClassFile.FieldType.int)) ∈ xw_ALL := xw_in3 189 (by rfl) rfl
theorem ww_670 : (Jvm.Cond.methodLink "NetMender$Voices" (32 : Nat) ({ cls := "NetMender$Voices", name := "speak", desc := "(IIII)I" } : Jvm.MethodName)) ∈ xw_ALL := xw_in3 190 (by rfl) rfl
theorem ww_672 : (Jvm.Cond.instanceMethod ({ cls := "NetMender$Voices", name := "speak", desc := "(IIII)I" } : Jvm.MethodName)) ∈ xw_ALL := xw_in3 192 (by rfl) rfl
theorem ww_673 : (Jvm.Cond.code ({ cls := "NetMender$Voices", name := "speak", desc := "(IIII)I" } : Jvm.MethodName) prog_11_method_3_code (8 : Nat) (Option.some Jvm.ClassFile.FieldType.int)) ∈ xw_ALL := xw_in3 193 (by rfl) rfl
theorem ww_674 : (Jvm.Cond.fieldLink "NetMender$Voices" (36 : Nat) "NetMender$Voices" "BODIES" "[I") ∈ xw_ALL := xw_in3 194 (by rfl) rfl
theorem ww_676 : (Jvm.Cond.methodLink "NetMender$Voices" (39 : Nat) ({ cls := "NetMender$Kinds", name := "above", desc := "(I)I" } : Jvm.MethodName)) ∈ xw_ALL := xw_in3 196 (by rfl) rfl
theorem ww_677 : (Jvm.Cond.methodLink "NetMender$Voices" (45 : Nat) ({ cls := "NetMender$Voices", name := "bodySays", desc := "(IIII)I" } : Jvm.MethodName)) ∈ xw_ALL := xw_in3 197 (by rfl) rfl
theorem ww_679 : (Jvm.Cond.instanceMethod ({ cls := "NetMender$Voices", name := "bodySays", desc := "(IIII)I" } : Jvm.MethodName)) ∈ xw_ALL := xw_in3 199 (by rfl) rfl
theorem ww_680 : (Jvm.Cond.code ({ cls := "NetMender$Voices", name := "bodySays", desc := "(IIII)I" } : Jvm.MethodName) prog_11_method_4_code (7 : Nat) (Option.some Jvm.ClassFile.FieldType.int)) ∈ xw_ALL := xw_in3 200 (by rfl) rfl
theorem ww_681 : (Jvm.Cond.constant "NetMender" (272 : Nat) (-1000000006 : Int32)) ∈ xw_ALL := xw_in3 201 (by rfl) rfl
theorem ww_682 : (Jvm.Cond.methodLink "NetMenderLaw" (129 : Nat) ({ cls := "NetMender", name := "body", desc := "(I)I" } : Jvm.MethodName)) ∈ xw_ALL := xw_in3 202 (by rfl) rfl
theorem ww_683 : (Jvm.Cond.instanceMethod ({ cls := "NetMender", name := "body", desc := "(I)I" } : Jvm.MethodName)) ∈ xw_ALL := xw_in3 203 (by rfl) rfl
theorem ww_684 : (Jvm.Cond.selects "NetMender" ({ cls := "NetMender", name := "body", desc := "(I)I" } : Jvm.MethodName) ({ cls := "NetMender", name := "body", desc := "(I)I" } : Jvm.MethodName)) ∈ xw_ALL := xw_in3 204 (by rfl) rfl
theorem ww_685 : (Jvm.Cond.code ({ cls := "NetMender", name := "body", desc := "(I)I" } : Jvm.MethodName) prog_1_method_29_code (2 : Nat) (Option.some Jvm.ClassFile.FieldType.int)) ∈ xw_ALL := xw_in3 205 (by rfl) rfl
theorem ww_686 : (Jvm.Cond.methodLink "NetMenderLaw" (133 : Nat) ({ cls := "NetMender", name := "sheet", desc := "(III)I" } : Jvm.MethodName)) ∈ xw_ALL := xw_in3 206 (by rfl) rfl
theorem ww_687 : (Jvm.Cond.instanceMethod ({ cls := "NetMender", name := "sheet", desc := "(III)I" } : Jvm.MethodName)) ∈ xw_ALL := xw_in3 207 (by rfl) rfl
theorem ww_688 : (Jvm.Cond.selects "NetMender" ({ cls := "NetMender", name := "sheet", desc := "(III)I" } : Jvm.MethodName) ({ cls := "NetMender", name := "sheet", desc := "(III)I" } : Jvm.MethodName)) ∈ xw_ALL := xw_in3 208 (by rfl) rfl
theorem ww_689 : (Jvm.Cond.code ({ cls := "NetMender", name := "sheet", desc := "(III)I" } : Jvm.MethodName) prog_1_method_30_code (4 : Nat) (Option.some Jvm.ClassFile.FieldType.int)) ∈ xw_ALL := xw_in3 209 (by rfl) rfl
theorem ww_690 : (Jvm.Cond.methodLink "NetMender" (279 : Nat) ({ cls := "NetMender$Sheet", name := "begin", desc := "(II)V" } : Jvm.MethodName)) ∈ xw_ALL := xw_in3 210 (by rfl) rfl
theorem ww_691 : (Jvm.Cond.instanceMethod ({ cls := "NetMender$Sheet", name := "begin", desc := "(II)V" } : Jvm.MethodName)) ∈ xw_ALL := xw_in3 211 (by rfl) rfl
theorem ww_692 : (Jvm.Cond.selects "NetMender$Sheet" ({ cls := "NetMender$Sheet", name := "begin", desc := "(II)V" } : Jvm.MethodName) ({ cls := "NetMender$Sheet", name := "begin", desc := "(II)V" } : Jvm.MethodName)) ∈ xw_ALL := xw_in3 212 (by rfl) rfl
theorem ww_693 : (Jvm.Cond.code ({ cls := "NetMender$Sheet", name := "begin", desc := "(II)V" } : Jvm.MethodName) prog_9_method_3_code (4 : Nat) (Option.none : Option Jvm.ClassFile.FieldType)) ∈ xw_ALL := xw_in3 213 (by rfl) rfl
theorem ww_694 : (Jvm.Cond.methodLink "NetMenderLaw" (137 : Nat) ({ cls := "NetMender", name := "put", desc := "(III)I" } : Jvm.MethodName)) ∈ xw_ALL := xw_in3 214 (by rfl) rfl
theorem ww_695 : (Jvm.Cond.instanceMethod ({ cls := "NetMender", name := "put", desc := "(III)I" } : Jvm.MethodName)) ∈ xw_ALL := xw_in3 215 (by rfl) rfl
theorem ww_696 : (Jvm.Cond.selects "NetMender" ({ cls := "NetMender", name := "put", desc := "(III)I" } : Jvm.MethodName) ({ cls := "NetMender", name := "put", desc := "(III)I" } : Jvm.MethodName)) ∈ xw_ALL := xw_in3 216 (by rfl) rfl
theorem ww_697 : (Jvm.Cond.code ({ cls := "NetMender", name := "put", desc := "(III)I" } : Jvm.MethodName) prog_1_method_31_code (5 : Nat) (Option.some Jvm.ClassFile.FieldType.int)) ∈ xw_ALL := xw_in3 217 (by rfl) rfl
theorem ww_698 : (Jvm.Cond.methodLink "NetMender" (282 : Nat) ({ cls := "NetMender$Sheet", name := "write", desc := "(II)V" } : Jvm.MethodName)) ∈ xw_ALL := xw_in3 218 (by rfl) rfl
theorem ww_699 : (Jvm.Cond.instanceMethod ({ cls := "NetMender$Sheet", name := "write", desc := "(II)V" } : Jvm.MethodName)) ∈ xw_ALL := xw_in3 219 (by rfl) rfl
theorem ww_700 : (Jvm.Cond.selects "NetMender$Sheet" ({ cls := "NetMender$Sheet", name := "write", desc := "(II)V" } : Jvm.MethodName) ({ cls := "NetMender$Sheet", name := "write", desc := "(II)V" } : Jvm.MethodName)) ∈ xw_ALL := xw_in3 220 (by rfl) rfl
theorem ww_701 : (Jvm.Cond.code ({ cls := "NetMender$Sheet", name := "write", desc := "(II)V" } : Jvm.MethodName) prog_9_method_4_code (3 : Nat) (Option.none : Option Jvm.ClassFile.FieldType)) ∈ xw_ALL := xw_in3 221 (by rfl) rfl
theorem ww_702 : (Jvm.Cond.methodLink "NetMenderLaw" (141 : Nat) ({ cls := "NetMender", name := "move", desc := "(IIIII)I" } : Jvm.MethodName)) ∈ xw_ALL := xw_in3 222 (by rfl) rfl
theorem ww_703 : (Jvm.Cond.instanceMethod ({ cls := "NetMender", name := "move", desc := "(IIIII)I" } : Jvm.MethodName)) ∈ xw_ALL := xw_in3 223 (by rfl) rfl
theorem ww_704 : (Jvm.Cond.selects "NetMender" ({ cls := "NetMender", name := "move", desc := "(IIIII)I" } : Jvm.MethodName) ({ cls := "NetMender", name := "move", desc := "(IIIII)I" } : Jvm.MethodName)) ∈ xw_ALL := xw_in3 224 (by rfl) rfl
theorem ww_705 : (Jvm.Cond.code ({ cls := "NetMender", name := "move", desc := "(IIIII)I" } : Jvm.MethodName) prog_1_method_32_code (8 : Nat) (Option.some Jvm.ClassFile.FieldType.int)) ∈ xw_ALL := xw_in3 225 (by rfl) rfl
theorem ww_706 : (Jvm.Cond.methodLink "NetMender" (288 : Nat) ({ cls := "NetMender$Sheet", name := "hasStretch", desc := "(II)Z" } : Jvm.MethodName)) ∈ xw_ALL := xw_in3 226 (by rfl) rfl
theorem ww_707 : (Jvm.Cond.instanceMethod ({ cls := "NetMender$Sheet", name := "hasStretch", desc := "(II)Z" } : Jvm.MethodName)) ∈ xw_ALL := xw_in3 227 (by rfl) rfl
theorem ww_708 : (Jvm.Cond.selects "NetMender$Sheet" ({ cls := "NetMender$Sheet", name := "hasStretch", desc := "(II)Z" } : Jvm.MethodName) ({ cls := "NetMender$Sheet", name := "hasStretch", desc := "(II)Z" } : Jvm.MethodName)) ∈ xw_ALL := xw_in3 228 (by rfl) rfl
theorem ww_709 : (Jvm.Cond.code ({ cls := "NetMender$Sheet", name := "hasStretch", desc := "(II)Z" } : Jvm.MethodName) prog_9_method_5_code (3 : Nat) (Option.some Jvm.ClassFile.FieldType.boolean)) ∈ xw_ALL := xw_in3 229 (by rfl) rfl
theorem ww_710 : (Jvm.Cond.methodLink "NetMender" (292 : Nat) ({ cls := "java/lang/System", name := "arraycopy", desc := "(Ljava/lang/Object;ILjava/lang/Object;II)V" } : Jvm.MethodName)) ∈ xw_ALL := xw_in3 230 (by rfl) rfl
theorem ww_711 : (Jvm.Cond.methodLink "NetMenderLaw" (146 : Nat) ({ cls := "NetMender", name := "cutAll", desc := "(I)I" } : Jvm.MethodName)) ∈ xw_ALL := xw_in3 231 (by rfl) rfl
theorem ww_712 : (Jvm.Cond.instanceMethod ({ cls := "NetMender", name := "cutAll", desc := "(I)I" } : Jvm.MethodName)) ∈ xw_ALL := xw_in3 232 (by rfl) rfl
theorem ww_713 : (Jvm.Cond.selects "NetMender" ({ cls := "NetMender", name := "cutAll", desc := "(I)I" } : Jvm.MethodName) ({ cls := "NetMender", name := "cutAll", desc := "(I)I" } : Jvm.MethodName)) ∈ xw_ALL := xw_in3 233 (by rfl) rfl
theorem ww_714 : (Jvm.Cond.code ({ cls := "NetMender", name := "cutAll", desc := "(I)I" } : Jvm.MethodName) prog_1_method_33_code (6 : Nat) (Option.some Jvm.ClassFile.FieldType.int)) ∈ xw_ALL := xw_in3 234 (by rfl) rfl
theorem ww_715 : (Jvm.Cond.methodLink "NetMender" (298 : Nat) ({ cls := "NetMender", name := "readingError", desc := "(I)I" } : Jvm.MethodName)) ∈ xw_ALL := xw_in3 235 (by rfl) rfl
theorem ww_717 : (Jvm.Cond.instanceMethod ({ cls := "NetMender", name := "readingError", desc := "(I)I" } : Jvm.MethodName)) ∈ xw_ALL := xw_in3 237 (by rfl) rfl
theorem ww_718 : (Jvm.Cond.code ({ cls := "NetMender", name := "readingError", desc := "(I)I" } : Jvm.MethodName) prog_1_method_46_code (2 : Nat) (Option.some Jvm.ClassFile.FieldType.int)) ∈ xw_ALL := xw_in3 238 (by rfl) rfl
theorem ww_719 : (Jvm.Cond.methodLink "NetMenderLaw" (150 : Nat) ({ cls := "NetMender", name := "judge", desc := "(I)I" } : Jvm.MethodName)) ∈ xw_ALL := xw_in3 239 (by rfl) rfl
theorem ww_720 : (Jvm.Cond.instanceMethod ({ cls := "NetMender", name := "judge", desc := "(I)I" } : Jvm.MethodName)) ∈ xw_ALL := xw_in4 0 (by rfl) rfl
theorem ww_721 : (Jvm.Cond.selects "NetMender" ({ cls := "NetMender", name := "judge", desc := "(I)I" } : Jvm.MethodName) ({ cls := "NetMender", name := "judge", desc := "(I)I" } : Jvm.MethodName)) ∈ xw_ALL := xw_in4 1 (by rfl) rfl
theorem ww_722 : (Jvm.Cond.code ({ cls := "NetMender", name := "judge", desc := "(I)I" } : Jvm.MethodName) prog_1_method_34_code (5 : Nat) (Option.some Jvm.ClassFile.FieldType.int)) ∈ xw_ALL := xw_in4 2 (by rfl) rfl
theorem ww_723 : (Jvm.Cond.methodLink "NetMenderLaw" (154 : Nat) ({ cls := "NetMender", name := "image", desc := "()I" } : Jvm.MethodName)) ∈ xw_ALL := xw_in4 3 (by rfl) rfl
theorem ww_724 : (Jvm.Cond.instanceMethod ({ cls := "NetMender", name := "image", desc := "()I" } : Jvm.MethodName)) ∈ xw_ALL := xw_in4 4 (by rfl) rfl
theorem ww_725 : (Jvm.Cond.selects "NetMender" ({ cls := "NetMender", name := "image", desc := "()I" } : Jvm.MethodName) ({ cls := "NetMender", name := "image", desc := "()I" } : Jvm.MethodName)) ∈ xw_ALL := xw_in4 5 (by rfl) rfl
theorem ww_726 : (Jvm.Cond.code ({ cls := "NetMender", name := "image", desc := "()I" } : Jvm.MethodName) prog_1_method_35_code (1 : Nat) (Option.some Jvm.ClassFile.FieldType.int)) ∈ xw_ALL := xw_in4 6 (by rfl) rfl
theorem ww_727 : (Jvm.Cond.methodLink "NetMender" (301 : Nat) ({ cls := "NetMender$Quay", name := "become", desc := "(LNetMender$Quay;)V" } : Jvm.MethodName)) ∈ xw_ALL := xw_in4 7 (by rfl) rfl
theorem ww_728 : (Jvm.Cond.instanceMethod ({ cls := "NetMender$Quay", name := "become", desc := "(LNetMender$Quay;)V" } : Jvm.MethodName)) ∈ xw_ALL := xw_in4 8 (by rfl) rfl
theorem ww_729 : (Jvm.Cond.selects "NetMender$Quay" ({ cls := "NetMender$Quay", name := "become", desc := "(LNetMender$Quay;)V" } : Jvm.MethodName) ({ cls := "NetMender$Quay", name := "become", desc := "(LNetMender$Quay;)V" } : Jvm.MethodName)) ∈ xw_ALL := xw_in4 9 (by rfl) rfl
theorem ww_730 : (Jvm.Cond.code ({ cls := "NetMender$Quay", name := "become", desc := "(LNetMender$Quay;)V" } : Jvm.MethodName) prog_8_method_2_code (2 : Nat) (Option.none : Option Jvm.ClassFile.FieldType)) ∈ xw_ALL := xw_in4 10 (by rfl) rfl
theorem ww_731 : (Jvm.Cond.methodLink "NetMender$Quay" (41 : Nat) ({ cls := "NetMender$Net", name := "become", desc := "(LNetMender$Net;)V" } : Jvm.MethodName)) ∈ xw_ALL := xw_in4 11 (by rfl) rfl
theorem ww_732 : (Jvm.Cond.methodLink "NetMender$Quay" (45 : Nat) ({ cls := "java/lang/System", name := "arraycopy", desc := "(Ljava/lang/Object;ILjava/lang/Object;II)V" } : Jvm.MethodName)) ∈ xw_ALL := xw_in4 12 (by rfl) rfl
theorem ww_733 : (Jvm.Cond.methodLink "NetMenderLaw" (158 : Nat) ({ cls := "NetMender", name := "restore", desc := "()I" } : Jvm.MethodName)) ∈ xw_ALL := xw_in4 13 (by rfl) rfl
theorem ww_734 : (Jvm.Cond.instanceMethod ({ cls := "NetMender", name := "restore", desc := "()I" } : Jvm.MethodName)) ∈ xw_ALL := xw_in4 14 (by rfl) rfl
theorem ww_735 : (Jvm.Cond.selects "NetMender" ({ cls := "NetMender", name := "restore", desc := "()I" } : Jvm.MethodName) ({ cls := "NetMender", name := "restore", desc := "()I" } : Jvm.MethodName)) ∈ xw_ALL := xw_in4 15 (by rfl) rfl
theorem ww_736 : (Jvm.Cond.code ({ cls := "NetMender", name := "restore", desc := "()I" } : Jvm.MethodName) prog_1_method_36_code (1 : Nat) (Option.some Jvm.ClassFile.FieldType.int)) ∈ xw_ALL := xw_in4 16 (by rfl) rfl
theorem ww_737 : (Jvm.Cond.methodLink "NetMenderLaw" (162 : Nat) ({ cls := "NetMender", name := "tell", desc := "(I)I" } : Jvm.MethodName)) ∈ xw_ALL := xw_in4 17 (by rfl) rfl
theorem ww_738 : (Jvm.Cond.instanceMethod ({ cls := "NetMender", name := "tell", desc := "(I)I" } : Jvm.MethodName)) ∈ xw_ALL := xw_in4 18 (by rfl) rfl
theorem ww_739 : (Jvm.Cond.selects "NetMender" ({ cls := "NetMender", name := "tell", desc := "(I)I" } : Jvm.MethodName) ({ cls := "NetMender", name := "tell", desc := "(I)I" } : Jvm.MethodName)) ∈ xw_ALL := xw_in4 19 (by rfl) rfl
theorem ww_740 : (Jvm.Cond.code ({ cls := "NetMender", name := "tell", desc := "(I)I" } : Jvm.MethodName) prog_1_method_37_code (2 : Nat) (Option.some Jvm.ClassFile.FieldType.int)) ∈ xw_ALL := xw_in4 20 (by rfl) rfl
theorem ww_741 : (Jvm.Cond.methodLink "NetMenderLaw" (166 : Nat) ({ cls := "NetMender", name := "check", desc := "()I" } : Jvm.MethodName)) ∈ xw_ALL := xw_in4 21 (by rfl) rfl
theorem ww_742 : (Jvm.Cond.instanceMethod ({ cls := "NetMender", name := "check", desc := "()I" } : Jvm.MethodName)) ∈ xw_ALL := xw_in4 22 (by rfl) rfl
theorem ww_743 : (Jvm.Cond.selects "NetMender" ({ cls := "NetMender", name := "check", desc := "()I" } : Jvm.MethodName) ({ cls := "NetMender", name := "check", desc := "()I" } : Jvm.MethodName)) ∈ xw_ALL := xw_in4 23 (by rfl) rfl
theorem ww_744 : (Jvm.Cond.code ({ cls := "NetMender", name := "check", desc := "()I" } : Jvm.MethodName) prog_1_method_38_code (3 : Nat) (Option.some Jvm.ClassFile.FieldType.int)) ∈ xw_ALL := xw_in4 24 (by rfl) rfl
theorem ww_745 : (Jvm.Cond.methodLink "NetMenderLaw" (170 : Nat) ({ cls := "NetMender", name := "count", desc := "(I)I" } : Jvm.MethodName)) ∈ xw_ALL := xw_in4 25 (by rfl) rfl
theorem ww_746 : (Jvm.Cond.instanceMethod ({ cls := "NetMender", name := "count", desc := "(I)I" } : Jvm.MethodName)) ∈ xw_ALL := xw_in4 26 (by rfl) rfl
theorem ww_747 : (Jvm.Cond.selects "NetMender" ({ cls := "NetMender", name := "count", desc := "(I)I" } : Jvm.MethodName) ({ cls := "NetMender", name := "count", desc := "(I)I" } : Jvm.MethodName)) ∈ xw_ALL := xw_in4 27 (by rfl) rfl
theorem ww_748 : (Jvm.Cond.code ({ cls := "NetMender", name := "count", desc := "(I)I" } : Jvm.MethodName) prog_1_method_39_code (2 : Nat) (Option.some Jvm.ClassFile.FieldType.int)) ∈ xw_ALL := xw_in4 28 (by rfl) rfl
theorem ww_749 : (Jvm.Cond.methodLink "NetMender" (313 : Nat) ({ cls := "NetMender$Net", name := "firstThreads", desc := "()I" } : Jvm.MethodName)) ∈ xw_ALL := xw_in4 29 (by rfl) rfl
theorem ww_750 : (Jvm.Cond.instanceMethod ({ cls := "NetMender$Net", name := "firstThreads", desc := "()I" } : Jvm.MethodName)) ∈ xw_ALL := xw_in4 30 (by rfl) rfl
theorem ww_751 : (Jvm.Cond.selects "NetMender$Net" ({ cls := "NetMender$Net", name := "firstThreads", desc := "()I" } : Jvm.MethodName) ({ cls := "NetMender$Net", name := "firstThreads", desc := "()I" } : Jvm.MethodName)) ∈ xw_ALL := xw_in4 31 (by rfl) rfl
theorem ww_752 : (Jvm.Cond.code ({ cls := "NetMender$Net", name := "firstThreads", desc := "()I" } : Jvm.MethodName) prog_7_method_11_code (3 : Nat) (Option.some Jvm.ClassFile.FieldType.int)) ∈ xw_ALL := xw_in4 32 (by rfl) rfl
theorem ww_753 : (Jvm.Cond.methodLink "NetMender" (316 : Nat) ({ cls := "NetMender$Net", name := "wornInAll", desc := "()I" } : Jvm.MethodName)) ∈ xw_ALL := xw_in4 33 (by rfl) rfl
theorem ww_754 : (Jvm.Cond.instanceMethod ({ cls := "NetMender$Net", name := "wornInAll", desc := "()I" } : Jvm.MethodName)) ∈ xw_ALL := xw_in4 34 (by rfl) rfl
theorem ww_755 : (Jvm.Cond.selects "NetMender$Net" ({ cls := "NetMender$Net", name := "wornInAll", desc := "()I" } : Jvm.MethodName) ({ cls := "NetMender$Net", name := "wornInAll", desc := "()I" } : Jvm.MethodName)) ∈ xw_ALL := xw_in4 35 (by rfl) rfl
theorem ww_756 : (Jvm.Cond.code ({ cls := "NetMender$Net", name := "wornInAll", desc := "()I" } : Jvm.MethodName) prog_7_method_12_code (3 : Nat) (Option.some Jvm.ClassFile.FieldType.int)) ∈ xw_ALL := xw_in4 36 (by rfl) rfl
theorem ww_757 : (Jvm.Cond.methodLink "NetMenderLaw" (174 : Nat) ({ cls := "NetMender", name := "told", desc := "(I)I" } : Jvm.MethodName)) ∈ xw_ALL := xw_in4 37 (by rfl) rfl
theorem ww_758 : (Jvm.Cond.instanceMethod ({ cls := "NetMender", name := "told", desc := "(I)I" } : Jvm.MethodName)) ∈ xw_ALL := xw_in4 38 (by rfl) rfl
theorem ww_759 : (Jvm.Cond.selects "NetMender" ({ cls := "NetMender", name := "told", desc := "(I)I" } : Jvm.MethodName) ({ cls := "NetMender", name := "told", desc := "(I)I" } : Jvm.MethodName)) ∈ xw_ALL := xw_in4 39 (by rfl) rfl
theorem ww_760 : (Jvm.Cond.code ({ cls := "NetMender", name := "told", desc := "(I)I" } : Jvm.MethodName) prog_1_method_40_code (2 : Nat) (Option.some Jvm.ClassFile.FieldType.int)) ∈ xw_ALL := xw_in4 40 (by rfl) rfl
theorem ww_761 : (Jvm.Cond.classLink "NetMenderLaw" (10 : Nat) "NetMenderModel") ∈ xw_ALL := xw_in4 41 (by rfl) rfl
theorem ww_762 : (Jvm.Cond.instantiable "NetMenderModel" (23 : Nat)) ∈ xw_ALL := xw_in4 42 (by rfl) rfl
theorem ww_763 : (Jvm.Cond.methodLink "NetMenderLaw" (12 : Nat) ({ cls := "NetMenderModel", name := "<init>", desc := "()V" } : Jvm.MethodName)) ∈ xw_ALL := xw_in4 43 (by rfl) rfl
theorem ww_764 : (Jvm.Cond.instanceMethod ({ cls := "NetMenderModel", name := "<init>", desc := "()V" } : Jvm.MethodName)) ∈ xw_ALL := xw_in4 44 (by rfl) rfl
theorem ww_765 : (Jvm.Cond.code ({ cls := "NetMenderModel", name := "<init>", desc := "()V" } : Jvm.MethodName) prog_13_method_1_code (2 : Nat) (Option.none : Option Jvm.ClassFile.FieldType)) ∈ xw_ALL := xw_in4 45 (by rfl) rfl
theorem ww_766 : (Jvm.Cond.methodLink "NetMenderModel" (1 : Nat) ({ cls := "java/lang/Object", name := "<init>", desc := "()V" } : Jvm.MethodName)) ∈ xw_ALL := xw_in4 46 (by rfl) rfl
theorem ww_767 : (Jvm.Cond.fieldLink "NetMenderModel" (7 : Nat) "NetMenderModel" "s" "[I") ∈ xw_ALL := xw_in4 47 (by rfl) rfl
theorem ww_768 : (Jvm.Cond.fieldLink "NetMenderModel" (13 : Nat) "NetMenderModel" "kept" "[I") ∈ xw_ALL := xw_in4 48 (by rfl) rfl
theorem ww_769 : (Jvm.Cond.fieldLink "NetMenderModel" (16 : Nat) "NetMenderModel" "put" "[I") ∈ xw_ALL := xw_in4 49 (by rfl) rfl
theorem ww_770 : (Jvm.Cond.fieldLink "NetMenderModel" (303 : Nat) "NetMenderModel" "images" "I") ∈ xw_ALL := xw_in4 50 (by rfl) rfl
theorem ww_771 : (Jvm.Cond.fieldLink "NetMenderModel" (19 : Nat) "NetMenderModel" "errors" "[I") ∈ xw_ALL := xw_in4 51 (by rfl) rfl
theorem ww_772 : (Jvm.Cond.fieldLink "NetMenderModel" (84 : Nat) "NetMenderModel" "at" "I") ∈ xw_ALL := xw_in4 52 (by rfl) rfl
theorem ww_773 : (Jvm.Cond.fieldLink "NetMenderModel" (118 : Nat) "NetMenderModel" "open" "I") ∈ xw_ALL := xw_in4 53 (by rfl) rfl
theorem ww_774 : (Jvm.Cond.fieldLink "NetMenderModel" (91 : Nat) "NetMenderModel" "steps" "I") ∈ xw_ALL := xw_in4 54 (by rfl) rfl
theorem ww_775 : (Jvm.Cond.fieldLink "NetMenderModel" (88 : Nat) "NetMenderModel" "use" "I") ∈ xw_ALL := xw_in4 55 (by rfl) rfl
theorem ww_776 : (Jvm.Cond.fieldLink "NetMenderModel" (22 : Nat) "NetMenderModel" "step" "[I") ∈ xw_ALL := xw_in4 56 (by rfl) rfl
theorem ww_777 : (Jvm.Cond.fieldLink "NetMenderModel" (25 : Nat) "NetMenderModel" "named" "[I") ∈ xw_ALL := xw_in4 57 (by rfl) rfl
theorem ww_778 : (Jvm.Cond.fieldLink "NetMenderModel" (28 : Nat) "NetMenderModel" "pile" "[I") ∈ xw_ALL := xw_in4 58 (by rfl) rfl
theorem ww_779 : (Jvm.Cond.fieldLink "NetMenderModel" (31 : Nat) "NetMenderModel" "cuts" "[I") ∈ xw_ALL := xw_in4 59 (by rfl) rfl
theorem ww_780 : (Jvm.Cond.fieldLink "NetMenderModel" (34 : Nat) "NetMenderModel" "holes" "[I") ∈ xw_ALL := xw_in4 60 (by rfl) rfl
theorem ww_781 : (Jvm.Cond.fieldLink "NetMenderModel" (37 : Nat) "NetMenderModel" "busy" "[I") ∈ xw_ALL := xw_in4 61 (by rfl) rfl
theorem ww_782 : (Jvm.Cond.fieldLink "NetMenderModel" (40 : Nat) "NetMenderModel" "trace" "[I") ∈ xw_ALL := xw_in4 62 (by rfl) rfl
theorem ww_783 : (Jvm.Cond.fieldLink "NetMenderModel" (266 : Nat) "NetMenderModel" "traced" "I") ∈ xw_ALL := xw_in4 63 (by rfl) rfl
theorem ww_784 : (Jvm.Cond.fieldLink "NetMenderModel" (269 : Nat) "NetMenderModel" "speaks" "I") ∈ xw_ALL := xw_in4 64 (by rfl) rfl
theorem ww_785 : (Jvm.Cond.fieldLink "NetMenderModel" (293 : Nat) "NetMenderModel" "isParted" "Z") ∈ xw_ALL := xw_in4 65 (by rfl) rfl
theorem ww_786 : (Jvm.Cond.fieldLink "NetMenderModel" (43 : Nat) "NetMenderModel" "bits" "[I") ∈ xw_ALL := xw_in4 66 (by rfl) rfl
theorem ww_787 : (Jvm.Cond.fieldLink "NetMenderModel" (46 : Nat) "NetMenderModel" "sizes" "[I") ∈ xw_ALL := xw_in4 67 (by rfl) rfl
theorem ww_788 : (Jvm.Cond.fieldLink "NetMenderModel" (49 : Nat) "NetMenderModel" "number" "[I") ∈ xw_ALL := xw_in4 68 (by rfl) rfl
theorem ww_789 : (Jvm.Cond.fieldLink "NetMenderModel" (52 : Nat) "NetMenderModel" "aside" "[I") ∈ xw_ALL := xw_in4 69 (by rfl) rfl
theorem ww_790 : (Jvm.Cond.laysFinal "NetMenderModel" "NetMenderModel" "s" "[I") ∈ xw_ALL := xw_in4 70 (by rfl) rfl
theorem ww_792 : (Jvm.Cond.laysFinal "NetMenderModel" "NetMenderModel" "kept" "[I") ∈ xw_ALL := xw_in4 72 (by rfl) rfl
theorem ww_794 : (Jvm.Cond.laysFinal "NetMenderModel" "NetMenderModel" "put" "[I") ∈ xw_ALL := xw_in4 74 (by rfl) rfl
theorem ww_796 : (Jvm.Cond.lays "NetMenderModel" "NetMenderModel" "images" "I") ∈ xw_ALL := xw_in4 76 (by rfl) rfl
theorem ww_798 : (Jvm.Cond.laysFinal "NetMenderModel" "NetMenderModel" "errors" "[I") ∈ xw_ALL := xw_in4 78 (by rfl) rfl
theorem ww_800 : (Jvm.Cond.lays "NetMenderModel" "NetMenderModel" "at" "I") ∈ xw_ALL := xw_in4 80 (by rfl) rfl
theorem ww_802 : (Jvm.Cond.lays "NetMenderModel" "NetMenderModel" "open" "I") ∈ xw_ALL := xw_in4 82 (by rfl) rfl
theorem ww_804 : (Jvm.Cond.lays "NetMenderModel" "NetMenderModel" "steps" "I") ∈ xw_ALL := xw_in4 84 (by rfl) rfl
theorem ww_806 : (Jvm.Cond.lays "NetMenderModel" "NetMenderModel" "use" "I") ∈ xw_ALL := xw_in4 86 (by rfl) rfl
theorem ww_808 : (Jvm.Cond.laysFinal "NetMenderModel" "NetMenderModel" "step" "[I") ∈ xw_ALL := xw_in4 88 (by rfl) rfl
theorem ww_810 : (Jvm.Cond.laysFinal "NetMenderModel" "NetMenderModel" "named" "[I") ∈ xw_ALL := xw_in4 90 (by rfl) rfl
theorem ww_812 : (Jvm.Cond.laysFinal "NetMenderModel" "NetMenderModel" "pile" "[I") ∈ xw_ALL := xw_in4 92 (by rfl) rfl
theorem ww_814 : (Jvm.Cond.laysFinal "NetMenderModel" "NetMenderModel" "cuts" "[I") ∈ xw_ALL := xw_in4 94 (by rfl) rfl
theorem ww_816 : (Jvm.Cond.laysFinal "NetMenderModel" "NetMenderModel" "holes" "[I") ∈ xw_ALL := xw_in4 96 (by rfl) rfl
theorem ww_818 : (Jvm.Cond.laysFinal "NetMenderModel" "NetMenderModel" "busy" "[I") ∈ xw_ALL := xw_in4 98 (by rfl) rfl
theorem ww_820 : (Jvm.Cond.laysFinal "NetMenderModel" "NetMenderModel" "trace" "[I") ∈ xw_ALL := xw_in4 100 (by rfl) rfl
theorem ww_822 : (Jvm.Cond.lays "NetMenderModel" "NetMenderModel" "traced" "I") ∈ xw_ALL := xw_in4 102 (by rfl) rfl
theorem ww_824 : (Jvm.Cond.lays "NetMenderModel" "NetMenderModel" "speaks" "I") ∈ xw_ALL := xw_in4 104 (by rfl) rfl
theorem ww_826 : (Jvm.Cond.lays "NetMenderModel" "NetMenderModel" "isParted" "Z") ∈ xw_ALL := xw_in4 106 (by rfl) rfl
theorem ww_828 : (Jvm.Cond.laysFinal "NetMenderModel" "NetMenderModel" "bits" "[I") ∈ xw_ALL := xw_in4 108 (by rfl) rfl
theorem ww_830 : (Jvm.Cond.laysFinal "NetMenderModel" "NetMenderModel" "sizes" "[I") ∈ xw_ALL := xw_in4 110 (by rfl) rfl
theorem ww_832 : (Jvm.Cond.laysFinal "NetMenderModel" "NetMenderModel" "number" "[I") ∈ xw_ALL := xw_in4 112 (by rfl) rfl
theorem ww_834 : (Jvm.Cond.laysFinal "NetMenderModel" "NetMenderModel" "aside" "[I") ∈ xw_ALL := xw_in4 114 (by rfl) rfl
theorem ww_837 : (Jvm.Cond.methodLink "NetMenderLaw" (54 : Nat) ({ cls := "NetMenderModel", name := "feed", desc := "(JI)I" } : Jvm.MethodName)) ∈ xw_ALL := xw_in4 117 (by rfl) rfl
theorem ww_838 : (Jvm.Cond.instanceMethod ({ cls := "NetMenderModel", name := "feed", desc := "(JI)I" } : Jvm.MethodName)) ∈ xw_ALL := xw_in4 118 (by rfl) rfl
theorem ww_839 : (Jvm.Cond.selects "NetMenderModel" ({ cls := "NetMenderModel", name := "feed", desc := "(JI)I" } : Jvm.MethodName) ({ cls := "NetMenderModel", name := "feed", desc := "(JI)I" } : Jvm.MethodName)) ∈ xw_ALL := xw_in4 119 (by rfl) rfl
theorem ww_840 : (Jvm.Cond.code ({ cls := "NetMenderModel", name := "feed", desc := "(JI)I" } : Jvm.MethodName) prog_13_method_22_code (5 : Nat) (Option.some Jvm.ClassFile.FieldType.int)) ∈ xw_ALL := xw_in4 120 (by rfl) rfl
theorem ww_841 : (Jvm.Cond.methodLink "NetMenderModel" (60 : Nat) ({ cls := "NetMenderModel", name := "in", desc := "(III)Z" } : Jvm.MethodName)) ∈ xw_ALL := xw_in4 121 (by rfl) rfl
theorem ww_842 : (Jvm.Cond.static ({ cls := "NetMenderModel", name := "in", desc := "(III)Z" } : Jvm.MethodName)) ∈ xw_ALL := xw_in4 122 (by rfl) rfl
theorem ww_843 : (Jvm.Cond.code ({ cls := "NetMenderModel", name := "in", desc := "(III)Z" } : Jvm.MethodName) prog_13_method_3_code (3 : Nat) (Option.some Jvm.ClassFile.FieldType.boolean)) ∈ xw_ALL := xw_in4 123 (by rfl) rfl
theorem ww_844 : (Jvm.Cond.methodLink "NetMenderModel" (79 : Nat) ({ cls := "NetMenderModel", name := "error", desc := "(I)I" } : Jvm.MethodName)) ∈ xw_ALL := xw_in4 124 (by rfl) rfl
theorem ww_846 : (Jvm.Cond.instanceMethod ({ cls := "NetMenderModel", name := "error", desc := "(I)I" } : Jvm.MethodName)) ∈ xw_ALL := xw_in4 126 (by rfl) rfl
theorem ww_847 : (Jvm.Cond.code ({ cls := "NetMenderModel", name := "error", desc := "(I)I" } : Jvm.MethodName) prog_13_method_2_code (2 : Nat) (Option.some Jvm.ClassFile.FieldType.int)) ∈ xw_ALL := xw_in4 127 (by rfl) rfl
theorem ww_848 : (Jvm.Cond.constant "NetMenderModel" (55 : Nat) (-1000000000 : Int32)) ∈ xw_ALL := xw_in4 128 (by rfl) rfl
theorem ww_849 : (Jvm.Cond.constantLong "NetMenderModel" (82 : Nat) (255 : Int64)) ∈ xw_ALL := xw_in4 129 (by rfl) rfl
theorem ww_850 : (Jvm.Cond.methodLink "NetMenderLaw" (58 : Nat) ({ cls := "NetMenderModel", name := "text", desc := "(I)I" } : Jvm.MethodName)) ∈ xw_ALL := xw_in4 130 (by rfl) rfl
theorem ww_851 : (Jvm.Cond.instanceMethod ({ cls := "NetMenderModel", name := "text", desc := "(I)I" } : Jvm.MethodName)) ∈ xw_ALL := xw_in4 131 (by rfl) rfl
theorem ww_852 : (Jvm.Cond.selects "NetMenderModel" ({ cls := "NetMenderModel", name := "text", desc := "(I)I" } : Jvm.MethodName) ({ cls := "NetMenderModel", name := "text", desc := "(I)I" } : Jvm.MethodName)) ∈ xw_ALL := xw_in4 132 (by rfl) rfl
theorem ww_853 : (Jvm.Cond.code ({ cls := "NetMenderModel", name := "text", desc := "(I)I" } : Jvm.MethodName) prog_13_method_34_code (5 : Nat) (Option.some Jvm.ClassFile.FieldType.int)) ∈ xw_ALL := xw_in4 133 (by rfl) rfl
theorem ww_854 : (Jvm.Cond.methodLink "NetMenderModel" (127 : Nat) ({ cls := "NetMenderModel", name := "whole", desc := "()Z" } : Jvm.MethodName)) ∈ xw_ALL := xw_in4 134 (by rfl) rfl
theorem ww_856 : (Jvm.Cond.instanceMethod ({ cls := "NetMenderModel", name := "whole", desc := "()Z" } : Jvm.MethodName)) ∈ xw_ALL := xw_in4 136 (by rfl) rfl
theorem ww_857 : (Jvm.Cond.code ({ cls := "NetMenderModel", name := "whole", desc := "()Z" } : Jvm.MethodName) prog_13_method_26_code (1 : Nat) (Option.some Jvm.ClassFile.FieldType.boolean)) ∈ xw_ALL := xw_in4 137 (by rfl) rfl
theorem ww_858 : (Jvm.Cond.methodLink "NetMenderModel" (94 : Nat) ({ cls := "NetMenderModel", name := "both", desc := "()Z" } : Jvm.MethodName)) ∈ xw_ALL := xw_in4 138 (by rfl) rfl
theorem ww_860 : (Jvm.Cond.instanceMethod ({ cls := "NetMenderModel", name := "both", desc := "()Z" } : Jvm.MethodName)) ∈ xw_ALL := xw_in4 140 (by rfl) rfl
theorem ww_861 : (Jvm.Cond.code ({ cls := "NetMenderModel", name := "both", desc := "()Z" } : Jvm.MethodName) prog_13_method_27_code (1 : Nat) (Option.some Jvm.ClassFile.FieldType.boolean)) ∈ xw_ALL := xw_in4 141 (by rfl) rfl
theorem ww_862 : (Jvm.Cond.methodLink "NetMenderModel" (106 : Nat) ({ cls := "NetMenderModel", name := "compared", desc := "()Z" } : Jvm.MethodName)) ∈ xw_ALL := xw_in4 142 (by rfl) rfl
theorem ww_864 : (Jvm.Cond.instanceMethod ({ cls := "NetMenderModel", name := "compared", desc := "()Z" } : Jvm.MethodName)) ∈ xw_ALL := xw_in4 144 (by rfl) rfl
theorem ww_865 : (Jvm.Cond.code ({ cls := "NetMenderModel", name := "compared", desc := "()Z" } : Jvm.MethodName) prog_13_method_28_code (2 : Nat) (Option.some Jvm.ClassFile.FieldType.boolean)) ∈ xw_ALL := xw_in4 145 (by rfl) rfl
theorem ww_866 : (Jvm.Cond.methodLink "NetMenderModel" (109 : Nat) ({ cls := "NetMenderModel", name := "sum", desc := "()Z" } : Jvm.MethodName)) ∈ xw_ALL := xw_in4 146 (by rfl) rfl
theorem ww_868 : (Jvm.Cond.instanceMethod ({ cls := "NetMenderModel", name := "sum", desc := "()Z" } : Jvm.MethodName)) ∈ xw_ALL := xw_in4 148 (by rfl) rfl
theorem ww_869 : (Jvm.Cond.code ({ cls := "NetMenderModel", name := "sum", desc := "()Z" } : Jvm.MethodName) prog_13_method_29_code (2 : Nat) (Option.some Jvm.ClassFile.FieldType.boolean)) ∈ xw_ALL := xw_in4 149 (by rfl) rfl
theorem ww_870 : (Jvm.Cond.methodLink "NetMenderModel" (112 : Nat) ({ cls := "NetMenderModel", name := "product", desc := "()Z" } : Jvm.MethodName)) ∈ xw_ALL := xw_in4 150 (by rfl) rfl
theorem ww_872 : (Jvm.Cond.instanceMethod ({ cls := "NetMenderModel", name := "product", desc := "()Z" } : Jvm.MethodName)) ∈ xw_ALL := xw_in4 152 (by rfl) rfl
theorem ww_873 : (Jvm.Cond.code ({ cls := "NetMenderModel", name := "product", desc := "()Z" } : Jvm.MethodName) prog_13_method_30_code (2 : Nat) (Option.some Jvm.ClassFile.FieldType.boolean)) ∈ xw_ALL := xw_in4 153 (by rfl) rfl
theorem ww_874 : (Jvm.Cond.methodLink "NetMenderModel" (115 : Nat) ({ cls := "NetMenderModel", name := "one", desc := "()Z" } : Jvm.MethodName)) ∈ xw_ALL := xw_in4 154 (by rfl) rfl
theorem ww_876 : (Jvm.Cond.instanceMethod ({ cls := "NetMenderModel", name := "one", desc := "()Z" } : Jvm.MethodName)) ∈ xw_ALL := xw_in4 156 (by rfl) rfl
theorem ww_877 : (Jvm.Cond.code ({ cls := "NetMenderModel", name := "one", desc := "()Z" } : Jvm.MethodName) prog_13_method_32_code (4 : Nat) (Option.some Jvm.ClassFile.FieldType.boolean)) ∈ xw_ALL := xw_in4 157 (by rfl) rfl
theorem ww_878 : (Jvm.Cond.methodLink "NetMenderModel" (98 : Nat) ({ cls := "NetMenderModel", name := "look", desc := "()I" } : Jvm.MethodName)) ∈ xw_ALL := xw_in4 158 (by rfl) rfl
theorem ww_880 : (Jvm.Cond.instanceMethod ({ cls := "NetMenderModel", name := "look", desc := "()I" } : Jvm.MethodName)) ∈ xw_ALL := xw_in4 160 (by rfl) rfl
theorem ww_881 : (Jvm.Cond.code ({ cls := "NetMenderModel", name := "look", desc := "()I" } : Jvm.MethodName) prog_13_method_23_code (1 : Nat) (Option.some Jvm.ClassFile.FieldType.int)) ∈ xw_ALL := xw_in4 161 (by rfl) rfl
theorem ww_882 : (Jvm.Cond.methodLink "NetMenderModel" (121 : Nat) ({ cls := "NetMenderModel", name := "isName", desc := "(I)Z" } : Jvm.MethodName)) ∈ xw_ALL := xw_in4 162 (by rfl) rfl
theorem ww_884 : (Jvm.Cond.instanceMethod ({ cls := "NetMenderModel", name := "isName", desc := "(I)Z" } : Jvm.MethodName)) ∈ xw_ALL := xw_in4 164 (by rfl) rfl
theorem ww_885 : (Jvm.Cond.code ({ cls := "NetMenderModel", name := "isName", desc := "(I)Z" } : Jvm.MethodName) prog_13_method_24_code (2 : Nat) (Option.some Jvm.ClassFile.FieldType.boolean)) ∈ xw_ALL := xw_in4 165 (by rfl) rfl
theorem ww_886 : (Jvm.Cond.methodLink "NetMenderModel" (102 : Nat) ({ cls := "NetMenderModel", name := "step1", desc := "(II)V" } : Jvm.MethodName)) ∈ xw_ALL := xw_in4 166 (by rfl) rfl
theorem ww_888 : (Jvm.Cond.instanceMethod ({ cls := "NetMenderModel", name := "step1", desc := "(II)V" } : Jvm.MethodName)) ∈ xw_ALL := xw_in4 168 (by rfl) rfl
theorem ww_889 : (Jvm.Cond.code ({ cls := "NetMenderModel", name := "step1", desc := "(II)V" } : Jvm.MethodName) prog_13_method_25_code (3 : Nat) (Option.none : Option Jvm.ClassFile.FieldType)) ∈ xw_ALL := xw_in4 169 (by rfl) rfl
theorem ww_890 : (Jvm.Cond.methodLink "NetMenderModel" (124 : Nat) ({ cls := "NetMenderModel", name := "opens", desc := "()Z" } : Jvm.MethodName)) ∈ xw_ALL := xw_in4 170 (by rfl) rfl
theorem ww_892 : (Jvm.Cond.instanceMethod ({ cls := "NetMenderModel", name := "opens", desc := "()Z" } : Jvm.MethodName)) ∈ xw_ALL := xw_in4 172 (by rfl) rfl
theorem ww_893 : (Jvm.Cond.code ({ cls := "NetMenderModel", name := "opens", desc := "()Z" } : Jvm.MethodName) prog_13_method_31_code (1 : Nat) (Option.some Jvm.ClassFile.FieldType.boolean)) ∈ xw_ALL := xw_in4 173 (by rfl) rfl
theorem ww_894 : (Jvm.Cond.methodLink "NetMenderLaw" (62 : Nat) ({ cls := "NetMenderModel", name := "untell", desc := "(I)I" } : Jvm.MethodName)) ∈ xw_ALL := xw_in4 174 (by rfl) rfl
theorem ww_895 : (Jvm.Cond.instanceMethod ({ cls := "NetMenderModel", name := "untell", desc := "(I)I" } : Jvm.MethodName)) ∈ xw_ALL := xw_in4 175 (by rfl) rfl
theorem ww_896 : (Jvm.Cond.selects "NetMenderModel" ({ cls := "NetMenderModel", name := "untell", desc := "(I)I" } : Jvm.MethodName) ({ cls := "NetMenderModel", name := "untell", desc := "(I)I" } : Jvm.MethodName)) ∈ xw_ALL := xw_in4 176 (by rfl) rfl
theorem ww_897 : (Jvm.Cond.code ({ cls := "NetMenderModel", name := "untell", desc := "(I)I" } : Jvm.MethodName) prog_13_method_35_code (3 : Nat) (Option.some Jvm.ClassFile.FieldType.int)) ∈ xw_ALL := xw_in4 177 (by rfl) rfl
theorem ww_898 : (Jvm.Cond.methodLink "NetMenderModel" (130 : Nat) ({ cls := "NetMenderModel", name := "hasText", desc := "(I)Z" } : Jvm.MethodName)) ∈ xw_ALL := xw_in4 178 (by rfl) rfl
theorem ww_900 : (Jvm.Cond.instanceMethod ({ cls := "NetMenderModel", name := "hasText", desc := "(I)Z" } : Jvm.MethodName)) ∈ xw_ALL := xw_in4 180 (by rfl) rfl
theorem ww_901 : (Jvm.Cond.code ({ cls := "NetMenderModel", name := "hasText", desc := "(I)Z" } : Jvm.MethodName) prog_13_method_33_code (2 : Nat) (Option.some Jvm.ClassFile.FieldType.boolean)) ∈ xw_ALL := xw_in4 181 (by rfl) rfl
theorem ww_902 : (Jvm.Cond.methodLink "NetMenderLaw" (17 : Nat) ({ cls := "NetMenderModel", name := "tie", desc := "(III)I" } : Jvm.MethodName)) ∈ xw_ALL := xw_in4 182 (by rfl) rfl
theorem ww_903 : (Jvm.Cond.instanceMethod ({ cls := "NetMenderModel", name := "tie", desc := "(III)I" } : Jvm.MethodName)) ∈ xw_ALL := xw_in4 183 (by rfl) rfl
theorem ww_904 : (Jvm.Cond.selects "NetMenderModel" ({ cls := "NetMenderModel", name := "tie", desc := "(III)I" } : Jvm.MethodName) ({ cls := "NetMenderModel", name := "tie", desc := "(III)I" } : Jvm.MethodName)) ∈ xw_ALL := xw_in4 184 (by rfl) rfl
theorem ww_905 : (Jvm.Cond.code ({ cls := "NetMenderModel", name := "tie", desc := "(III)I" } : Jvm.MethodName) prog_13_method_45_code (5 : Nat) (Option.some Jvm.ClassFile.FieldType.int)) ∈ xw_ALL := xw_in4 185 (by rfl) rfl
theorem ww_906 : (Jvm.Cond.methodLink "NetMenderModel" (162 : Nat) ({ cls := "NetMenderModel", name := "isKnot", desc := "(I)Z" } : Jvm.MethodName)) ∈ xw_ALL := xw_in4 186 (by rfl) rfl
theorem ww_907 : (Jvm.Cond.static ({ cls := "NetMenderModel", name := "isKnot", desc := "(I)Z" } : Jvm.MethodName)) ∈ xw_ALL := xw_in4 187 (by rfl) rfl
theorem ww_908 : (Jvm.Cond.code ({ cls := "NetMenderModel", name := "isKnot", desc := "(I)Z" } : Jvm.MethodName) prog_13_method_8_code (1 : Nat) (Option.some Jvm.ClassFile.FieldType.boolean)) ∈ xw_ALL := xw_in4 188 (by rfl) rfl
theorem ww_909 : (Jvm.Cond.methodLink "NetMenderModel" (165 : Nat) ({ cls := "NetMenderModel", name := "isHand", desc := "(I)Z" } : Jvm.MethodName)) ∈ xw_ALL := xw_in4 189 (by rfl) rfl
theorem ww_910 : (Jvm.Cond.static ({ cls := "NetMenderModel", name := "isHand", desc := "(I)Z" } : Jvm.MethodName)) ∈ xw_ALL := xw_in4 190 (by rfl) rfl
theorem ww_911 : (Jvm.Cond.code ({ cls := "NetMenderModel", name := "isHand", desc := "(I)Z" } : Jvm.MethodName) prog_13_method_10_code (1 : Nat) (Option.some Jvm.ClassFile.FieldType.boolean)) ∈ xw_ALL := xw_in4 191 (by rfl) rfl
theorem ww_912 : (Jvm.Cond.methodLink "NetMenderModel" (137 : Nat) ({ cls := "NetMenderModel", name := "its", desc := "(II)I" } : Jvm.MethodName)) ∈ xw_ALL := xw_in4 192 (by rfl) rfl
theorem ww_914 : (Jvm.Cond.instanceMethod ({ cls := "NetMenderModel", name := "its", desc := "(II)I" } : Jvm.MethodName)) ∈ xw_ALL := xw_in4 194 (by rfl) rfl
theorem ww_915 : (Jvm.Cond.code ({ cls := "NetMenderModel", name := "its", desc := "(II)I" } : Jvm.MethodName) prog_13_method_11_code (3 : Nat) (Option.some Jvm.ClassFile.FieldType.int)) ∈ xw_ALL := xw_in4 195 (by rfl) rfl
theorem ww_916 : (Jvm.Cond.methodLink "NetMenderModel" (168 : Nat) ({ cls := "NetMenderModel", name := "tiedBy", desc := "(II)V" } : Jvm.MethodName)) ∈ xw_ALL := xw_in4 196 (by rfl) rfl
theorem ww_918 : (Jvm.Cond.instanceMethod ({ cls := "NetMenderModel", name := "tiedBy", desc := "(II)V" } : Jvm.MethodName)) ∈ xw_ALL := xw_in4 198 (by rfl) rfl
theorem ww_919 : (Jvm.Cond.code ({ cls := "NetMenderModel", name := "tiedBy", desc := "(II)V" } : Jvm.MethodName) prog_13_method_44_code (3 : Nat) (Option.none : Option Jvm.ClassFile.FieldType)) ∈ xw_ALL := xw_in4 199 (by rfl) rfl
theorem ww_920 : (Jvm.Cond.methodLink "NetMenderLaw" (22 : Nat) ({ cls := "NetMenderModel", name := "knotIs", desc := "(II)I" } : Jvm.MethodName)) ∈ xw_ALL := xw_in4 200 (by rfl) rfl
theorem ww_921 : (Jvm.Cond.instanceMethod ({ cls := "NetMenderModel", name := "knotIs", desc := "(II)I" } : Jvm.MethodName)) ∈ xw_ALL := xw_in4 201 (by rfl) rfl
theorem ww_922 : (Jvm.Cond.selects "NetMenderModel" ({ cls := "NetMenderModel", name := "knotIs", desc := "(II)I" } : Jvm.MethodName) ({ cls := "NetMenderModel", name := "knotIs", desc := "(II)I" } : Jvm.MethodName)) ∈ xw_ALL := xw_in4 202 (by rfl) rfl
theorem ww_923 : (Jvm.Cond.code ({ cls := "NetMenderModel", name := "knotIs", desc := "(II)I" } : Jvm.MethodName) prog_13_method_46_code (3 : Nat) (Option.some Jvm.ClassFile.FieldType.int)) ∈ xw_ALL := xw_in4 203 (by rfl) rfl
theorem ww_924 : (Jvm.Cond.methodLink "NetMenderModel" (152 : Nat) ({ cls := "NetMenderModel", name := "holds", desc := "(I)I" } : Jvm.MethodName)) ∈ xw_ALL := xw_in4 204 (by rfl) rfl
theorem ww_926 : (Jvm.Cond.instanceMethod ({ cls := "NetMenderModel", name := "holds", desc := "(I)I" } : Jvm.MethodName)) ∈ xw_ALL := xw_in4 206 (by rfl) rfl
theorem ww_927 : (Jvm.Cond.code ({ cls := "NetMenderModel", name := "holds", desc := "(I)I" } : Jvm.MethodName) prog_13_method_40_code (4 : Nat) (Option.some Jvm.ClassFile.FieldType.int)) ∈ xw_ALL := xw_in4 207 (by rfl) rfl
theorem ww_928 : (Jvm.Cond.methodLink "NetMenderModel" (146 : Nat) ({ cls := "NetMenderModel", name := "slipped", desc := "(I)I" } : Jvm.MethodName)) ∈ xw_ALL := xw_in4 208 (by rfl) rfl
theorem ww_930 : (Jvm.Cond.instanceMethod ({ cls := "NetMenderModel", name := "slipped", desc := "(I)I" } : Jvm.MethodName)) ∈ xw_ALL := xw_in4 210 (by rfl) rfl
theorem ww_931 : (Jvm.Cond.code ({ cls := "NetMenderModel", name := "slipped", desc := "(I)I" } : Jvm.MethodName) prog_13_method_39_code (2 : Nat) (Option.some Jvm.ClassFile.FieldType.int)) ∈ xw_ALL := xw_in4 211 (by rfl) rfl
theorem ww_932 : (Jvm.Cond.methodLink "NetMenderModel" (143 : Nat) ({ cls := "NetMenderModel", name := "held", desc := "(III)I" } : Jvm.MethodName)) ∈ xw_ALL := xw_in4 212 (by rfl) rfl
theorem ww_933 : (Jvm.Cond.static ({ cls := "NetMenderModel", name := "held", desc := "(III)I" } : Jvm.MethodName)) ∈ xw_ALL := xw_in4 213 (by rfl) rfl
theorem ww_934 : (Jvm.Cond.code ({ cls := "NetMenderModel", name := "held", desc := "(III)I" } : Jvm.MethodName) prog_13_method_4_code (3 : Nat) (Option.some Jvm.ClassFile.FieldType.int)) ∈ xw_ALL := xw_in4 214 (by rfl) rfl
theorem ww_935 : (Jvm.Cond.methodLink "NetMenderModel" (149 : Nat) ({ cls := "NetMenderModel", name := "holdsTold", desc := "(I)I" } : Jvm.MethodName)) ∈ xw_ALL := xw_in4 215 (by rfl) rfl
theorem ww_937 : (Jvm.Cond.instanceMethod ({ cls := "NetMenderModel", name := "holdsTold", desc := "(I)I" } : Jvm.MethodName)) ∈ xw_ALL := xw_in4 217 (by rfl) rfl
theorem ww_938 : (Jvm.Cond.code ({ cls := "NetMenderModel", name := "holdsTold", desc := "(I)I" } : Jvm.MethodName) prog_13_method_38_code (2 : Nat) (Option.some Jvm.ClassFile.FieldType.int)) ∈ xw_ALL := xw_in4 218 (by rfl) rfl
theorem ww_939 : (Jvm.Cond.methodLink "NetMenderModel" (140 : Nat) ({ cls := "NetMenderModel", name := "worked", desc := "(I)I" } : Jvm.MethodName)) ∈ xw_ALL := xw_in4 219 (by rfl) rfl
theorem ww_941 : (Jvm.Cond.instanceMethod ({ cls := "NetMenderModel", name := "worked", desc := "(I)I" } : Jvm.MethodName)) ∈ xw_ALL := xw_in4 221 (by rfl) rfl
theorem ww_942 : (Jvm.Cond.code ({ cls := "NetMenderModel", name := "worked", desc := "(I)I" } : Jvm.MethodName) prog_13_method_37_code (7 : Nat) (Option.some Jvm.ClassFile.FieldType.int)) ∈ xw_ALL := xw_in4 222 (by rfl) rfl
theorem ww_943 : (Jvm.Cond.methodLink "NetMenderModel" (133 : Nat) ({ cls := "NetMenderModel", name := "joined", desc := "(III)I" } : Jvm.MethodName)) ∈ xw_ALL := xw_in4 223 (by rfl) rfl
theorem ww_944 : (Jvm.Cond.static ({ cls := "NetMenderModel", name := "joined", desc := "(III)I" } : Jvm.MethodName)) ∈ xw_ALL := xw_in4 224 (by rfl) rfl
theorem ww_945 : (Jvm.Cond.code ({ cls := "NetMenderModel", name := "joined", desc := "(III)I" } : Jvm.MethodName) prog_13_method_36_code (3 : Nat) (Option.some Jvm.ClassFile.FieldType.int)) ∈ xw_ALL := xw_in4 225 (by rfl) rfl
theorem ww_946 : (Jvm.Cond.methodLink "NetMenderModel" (171 : Nat) ({ cls := "NetMenderModel", name := "takes", desc := "(I)I" } : Jvm.MethodName)) ∈ xw_ALL := xw_in4 226 (by rfl) rfl
theorem ww_948 : (Jvm.Cond.instanceMethod ({ cls := "NetMenderModel", name := "takes", desc := "(I)I" } : Jvm.MethodName)) ∈ xw_ALL := xw_in4 228 (by rfl) rfl
theorem ww_949 : (Jvm.Cond.code ({ cls := "NetMenderModel", name := "takes", desc := "(I)I" } : Jvm.MethodName) prog_13_method_41_code (3 : Nat) (Option.some Jvm.ClassFile.FieldType.int)) ∈ xw_ALL := xw_in4 229 (by rfl) rfl
theorem ww_950 : (Jvm.Cond.methodLink "NetMenderModel" (174 : Nat) ({ cls := "NetMenderModel", name := "gone", desc := "()I" } : Jvm.MethodName)) ∈ xw_ALL := xw_in4 230 (by rfl) rfl
theorem ww_952 : (Jvm.Cond.instanceMethod ({ cls := "NetMenderModel", name := "gone", desc := "()I" } : Jvm.MethodName)) ∈ xw_ALL := xw_in4 232 (by rfl) rfl
theorem ww_953 : (Jvm.Cond.code ({ cls := "NetMenderModel", name := "gone", desc := "()I" } : Jvm.MethodName) prog_13_method_20_code (3 : Nat) (Option.some Jvm.ClassFile.FieldType.int)) ∈ xw_ALL := xw_in4 233 (by rfl) rfl
theorem ww_954 : (Jvm.Cond.methodLink "NetMenderModel" (75 : Nat) ({ cls := "NetMenderModel", name := "isMissing", desc := "(I)Z" } : Jvm.MethodName)) ∈ xw_ALL := xw_in4 234 (by rfl) rfl
theorem ww_956 : (Jvm.Cond.instanceMethod ({ cls := "NetMenderModel", name := "isMissing", desc := "(I)Z" } : Jvm.MethodName)) ∈ xw_ALL := xw_in4 236 (by rfl) rfl
theorem ww_957 : (Jvm.Cond.code ({ cls := "NetMenderModel", name := "isMissing", desc := "(I)Z" } : Jvm.MethodName) prog_13_method_13_code (2 : Nat) (Option.some Jvm.ClassFile.FieldType.boolean)) ∈ xw_ALL := xw_in4 237 (by rfl) rfl
theorem ww_958 : (Jvm.Cond.methodLink "NetMenderModel" (64 : Nat) ({ cls := "NetMenderModel", name := "of", desc := "(II)I" } : Jvm.MethodName)) ∈ xw_ALL := xw_in4 238 (by rfl) rfl
theorem ww_960 : (Jvm.Cond.instanceMethod ({ cls := "NetMenderModel", name := "of", desc := "(II)I" } : Jvm.MethodName)) ∈ xw_ALL := xw_in5 0 (by rfl) rfl
theorem ww_961 : (Jvm.Cond.code ({ cls := "NetMenderModel", name := "of", desc := "(II)I" } : Jvm.MethodName) prog_13_method_12_code (3 : Nat) (Option.some Jvm.ClassFile.FieldType.int)) ∈ xw_ALL := xw_in5 1 (by rfl) rfl
theorem ww_962 : (Jvm.Cond.methodLink "NetMenderModel" (177 : Nat) ({ cls := "NetMenderModel", name := "endsAt", desc := "(II)I" } : Jvm.MethodName)) ∈ xw_ALL := xw_in5 2 (by rfl) rfl
theorem ww_963 : (Jvm.Cond.static ({ cls := "NetMenderModel", name := "endsAt", desc := "(II)I" } : Jvm.MethodName)) ∈ xw_ALL := xw_in5 3 (by rfl) rfl
theorem ww_964 : (Jvm.Cond.code ({ cls := "NetMenderModel", name := "endsAt", desc := "(II)I" } : Jvm.MethodName) prog_13_method_43_code (4 : Nat) (Option.some Jvm.ClassFile.FieldType.int)) ∈ xw_ALL := xw_in5 4 (by rfl) rfl
theorem ww_965 : (Jvm.Cond.methodLink "NetMenderModel" (155 : Nat) ({ cls := "NetMenderModel", name := "isIn", desc := "(II)Z" } : Jvm.MethodName)) ∈ xw_ALL := xw_in5 5 (by rfl) rfl
theorem ww_966 : (Jvm.Cond.static ({ cls := "NetMenderModel", name := "isIn", desc := "(II)Z" } : Jvm.MethodName)) ∈ xw_ALL := xw_in5 6 (by rfl) rfl
theorem ww_967 : (Jvm.Cond.code ({ cls := "NetMenderModel", name := "isIn", desc := "(II)Z" } : Jvm.MethodName) prog_13_method_21_code (2 : Nat) (Option.some Jvm.ClassFile.FieldType.boolean)) ∈ xw_ALL := xw_in5 7 (by rfl) rfl
theorem ww_968 : (Jvm.Cond.methodLink "NetMenderModel" (159 : Nat) ({ cls := "NetMenderModel", name := "ends", desc := "(II)Z" } : Jvm.MethodName)) ∈ xw_ALL := xw_in5 8 (by rfl) rfl
theorem ww_969 : (Jvm.Cond.static ({ cls := "NetMenderModel", name := "ends", desc := "(II)Z" } : Jvm.MethodName)) ∈ xw_ALL := xw_in5 9 (by rfl) rfl
theorem ww_970 : (Jvm.Cond.code ({ cls := "NetMenderModel", name := "ends", desc := "(II)Z" } : Jvm.MethodName) prog_13_method_16_code (2 : Nat) (Option.some Jvm.ClassFile.FieldType.boolean)) ∈ xw_ALL := xw_in5 10 (by rfl) rfl
theorem ww_971 : (Jvm.Cond.methodLink "NetMenderModel" (68 : Nat) ({ cls := "NetMenderModel", name := "lessOf", desc := "(I)I" } : Jvm.MethodName)) ∈ xw_ALL := xw_in5 11 (by rfl) rfl
theorem ww_972 : (Jvm.Cond.static ({ cls := "NetMenderModel", name := "lessOf", desc := "(I)I" } : Jvm.MethodName)) ∈ xw_ALL := xw_in5 12 (by rfl) rfl
theorem ww_973 : (Jvm.Cond.code ({ cls := "NetMenderModel", name := "lessOf", desc := "(I)I" } : Jvm.MethodName) prog_13_method_14_code (1 : Nat) (Option.some Jvm.ClassFile.FieldType.int)) ∈ xw_ALL := xw_in5 13 (by rfl) rfl
theorem ww_974 : (Jvm.Cond.methodLink "NetMenderModel" (72 : Nat) ({ cls := "NetMenderModel", name := "otherOf", desc := "(I)I" } : Jvm.MethodName)) ∈ xw_ALL := xw_in5 14 (by rfl) rfl
theorem ww_975 : (Jvm.Cond.static ({ cls := "NetMenderModel", name := "otherOf", desc := "(I)I" } : Jvm.MethodName)) ∈ xw_ALL := xw_in5 15 (by rfl) rfl
theorem ww_976 : (Jvm.Cond.code ({ cls := "NetMenderModel", name := "otherOf", desc := "(I)I" } : Jvm.MethodName) prog_13_method_15_code (1 : Nat) (Option.some Jvm.ClassFile.FieldType.int)) ∈ xw_ALL := xw_in5 16 (by rfl) rfl
theorem ww_977 : (Jvm.Cond.methodLink "NetMenderLaw" (26 : Nat) ({ cls := "NetMenderModel", name := "as", desc := "(II)I" } : Jvm.MethodName)) ∈ xw_ALL := xw_in5 17 (by rfl) rfl
theorem ww_978 : (Jvm.Cond.instanceMethod ({ cls := "NetMenderModel", name := "as", desc := "(II)I" } : Jvm.MethodName)) ∈ xw_ALL := xw_in5 18 (by rfl) rfl
theorem ww_979 : (Jvm.Cond.selects "NetMenderModel" ({ cls := "NetMenderModel", name := "as", desc := "(II)I" } : Jvm.MethodName) ({ cls := "NetMenderModel", name := "as", desc := "(II)I" } : Jvm.MethodName)) ∈ xw_ALL := xw_in5 19 (by rfl) rfl
theorem ww_980 : (Jvm.Cond.code ({ cls := "NetMenderModel", name := "as", desc := "(II)I" } : Jvm.MethodName) prog_13_method_48_code (3 : Nat) (Option.some Jvm.ClassFile.FieldType.int)) ∈ xw_ALL := xw_in5 20 (by rfl) rfl
theorem ww_981 : (Jvm.Cond.methodLink "NetMenderModel" (180 : Nat) ({ cls := "NetMenderModel", name := "isUnder", desc := "(II)Z" } : Jvm.MethodName)) ∈ xw_ALL := xw_in5 21 (by rfl) rfl
theorem ww_982 : (Jvm.Cond.static ({ cls := "NetMenderModel", name := "isUnder", desc := "(II)Z" } : Jvm.MethodName)) ∈ xw_ALL := xw_in5 22 (by rfl) rfl
theorem ww_983 : (Jvm.Cond.code ({ cls := "NetMenderModel", name := "isUnder", desc := "(II)Z" } : Jvm.MethodName) prog_13_method_47_code (2 : Nat) (Option.some Jvm.ClassFile.FieldType.boolean)) ∈ xw_ALL := xw_in5 23 (by rfl) rfl
theorem ww_984 : (Jvm.Cond.methodLink "NetMenderLaw" (30 : Nat) ({ cls := "NetMenderModel", name := "threadIs", desc := "(II)I" } : Jvm.MethodName)) ∈ xw_ALL := xw_in5 24 (by rfl) rfl
theorem ww_985 : (Jvm.Cond.instanceMethod ({ cls := "NetMenderModel", name := "threadIs", desc := "(II)I" } : Jvm.MethodName)) ∈ xw_ALL := xw_in5 25 (by rfl) rfl
theorem ww_986 : (Jvm.Cond.selects "NetMenderModel" ({ cls := "NetMenderModel", name := "threadIs", desc := "(II)I" } : Jvm.MethodName) ({ cls := "NetMenderModel", name := "threadIs", desc := "(II)I" } : Jvm.MethodName)) ∈ xw_ALL := xw_in5 26 (by rfl) rfl
theorem ww_987 : (Jvm.Cond.code ({ cls := "NetMenderModel", name := "threadIs", desc := "(II)I" } : Jvm.MethodName) prog_13_method_50_code (3 : Nat) (Option.some Jvm.ClassFile.FieldType.int)) ∈ xw_ALL := xw_in5 27 (by rfl) rfl
theorem ww_988 : (Jvm.Cond.methodLink "NetMenderModel" (186 : Nat) ({ cls := "NetMenderModel", name := "isThread", desc := "(I)Z" } : Jvm.MethodName)) ∈ xw_ALL := xw_in5 28 (by rfl) rfl
theorem ww_989 : (Jvm.Cond.static ({ cls := "NetMenderModel", name := "isThread", desc := "(I)Z" } : Jvm.MethodName)) ∈ xw_ALL := xw_in5 29 (by rfl) rfl
theorem ww_990 : (Jvm.Cond.code ({ cls := "NetMenderModel", name := "isThread", desc := "(I)Z" } : Jvm.MethodName) prog_13_method_9_code (1 : Nat) (Option.some Jvm.ClassFile.FieldType.boolean)) ∈ xw_ALL := xw_in5 30 (by rfl) rfl
theorem ww_991 : (Jvm.Cond.methodLink "NetMenderModel" (189 : Nat) ({ cls := "NetMenderModel", name := "toldThread", desc := "(II)I" } : Jvm.MethodName)) ∈ xw_ALL := xw_in5 31 (by rfl) rfl
theorem ww_993 : (Jvm.Cond.instanceMethod ({ cls := "NetMenderModel", name := "toldThread", desc := "(II)I" } : Jvm.MethodName)) ∈ xw_ALL := xw_in5 33 (by rfl) rfl
theorem ww_994 : (Jvm.Cond.code ({ cls := "NetMenderModel", name := "toldThread", desc := "(II)I" } : Jvm.MethodName) prog_13_method_49_code (3 : Nat) (Option.some Jvm.ClassFile.FieldType.int)) ∈ xw_ALL := xw_in5 34 (by rfl) rfl
theorem ww_995 : (Jvm.Cond.methodLink "NetMenderModel" (183 : Nat) ({ cls := "NetMenderModel", name := "strength", desc := "(I)I" } : Jvm.MethodName)) ∈ xw_ALL := xw_in5 35 (by rfl) rfl
theorem ww_997 : (Jvm.Cond.instanceMethod ({ cls := "NetMenderModel", name := "strength", desc := "(I)I" } : Jvm.MethodName)) ∈ xw_ALL := xw_in5 37 (by rfl) rfl
theorem ww_998 : (Jvm.Cond.code ({ cls := "NetMenderModel", name := "strength", desc := "(I)I" } : Jvm.MethodName) prog_13_method_42_code (2 : Nat) (Option.some Jvm.ClassFile.FieldType.int)) ∈ xw_ALL := xw_in5 38 (by rfl) rfl
theorem ww_999 : (Jvm.Cond.methodLink "NetMenderLaw" (35 : Nat) ({ cls := "NetMenderModel", name := "cut", desc := "(I)I" } : Jvm.MethodName)) ∈ xw_ALL := xw_in5 39 (by rfl) rfl
theorem ww_1000 : (Jvm.Cond.instanceMethod ({ cls := "NetMenderModel", name := "cut", desc := "(I)I" } : Jvm.MethodName)) ∈ xw_ALL := xw_in5 40 (by rfl) rfl
theorem ww_1001 : (Jvm.Cond.selects "NetMenderModel" ({ cls := "NetMenderModel", name := "cut", desc := "(I)I" } : Jvm.MethodName) ({ cls := "NetMenderModel", name := "cut", desc := "(I)I" } : Jvm.MethodName)) ∈ xw_ALL := xw_in5 41 (by rfl) rfl
theorem ww_1002 : (Jvm.Cond.code ({ cls := "NetMenderModel", name := "cut", desc := "(I)I" } : Jvm.MethodName) prog_13_method_53_code (2 : Nat) (Option.some Jvm.ClassFile.FieldType.int)) ∈ xw_ALL := xw_in5 42 (by rfl) rfl
theorem ww_1003 : (Jvm.Cond.methodLink "NetMenderModel" (192 : Nat) ({ cls := "NetMenderModel", name := "loses", desc := "(I)V" } : Jvm.MethodName)) ∈ xw_ALL := xw_in5 43 (by rfl) rfl
theorem ww_1005 : (Jvm.Cond.instanceMethod ({ cls := "NetMenderModel", name := "loses", desc := "(I)V" } : Jvm.MethodName)) ∈ xw_ALL := xw_in5 45 (by rfl) rfl
theorem ww_1006 : (Jvm.Cond.code ({ cls := "NetMenderModel", name := "loses", desc := "(I)V" } : Jvm.MethodName) prog_13_method_51_code (2 : Nat) (Option.none : Option Jvm.ClassFile.FieldType)) ∈ xw_ALL := xw_in5 46 (by rfl) rfl
theorem ww_1007 : (Jvm.Cond.methodLink "NetMenderModel" (196 : Nat) ({ cls := "NetMenderModel", name := "missing", desc := "()I" } : Jvm.MethodName)) ∈ xw_ALL := xw_in5 47 (by rfl) rfl
theorem ww_1009 : (Jvm.Cond.instanceMethod ({ cls := "NetMenderModel", name := "missing", desc := "()I" } : Jvm.MethodName)) ∈ xw_ALL := xw_in5 49 (by rfl) rfl
theorem ww_1010 : (Jvm.Cond.code ({ cls := "NetMenderModel", name := "missing", desc := "()I" } : Jvm.MethodName) prog_13_method_19_code (3 : Nat) (Option.some Jvm.ClassFile.FieldType.int)) ∈ xw_ALL := xw_in5 50 (by rfl) rfl
theorem ww_1011 : (Jvm.Cond.methodLink "NetMenderLaw" (39 : Nat) ({ cls := "NetMenderModel", name := "wear", desc := "(II)I" } : Jvm.MethodName)) ∈ xw_ALL := xw_in5 51 (by rfl) rfl
theorem ww_1012 : (Jvm.Cond.instanceMethod ({ cls := "NetMenderModel", name := "wear", desc := "(II)I" } : Jvm.MethodName)) ∈ xw_ALL := xw_in5 52 (by rfl) rfl
theorem ww_1013 : (Jvm.Cond.selects "NetMenderModel" ({ cls := "NetMenderModel", name := "wear", desc := "(II)I" } : Jvm.MethodName) ({ cls := "NetMenderModel", name := "wear", desc := "(II)I" } : Jvm.MethodName)) ∈ xw_ALL := xw_in5 53 (by rfl) rfl
theorem ww_1014 : (Jvm.Cond.code ({ cls := "NetMenderModel", name := "wear", desc := "(II)I" } : Jvm.MethodName) prog_13_method_54_code (3 : Nat) (Option.some Jvm.ClassFile.FieldType.int)) ∈ xw_ALL := xw_in5 54 (by rfl) rfl
theorem ww_1015 : (Jvm.Cond.methodLink "NetMenderModel" (199 : Nat) ({ cls := "NetMenderModel", name := "change1", desc := "(II)I" } : Jvm.MethodName)) ∈ xw_ALL := xw_in5 55 (by rfl) rfl
theorem ww_1017 : (Jvm.Cond.instanceMethod ({ cls := "NetMenderModel", name := "change1", desc := "(II)I" } : Jvm.MethodName)) ∈ xw_ALL := xw_in5 57 (by rfl) rfl
theorem ww_1018 : (Jvm.Cond.code ({ cls := "NetMenderModel", name := "change1", desc := "(II)I" } : Jvm.MethodName) prog_13_method_18_code (4 : Nat) (Option.some Jvm.ClassFile.FieldType.int)) ∈ xw_ALL := xw_in5 58 (by rfl) rfl
theorem ww_1019 : (Jvm.Cond.methodLink "NetMenderLaw" (43 : Nat) ({ cls := "NetMenderModel", name := "twine", desc := "(I)I" } : Jvm.MethodName)) ∈ xw_ALL := xw_in5 59 (by rfl) rfl
theorem ww_1020 : (Jvm.Cond.instanceMethod ({ cls := "NetMenderModel", name := "twine", desc := "(I)I" } : Jvm.MethodName)) ∈ xw_ALL := xw_in5 60 (by rfl) rfl
theorem ww_1021 : (Jvm.Cond.selects "NetMenderModel" ({ cls := "NetMenderModel", name := "twine", desc := "(I)I" } : Jvm.MethodName) ({ cls := "NetMenderModel", name := "twine", desc := "(I)I" } : Jvm.MethodName)) ∈ xw_ALL := xw_in5 61 (by rfl) rfl
theorem ww_1022 : (Jvm.Cond.code ({ cls := "NetMenderModel", name := "twine", desc := "(I)I" } : Jvm.MethodName) prog_13_method_55_code (2 : Nat) (Option.some Jvm.ClassFile.FieldType.int)) ∈ xw_ALL := xw_in5 62 (by rfl) rfl
theorem ww_1023 : (Jvm.Cond.methodLink "NetMenderLaw" (47 : Nat) ({ cls := "NetMenderModel", name := "speed", desc := "(II)I" } : Jvm.MethodName)) ∈ xw_ALL := xw_in5 63 (by rfl) rfl
theorem ww_1024 : (Jvm.Cond.instanceMethod ({ cls := "NetMenderModel", name := "speed", desc := "(II)I" } : Jvm.MethodName)) ∈ xw_ALL := xw_in5 64 (by rfl) rfl
theorem ww_1025 : (Jvm.Cond.selects "NetMenderModel" ({ cls := "NetMenderModel", name := "speed", desc := "(II)I" } : Jvm.MethodName) ({ cls := "NetMenderModel", name := "speed", desc := "(II)I" } : Jvm.MethodName)) ∈ xw_ALL := xw_in5 65 (by rfl) rfl
theorem ww_1026 : (Jvm.Cond.code ({ cls := "NetMenderModel", name := "speed", desc := "(II)I" } : Jvm.MethodName) prog_13_method_56_code (3 : Nat) (Option.some Jvm.ClassFile.FieldType.int)) ∈ xw_ALL := xw_in5 66 (by rfl) rfl
theorem ww_1027 : (Jvm.Cond.methodLink "NetMenderLaw" (66 : Nat) ({ cls := "NetMenderModel", name := "run", desc := "(II)I" } : Jvm.MethodName)) ∈ xw_ALL := xw_in5 67 (by rfl) rfl
theorem ww_1028 : (Jvm.Cond.instanceMethod ({ cls := "NetMenderModel", name := "run", desc := "(II)I" } : Jvm.MethodName)) ∈ xw_ALL := xw_in5 68 (by rfl) rfl
theorem ww_1029 : (Jvm.Cond.selects "NetMenderModel" ({ cls := "NetMenderModel", name := "run", desc := "(II)I" } : Jvm.MethodName) ({ cls := "NetMenderModel", name := "run", desc := "(II)I" } : Jvm.MethodName)) ∈ xw_ALL := xw_in5 69 (by rfl) rfl
theorem ww_1030 : (Jvm.Cond.code ({ cls := "NetMenderModel", name := "run", desc := "(II)I" } : Jvm.MethodName) prog_13_method_57_code (9 : Nat) (Option.some Jvm.ClassFile.FieldType.int)) ∈ xw_ALL := xw_in5 70 (by rfl) rfl
theorem ww_1031 : (Jvm.Cond.methodLink "NetMenderModel" (202 : Nat) ({ cls := "NetMenderModel", name := "isSheet", desc := "(I)Z" } : Jvm.MethodName)) ∈ xw_ALL := xw_in5 71 (by rfl) rfl
theorem ww_1032 : (Jvm.Cond.static ({ cls := "NetMenderModel", name := "isSheet", desc := "(I)Z" } : Jvm.MethodName)) ∈ xw_ALL := xw_in5 72 (by rfl) rfl
theorem ww_1033 : (Jvm.Cond.code ({ cls := "NetMenderModel", name := "isSheet", desc := "(I)Z" } : Jvm.MethodName) prog_13_method_97_code (1 : Nat) (Option.some Jvm.ClassFile.FieldType.boolean)) ∈ xw_ALL := xw_in5 73 (by rfl) rfl
theorem ww_1034 : (Jvm.Cond.methodLink "NetMenderModel" (205 : Nat) ({ cls := "NetMenderModel", name := "between", desc := "(II)I" } : Jvm.MethodName)) ∈ xw_ALL := xw_in5 74 (by rfl) rfl
theorem ww_1035 : (Jvm.Cond.static ({ cls := "NetMenderModel", name := "between", desc := "(II)I" } : Jvm.MethodName)) ∈ xw_ALL := xw_in5 75 (by rfl) rfl
theorem ww_1036 : (Jvm.Cond.code ({ cls := "NetMenderModel", name := "between", desc := "(II)I" } : Jvm.MethodName) prog_13_method_17_code (4 : Nat) (Option.some Jvm.ClassFile.FieldType.int)) ∈ xw_ALL := xw_in5 76 (by rfl) rfl
theorem ww_1037 : (Jvm.Cond.methodLink "NetMenderModel" (208 : Nat) ({ cls := "NetMenderModel", name := "renews", desc := "(I)V" } : Jvm.MethodName)) ∈ xw_ALL := xw_in5 77 (by rfl) rfl
theorem ww_1039 : (Jvm.Cond.instanceMethod ({ cls := "NetMenderModel", name := "renews", desc := "(I)V" } : Jvm.MethodName)) ∈ xw_ALL := xw_in5 79 (by rfl) rfl
theorem ww_1040 : (Jvm.Cond.code ({ cls := "NetMenderModel", name := "renews", desc := "(I)V" } : Jvm.MethodName) prog_13_method_52_code (2 : Nat) (Option.none : Option Jvm.ClassFile.FieldType)) ∈ xw_ALL := xw_in5 80 (by rfl) rfl
theorem ww_1041 : (Jvm.Cond.methodLink "NetMenderLaw" (70 : Nat) ({ cls := "NetMenderModel", name := "odd", desc := "(I)I" } : Jvm.MethodName)) ∈ xw_ALL := xw_in5 81 (by rfl) rfl
theorem ww_1042 : (Jvm.Cond.instanceMethod ({ cls := "NetMenderModel", name := "odd", desc := "(I)I" } : Jvm.MethodName)) ∈ xw_ALL := xw_in5 82 (by rfl) rfl
theorem ww_1043 : (Jvm.Cond.selects "NetMenderModel" ({ cls := "NetMenderModel", name := "odd", desc := "(I)I" } : Jvm.MethodName) ({ cls := "NetMenderModel", name := "odd", desc := "(I)I" } : Jvm.MethodName)) ∈ xw_ALL := xw_in5 83 (by rfl) rfl
theorem ww_1044 : (Jvm.Cond.code ({ cls := "NetMenderModel", name := "odd", desc := "(I)I" } : Jvm.MethodName) prog_13_method_62_code (2 : Nat) (Option.some Jvm.ClassFile.FieldType.int)) ∈ xw_ALL := xw_in5 84 (by rfl) rfl
theorem ww_1045 : (Jvm.Cond.methodLink "NetMenderModel" (211 : Nat) ({ cls := "NetMenderModel", name := "oddOnes", desc := "(I)I" } : Jvm.MethodName)) ∈ xw_ALL := xw_in5 85 (by rfl) rfl
theorem ww_1046 : (Jvm.Cond.static ({ cls := "NetMenderModel", name := "oddOnes", desc := "(I)I" } : Jvm.MethodName)) ∈ xw_ALL := xw_in5 86 (by rfl) rfl
theorem ww_1047 : (Jvm.Cond.code ({ cls := "NetMenderModel", name := "oddOnes", desc := "(I)I" } : Jvm.MethodName) prog_13_method_58_code (3 : Nat) (Option.some Jvm.ClassFile.FieldType.int)) ∈ xw_ALL := xw_in5 87 (by rfl) rfl
theorem ww_1048 : (Jvm.Cond.methodLink "NetMenderModel" (220 : Nat) ({ cls := "NetMenderModel", name := "isOneRun", desc := "(I)Z" } : Jvm.MethodName)) ∈ xw_ALL := xw_in5 88 (by rfl) rfl
theorem ww_1049 : (Jvm.Cond.static ({ cls := "NetMenderModel", name := "isOneRun", desc := "(I)Z" } : Jvm.MethodName)) ∈ xw_ALL := xw_in5 89 (by rfl) rfl
theorem ww_1050 : (Jvm.Cond.code ({ cls := "NetMenderModel", name := "isOneRun", desc := "(I)Z" } : Jvm.MethodName) prog_13_method_61_code (1 : Nat) (Option.some Jvm.ClassFile.FieldType.boolean)) ∈ xw_ALL := xw_in5 90 (by rfl) rfl
theorem ww_1051 : (Jvm.Cond.methodLink "NetMenderModel" (214 : Nat) ({ cls := "NetMenderModel", name := "least", desc := "(I)I" } : Jvm.MethodName)) ∈ xw_ALL := xw_in5 91 (by rfl) rfl
theorem ww_1052 : (Jvm.Cond.static ({ cls := "NetMenderModel", name := "least", desc := "(I)I" } : Jvm.MethodName)) ∈ xw_ALL := xw_in5 92 (by rfl) rfl
theorem ww_1053 : (Jvm.Cond.code ({ cls := "NetMenderModel", name := "least", desc := "(I)I" } : Jvm.MethodName) prog_13_method_60_code (2 : Nat) (Option.some Jvm.ClassFile.FieldType.int)) ∈ xw_ALL := xw_in5 93 (by rfl) rfl
theorem ww_1054 : (Jvm.Cond.methodLink "NetMenderModel" (217 : Nat) ({ cls := "NetMenderModel", name := "hangs", desc := "(II)I" } : Jvm.MethodName)) ∈ xw_ALL := xw_in5 94 (by rfl) rfl
theorem ww_1055 : (Jvm.Cond.static ({ cls := "NetMenderModel", name := "hangs", desc := "(II)I" } : Jvm.MethodName)) ∈ xw_ALL := xw_in5 95 (by rfl) rfl
theorem ww_1056 : (Jvm.Cond.code ({ cls := "NetMenderModel", name := "hangs", desc := "(II)I" } : Jvm.MethodName) prog_13_method_59_code (7 : Nat) (Option.some Jvm.ClassFile.FieldType.int)) ∈ xw_ALL := xw_in5 96 (by rfl) rfl
theorem ww_1057 : (Jvm.Cond.methodLink "NetMenderLaw" (74 : Nat) ({ cls := "NetMenderModel", name := "cuts", desc := "(I)I" } : Jvm.MethodName)) ∈ xw_ALL := xw_in5 97 (by rfl) rfl
theorem ww_1058 : (Jvm.Cond.instanceMethod ({ cls := "NetMenderModel", name := "cuts", desc := "(I)I" } : Jvm.MethodName)) ∈ xw_ALL := xw_in5 98 (by rfl) rfl
theorem ww_1059 : (Jvm.Cond.selects "NetMenderModel" ({ cls := "NetMenderModel", name := "cuts", desc := "(I)I" } : Jvm.MethodName) ({ cls := "NetMenderModel", name := "cuts", desc := "(I)I" } : Jvm.MethodName)) ∈ xw_ALL := xw_in5 99 (by rfl) rfl
theorem ww_1060 : (Jvm.Cond.code ({ cls := "NetMenderModel", name := "cuts", desc := "(I)I" } : Jvm.MethodName) prog_13_method_64_code (5 : Nat) (Option.some Jvm.ClassFile.FieldType.int)) ∈ xw_ALL := xw_in5 100 (by rfl) rfl
theorem ww_1061 : (Jvm.Cond.methodLink "NetMenderModel" (223 : Nat) ({ cls := "NetMenderModel", name := "cutsTo", desc := "(IIII)Z" } : Jvm.MethodName)) ∈ xw_ALL := xw_in5 101 (by rfl) rfl
theorem ww_1063 : (Jvm.Cond.instanceMethod ({ cls := "NetMenderModel", name := "cutsTo", desc := "(IIII)Z" } : Jvm.MethodName)) ∈ xw_ALL := xw_in5 103 (by rfl) rfl
theorem ww_1064 : (Jvm.Cond.code ({ cls := "NetMenderModel", name := "cutsTo", desc := "(IIII)Z" } : Jvm.MethodName) prog_13_method_63_code (6 : Nat) (Option.some Jvm.ClassFile.FieldType.boolean)) ∈ xw_ALL := xw_in5 104 (by rfl) rfl
theorem ww_1065 : (Jvm.Cond.methodLink "NetMenderLaw" (78 : Nat) ({ cls := "NetMenderModel", name := "way", desc := "(I)I" } : Jvm.MethodName)) ∈ xw_ALL := xw_in5 105 (by rfl) rfl
theorem ww_1066 : (Jvm.Cond.instanceMethod ({ cls := "NetMenderModel", name := "way", desc := "(I)I" } : Jvm.MethodName)) ∈ xw_ALL := xw_in5 106 (by rfl) rfl
theorem ww_1067 : (Jvm.Cond.selects "NetMenderModel" ({ cls := "NetMenderModel", name := "way", desc := "(I)I" } : Jvm.MethodName) ({ cls := "NetMenderModel", name := "way", desc := "(I)I" } : Jvm.MethodName)) ∈ xw_ALL := xw_in5 107 (by rfl) rfl
theorem ww_1068 : (Jvm.Cond.code ({ cls := "NetMenderModel", name := "way", desc := "(I)I" } : Jvm.MethodName) prog_13_method_66_code (8 : Nat) (Option.some Jvm.ClassFile.FieldType.int)) ∈ xw_ALL := xw_in5 108 (by rfl) rfl
theorem ww_1069 : (Jvm.Cond.methodLink "NetMenderModel" (227 : Nat) ({ cls := "NetMenderModel", name := "goesOn", desc := "(II)Z" } : Jvm.MethodName)) ∈ xw_ALL := xw_in5 109 (by rfl) rfl
theorem ww_1070 : (Jvm.Cond.static ({ cls := "NetMenderModel", name := "goesOn", desc := "(II)Z" } : Jvm.MethodName)) ∈ xw_ALL := xw_in5 110 (by rfl) rfl
theorem ww_1071 : (Jvm.Cond.code ({ cls := "NetMenderModel", name := "goesOn", desc := "(II)Z" } : Jvm.MethodName) prog_13_method_65_code (4 : Nat) (Option.some Jvm.ClassFile.FieldType.boolean)) ∈ xw_ALL := xw_in5 111 (by rfl) rfl
theorem ww_1072 : (Jvm.Cond.methodLink "NetMenderLaw" (82 : Nat) ({ cls := "NetMenderModel", name := "hole", desc := "(I)I" } : Jvm.MethodName)) ∈ xw_ALL := xw_in5 112 (by rfl) rfl
theorem ww_1073 : (Jvm.Cond.instanceMethod ({ cls := "NetMenderModel", name := "hole", desc := "(I)I" } : Jvm.MethodName)) ∈ xw_ALL := xw_in5 113 (by rfl) rfl
theorem ww_1074 : (Jvm.Cond.selects "NetMenderModel" ({ cls := "NetMenderModel", name := "hole", desc := "(I)I" } : Jvm.MethodName) ({ cls := "NetMenderModel", name := "hole", desc := "(I)I" } : Jvm.MethodName)) ∈ xw_ALL := xw_in5 114 (by rfl) rfl
theorem ww_1075 : (Jvm.Cond.code ({ cls := "NetMenderModel", name := "hole", desc := "(I)I" } : Jvm.MethodName) prog_13_method_68_code (3 : Nat) (Option.some Jvm.ClassFile.FieldType.int)) ∈ xw_ALL := xw_in5 115 (by rfl) rfl
theorem ww_1076 : (Jvm.Cond.methodLink "NetMenderModel" (230 : Nat) ({ cls := "NetMenderModel", name := "findHoles", desc := "()I" } : Jvm.MethodName)) ∈ xw_ALL := xw_in5 116 (by rfl) rfl
theorem ww_1078 : (Jvm.Cond.instanceMethod ({ cls := "NetMenderModel", name := "findHoles", desc := "()I" } : Jvm.MethodName)) ∈ xw_ALL := xw_in5 118 (by rfl) rfl
theorem ww_1079 : (Jvm.Cond.code ({ cls := "NetMenderModel", name := "findHoles", desc := "()I" } : Jvm.MethodName) prog_13_method_67_code (5 : Nat) (Option.some Jvm.ClassFile.FieldType.int)) ∈ xw_ALL := xw_in5 119 (by rfl) rfl
theorem ww_1080 : (Jvm.Cond.methodLink "NetMenderLaw" (87 : Nat) ({ cls := "NetMenderModel", name := "open", desc := "()I" } : Jvm.MethodName)) ∈ xw_ALL := xw_in5 120 (by rfl) rfl
theorem ww_1081 : (Jvm.Cond.instanceMethod ({ cls := "NetMenderModel", name := "open", desc := "()I" } : Jvm.MethodName)) ∈ xw_ALL := xw_in5 121 (by rfl) rfl
theorem ww_1082 : (Jvm.Cond.selects "NetMenderModel" ({ cls := "NetMenderModel", name := "open", desc := "()I" } : Jvm.MethodName) ({ cls := "NetMenderModel", name := "open", desc := "()I" } : Jvm.MethodName)) ∈ xw_ALL := xw_in5 122 (by rfl) rfl
theorem ww_1083 : (Jvm.Cond.code ({ cls := "NetMenderModel", name := "open", desc := "()I" } : Jvm.MethodName) prog_13_method_71_code (8 : Nat) (Option.some Jvm.ClassFile.FieldType.int)) ∈ xw_ALL := xw_in5 123 (by rfl) rfl
theorem ww_1084 : (Jvm.Cond.methodLink "NetMenderModel" (233 : Nat) ({ cls := "NetMenderModel", name := "meshes", desc := "(I)I" } : Jvm.MethodName)) ∈ xw_ALL := xw_in5 124 (by rfl) rfl
theorem ww_1085 : (Jvm.Cond.static ({ cls := "NetMenderModel", name := "meshes", desc := "(I)I" } : Jvm.MethodName)) ∈ xw_ALL := xw_in5 125 (by rfl) rfl
theorem ww_1086 : (Jvm.Cond.code ({ cls := "NetMenderModel", name := "meshes", desc := "(I)I" } : Jvm.MethodName) prog_13_method_69_code (3 : Nat) (Option.some Jvm.ClassFile.FieldType.int)) ∈ xw_ALL := xw_in5 126 (by rfl) rfl
theorem ww_1087 : (Jvm.Cond.methodLink "NetMenderModel" (236 : Nat) ({ cls := "NetMenderModel", name := "bitsOf", desc := "(I)I" } : Jvm.MethodName)) ∈ xw_ALL := xw_in5 127 (by rfl) rfl
theorem ww_1088 : (Jvm.Cond.static ({ cls := "NetMenderModel", name := "bitsOf", desc := "(I)I" } : Jvm.MethodName)) ∈ xw_ALL := xw_in5 128 (by rfl) rfl
theorem ww_1089 : (Jvm.Cond.code ({ cls := "NetMenderModel", name := "bitsOf", desc := "(I)I" } : Jvm.MethodName) prog_13_method_70_code (3 : Nat) (Option.some Jvm.ClassFile.FieldType.int)) ∈ xw_ALL := xw_in5 129 (by rfl) rfl
theorem ww_1090 : (Jvm.Cond.methodLink "NetMenderLaw" (91 : Nat) ({ cls := "NetMenderModel", name := "minutes", desc := "(I)I" } : Jvm.MethodName)) ∈ xw_ALL := xw_in5 130 (by rfl) rfl
theorem ww_1091 : (Jvm.Cond.instanceMethod ({ cls := "NetMenderModel", name := "minutes", desc := "(I)I" } : Jvm.MethodName)) ∈ xw_ALL := xw_in5 131 (by rfl) rfl
theorem ww_1092 : (Jvm.Cond.selects "NetMenderModel" ({ cls := "NetMenderModel", name := "minutes", desc := "(I)I" } : Jvm.MethodName) ({ cls := "NetMenderModel", name := "minutes", desc := "(I)I" } : Jvm.MethodName)) ∈ xw_ALL := xw_in5 132 (by rfl) rfl
theorem ww_1093 : (Jvm.Cond.code ({ cls := "NetMenderModel", name := "minutes", desc := "(I)I" } : Jvm.MethodName) prog_13_method_74_code (5 : Nat) (Option.some Jvm.ClassFile.FieldType.int)) ∈ xw_ALL := xw_in5 133 (by rfl) rfl
theorem ww_1094 : (Jvm.Cond.methodLink "NetMenderModel" (239 : Nat) ({ cls := "NetMenderModel", name := "threes", desc := "(I)I" } : Jvm.MethodName)) ∈ xw_ALL := xw_in5 134 (by rfl) rfl
theorem ww_1095 : (Jvm.Cond.static ({ cls := "NetMenderModel", name := "threes", desc := "(I)I" } : Jvm.MethodName)) ∈ xw_ALL := xw_in5 135 (by rfl) rfl
theorem ww_1096 : (Jvm.Cond.code ({ cls := "NetMenderModel", name := "threes", desc := "(I)I" } : Jvm.MethodName) prog_13_method_73_code (3 : Nat) (Option.some Jvm.ClassFile.FieldType.int)) ∈ xw_ALL := xw_in5 136 (by rfl) rfl
theorem ww_1097 : (Jvm.Cond.methodLink "NetMenderModel" (242 : Nat) ({ cls := "NetMenderModel", name := "minutesBy", desc := "(II)I" } : Jvm.MethodName)) ∈ xw_ALL := xw_in5 137 (by rfl) rfl
theorem ww_1099 : (Jvm.Cond.instanceMethod ({ cls := "NetMenderModel", name := "minutesBy", desc := "(II)I" } : Jvm.MethodName)) ∈ xw_ALL := xw_in5 139 (by rfl) rfl
theorem ww_1100 : (Jvm.Cond.code ({ cls := "NetMenderModel", name := "minutesBy", desc := "(II)I" } : Jvm.MethodName) prog_13_method_72_code (5 : Nat) (Option.some Jvm.ClassFile.FieldType.int)) ∈ xw_ALL := xw_in5 140 (by rfl) rfl
theorem ww_1101 : (Jvm.Cond.methodLink "NetMenderLaw" (95 : Nat) ({ cls := "NetMenderModel", name := "days", desc := "(I)I" } : Jvm.MethodName)) ∈ xw_ALL := xw_in5 141 (by rfl) rfl
theorem ww_1102 : (Jvm.Cond.instanceMethod ({ cls := "NetMenderModel", name := "days", desc := "(I)I" } : Jvm.MethodName)) ∈ xw_ALL := xw_in5 142 (by rfl) rfl
theorem ww_1103 : (Jvm.Cond.selects "NetMenderModel" ({ cls := "NetMenderModel", name := "days", desc := "(I)I" } : Jvm.MethodName) ({ cls := "NetMenderModel", name := "days", desc := "(I)I" } : Jvm.MethodName)) ∈ xw_ALL := xw_in5 143 (by rfl) rfl
theorem ww_1104 : (Jvm.Cond.code ({ cls := "NetMenderModel", name := "days", desc := "(I)I" } : Jvm.MethodName) prog_13_method_78_code (2 : Nat) (Option.some Jvm.ClassFile.FieldType.int)) ∈ xw_ALL := xw_in5 144 (by rfl) rfl
theorem ww_1105 : (Jvm.Cond.methodLink "NetMenderModel" (251 : Nat) ({ cls := "NetMenderModel", name := "go", desc := "(I)V" } : Jvm.MethodName)) ∈ xw_ALL := xw_in5 145 (by rfl) rfl
theorem ww_1107 : (Jvm.Cond.instanceMethod ({ cls := "NetMenderModel", name := "go", desc := "(I)V" } : Jvm.MethodName)) ∈ xw_ALL := xw_in5 147 (by rfl) rfl
theorem ww_1108 : (Jvm.Cond.code ({ cls := "NetMenderModel", name := "go", desc := "(I)V" } : Jvm.MethodName) prog_13_method_77_code (3 : Nat) (Option.none : Option Jvm.ClassFile.FieldType)) ∈ xw_ALL := xw_in5 148 (by rfl) rfl
theorem ww_1109 : (Jvm.Cond.methodLink "NetMenderModel" (248 : Nat) ({ cls := "NetMenderModel", name := "day", desc := "()V" } : Jvm.MethodName)) ∈ xw_ALL := xw_in5 149 (by rfl) rfl
theorem ww_1111 : (Jvm.Cond.instanceMethod ({ cls := "NetMenderModel", name := "day", desc := "()V" } : Jvm.MethodName)) ∈ xw_ALL := xw_in5 151 (by rfl) rfl
theorem ww_1112 : (Jvm.Cond.code ({ cls := "NetMenderModel", name := "day", desc := "()V" } : Jvm.MethodName) prog_13_method_76_code (2 : Nat) (Option.none : Option Jvm.ClassFile.FieldType)) ∈ xw_ALL := xw_in5 152 (by rfl) rfl
theorem ww_1113 : (Jvm.Cond.methodLink "NetMenderModel" (245 : Nat) ({ cls := "NetMenderModel", name := "wears", desc := "(I)I" } : Jvm.MethodName)) ∈ xw_ALL := xw_in5 153 (by rfl) rfl
theorem ww_1115 : (Jvm.Cond.instanceMethod ({ cls := "NetMenderModel", name := "wears", desc := "(I)I" } : Jvm.MethodName)) ∈ xw_ALL := xw_in5 155 (by rfl) rfl
theorem ww_1116 : (Jvm.Cond.code ({ cls := "NetMenderModel", name := "wears", desc := "(I)I" } : Jvm.MethodName) prog_13_method_75_code (3 : Nat) (Option.some Jvm.ClassFile.FieldType.int)) ∈ xw_ALL := xw_in5 156 (by rfl) rfl
theorem ww_1117 : (Jvm.Cond.methodLink "NetMenderLaw" (99 : Nat) ({ cls := "NetMenderModel", name := "draws", desc := "(I)I" } : Jvm.MethodName)) ∈ xw_ALL := xw_in5 157 (by rfl) rfl
theorem ww_1118 : (Jvm.Cond.instanceMethod ({ cls := "NetMenderModel", name := "draws", desc := "(I)I" } : Jvm.MethodName)) ∈ xw_ALL := xw_in5 158 (by rfl) rfl
theorem ww_1119 : (Jvm.Cond.selects "NetMenderModel" ({ cls := "NetMenderModel", name := "draws", desc := "(I)I" } : Jvm.MethodName) ({ cls := "NetMenderModel", name := "draws", desc := "(I)I" } : Jvm.MethodName)) ∈ xw_ALL := xw_in5 159 (by rfl) rfl
theorem ww_1120 : (Jvm.Cond.code ({ cls := "NetMenderModel", name := "draws", desc := "(I)I" } : Jvm.MethodName) prog_13_method_80_code (3 : Nat) (Option.some Jvm.ClassFile.FieldType.int)) ∈ xw_ALL := xw_in5 160 (by rfl) rfl
theorem ww_1121 : (Jvm.Cond.methodLink "NetMenderModel" (255 : Nat) ({ cls := "NetMenderModel", name := "draw", desc := "()I" } : Jvm.MethodName)) ∈ xw_ALL := xw_in5 161 (by rfl) rfl
theorem ww_1123 : (Jvm.Cond.instanceMethod ({ cls := "NetMenderModel", name := "draw", desc := "()I" } : Jvm.MethodName)) ∈ xw_ALL := xw_in5 163 (by rfl) rfl
theorem ww_1124 : (Jvm.Cond.code ({ cls := "NetMenderModel", name := "draw", desc := "()I" } : Jvm.MethodName) prog_13_method_79_code (1 : Nat) (Option.some Jvm.ClassFile.FieldType.int)) ∈ xw_ALL := xw_in5 164 (by rfl) rfl
theorem ww_1125 : (Jvm.Cond.constant "NetMenderModel" (254 : Nat) (1103515245 : Int32)) ∈ xw_ALL := xw_in5 165 (by rfl) rfl
theorem ww_1126 : (Jvm.Cond.methodLink "NetMenderLaw" (103 : Nat) ({ cls := "NetMenderModel", name := "seed", desc := "(I)I" } : Jvm.MethodName)) ∈ xw_ALL := xw_in5 166 (by rfl) rfl
theorem ww_1127 : (Jvm.Cond.instanceMethod ({ cls := "NetMenderModel", name := "seed", desc := "(I)I" } : Jvm.MethodName)) ∈ xw_ALL := xw_in5 167 (by rfl) rfl
theorem ww_1128 : (Jvm.Cond.selects "NetMenderModel" ({ cls := "NetMenderModel", name := "seed", desc := "(I)I" } : Jvm.MethodName) ({ cls := "NetMenderModel", name := "seed", desc := "(I)I" } : Jvm.MethodName)) ∈ xw_ALL := xw_in5 168 (by rfl) rfl
theorem ww_1129 : (Jvm.Cond.code ({ cls := "NetMenderModel", name := "seed", desc := "(I)I" } : Jvm.MethodName) prog_13_method_81_code (2 : Nat) (Option.some Jvm.ClassFile.FieldType.int)) ∈ xw_ALL := xw_in5 169 (by rfl) rfl
theorem ww_1130 : (Jvm.Cond.methodLink "NetMenderLaw" (107 : Nat) ({ cls := "NetMenderModel", name := "then", desc := "(III)I" } : Jvm.MethodName)) ∈ xw_ALL := xw_in5 170 (by rfl) rfl
theorem ww_1131 : (Jvm.Cond.instanceMethod ({ cls := "NetMenderModel", name := "then", desc := "(III)I" } : Jvm.MethodName)) ∈ xw_ALL := xw_in5 171 (by rfl) rfl
theorem ww_1132 : (Jvm.Cond.selects "NetMenderModel" ({ cls := "NetMenderModel", name := "then", desc := "(III)I" } : Jvm.MethodName) ({ cls := "NetMenderModel", name := "then", desc := "(III)I" } : Jvm.MethodName)) ∈ xw_ALL := xw_in5 172 (by rfl) rfl
theorem ww_1133 : (Jvm.Cond.code ({ cls := "NetMenderModel", name := "then", desc := "(III)I" } : Jvm.MethodName) prog_13_method_82_code (5 : Nat) (Option.some Jvm.ClassFile.FieldType.int)) ∈ xw_ALL := xw_in5 173 (by rfl) rfl
theorem ww_1134 : (Jvm.Cond.methodLink "NetMenderModel" (258 : Nat) ({ cls := "NetMenderModel", name := "layDown", desc := "()V" } : Jvm.MethodName)) ∈ xw_ALL := xw_in5 174 (by rfl) rfl
theorem ww_1136 : (Jvm.Cond.instanceMethod ({ cls := "NetMenderModel", name := "layDown", desc := "()V" } : Jvm.MethodName)) ∈ xw_ALL := xw_in5 176 (by rfl) rfl
theorem ww_1137 : (Jvm.Cond.code ({ cls := "NetMenderModel", name := "layDown", desc := "()V" } : Jvm.MethodName) prog_13_method_6_code (1 : Nat) (Option.none : Option Jvm.ClassFile.FieldType)) ∈ xw_ALL := xw_in5 177 (by rfl) rfl
theorem ww_1138 : (Jvm.Cond.methodLink "NetMenderModel" (56 : Nat) ({ cls := "NetMenderModel", name := "carry", desc := "([I[II)V" } : Jvm.MethodName)) ∈ xw_ALL := xw_in5 178 (by rfl) rfl
theorem ww_1139 : (Jvm.Cond.static ({ cls := "NetMenderModel", name := "carry", desc := "([I[II)V" } : Jvm.MethodName)) ∈ xw_ALL := xw_in5 179 (by rfl) rfl
theorem ww_1140 : (Jvm.Cond.code ({ cls := "NetMenderModel", name := "carry", desc := "([I[II)V" } : Jvm.MethodName) prog_13_method_5_code (4 : Nat) (Option.none : Option Jvm.ClassFile.FieldType)) ∈ xw_ALL := xw_in5 180 (by rfl) rfl
theorem ww_1141 : (Jvm.Cond.methodLink "NetMenderModel" (261 : Nat) ({ cls := "NetMenderModel", name := "layBack", desc := "()V" } : Jvm.MethodName)) ∈ xw_ALL := xw_in5 181 (by rfl) rfl
theorem ww_1143 : (Jvm.Cond.instanceMethod ({ cls := "NetMenderModel", name := "layBack", desc := "()V" } : Jvm.MethodName)) ∈ xw_ALL := xw_in5 183 (by rfl) rfl
theorem ww_1144 : (Jvm.Cond.code ({ cls := "NetMenderModel", name := "layBack", desc := "()V" } : Jvm.MethodName) prog_13_method_7_code (1 : Nat) (Option.none : Option Jvm.ClassFile.FieldType)) ∈ xw_ALL := xw_in5 184 (by rfl) rfl
theorem ww_1145 : (Jvm.Cond.methodLink "NetMenderLaw" (111 : Nat) ({ cls := "NetMenderModel", name := "goes", desc := "(II)I" } : Jvm.MethodName)) ∈ xw_ALL := xw_in5 185 (by rfl) rfl
theorem ww_1146 : (Jvm.Cond.instanceMethod ({ cls := "NetMenderModel", name := "goes", desc := "(II)I" } : Jvm.MethodName)) ∈ xw_ALL := xw_in5 186 (by rfl) rfl
theorem ww_1147 : (Jvm.Cond.selects "NetMenderModel" ({ cls := "NetMenderModel", name := "goes", desc := "(II)I" } : Jvm.MethodName) ({ cls := "NetMenderModel", name := "goes", desc := "(II)I" } : Jvm.MethodName)) ∈ xw_ALL := xw_in5 187 (by rfl) rfl
theorem ww_1148 : (Jvm.Cond.code ({ cls := "NetMenderModel", name := "goes", desc := "(II)I" } : Jvm.MethodName) prog_13_method_83_code (6 : Nat) (Option.some Jvm.ClassFile.FieldType.int)) ∈ xw_ALL := xw_in5 188 (by rfl) rfl
theorem ww_1149 : (Jvm.Cond.methodLink "NetMenderLaw" (115 : Nat) ({ cls := "NetMenderModel", name := "mendAhead", desc := "(II)I" } : Jvm.MethodName)) ∈ xw_ALL := xw_in5 189 (by rfl) rfl
theorem ww_1150 : (Jvm.Cond.instanceMethod ({ cls := "NetMenderModel", name := "mendAhead", desc := "(II)I" } : Jvm.MethodName)) ∈ xw_ALL := xw_in5 190 (by rfl) rfl
theorem ww_1151 : (Jvm.Cond.selects "NetMenderModel" ({ cls := "NetMenderModel", name := "mendAhead", desc := "(II)I" } : Jvm.MethodName) ({ cls := "NetMenderModel", name := "mendAhead", desc := "(II)I" } : Jvm.MethodName)) ∈ xw_ALL := xw_in5 191 (by rfl) rfl
theorem ww_1152 : (Jvm.Cond.code ({ cls := "NetMenderModel", name := "mendAhead", desc := "(II)I" } : Jvm.MethodName) prog_13_method_84_code (7 : Nat) (Option.some Jvm.ClassFile.FieldType.int)) ∈ xw_ALL := xw_in5 192 (by rfl) rfl
theorem ww_1153 : (Jvm.Cond.methodLink "NetMenderLaw" (119 : Nat) ({ cls := "NetMenderModel", name := "hands", desc := "(II)I" } : Jvm.MethodName)) ∈ xw_ALL := xw_in5 193 (by rfl) rfl
theorem ww_1154 : (Jvm.Cond.instanceMethod ({ cls := "NetMenderModel", name := "hands", desc := "(II)I" } : Jvm.MethodName)) ∈ xw_ALL := xw_in5 194 (by rfl) rfl
theorem ww_1155 : (Jvm.Cond.selects "NetMenderModel" ({ cls := "NetMenderModel", name := "hands", desc := "(II)I" } : Jvm.MethodName) ({ cls := "NetMenderModel", name := "hands", desc := "(II)I" } : Jvm.MethodName)) ∈ xw_ALL := xw_in5 195 (by rfl) rfl
theorem ww_1156 : (Jvm.Cond.code ({ cls := "NetMenderModel", name := "hands", desc := "(II)I" } : Jvm.MethodName) prog_13_method_85_code (5 : Nat) (Option.some Jvm.ClassFile.FieldType.int)) ∈ xw_ALL := xw_in5 196 (by rfl) rfl
theorem ww_1157 : (Jvm.Cond.methodLink "NetMenderLaw" (124 : Nat) ({ cls := "NetMenderModel", name := "swimsOut", desc := "(I)J" } : Jvm.MethodName)) ∈ xw_ALL := xw_in5 197 (by rfl) rfl
theorem ww_1158 : (Jvm.Cond.instanceMethod ({ cls := "NetMenderModel", name := "swimsOut", desc := "(I)J" } : Jvm.MethodName)) ∈ xw_ALL := xw_in5 198 (by rfl) rfl
theorem ww_1159 : (Jvm.Cond.selects "NetMenderModel" ({ cls := "NetMenderModel", name := "swimsOut", desc := "(I)J" } : Jvm.MethodName) ({ cls := "NetMenderModel", name := "swimsOut", desc := "(I)J" } : Jvm.MethodName)) ∈ xw_ALL := xw_in5 199 (by rfl) rfl
theorem ww_1160 : (Jvm.Cond.code ({ cls := "NetMenderModel", name := "swimsOut", desc := "(I)J" } : Jvm.MethodName) prog_13_method_86_code (7 : Nat) (Option.some Jvm.ClassFile.FieldType.long)) ∈ xw_ALL := xw_in5 200 (by rfl) rfl
theorem ww_1161 : (Jvm.Cond.constantLong "NetMenderModel" (264 : Nat) (31 : Int64)) ∈ xw_ALL := xw_in5 201 (by rfl) rfl
theorem ww_1162 : (Jvm.Cond.methodLink "NetMenderLaw" (128 : Nat) ({ cls := "NetMenderModel", name := "voice", desc := "(III)I" } : Jvm.MethodName)) ∈ xw_ALL := xw_in5 202 (by rfl) rfl
theorem ww_1163 : (Jvm.Cond.instanceMethod ({ cls := "NetMenderModel", name := "voice", desc := "(III)I" } : Jvm.MethodName)) ∈ xw_ALL := xw_in5 203 (by rfl) rfl
theorem ww_1164 : (Jvm.Cond.selects "NetMenderModel" ({ cls := "NetMenderModel", name := "voice", desc := "(III)I" } : Jvm.MethodName) ({ cls := "NetMenderModel", name := "voice", desc := "(III)I" } : Jvm.MethodName)) ∈ xw_ALL := xw_in5 204 (by rfl) rfl
theorem ww_1165 : (Jvm.Cond.code ({ cls := "NetMenderModel", name := "voice", desc := "(III)I" } : Jvm.MethodName) prog_13_method_95_code (6 : Nat) (Option.some Jvm.ClassFile.FieldType.int)) ∈ xw_ALL := xw_in5 205 (by rfl) rfl
theorem ww_1166 : (Jvm.Cond.methodLink "NetMenderModel" (281 : Nat) ({ cls := "NetMenderModel", name := "kindNow", desc := "()I" } : Jvm.MethodName)) ∈ xw_ALL := xw_in5 206 (by rfl) rfl
theorem ww_1168 : (Jvm.Cond.instanceMethod ({ cls := "NetMenderModel", name := "kindNow", desc := "()I" } : Jvm.MethodName)) ∈ xw_ALL := xw_in5 208 (by rfl) rfl
theorem ww_1169 : (Jvm.Cond.code ({ cls := "NetMenderModel", name := "kindNow", desc := "()I" } : Jvm.MethodName) prog_13_method_89_code (1 : Nat) (Option.some Jvm.ClassFile.FieldType.int)) ∈ xw_ALL := xw_in5 209 (by rfl) rfl
theorem ww_1170 : (Jvm.Cond.methodLink "NetMenderModel" (278 : Nat) ({ cls := "NetMenderModel", name := "holdsAs", desc := "(II)I" } : Jvm.MethodName)) ∈ xw_ALL := xw_in5 210 (by rfl) rfl
theorem ww_1172 : (Jvm.Cond.instanceMethod ({ cls := "NetMenderModel", name := "holdsAs", desc := "(II)I" } : Jvm.MethodName)) ∈ xw_ALL := xw_in5 212 (by rfl) rfl
theorem ww_1173 : (Jvm.Cond.code ({ cls := "NetMenderModel", name := "holdsAs", desc := "(II)I" } : Jvm.MethodName) prog_13_method_91_code (3 : Nat) (Option.some Jvm.ClassFile.FieldType.int)) ∈ xw_ALL := xw_in5 213 (by rfl) rfl
theorem ww_1174 : (Jvm.Cond.methodLink "NetMenderModel" (272 : Nat) ({ cls := "NetMenderModel", name := "begins", desc := "(I)V" } : Jvm.MethodName)) ∈ xw_ALL := xw_in5 214 (by rfl) rfl
theorem ww_1176 : (Jvm.Cond.instanceMethod ({ cls := "NetMenderModel", name := "begins", desc := "(I)V" } : Jvm.MethodName)) ∈ xw_ALL := xw_in5 216 (by rfl) rfl
theorem ww_1177 : (Jvm.Cond.code ({ cls := "NetMenderModel", name := "begins", desc := "(I)V" } : Jvm.MethodName) prog_13_method_87_code (2 : Nat) (Option.none : Option Jvm.ClassFile.FieldType)) ∈ xw_ALL := xw_in5 217 (by rfl) rfl
theorem ww_1178 : (Jvm.Cond.methodLink "NetMenderModel" (275 : Nat) ({ cls := "NetMenderModel", name := "above", desc := "(I)I" } : Jvm.MethodName)) ∈ xw_ALL := xw_in5 218 (by rfl) rfl
theorem ww_1179 : (Jvm.Cond.static ({ cls := "NetMenderModel", name := "above", desc := "(I)I" } : Jvm.MethodName)) ∈ xw_ALL := xw_in5 219 (by rfl) rfl
theorem ww_1180 : (Jvm.Cond.code ({ cls := "NetMenderModel", name := "above", desc := "(I)I" } : Jvm.MethodName) prog_13_method_88_code (1 : Nat) (Option.some Jvm.ClassFile.FieldType.int)) ∈ xw_ALL := xw_in5 220 (by rfl) rfl
theorem ww_1181 : (Jvm.Cond.methodLink "NetMenderModel" (284 : Nat) ({ cls := "NetMenderModel", name := "slipsAs", desc := "(II)I" } : Jvm.MethodName)) ∈ xw_ALL := xw_in5 221 (by rfl) rfl
theorem ww_1183 : (Jvm.Cond.instanceMethod ({ cls := "NetMenderModel", name := "slipsAs", desc := "(II)I" } : Jvm.MethodName)) ∈ xw_ALL := xw_in5 223 (by rfl) rfl
theorem ww_1184 : (Jvm.Cond.code ({ cls := "NetMenderModel", name := "slipsAs", desc := "(II)I" } : Jvm.MethodName) prog_13_method_92_code (3 : Nat) (Option.some Jvm.ClassFile.FieldType.int)) ∈ xw_ALL := xw_in5 224 (by rfl) rfl
theorem ww_1185 : (Jvm.Cond.methodLink "NetMenderModel" (287 : Nat) ({ cls := "NetMenderModel", name := "mNow", desc := "()I" } : Jvm.MethodName)) ∈ xw_ALL := xw_in5 225 (by rfl) rfl
theorem ww_1187 : (Jvm.Cond.instanceMethod ({ cls := "NetMenderModel", name := "mNow", desc := "()I" } : Jvm.MethodName)) ∈ xw_ALL := xw_in5 227 (by rfl) rfl
theorem ww_1188 : (Jvm.Cond.code ({ cls := "NetMenderModel", name := "mNow", desc := "()I" } : Jvm.MethodName) prog_13_method_90_code (1 : Nat) (Option.some Jvm.ClassFile.FieldType.int)) ∈ xw_ALL := xw_in5 228 (by rfl) rfl
theorem ww_1189 : (Jvm.Cond.methodLink "NetMenderModel" (290 : Nat) ({ cls := "NetMenderModel", name := "tiesAs", desc := "(II)I" } : Jvm.MethodName)) ∈ xw_ALL := xw_in5 229 (by rfl) rfl
theorem ww_1191 : (Jvm.Cond.instanceMethod ({ cls := "NetMenderModel", name := "tiesAs", desc := "(II)I" } : Jvm.MethodName)) ∈ xw_ALL := xw_in5 231 (by rfl) rfl
theorem ww_1192 : (Jvm.Cond.code ({ cls := "NetMenderModel", name := "tiesAs", desc := "(II)I" } : Jvm.MethodName) prog_13_method_93_code (3 : Nat) (Option.some Jvm.ClassFile.FieldType.int)) ∈ xw_ALL := xw_in5 232 (by rfl) rfl
theorem ww_1193 : (Jvm.Cond.methodLink "NetMenderModel" (297 : Nat) ({ cls := "NetMenderModel", name := "partsAs", desc := "(II)I" } : Jvm.MethodName)) ∈ xw_ALL := xw_in5 233 (by rfl) rfl
theorem ww_1195 : (Jvm.Cond.instanceMethod ({ cls := "NetMenderModel", name := "partsAs", desc := "(II)I" } : Jvm.MethodName)) ∈ xw_ALL := xw_in5 235 (by rfl) rfl
theorem ww_1196 : (Jvm.Cond.code ({ cls := "NetMenderModel", name := "partsAs", desc := "(II)I" } : Jvm.MethodName) prog_13_method_94_code (5 : Nat) (Option.some Jvm.ClassFile.FieldType.int)) ∈ xw_ALL := xw_in5 236 (by rfl) rfl
theorem ww_1197 : (Jvm.Cond.methodLink "NetMenderLaw" (132 : Nat) ({ cls := "NetMenderModel", name := "body", desc := "(I)I" } : Jvm.MethodName)) ∈ xw_ALL := xw_in5 237 (by rfl) rfl
theorem ww_1198 : (Jvm.Cond.instanceMethod ({ cls := "NetMenderModel", name := "body", desc := "(I)I" } : Jvm.MethodName)) ∈ xw_ALL := xw_in5 238 (by rfl) rfl
theorem ww_1199 : (Jvm.Cond.selects "NetMenderModel" ({ cls := "NetMenderModel", name := "body", desc := "(I)I" } : Jvm.MethodName) ({ cls := "NetMenderModel", name := "body", desc := "(I)I" } : Jvm.MethodName)) ∈ xw_ALL := xw_in5 239 (by rfl) rfl
theorem ww_1200 : (Jvm.Cond.code ({ cls := "NetMenderModel", name := "body", desc := "(I)I" } : Jvm.MethodName) prog_13_method_96_code (2 : Nat) (Option.some Jvm.ClassFile.FieldType.int)) ∈ xw_ALL := xw_in6 0 (by rfl) rfl
theorem ww_1201 : (Jvm.Cond.methodLink "NetMenderLaw" (136 : Nat) ({ cls := "NetMenderModel", name := "sheet", desc := "(III)I" } : Jvm.MethodName)) ∈ xw_ALL := xw_in6 1 (by rfl) rfl
theorem ww_1202 : (Jvm.Cond.instanceMethod ({ cls := "NetMenderModel", name := "sheet", desc := "(III)I" } : Jvm.MethodName)) ∈ xw_ALL := xw_in6 2 (by rfl) rfl
theorem ww_1203 : (Jvm.Cond.selects "NetMenderModel" ({ cls := "NetMenderModel", name := "sheet", desc := "(III)I" } : Jvm.MethodName) ({ cls := "NetMenderModel", name := "sheet", desc := "(III)I" } : Jvm.MethodName)) ∈ xw_ALL := xw_in6 3 (by rfl) rfl
theorem ww_1204 : (Jvm.Cond.code ({ cls := "NetMenderModel", name := "sheet", desc := "(III)I" } : Jvm.MethodName) prog_13_method_98_code (5 : Nat) (Option.some Jvm.ClassFile.FieldType.int)) ∈ xw_ALL := xw_in6 4 (by rfl) rfl
theorem ww_1205 : (Jvm.Cond.methodLink "NetMenderLaw" (140 : Nat) ({ cls := "NetMenderModel", name := "put", desc := "(III)I" } : Jvm.MethodName)) ∈ xw_ALL := xw_in6 5 (by rfl) rfl
theorem ww_1206 : (Jvm.Cond.instanceMethod ({ cls := "NetMenderModel", name := "put", desc := "(III)I" } : Jvm.MethodName)) ∈ xw_ALL := xw_in6 6 (by rfl) rfl
theorem ww_1207 : (Jvm.Cond.selects "NetMenderModel" ({ cls := "NetMenderModel", name := "put", desc := "(III)I" } : Jvm.MethodName) ({ cls := "NetMenderModel", name := "put", desc := "(III)I" } : Jvm.MethodName)) ∈ xw_ALL := xw_in6 7 (by rfl) rfl
theorem ww_1208 : (Jvm.Cond.code ({ cls := "NetMenderModel", name := "put", desc := "(III)I" } : Jvm.MethodName) prog_13_method_99_code (5 : Nat) (Option.some Jvm.ClassFile.FieldType.int)) ∈ xw_ALL := xw_in6 8 (by rfl) rfl
theorem ww_1209 : (Jvm.Cond.methodLink "NetMenderLaw" (145 : Nat) ({ cls := "NetMenderModel", name := "move", desc := "(IIIII)I" } : Jvm.MethodName)) ∈ xw_ALL := xw_in6 9 (by rfl) rfl
theorem ww_1210 : (Jvm.Cond.instanceMethod ({ cls := "NetMenderModel", name := "move", desc := "(IIIII)I" } : Jvm.MethodName)) ∈ xw_ALL := xw_in6 10 (by rfl) rfl
theorem ww_1211 : (Jvm.Cond.selects "NetMenderModel" ({ cls := "NetMenderModel", name := "move", desc := "(IIIII)I" } : Jvm.MethodName) ({ cls := "NetMenderModel", name := "move", desc := "(IIIII)I" } : Jvm.MethodName)) ∈ xw_ALL := xw_in6 11 (by rfl) rfl
theorem ww_1212 : (Jvm.Cond.code ({ cls := "NetMenderModel", name := "move", desc := "(IIIII)I" } : Jvm.MethodName) prog_13_method_100_code (7 : Nat) (Option.some Jvm.ClassFile.FieldType.int)) ∈ xw_ALL := xw_in6 12 (by rfl) rfl
theorem ww_1213 : (Jvm.Cond.methodLink "NetMenderLaw" (149 : Nat) ({ cls := "NetMenderModel", name := "cutAll", desc := "(I)I" } : Jvm.MethodName)) ∈ xw_ALL := xw_in6 13 (by rfl) rfl
theorem ww_1214 : (Jvm.Cond.instanceMethod ({ cls := "NetMenderModel", name := "cutAll", desc := "(I)I" } : Jvm.MethodName)) ∈ xw_ALL := xw_in6 14 (by rfl) rfl
theorem ww_1215 : (Jvm.Cond.selects "NetMenderModel" ({ cls := "NetMenderModel", name := "cutAll", desc := "(I)I" } : Jvm.MethodName) ({ cls := "NetMenderModel", name := "cutAll", desc := "(I)I" } : Jvm.MethodName)) ∈ xw_ALL := xw_in6 15 (by rfl) rfl
theorem ww_1216 : (Jvm.Cond.code ({ cls := "NetMenderModel", name := "cutAll", desc := "(I)I" } : Jvm.MethodName) prog_13_method_102_code (4 : Nat) (Option.some Jvm.ClassFile.FieldType.int)) ∈ xw_ALL := xw_in6 16 (by rfl) rfl
theorem ww_1217 : (Jvm.Cond.methodLink "NetMenderModel" (300 : Nat) ({ cls := "NetMenderModel", name := "lacks", desc := "(I)I" } : Jvm.MethodName)) ∈ xw_ALL := xw_in6 17 (by rfl) rfl
theorem ww_1219 : (Jvm.Cond.instanceMethod ({ cls := "NetMenderModel", name := "lacks", desc := "(I)I" } : Jvm.MethodName)) ∈ xw_ALL := xw_in6 19 (by rfl) rfl
theorem ww_1220 : (Jvm.Cond.code ({ cls := "NetMenderModel", name := "lacks", desc := "(I)I" } : Jvm.MethodName) prog_13_method_101_code (2 : Nat) (Option.some Jvm.ClassFile.FieldType.int)) ∈ xw_ALL := xw_in6 20 (by rfl) rfl
theorem ww_1221 : (Jvm.Cond.methodLink "NetMenderLaw" (153 : Nat) ({ cls := "NetMenderModel", name := "judge", desc := "(I)I" } : Jvm.MethodName)) ∈ xw_ALL := xw_in6 21 (by rfl) rfl
theorem ww_1222 : (Jvm.Cond.instanceMethod ({ cls := "NetMenderModel", name := "judge", desc := "(I)I" } : Jvm.MethodName)) ∈ xw_ALL := xw_in6 22 (by rfl) rfl
theorem ww_1223 : (Jvm.Cond.selects "NetMenderModel" ({ cls := "NetMenderModel", name := "judge", desc := "(I)I" } : Jvm.MethodName) ({ cls := "NetMenderModel", name := "judge", desc := "(I)I" } : Jvm.MethodName)) ∈ xw_ALL := xw_in6 23 (by rfl) rfl
theorem ww_1224 : (Jvm.Cond.code ({ cls := "NetMenderModel", name := "judge", desc := "(I)I" } : Jvm.MethodName) prog_13_method_103_code (4 : Nat) (Option.some Jvm.ClassFile.FieldType.int)) ∈ xw_ALL := xw_in6 24 (by rfl) rfl
theorem ww_1225 : (Jvm.Cond.methodLink "NetMenderLaw" (157 : Nat) ({ cls := "NetMenderModel", name := "image", desc := "()I" } : Jvm.MethodName)) ∈ xw_ALL := xw_in6 25 (by rfl) rfl
theorem ww_1226 : (Jvm.Cond.instanceMethod ({ cls := "NetMenderModel", name := "image", desc := "()I" } : Jvm.MethodName)) ∈ xw_ALL := xw_in6 26 (by rfl) rfl
theorem ww_1227 : (Jvm.Cond.selects "NetMenderModel" ({ cls := "NetMenderModel", name := "image", desc := "()I" } : Jvm.MethodName) ({ cls := "NetMenderModel", name := "image", desc := "()I" } : Jvm.MethodName)) ∈ xw_ALL := xw_in6 27 (by rfl) rfl
theorem ww_1228 : (Jvm.Cond.code ({ cls := "NetMenderModel", name := "image", desc := "()I" } : Jvm.MethodName) prog_13_method_104_code (1 : Nat) (Option.some Jvm.ClassFile.FieldType.int)) ∈ xw_ALL := xw_in6 28 (by rfl) rfl
theorem ww_1229 : (Jvm.Cond.methodLink "NetMenderLaw" (161 : Nat) ({ cls := "NetMenderModel", name := "restore", desc := "()I" } : Jvm.MethodName)) ∈ xw_ALL := xw_in6 29 (by rfl) rfl
theorem ww_1230 : (Jvm.Cond.instanceMethod ({ cls := "NetMenderModel", name := "restore", desc := "()I" } : Jvm.MethodName)) ∈ xw_ALL := xw_in6 30 (by rfl) rfl
theorem ww_1231 : (Jvm.Cond.selects "NetMenderModel" ({ cls := "NetMenderModel", name := "restore", desc := "()I" } : Jvm.MethodName) ({ cls := "NetMenderModel", name := "restore", desc := "()I" } : Jvm.MethodName)) ∈ xw_ALL := xw_in6 31 (by rfl) rfl
theorem ww_1232 : (Jvm.Cond.code ({ cls := "NetMenderModel", name := "restore", desc := "()I" } : Jvm.MethodName) prog_13_method_105_code (1 : Nat) (Option.some Jvm.ClassFile.FieldType.int)) ∈ xw_ALL := xw_in6 32 (by rfl) rfl
theorem ww_1233 : (Jvm.Cond.methodLink "NetMenderLaw" (165 : Nat) ({ cls := "NetMenderModel", name := "tell", desc := "(I)I" } : Jvm.MethodName)) ∈ xw_ALL := xw_in6 33 (by rfl) rfl
theorem ww_1234 : (Jvm.Cond.instanceMethod ({ cls := "NetMenderModel", name := "tell", desc := "(I)I" } : Jvm.MethodName)) ∈ xw_ALL := xw_in6 34 (by rfl) rfl
theorem ww_1235 : (Jvm.Cond.selects "NetMenderModel" ({ cls := "NetMenderModel", name := "tell", desc := "(I)I" } : Jvm.MethodName) ({ cls := "NetMenderModel", name := "tell", desc := "(I)I" } : Jvm.MethodName)) ∈ xw_ALL := xw_in6 35 (by rfl) rfl
theorem ww_1236 : (Jvm.Cond.code ({ cls := "NetMenderModel", name := "tell", desc := "(I)I" } : Jvm.MethodName) prog_13_method_106_code (2 : Nat) (Option.some Jvm.ClassFile.FieldType.int)) ∈ xw_ALL := xw_in6 36 (by rfl) rfl
theorem ww_1237 : (Jvm.Cond.methodLink "NetMenderLaw" (169 : Nat) ({ cls := "NetMenderModel", name := "check", desc := "()I" } : Jvm.MethodName)) ∈ xw_ALL := xw_in6 37 (by rfl) rfl
theorem ww_1238 : (Jvm.Cond.instanceMethod ({ cls := "NetMenderModel", name := "check", desc := "()I" } : Jvm.MethodName)) ∈ xw_ALL := xw_in6 38 (by rfl) rfl
theorem ww_1239 : (Jvm.Cond.selects "NetMenderModel" ({ cls := "NetMenderModel", name := "check", desc := "()I" } : Jvm.MethodName) ({ cls := "NetMenderModel", name := "check", desc := "()I" } : Jvm.MethodName)) ∈ xw_ALL := xw_in6 39 (by rfl) rfl
theorem ww_1240 : (Jvm.Cond.code ({ cls := "NetMenderModel", name := "check", desc := "()I" } : Jvm.MethodName) prog_13_method_107_code (4 : Nat) (Option.some Jvm.ClassFile.FieldType.int)) ∈ xw_ALL := xw_in6 40 (by rfl) rfl
theorem ww_1241 : (Jvm.Cond.methodLink "NetMenderLaw" (173 : Nat) ({ cls := "NetMenderModel", name := "count", desc := "(I)I" } : Jvm.MethodName)) ∈ xw_ALL := xw_in6 41 (by rfl) rfl
theorem ww_1242 : (Jvm.Cond.instanceMethod ({ cls := "NetMenderModel", name := "count", desc := "(I)I" } : Jvm.MethodName)) ∈ xw_ALL := xw_in6 42 (by rfl) rfl
theorem ww_1243 : (Jvm.Cond.selects "NetMenderModel" ({ cls := "NetMenderModel", name := "count", desc := "(I)I" } : Jvm.MethodName) ({ cls := "NetMenderModel", name := "count", desc := "(I)I" } : Jvm.MethodName)) ∈ xw_ALL := xw_in6 43 (by rfl) rfl
theorem ww_1244 : (Jvm.Cond.code ({ cls := "NetMenderModel", name := "count", desc := "(I)I" } : Jvm.MethodName) prog_13_method_108_code (5 : Nat) (Option.some Jvm.ClassFile.FieldType.int)) ∈ xw_ALL := xw_in6 44 (by rfl) rfl
theorem ww_1245 : (Jvm.Cond.methodLink "NetMenderLaw" (177 : Nat) ({ cls := "NetMenderModel", name := "told", desc := "(I)I" } : Jvm.MethodName)) ∈ xw_ALL := xw_in6 45 (by rfl) rfl
theorem ww_1246 : (Jvm.Cond.instanceMethod ({ cls := "NetMenderModel", name := "told", desc := "(I)I" } : Jvm.MethodName)) ∈ xw_ALL := xw_in6 46 (by rfl) rfl
theorem ww_1247 : (Jvm.Cond.selects "NetMenderModel" ({ cls := "NetMenderModel", name := "told", desc := "(I)I" } : Jvm.MethodName) ({ cls := "NetMenderModel", name := "told", desc := "(I)I" } : Jvm.MethodName)) ∈ xw_ALL := xw_in6 47 (by rfl) rfl
theorem ww_1248 : (Jvm.Cond.code ({ cls := "NetMenderModel", name := "told", desc := "(I)I" } : Jvm.MethodName) prog_13_method_109_code (2 : Nat) (Option.some Jvm.ClassFile.FieldType.int)) ∈ xw_ALL := xw_in6 48 (by rfl) rfl
theorem ww_1249 : (Jvm.Cond.constantLong "NetMenderLaw" (48 : Nat) (4294967295 : Int64)) ∈ xw_ALL := xw_in6 49 (by rfl) rfl
theorem wp_0 : Jvm.Cond.selects "NetMender" ({ cls := "NetMender", name := "refuse", desc := "(I)I" } : Jvm.MethodName) ({ cls := "NetMender", name := "refuse", desc := "(I)I" } : Jvm.MethodName) ∈ xw_ALL := List.mem_filter.mpr ⟨List.mem_append_left _ (List.mem_of_getElem? (i := 0) (by rfl)), rfl⟩
theorem wp_1 : Jvm.Cond.selects "NetMender$TextReader" ({ cls := "NetMender$TextReader", name := "takeValue", desc := "([IIII)I" } : Jvm.MethodName) ({ cls := "NetMender$TextReader", name := "takeValue", desc := "([IIII)I" } : Jvm.MethodName) ∈ xw_ALL := List.mem_filter.mpr ⟨List.mem_append_left _ (List.mem_of_getElem? (i := 1) (by rfl)), rfl⟩
theorem wp_2 : Jvm.Cond.selects "NetMender$TextReader" ({ cls := "NetMender$TextReader", name := "push", desc := "(I)V" } : Jvm.MethodName) ({ cls := "NetMender$TextReader", name := "push", desc := "(I)V" } : Jvm.MethodName) ∈ xw_ALL := List.mem_filter.mpr ⟨List.mem_append_left _ (List.mem_of_getElem? (i := 2) (by rfl)), rfl⟩
theorem wp_3 : Jvm.Cond.selects "NetMender$TextReader" ({ cls := "NetMender$TextReader", name := "endValue", desc := "()V" } : Jvm.MethodName) ({ cls := "NetMender$TextReader", name := "endValue", desc := "()V" } : Jvm.MethodName) ∈ xw_ALL := List.mem_filter.mpr ⟨List.mem_append_left _ (List.mem_of_getElem? (i := 3) (by rfl)), rfl⟩
theorem wp_4 : Jvm.Cond.selects "NetMender$TextReader" ({ cls := "NetMender$TextReader", name := "takeSign", desc := "(I)I" } : Jvm.MethodName) ({ cls := "NetMender$TextReader", name := "takeSign", desc := "(I)I" } : Jvm.MethodName) ∈ xw_ALL := List.mem_filter.mpr ⟨List.mem_append_left _ (List.mem_of_getElem? (i := 4) (by rfl)), rfl⟩
theorem wp_5 : Jvm.Cond.selects "NetMender$TextReader" ({ cls := "NetMender$TextReader", name := "settle", desc := "(I)V" } : Jvm.MethodName) ({ cls := "NetMender$TextReader", name := "settle", desc := "(I)V" } : Jvm.MethodName) ∈ xw_ALL := List.mem_filter.mpr ⟨List.mem_append_left _ (List.mem_of_getElem? (i := 5) (by rfl)), rfl⟩
theorem wp_6 : Jvm.Cond.selects "NetMender$Hour" ({ cls := "NetMender$Hour", name := "minutesOfTried", desc := "(I[I)I" } : Jvm.MethodName) ({ cls := "NetMender$Hour", name := "minutesOfTried", desc := "(I[I)I" } : Jvm.MethodName) ∈ xw_ALL := List.mem_filter.mpr ⟨List.mem_append_left _ (List.mem_of_getElem? (i := 6) (by rfl)), rfl⟩
theorem wp_7 : Jvm.Cond.selects "NetMender" ({ cls := "NetMender", name := "daysError", desc := "(I)I" } : Jvm.MethodName) ({ cls := "NetMender", name := "daysError", desc := "(I)I" } : Jvm.MethodName) ∈ xw_ALL := List.mem_filter.mpr ⟨List.mem_append_left _ (List.mem_of_getElem? (i := 7) (by rfl)), rfl⟩
theorem wp_8 : Jvm.Cond.selects "NetMender$Voices" ({ cls := "NetMender$Voices", name := "speak", desc := "(IIII)I" } : Jvm.MethodName) ({ cls := "NetMender$Voices", name := "speak", desc := "(IIII)I" } : Jvm.MethodName) ∈ xw_ALL := List.mem_filter.mpr ⟨List.mem_append_left _ (List.mem_of_getElem? (i := 8) (by rfl)), rfl⟩
theorem wp_9 : Jvm.Cond.selects "NetMender$Voices" ({ cls := "NetMender$Voices", name := "bodySays", desc := "(IIII)I" } : Jvm.MethodName) ({ cls := "NetMender$Voices", name := "bodySays", desc := "(IIII)I" } : Jvm.MethodName) ∈ xw_ALL := List.mem_filter.mpr ⟨List.mem_append_left _ (List.mem_of_getElem? (i := 9) (by rfl)), rfl⟩
theorem wp_10 : Jvm.Cond.selects "NetMender" ({ cls := "NetMender", name := "readingError", desc := "(I)I" } : Jvm.MethodName) ({ cls := "NetMender", name := "readingError", desc := "(I)I" } : Jvm.MethodName) ∈ xw_ALL := List.mem_filter.mpr ⟨List.mem_append_left _ (List.mem_of_getElem? (i := 10) (by rfl)), rfl⟩
theorem wp_11 : Jvm.Cond.selects "NetMenderModel" ({ cls := "NetMenderModel", name := "error", desc := "(I)I" } : Jvm.MethodName) ({ cls := "NetMenderModel", name := "error", desc := "(I)I" } : Jvm.MethodName) ∈ xw_ALL := List.mem_filter.mpr ⟨List.mem_append_left _ (List.mem_of_getElem? (i := 11) (by rfl)), rfl⟩
theorem wp_12 : Jvm.Cond.selects "NetMenderModel" ({ cls := "NetMenderModel", name := "whole", desc := "()Z" } : Jvm.MethodName) ({ cls := "NetMenderModel", name := "whole", desc := "()Z" } : Jvm.MethodName) ∈ xw_ALL := List.mem_filter.mpr ⟨List.mem_append_left _ (List.mem_of_getElem? (i := 12) (by rfl)), rfl⟩
theorem wp_13 : Jvm.Cond.selects "NetMenderModel" ({ cls := "NetMenderModel", name := "both", desc := "()Z" } : Jvm.MethodName) ({ cls := "NetMenderModel", name := "both", desc := "()Z" } : Jvm.MethodName) ∈ xw_ALL := List.mem_filter.mpr ⟨List.mem_append_left _ (List.mem_of_getElem? (i := 13) (by rfl)), rfl⟩
theorem wp_14 : Jvm.Cond.selects "NetMenderModel" ({ cls := "NetMenderModel", name := "compared", desc := "()Z" } : Jvm.MethodName) ({ cls := "NetMenderModel", name := "compared", desc := "()Z" } : Jvm.MethodName) ∈ xw_ALL := List.mem_filter.mpr ⟨List.mem_append_left _ (List.mem_of_getElem? (i := 14) (by rfl)), rfl⟩
theorem wp_15 : Jvm.Cond.selects "NetMenderModel" ({ cls := "NetMenderModel", name := "sum", desc := "()Z" } : Jvm.MethodName) ({ cls := "NetMenderModel", name := "sum", desc := "()Z" } : Jvm.MethodName) ∈ xw_ALL := List.mem_filter.mpr ⟨List.mem_append_left _ (List.mem_of_getElem? (i := 15) (by rfl)), rfl⟩
theorem wp_16 : Jvm.Cond.selects "NetMenderModel" ({ cls := "NetMenderModel", name := "product", desc := "()Z" } : Jvm.MethodName) ({ cls := "NetMenderModel", name := "product", desc := "()Z" } : Jvm.MethodName) ∈ xw_ALL := List.mem_filter.mpr ⟨List.mem_append_left _ (List.mem_of_getElem? (i := 16) (by rfl)), rfl⟩
theorem wp_17 : Jvm.Cond.selects "NetMenderModel" ({ cls := "NetMenderModel", name := "one", desc := "()Z" } : Jvm.MethodName) ({ cls := "NetMenderModel", name := "one", desc := "()Z" } : Jvm.MethodName) ∈ xw_ALL := List.mem_filter.mpr ⟨List.mem_append_left _ (List.mem_of_getElem? (i := 17) (by rfl)), rfl⟩
theorem wp_18 : Jvm.Cond.selects "NetMenderModel" ({ cls := "NetMenderModel", name := "look", desc := "()I" } : Jvm.MethodName) ({ cls := "NetMenderModel", name := "look", desc := "()I" } : Jvm.MethodName) ∈ xw_ALL := List.mem_filter.mpr ⟨List.mem_append_left _ (List.mem_of_getElem? (i := 18) (by rfl)), rfl⟩
theorem wp_19 : Jvm.Cond.selects "NetMenderModel" ({ cls := "NetMenderModel", name := "isName", desc := "(I)Z" } : Jvm.MethodName) ({ cls := "NetMenderModel", name := "isName", desc := "(I)Z" } : Jvm.MethodName) ∈ xw_ALL := List.mem_filter.mpr ⟨List.mem_append_left _ (List.mem_of_getElem? (i := 19) (by rfl)), rfl⟩
theorem wp_20 : Jvm.Cond.selects "NetMenderModel" ({ cls := "NetMenderModel", name := "step1", desc := "(II)V" } : Jvm.MethodName) ({ cls := "NetMenderModel", name := "step1", desc := "(II)V" } : Jvm.MethodName) ∈ xw_ALL := List.mem_filter.mpr ⟨List.mem_append_left _ (List.mem_of_getElem? (i := 20) (by rfl)), rfl⟩
theorem wp_21 : Jvm.Cond.selects "NetMenderModel" ({ cls := "NetMenderModel", name := "opens", desc := "()Z" } : Jvm.MethodName) ({ cls := "NetMenderModel", name := "opens", desc := "()Z" } : Jvm.MethodName) ∈ xw_ALL := List.mem_filter.mpr ⟨List.mem_append_left _ (List.mem_of_getElem? (i := 21) (by rfl)), rfl⟩
theorem wp_22 : Jvm.Cond.selects "NetMenderModel" ({ cls := "NetMenderModel", name := "hasText", desc := "(I)Z" } : Jvm.MethodName) ({ cls := "NetMenderModel", name := "hasText", desc := "(I)Z" } : Jvm.MethodName) ∈ xw_ALL := List.mem_filter.mpr ⟨List.mem_append_left _ (List.mem_of_getElem? (i := 22) (by rfl)), rfl⟩
theorem wp_23 : Jvm.Cond.selects "NetMenderModel" ({ cls := "NetMenderModel", name := "its", desc := "(II)I" } : Jvm.MethodName) ({ cls := "NetMenderModel", name := "its", desc := "(II)I" } : Jvm.MethodName) ∈ xw_ALL := List.mem_filter.mpr ⟨List.mem_append_left _ (List.mem_of_getElem? (i := 23) (by rfl)), rfl⟩
theorem wp_24 : Jvm.Cond.selects "NetMenderModel" ({ cls := "NetMenderModel", name := "tiedBy", desc := "(II)V" } : Jvm.MethodName) ({ cls := "NetMenderModel", name := "tiedBy", desc := "(II)V" } : Jvm.MethodName) ∈ xw_ALL := List.mem_filter.mpr ⟨List.mem_append_left _ (List.mem_of_getElem? (i := 24) (by rfl)), rfl⟩
theorem wp_25 : Jvm.Cond.selects "NetMenderModel" ({ cls := "NetMenderModel", name := "holds", desc := "(I)I" } : Jvm.MethodName) ({ cls := "NetMenderModel", name := "holds", desc := "(I)I" } : Jvm.MethodName) ∈ xw_ALL := List.mem_filter.mpr ⟨List.mem_append_left _ (List.mem_of_getElem? (i := 25) (by rfl)), rfl⟩
theorem wp_26 : Jvm.Cond.selects "NetMenderModel" ({ cls := "NetMenderModel", name := "slipped", desc := "(I)I" } : Jvm.MethodName) ({ cls := "NetMenderModel", name := "slipped", desc := "(I)I" } : Jvm.MethodName) ∈ xw_ALL := List.mem_filter.mpr ⟨List.mem_append_left _ (List.mem_of_getElem? (i := 26) (by rfl)), rfl⟩
theorem wp_27 : Jvm.Cond.selects "NetMenderModel" ({ cls := "NetMenderModel", name := "holdsTold", desc := "(I)I" } : Jvm.MethodName) ({ cls := "NetMenderModel", name := "holdsTold", desc := "(I)I" } : Jvm.MethodName) ∈ xw_ALL := List.mem_filter.mpr ⟨List.mem_append_left _ (List.mem_of_getElem? (i := 27) (by rfl)), rfl⟩
theorem wp_28 : Jvm.Cond.selects "NetMenderModel" ({ cls := "NetMenderModel", name := "worked", desc := "(I)I" } : Jvm.MethodName) ({ cls := "NetMenderModel", name := "worked", desc := "(I)I" } : Jvm.MethodName) ∈ xw_ALL := List.mem_filter.mpr ⟨List.mem_append_left _ (List.mem_of_getElem? (i := 28) (by rfl)), rfl⟩
theorem wp_29 : Jvm.Cond.selects "NetMenderModel" ({ cls := "NetMenderModel", name := "takes", desc := "(I)I" } : Jvm.MethodName) ({ cls := "NetMenderModel", name := "takes", desc := "(I)I" } : Jvm.MethodName) ∈ xw_ALL := List.mem_filter.mpr ⟨List.mem_append_left _ (List.mem_of_getElem? (i := 29) (by rfl)), rfl⟩
theorem wp_30 : Jvm.Cond.selects "NetMenderModel" ({ cls := "NetMenderModel", name := "gone", desc := "()I" } : Jvm.MethodName) ({ cls := "NetMenderModel", name := "gone", desc := "()I" } : Jvm.MethodName) ∈ xw_ALL := List.mem_filter.mpr ⟨List.mem_append_left _ (List.mem_of_getElem? (i := 30) (by rfl)), rfl⟩
theorem wp_31 : Jvm.Cond.selects "NetMenderModel" ({ cls := "NetMenderModel", name := "isMissing", desc := "(I)Z" } : Jvm.MethodName) ({ cls := "NetMenderModel", name := "isMissing", desc := "(I)Z" } : Jvm.MethodName) ∈ xw_ALL := List.mem_filter.mpr ⟨List.mem_append_left _ (List.mem_of_getElem? (i := 31) (by rfl)), rfl⟩
theorem wp_32 : Jvm.Cond.selects "NetMenderModel" ({ cls := "NetMenderModel", name := "of", desc := "(II)I" } : Jvm.MethodName) ({ cls := "NetMenderModel", name := "of", desc := "(II)I" } : Jvm.MethodName) ∈ xw_ALL := List.mem_filter.mpr ⟨List.mem_append_left _ (List.mem_of_getElem? (i := 32) (by rfl)), rfl⟩
theorem wp_33 : Jvm.Cond.selects "NetMenderModel" ({ cls := "NetMenderModel", name := "toldThread", desc := "(II)I" } : Jvm.MethodName) ({ cls := "NetMenderModel", name := "toldThread", desc := "(II)I" } : Jvm.MethodName) ∈ xw_ALL := List.mem_filter.mpr ⟨List.mem_append_left _ (List.mem_of_getElem? (i := 33) (by rfl)), rfl⟩
theorem wp_34 : Jvm.Cond.selects "NetMenderModel" ({ cls := "NetMenderModel", name := "strength", desc := "(I)I" } : Jvm.MethodName) ({ cls := "NetMenderModel", name := "strength", desc := "(I)I" } : Jvm.MethodName) ∈ xw_ALL := List.mem_filter.mpr ⟨List.mem_append_left _ (List.mem_of_getElem? (i := 34) (by rfl)), rfl⟩
theorem wp_35 : Jvm.Cond.selects "NetMenderModel" ({ cls := "NetMenderModel", name := "loses", desc := "(I)V" } : Jvm.MethodName) ({ cls := "NetMenderModel", name := "loses", desc := "(I)V" } : Jvm.MethodName) ∈ xw_ALL := List.mem_filter.mpr ⟨List.mem_append_left _ (List.mem_of_getElem? (i := 35) (by rfl)), rfl⟩
theorem wp_36 : Jvm.Cond.selects "NetMenderModel" ({ cls := "NetMenderModel", name := "missing", desc := "()I" } : Jvm.MethodName) ({ cls := "NetMenderModel", name := "missing", desc := "()I" } : Jvm.MethodName) ∈ xw_ALL := List.mem_filter.mpr ⟨List.mem_append_left _ (List.mem_of_getElem? (i := 36) (by rfl)), rfl⟩
theorem wp_37 : Jvm.Cond.selects "NetMenderModel" ({ cls := "NetMenderModel", name := "change1", desc := "(II)I" } : Jvm.MethodName) ({ cls := "NetMenderModel", name := "change1", desc := "(II)I" } : Jvm.MethodName) ∈ xw_ALL := List.mem_filter.mpr ⟨List.mem_append_left _ (List.mem_of_getElem? (i := 37) (by rfl)), rfl⟩
theorem wp_38 : Jvm.Cond.selects "NetMenderModel" ({ cls := "NetMenderModel", name := "renews", desc := "(I)V" } : Jvm.MethodName) ({ cls := "NetMenderModel", name := "renews", desc := "(I)V" } : Jvm.MethodName) ∈ xw_ALL := List.mem_filter.mpr ⟨List.mem_append_left _ (List.mem_of_getElem? (i := 38) (by rfl)), rfl⟩
theorem wp_39 : Jvm.Cond.selects "NetMenderModel" ({ cls := "NetMenderModel", name := "cutsTo", desc := "(IIII)Z" } : Jvm.MethodName) ({ cls := "NetMenderModel", name := "cutsTo", desc := "(IIII)Z" } : Jvm.MethodName) ∈ xw_ALL := List.mem_filter.mpr ⟨List.mem_append_left _ (List.mem_of_getElem? (i := 39) (by rfl)), rfl⟩
theorem wp_40 : Jvm.Cond.selects "NetMenderModel" ({ cls := "NetMenderModel", name := "findHoles", desc := "()I" } : Jvm.MethodName) ({ cls := "NetMenderModel", name := "findHoles", desc := "()I" } : Jvm.MethodName) ∈ xw_ALL := List.mem_filter.mpr ⟨List.mem_append_left _ (List.mem_of_getElem? (i := 40) (by rfl)), rfl⟩
theorem wp_41 : Jvm.Cond.selects "NetMenderModel" ({ cls := "NetMenderModel", name := "minutesBy", desc := "(II)I" } : Jvm.MethodName) ({ cls := "NetMenderModel", name := "minutesBy", desc := "(II)I" } : Jvm.MethodName) ∈ xw_ALL := List.mem_filter.mpr ⟨List.mem_append_left _ (List.mem_of_getElem? (i := 41) (by rfl)), rfl⟩
theorem wp_42 : Jvm.Cond.selects "NetMenderModel" ({ cls := "NetMenderModel", name := "go", desc := "(I)V" } : Jvm.MethodName) ({ cls := "NetMenderModel", name := "go", desc := "(I)V" } : Jvm.MethodName) ∈ xw_ALL := List.mem_filter.mpr ⟨List.mem_append_left _ (List.mem_of_getElem? (i := 42) (by rfl)), rfl⟩
theorem wp_43 : Jvm.Cond.selects "NetMenderModel" ({ cls := "NetMenderModel", name := "day", desc := "()V" } : Jvm.MethodName) ({ cls := "NetMenderModel", name := "day", desc := "()V" } : Jvm.MethodName) ∈ xw_ALL := List.mem_filter.mpr ⟨List.mem_append_left _ (List.mem_of_getElem? (i := 43) (by rfl)), rfl⟩
theorem wp_44 : Jvm.Cond.selects "NetMenderModel" ({ cls := "NetMenderModel", name := "wears", desc := "(I)I" } : Jvm.MethodName) ({ cls := "NetMenderModel", name := "wears", desc := "(I)I" } : Jvm.MethodName) ∈ xw_ALL := List.mem_filter.mpr ⟨List.mem_append_left _ (List.mem_of_getElem? (i := 44) (by rfl)), rfl⟩
theorem wp_45 : Jvm.Cond.selects "NetMenderModel" ({ cls := "NetMenderModel", name := "draw", desc := "()I" } : Jvm.MethodName) ({ cls := "NetMenderModel", name := "draw", desc := "()I" } : Jvm.MethodName) ∈ xw_ALL := List.mem_filter.mpr ⟨List.mem_append_left _ (List.mem_of_getElem? (i := 45) (by rfl)), rfl⟩
theorem wp_46 : Jvm.Cond.selects "NetMenderModel" ({ cls := "NetMenderModel", name := "layDown", desc := "()V" } : Jvm.MethodName) ({ cls := "NetMenderModel", name := "layDown", desc := "()V" } : Jvm.MethodName) ∈ xw_ALL := List.mem_filter.mpr ⟨List.mem_append_left _ (List.mem_of_getElem? (i := 46) (by rfl)), rfl⟩
theorem wp_47 : Jvm.Cond.selects "NetMenderModel" ({ cls := "NetMenderModel", name := "layBack", desc := "()V" } : Jvm.MethodName) ({ cls := "NetMenderModel", name := "layBack", desc := "()V" } : Jvm.MethodName) ∈ xw_ALL := List.mem_filter.mpr ⟨List.mem_append_left _ (List.mem_of_getElem? (i := 47) (by rfl)), rfl⟩
theorem wp_48 : Jvm.Cond.selects "NetMenderModel" ({ cls := "NetMenderModel", name := "kindNow", desc := "()I" } : Jvm.MethodName) ({ cls := "NetMenderModel", name := "kindNow", desc := "()I" } : Jvm.MethodName) ∈ xw_ALL := List.mem_filter.mpr ⟨List.mem_append_left _ (List.mem_of_getElem? (i := 48) (by rfl)), rfl⟩
theorem wp_49 : Jvm.Cond.selects "NetMenderModel" ({ cls := "NetMenderModel", name := "holdsAs", desc := "(II)I" } : Jvm.MethodName) ({ cls := "NetMenderModel", name := "holdsAs", desc := "(II)I" } : Jvm.MethodName) ∈ xw_ALL := List.mem_filter.mpr ⟨List.mem_append_left _ (List.mem_of_getElem? (i := 49) (by rfl)), rfl⟩
theorem wp_50 : Jvm.Cond.selects "NetMenderModel" ({ cls := "NetMenderModel", name := "begins", desc := "(I)V" } : Jvm.MethodName) ({ cls := "NetMenderModel", name := "begins", desc := "(I)V" } : Jvm.MethodName) ∈ xw_ALL := List.mem_filter.mpr ⟨List.mem_append_left _ (List.mem_of_getElem? (i := 50) (by rfl)), rfl⟩
theorem wp_51 : Jvm.Cond.selects "NetMenderModel" ({ cls := "NetMenderModel", name := "slipsAs", desc := "(II)I" } : Jvm.MethodName) ({ cls := "NetMenderModel", name := "slipsAs", desc := "(II)I" } : Jvm.MethodName) ∈ xw_ALL := List.mem_filter.mpr ⟨List.mem_append_left _ (List.mem_of_getElem? (i := 51) (by rfl)), rfl⟩
theorem wp_52 : Jvm.Cond.selects "NetMenderModel" ({ cls := "NetMenderModel", name := "mNow", desc := "()I" } : Jvm.MethodName) ({ cls := "NetMenderModel", name := "mNow", desc := "()I" } : Jvm.MethodName) ∈ xw_ALL := List.mem_filter.mpr ⟨List.mem_append_left _ (List.mem_of_getElem? (i := 52) (by rfl)), rfl⟩
theorem wp_53 : Jvm.Cond.selects "NetMenderModel" ({ cls := "NetMenderModel", name := "tiesAs", desc := "(II)I" } : Jvm.MethodName) ({ cls := "NetMenderModel", name := "tiesAs", desc := "(II)I" } : Jvm.MethodName) ∈ xw_ALL := List.mem_filter.mpr ⟨List.mem_append_left _ (List.mem_of_getElem? (i := 53) (by rfl)), rfl⟩
theorem wp_54 : Jvm.Cond.selects "NetMenderModel" ({ cls := "NetMenderModel", name := "partsAs", desc := "(II)I" } : Jvm.MethodName) ({ cls := "NetMenderModel", name := "partsAs", desc := "(II)I" } : Jvm.MethodName) ∈ xw_ALL := List.mem_filter.mpr ⟨List.mem_append_left _ (List.mem_of_getElem? (i := 54) (by rfl)), rfl⟩
theorem wp_55 : Jvm.Cond.selects "NetMenderModel" ({ cls := "NetMenderModel", name := "lacks", desc := "(I)I" } : Jvm.MethodName) ({ cls := "NetMenderModel", name := "lacks", desc := "(I)I" } : Jvm.MethodName) ∈ xw_ALL := List.mem_filter.mpr ⟨List.mem_append_left _ (List.mem_of_getElem? (i := 55) (by rfl)), rfl⟩
theorem wl_X1 : ∀ w ∈ u_ws RX1 TX1 5, w ∈ xw_ALL := by
  intro w h
  obtain ⟨k, hk, rfl⟩ := List.mem_map.mp h
  have hk := List.mem_range.mp hk
  match k, hk with
  | 0, _ => exact ww_178
  | 1, _ => exact ww_180
  | 2, _ => exact ww_182
  | 3, _ => exact ww_184
  | 4, _ => exact ww_186
  | n + 5, h => exact absurd h (by omega)
theorem wl_X3 : ∀ w ∈ u_ws RX3 TX3 3, w ∈ xw_ALL := by
  intro w h
  obtain ⟨k, hk, rfl⟩ := List.mem_map.mp h
  have hk := List.mem_range.mp hk
  match k, hk with
  | 0, _ => exact ww_45
  | 1, _ => exact ww_47
  | 2, _ => exact ww_49
  | n + 3, h => exact absurd h (by omega)
theorem wl_X4 : ∀ w ∈ u_ws RX4 TX4 1, w ∈ xw_ALL := by
  intro w h
  obtain ⟨k, hk, rfl⟩ := List.mem_map.mp h
  have hk := List.mem_range.mp hk
  match k, hk with
  | 0, _ => exact ww_162
  | n + 1, h => exact absurd h (by omega)
theorem wl_X5 : ∀ w ∈ u_ws RX5 TX5 11, w ∈ xw_ALL := by
  intro w h
  obtain ⟨k, hk, rfl⟩ := List.mem_map.mp h
  have hk := List.mem_range.mp hk
  match k, hk with
  | 0, _ => exact ww_71
  | 1, _ => exact ww_73
  | 2, _ => exact ww_75
  | 3, _ => exact ww_77
  | 4, _ => exact ww_79
  | 5, _ => exact ww_81
  | 6, _ => exact ww_83
  | 7, _ => exact ww_85
  | 8, _ => exact ww_87
  | 9, _ => exact ww_89
  | 10, _ => exact ww_91
  | n + 11, h => exact absurd h (by omega)
theorem wl_X6 : ∀ w ∈ u_ws RX6 TX6 8, w ∈ xw_ALL := by
  intro w h
  obtain ⟨k, hk, rfl⟩ := List.mem_map.mp h
  have hk := List.mem_range.mp hk
  match k, hk with
  | 0, _ => exact ww_110
  | 1, _ => exact ww_112
  | 2, _ => exact ww_114
  | 3, _ => exact ww_116
  | 4, _ => exact ww_118
  | 5, _ => exact ww_120
  | 6, _ => exact ww_122
  | 7, _ => exact ww_124
  | n + 8, h => exact absurd h (by omega)
theorem wl_X7 : ∀ w ∈ u_ws RX7 TX7 3, w ∈ xw_ALL := by
  intro w h
  obtain ⟨k, hk, rfl⟩ := List.mem_map.mp h
  have hk := List.mem_range.mp hk
  match k, hk with
  | 0, _ => exact ww_232
  | 1, _ => exact ww_234
  | 2, _ => exact ww_236
  | n + 3, h => exact absurd h (by omega)
theorem wl_X8 : ∀ w ∈ u_ws RX8 TX8 5, w ∈ xw_ALL := by
  intro w h
  obtain ⟨k, hk, rfl⟩ := List.mem_map.mp h
  have hk := List.mem_range.mp hk
  match k, hk with
  | 0, _ => exact ww_143
  | 1, _ => exact ww_145
  | 2, _ => exact ww_147
  | 3, _ => exact ww_149
  | 4, _ => exact ww_151
  | n + 5, h => exact absurd h (by omega)
theorem wl_X9 : ∀ w ∈ u_ws RX9 TX9 6, w ∈ xw_ALL := by
  intro w h
  obtain ⟨k, hk, rfl⟩ := List.mem_map.mp h
  have hk := List.mem_range.mp hk
  match k, hk with
  | 0, _ => exact ww_204
  | 1, _ => exact ww_206
  | 2, _ => exact ww_208
  | 3, _ => exact ww_210
  | 4, _ => exact ww_212
  | 5, _ => exact ww_214
  | n + 6, h => exact absurd h (by omega)
theorem wl_X10 : ∀ w ∈ u_ws RX10 TX10 11, w ∈ xw_ALL := by
  intro w h
  obtain ⟨k, hk, rfl⟩ := List.mem_map.mp h
  have hk := List.mem_range.mp hk
  match k, hk with
  | 0, _ => exact ww_250
  | 1, _ => exact ww_252
  | 2, _ => exact ww_254
  | 3, _ => exact ww_256
  | 4, _ => exact ww_258
  | 5, _ => exact ww_260
  | 6, _ => exact ww_262
  | 7, _ => exact ww_264
  | 8, _ => exact ww_266
  | 9, _ => exact ww_268
  | 10, _ => exact ww_270
  | n + 11, h => exact absurd h (by omega)
theorem wl_X11 : ∀ w ∈ u_ws RX11 TX11 23, w ∈ xw_ALL := by
  intro w h
  obtain ⟨k, hk, rfl⟩ := List.mem_map.mp h
  have hk := List.mem_range.mp hk
  match k, hk with
  | 0, _ => exact ww_790
  | 1, _ => exact ww_792
  | 2, _ => exact ww_794
  | 3, _ => exact ww_796
  | 4, _ => exact ww_798
  | 5, _ => exact ww_800
  | 6, _ => exact ww_802
  | 7, _ => exact ww_804
  | 8, _ => exact ww_806
  | 9, _ => exact ww_808
  | 10, _ => exact ww_810
  | 11, _ => exact ww_812
  | 12, _ => exact ww_814
  | 13, _ => exact ww_816
  | 14, _ => exact ww_818
  | 15, _ => exact ww_820
  | 16, _ => exact ww_822
  | 17, _ => exact ww_824
  | 18, _ => exact ww_826
  | 19, _ => exact ww_828
  | 20, _ => exact ww_830
  | 21, _ => exact ww_832
  | 22, _ => exact ww_834
  | n + 23, h => exact absurd h (by omega)
