theorem evWi {w : Cond} (h : w ∈ tables_1) (hg : (k2_isCode w || goodWord w) = true) : w ∈ evW := List.mem_filter.mpr ⟨List.mem_append_right _ h, hg⟩
theorem tj_1 (w : Cond) (h : w ∈ tables_1_1) : w ∈ tables_1 := List.mem_append_left _ h
theorem tj_2 (w : Cond) (h : w ∈ tables_1_2) : w ∈ tables_1 := List.mem_append_right _ (List.mem_append_left _ h)
theorem tj_3 (w : Cond) (h : w ∈ tables_1_3) : w ∈ tables_1 := List.mem_append_right _ (List.mem_append_right _ (List.mem_append_left _ h))
theorem tj_4 (w : Cond) (h : w ∈ tables_1_4) : w ∈ tables_1 := List.mem_append_right _ (List.mem_append_right _ (List.mem_append_right _ (List.mem_append_left _ h)))
theorem tj_5 (w : Cond) (h : w ∈ tables_1_5) : w ∈ tables_1 := List.mem_append_right _ (List.mem_append_right _ (List.mem_append_right _ (List.mem_append_right _ (h))))
set_option maxRecDepth 20000 in
theorem w_0 : (Jvm.Cond.initialized "MeshLinesLaw") ∈ evW := evWi (tj_1 _ (List.mem_of_getElem? (i := 0) rfl)) rfl
set_option maxRecDepth 20000 in
theorem w_1 : (Jvm.Cond.initialized "MeshLines") ∈ evW := evWi (tj_1 _ (List.mem_of_getElem? (i := 1) rfl)) rfl
set_option maxRecDepth 20000 in
theorem w_2 : (Jvm.Cond.initialized "MeshLines$Mesh") ∈ evW := evWi (tj_1 _ (List.mem_of_getElem? (i := 2) rfl)) rfl
set_option maxRecDepth 20000 in
theorem w_3 : (Jvm.Cond.initialized "java/lang/Math") ∈ evW := evWi (tj_1 _ (List.mem_of_getElem? (i := 3) rfl)) rfl
set_option maxRecDepth 20000 in
theorem w_4 : (Jvm.Cond.initialized "MeshLines$Lane") ∈ evW := evWi (tj_1 _ (List.mem_of_getElem? (i := 4) rfl)) rfl
set_option maxRecDepth 20000 in
theorem w_5 : (Jvm.Cond.initialized "java/util/AbstractCollection") ∈ evW := evWi (tj_1 _ (List.mem_of_getElem? (i := 5) rfl)) rfl
set_option maxRecDepth 20000 in
theorem w_6 : (Jvm.Cond.initialized "java/util/AbstractList") ∈ evW := evWi (tj_1 _ (List.mem_of_getElem? (i := 6) rfl)) rfl
set_option maxRecDepth 20000 in
theorem w_7 : (Jvm.Cond.initialized "java/util/ArrayList") ∈ evW := evWi (tj_1 _ (List.mem_of_getElem? (i := 7) rfl)) rfl
set_option maxRecDepth 20000 in
theorem w_8 : (Jvm.Cond.initialized "MeshLines$FlitBuffer") ∈ evW := evWi (tj_1 _ (List.mem_of_getElem? (i := 8) rfl)) rfl
set_option maxRecDepth 20000 in
theorem w_9 : (Jvm.Cond.initialized "MeshLines$Home") ∈ evW := evWi (tj_1 _ (List.mem_of_getElem? (i := 9) rfl)) rfl
set_option maxRecDepth 20000 in
theorem w_10 : (Jvm.Cond.initialized "MeshLines$Node") ∈ evW := evWi (tj_1 _ (List.mem_of_getElem? (i := 10) rfl)) rfl
set_option maxRecDepth 20000 in
theorem w_11 : (Jvm.Cond.initialized "MeshLines$Cache") ∈ evW := evWi (tj_1 _ (List.mem_of_getElem? (i := 11) rfl)) rfl
set_option maxRecDepth 20000 in
theorem w_12 : (Jvm.Cond.initialized "MeshLines$Core") ∈ evW := evWi (tj_1 _ (List.mem_of_getElem? (i := 12) rfl)) rfl
set_option maxRecDepth 20000 in
theorem w_13 : (Jvm.Cond.initialized "MeshLinesModel") ∈ evW := evWi (tj_1 _ (List.mem_of_getElem? (i := 13) rfl)) rfl
set_option maxRecDepth 20000 in
theorem w_14 : (Jvm.Cond.initialized "MeshLines$Flit") ∈ evW := evWi (tj_1 _ (List.mem_of_getElem? (i := 14) rfl)) rfl
set_option maxRecDepth 20000 in
theorem w_15 : (Jvm.Cond.initialized "java/util/Objects") ∈ evW := evWi (tj_1 _ (List.mem_of_getElem? (i := 15) rfl)) rfl
set_option maxRecDepth 20000 in
theorem w_16 : (Jvm.Cond.initialized "jdk/internal/util/Preconditions") ∈ evW := evWi (tj_1 _ (List.mem_of_getElem? (i := 16) rfl)) rfl
set_option maxRecDepth 20000 in
theorem w_17 : (Jvm.Cond.initialized "java/lang/System") ∈ evW := evWi (tj_1 _ (List.mem_of_getElem? (i := 17) rfl)) rfl
set_option maxRecDepth 20000 in
theorem w_18 : (Jvm.Cond.initialized "jdk/internal/util/ArraysSupport") ∈ evW := evWi (tj_1 _ (List.mem_of_getElem? (i := 18) rfl)) rfl
set_option maxRecDepth 20000 in
theorem w_19 : (Jvm.Cond.initialized "java/util/Arrays") ∈ evW := evWi (tj_1 _ (List.mem_of_getElem? (i := 19) rfl)) rfl
set_option maxRecDepth 20000 in
theorem w_20 : (Jvm.Cond.initialized "MeshLines$Packet") ∈ evW := evWi (tj_1 _ (List.mem_of_getElem? (i := 20) rfl)) rfl
set_option maxRecDepth 20000 in
theorem w_21 : (Jvm.Cond.initialized "java/lang/Integer") ∈ evW := evWi (tj_1 _ (List.mem_of_getElem? (i := 21) rfl)) rfl
set_option maxRecDepth 20000 in
theorem w_22 : (Jvm.Cond.classLink "MeshLinesLaw" (7 : Nat) "MeshLines") ∈ evW := evWi (tj_1 _ (List.mem_of_getElem? (i := 22) rfl)) rfl
set_option maxRecDepth 20000 in
theorem w_23 : (Jvm.Cond.instantiable "MeshLines" (4 : Nat)) ∈ evW := evWi (tj_1 _ (List.mem_of_getElem? (i := 23) rfl)) rfl
set_option maxRecDepth 20000 in
theorem w_24 : (Jvm.Cond.methodLink "MeshLinesLaw" (15 : Nat) ({ cls := "MeshLines", name := "<init>", desc := "(II)V" } : Jvm.MethodName)) ∈ evW := evWi (tj_1 _ (List.mem_of_getElem? (i := 24) rfl)) rfl
set_option maxRecDepth 20000 in
theorem w_25 : (Jvm.Cond.instanceMethod ({ cls := "MeshLines", name := "<init>", desc := "(II)V" } : Jvm.MethodName)) ∈ evW := evWi (tj_1 _ (List.mem_of_getElem? (i := 25) rfl)) rfl
set_option maxRecDepth 20000 in
theorem w_26 : (Jvm.Cond.code ({ cls := "MeshLines", name := "<init>", desc := "(II)V" } : Jvm.MethodName) prog_1_method_1_code (4 : Nat) (Option.none : Option Jvm.ClassFile.FieldType)) ∈ evW := evWi (tj_1 _ (List.mem_of_getElem? (i := 26) rfl)) rfl
set_option maxRecDepth 20000 in
theorem w_27 : (Jvm.Cond.methodLink "MeshLines" (1 : Nat) ({ cls := "java/lang/Object", name := "<init>", desc := "()V" } : Jvm.MethodName)) ∈ evW := evWi (tj_1 _ (List.mem_of_getElem? (i := 27) rfl)) rfl
set_option maxRecDepth 20000 in
theorem w_28 : (Jvm.Cond.instanceMethod ({ cls := "java/lang/Object", name := "<init>", desc := "()V" } : Jvm.MethodName)) ∈ evW := evWi (tj_1 _ (List.mem_of_getElem? (i := 28) rfl)) rfl
set_option maxRecDepth 20000 in
theorem w_29 : (Jvm.Cond.code ({ cls := "java/lang/Object", name := "<init>", desc := "()V" } : Jvm.MethodName) object_method_1_code (1 : Nat) (Option.none : Option Jvm.ClassFile.FieldType)) ∈ evW := evWi (tj_1 _ (List.mem_of_getElem? (i := 29) rfl)) rfl
set_option maxRecDepth 20000 in
theorem w_30 : (Jvm.Cond.classLink "MeshLines" (7 : Nat) "MeshLines$Mesh") ∈ evW := evWi (tj_1 _ (List.mem_of_getElem? (i := 30) rfl)) rfl
set_option maxRecDepth 20000 in
theorem w_31 : (Jvm.Cond.instantiable "MeshLines$Mesh" (5 : Nat)) ∈ evW := evWi (tj_1 _ (List.mem_of_getElem? (i := 31) rfl)) rfl
set_option maxRecDepth 20000 in
theorem w_32 : (Jvm.Cond.methodLink "MeshLines" (9 : Nat) ({ cls := "MeshLines", name := "nearest", desc := "(III)I" } : Jvm.MethodName)) ∈ evW := evWi (tj_1 _ (List.mem_of_getElem? (i := 32) rfl)) rfl
set_option maxRecDepth 20000 in
theorem w_33 : (Jvm.Cond.static ({ cls := "MeshLines", name := "nearest", desc := "(III)I" } : Jvm.MethodName)) ∈ evW := evWi (tj_1 _ (List.mem_of_getElem? (i := 33) rfl)) rfl
set_option maxRecDepth 20000 in
theorem w_34 : (Jvm.Cond.code ({ cls := "MeshLines", name := "nearest", desc := "(III)I" } : Jvm.MethodName) prog_1_method_12_code (3 : Nat) (Option.some Jvm.ClassFile.FieldType.int)) ∈ evW := evWi (tj_1 _ (List.mem_of_getElem? (i := 34) rfl)) rfl
set_option maxRecDepth 20000 in
theorem w_35 : (Jvm.Cond.methodLink "MeshLines" (147 : Nat) ({ cls := "java/lang/Math", name := "min", desc := "(II)I" } : Jvm.MethodName)) ∈ evW := evWi (tj_1 _ (List.mem_of_getElem? (i := 35) rfl)) rfl
set_option maxRecDepth 20000 in
theorem w_36 : (Jvm.Cond.static ({ cls := "java/lang/Math", name := "min", desc := "(II)I" } : Jvm.MethodName)) ∈ evW := evWi (tj_1 _ (List.mem_of_getElem? (i := 36) rfl)) rfl
set_option maxRecDepth 20000 in
theorem w_37 : (Jvm.Cond.code ({ cls := "java/lang/Math", name := "min", desc := "(II)I" } : Jvm.MethodName) prog_17_method_69_code (2 : Nat) (Option.some Jvm.ClassFile.FieldType.int)) ∈ evW := evWi (tj_1 _ (List.mem_of_getElem? (i := 37) rfl)) rfl
set_option maxRecDepth 20000 in
theorem w_38 : (Jvm.Cond.methodLink "MeshLines" (153 : Nat) ({ cls := "java/lang/Math", name := "max", desc := "(II)I" } : Jvm.MethodName)) ∈ evW := evWi (tj_1 _ (List.mem_of_getElem? (i := 38) rfl)) rfl
set_option maxRecDepth 20000 in
theorem w_39 : (Jvm.Cond.static ({ cls := "java/lang/Math", name := "max", desc := "(II)I" } : Jvm.MethodName)) ∈ evW := evWi (tj_1 _ (List.mem_of_getElem? (i := 39) rfl)) rfl
set_option maxRecDepth 20000 in
theorem w_40 : (Jvm.Cond.code ({ cls := "java/lang/Math", name := "max", desc := "(II)I" } : Jvm.MethodName) prog_17_method_65_code (2 : Nat) (Option.some Jvm.ClassFile.FieldType.int)) ∈ evW := evWi (tj_1 _ (List.mem_of_getElem? (i := 40) rfl)) rfl
set_option maxRecDepth 20000 in
theorem w_41 : (Jvm.Cond.methodLink "MeshLines" (15 : Nat) ({ cls := "MeshLines$Mesh", name := "<init>", desc := "(II)V" } : Jvm.MethodName)) ∈ evW := evWi (tj_1 _ (List.mem_of_getElem? (i := 41) rfl)) rfl
set_option maxRecDepth 20000 in
theorem w_42 : (Jvm.Cond.instanceMethod ({ cls := "MeshLines$Mesh", name := "<init>", desc := "(II)V" } : Jvm.MethodName)) ∈ evW := evWi (tj_1 _ (List.mem_of_getElem? (i := 42) rfl)) rfl
set_option maxRecDepth 20000 in
theorem w_43 : (Jvm.Cond.code ({ cls := "MeshLines$Mesh", name := "<init>", desc := "(II)V" } : Jvm.MethodName) prog_8_method_1_code (4 : Nat) (Option.none : Option Jvm.ClassFile.FieldType)) ∈ evW := evWi (tj_1 _ (List.mem_of_getElem? (i := 43) rfl)) rfl
set_option maxRecDepth 20000 in
theorem w_44 : (Jvm.Cond.methodLink "MeshLines$Mesh" (3 : Nat) ({ cls := "java/lang/Object", name := "<init>", desc := "()V" } : Jvm.MethodName)) ∈ evW := evWi (tj_1 _ (List.mem_of_getElem? (i := 44) rfl)) rfl
set_option maxRecDepth 20000 in
theorem w_45 : (Jvm.Cond.classLink "MeshLines$Mesh" (9 : Nat) "MeshLines$Lane") ∈ evW := evWi (tj_1 _ (List.mem_of_getElem? (i := 45) rfl)) rfl
set_option maxRecDepth 20000 in
theorem w_47 : (Jvm.Cond.instantiable "MeshLines$Lane" (7 : Nat)) ∈ evW := evWi (tj_1 _ (List.mem_of_getElem? (i := 47) rfl)) rfl
set_option maxRecDepth 20000 in
theorem w_48 : (Jvm.Cond.methodLink "MeshLines$Mesh" (21 : Nat) ({ cls := "MeshLines$Lane", name := "<init>", desc := "(II)V" } : Jvm.MethodName)) ∈ evW := evWi (tj_1 _ (List.mem_of_getElem? (i := 48) rfl)) rfl
set_option maxRecDepth 20000 in
theorem w_49 : (Jvm.Cond.instanceMethod ({ cls := "MeshLines$Lane", name := "<init>", desc := "(II)V" } : Jvm.MethodName)) ∈ evW := evWi (tj_1 _ (List.mem_of_getElem? (i := 49) rfl)) rfl
set_option maxRecDepth 20000 in
theorem w_50 : (Jvm.Cond.code ({ cls := "MeshLines$Lane", name := "<init>", desc := "(II)V" } : Jvm.MethodName) prog_7_method_1_code (4 : Nat) (Option.none : Option Jvm.ClassFile.FieldType)) ∈ evW := evWi (tj_1 _ (List.mem_of_getElem? (i := 50) rfl)) rfl
set_option maxRecDepth 20000 in
theorem w_51 : (Jvm.Cond.methodLink "MeshLines$Lane" (3 : Nat) ({ cls := "java/lang/Object", name := "<init>", desc := "()V" } : Jvm.MethodName)) ∈ evW := evWi (tj_1 _ (List.mem_of_getElem? (i := 51) rfl)) rfl
set_option maxRecDepth 20000 in
theorem w_52 : (Jvm.Cond.classLink "MeshLines$Lane" (9 : Nat) "java/util/ArrayList") ∈ evW := evWi (tj_1 _ (List.mem_of_getElem? (i := 52) rfl)) rfl
set_option maxRecDepth 20000 in
theorem w_53 : (Jvm.Cond.instantiable "java/util/ArrayList" (3 : Nat)) ∈ evW := evWi (tj_1 _ (List.mem_of_getElem? (i := 53) rfl)) rfl
set_option maxRecDepth 20000 in
theorem w_54 : (Jvm.Cond.methodLink "MeshLines$Lane" (11 : Nat) ({ cls := "java/util/ArrayList", name := "<init>", desc := "()V" } : Jvm.MethodName)) ∈ evW := evWi (tj_1 _ (List.mem_of_getElem? (i := 54) rfl)) rfl
set_option maxRecDepth 20000 in
theorem w_55 : (Jvm.Cond.instanceMethod ({ cls := "java/util/ArrayList", name := "<init>", desc := "()V" } : Jvm.MethodName)) ∈ evW := evWi (tj_1 _ (List.mem_of_getElem? (i := 55) rfl)) rfl
set_option maxRecDepth 20000 in
theorem w_56 : (Jvm.Cond.code ({ cls := "java/util/ArrayList", name := "<init>", desc := "()V" } : Jvm.MethodName) prog_21_method_2_code (1 : Nat) (Option.none : Option Jvm.ClassFile.FieldType)) ∈ evW := evWi (tj_1 _ (List.mem_of_getElem? (i := 56) rfl)) rfl
set_option maxRecDepth 20000 in
theorem w_57 : (Jvm.Cond.methodLink "java/util/ArrayList" (1 : Nat) ({ cls := "java/util/AbstractList", name := "<init>", desc := "()V" } : Jvm.MethodName)) ∈ evW := evWi (tj_1 _ (List.mem_of_getElem? (i := 57) rfl)) rfl
set_option maxRecDepth 20000 in
theorem w_58 : (Jvm.Cond.instanceMethod ({ cls := "java/util/AbstractList", name := "<init>", desc := "()V" } : Jvm.MethodName)) ∈ evW := evWi (tj_1 _ (List.mem_of_getElem? (i := 58) rfl)) rfl
set_option maxRecDepth 20000 in
theorem w_59 : (Jvm.Cond.code ({ cls := "java/util/AbstractList", name := "<init>", desc := "()V" } : Jvm.MethodName) prog_20_method_1_code (1 : Nat) (Option.none : Option Jvm.ClassFile.FieldType)) ∈ evW := evWi (tj_1 _ (List.mem_of_getElem? (i := 59) rfl)) rfl
set_option maxRecDepth 20000 in
theorem w_60 : (Jvm.Cond.methodLink "java/util/AbstractList" (1 : Nat) ({ cls := "java/util/AbstractCollection", name := "<init>", desc := "()V" } : Jvm.MethodName)) ∈ evW := evWi (tj_1 _ (List.mem_of_getElem? (i := 60) rfl)) rfl
set_option maxRecDepth 20000 in
theorem w_61 : (Jvm.Cond.instanceMethod ({ cls := "java/util/AbstractCollection", name := "<init>", desc := "()V" } : Jvm.MethodName)) ∈ evW := evWi (tj_1 _ (List.mem_of_getElem? (i := 61) rfl)) rfl
set_option maxRecDepth 20000 in
theorem w_62 : (Jvm.Cond.code ({ cls := "java/util/AbstractCollection", name := "<init>", desc := "()V" } : Jvm.MethodName) prog_19_method_1_code (1 : Nat) (Option.none : Option Jvm.ClassFile.FieldType)) ∈ evW := evWi (tj_1 _ (List.mem_of_getElem? (i := 62) rfl)) rfl
set_option maxRecDepth 20000 in
theorem w_63 : (Jvm.Cond.methodLink "java/util/AbstractCollection" (1 : Nat) ({ cls := "java/lang/Object", name := "<init>", desc := "()V" } : Jvm.MethodName)) ∈ evW := evWi (tj_1 _ (List.mem_of_getElem? (i := 63) rfl)) rfl
set_option maxRecDepth 20000 in
theorem w_64 : (Jvm.Cond.fieldLink "java/util/ArrayList" (39 : Nat) "java/util/ArrayList" "DEFAULTCAPACITY_EMPTY_ELEMENTDATA" "[Ljava/lang/Object;") ∈ evW := evWi (tj_1 _ (List.mem_of_getElem? (i := 64) rfl)) rfl
set_option maxRecDepth 20000 in
theorem w_66 : (Jvm.Cond.fieldLink "java/util/ArrayList" (9 : Nat) "java/util/ArrayList" "elementData" "[Ljava/lang/Object;") ∈ evW := evWi (tj_1 _ (List.mem_of_getElem? (i := 66) rfl)) rfl
set_option maxRecDepth 20000 in
theorem w_67 : (Jvm.Cond.fieldLink "java/util/ArrayList" (48 : Nat) "java/util/ArrayList" "size" "I") ∈ evW := evWi (tj_1 _ (List.mem_of_getElem? (i := 67) rfl)) rfl
set_option maxRecDepth 20000 in
theorem w_68 : (Jvm.Cond.fieldLink "java/util/AbstractList" (7 : Nat) "java/util/AbstractList" "modCount" "I") ∈ evW := evWi (tj_1 _ (List.mem_of_getElem? (i := 68) rfl)) rfl
set_option maxRecDepth 20000 in
theorem w_69 : (Jvm.Cond.fieldLink "java/util/ArrayList" (63 : Nat) "java/util/ArrayList" "modCount" "I") ∈ evW := evWi (tj_1 _ (List.mem_of_getElem? (i := 69) rfl)) rfl
set_option maxRecDepth 20000 in
theorem w_70 : (Jvm.Cond.sameField "java/util/ArrayList" "java/util/AbstractList" "modCount" "I") ∈ evW := evWi (tj_1 _ (List.mem_of_getElem? (i := 70) rfl)) rfl
set_option maxRecDepth 20000 in
theorem w_71 : (Jvm.Cond.lays "java/util/ArrayList" "java/util/ArrayList" "elementData" "[Ljava/lang/Object;") ∈ evW := evWi (tj_1 _ (List.mem_of_getElem? (i := 71) rfl)) rfl
set_option maxRecDepth 20000 in
theorem w_73 : (Jvm.Cond.lays "java/util/ArrayList" "java/util/ArrayList" "size" "I") ∈ evW := evWi (tj_1 _ (List.mem_of_getElem? (i := 73) rfl)) rfl
set_option maxRecDepth 20000 in
theorem w_75 : (Jvm.Cond.lays "java/util/ArrayList" "java/util/AbstractList" "modCount" "I") ∈ evW := evWi (tj_1 _ (List.mem_of_getElem? (i := 75) rfl)) rfl
set_option maxRecDepth 20000 in
theorem w_78 : (Jvm.Cond.classLink "MeshLines$Lane" (21 : Nat) "MeshLines$FlitBuffer") ∈ evW := evWi (tj_1 _ (List.mem_of_getElem? (i := 78) rfl)) rfl
set_option maxRecDepth 20000 in
theorem w_80 : (Jvm.Cond.instantiable "MeshLines$FlitBuffer" (2 : Nat)) ∈ evW := evWi (tj_1 _ (List.mem_of_getElem? (i := 80) rfl)) rfl
set_option maxRecDepth 20000 in
theorem w_81 : (Jvm.Cond.methodLink "MeshLines$Lane" (38 : Nat) ({ cls := "MeshLines$FlitBuffer", name := "<init>", desc := "(I)V" } : Jvm.MethodName)) ∈ evW := evWi (tj_1 _ (List.mem_of_getElem? (i := 81) rfl)) rfl
set_option maxRecDepth 20000 in
theorem w_82 : (Jvm.Cond.instanceMethod ({ cls := "MeshLines$FlitBuffer", name := "<init>", desc := "(I)V" } : Jvm.MethodName)) ∈ evW := evWi (tj_1 _ (List.mem_of_getElem? (i := 82) rfl)) rfl
set_option maxRecDepth 20000 in
theorem w_83 : (Jvm.Cond.code ({ cls := "MeshLines$FlitBuffer", name := "<init>", desc := "(I)V" } : Jvm.MethodName) prog_5_method_1_code (2 : Nat) (Option.none : Option Jvm.ClassFile.FieldType)) ∈ evW := evWi (tj_1 _ (List.mem_of_getElem? (i := 83) rfl)) rfl
set_option maxRecDepth 20000 in
theorem w_84 : (Jvm.Cond.methodLink "MeshLines$FlitBuffer" (1 : Nat) ({ cls := "java/lang/Object", name := "<init>", desc := "()V" } : Jvm.MethodName)) ∈ evW := evWi (tj_1 _ (List.mem_of_getElem? (i := 84) rfl)) rfl
set_option maxRecDepth 20000 in
theorem w_85 : (Jvm.Cond.classLink "MeshLines$FlitBuffer" (7 : Nat) "MeshLines$Flit") ∈ evW := evWi (tj_1 _ (List.mem_of_getElem? (i := 85) rfl)) rfl
set_option maxRecDepth 20000 in
theorem w_87 : (Jvm.Cond.fieldLink "MeshLines$FlitBuffer" (9 : Nat) "MeshLines$FlitBuffer" "flits" "[LMeshLines$Flit;") ∈ evW := evWi (tj_1 _ (List.mem_of_getElem? (i := 87) rfl)) rfl
set_option maxRecDepth 20000 in
theorem w_88 : (Jvm.Cond.fieldLink "MeshLines$FlitBuffer" (15 : Nat) "MeshLines$FlitBuffer" "size" "I") ∈ evW := evWi (tj_1 _ (List.mem_of_getElem? (i := 88) rfl)) rfl
set_option maxRecDepth 20000 in
theorem w_89 : (Jvm.Cond.fieldLink "MeshLines" (131 : Nat) "MeshLines$FlitBuffer" "size" "I") ∈ evW := evWi (tj_1 _ (List.mem_of_getElem? (i := 89) rfl)) rfl
set_option maxRecDepth 20000 in
theorem w_90 : (Jvm.Cond.laysFinal "MeshLines$FlitBuffer" "MeshLines$FlitBuffer" "flits" "[LMeshLines$Flit;") ∈ evW := evWi (tj_1 _ (List.mem_of_getElem? (i := 90) rfl)) rfl
set_option maxRecDepth 20000 in
theorem w_92 : (Jvm.Cond.lays "MeshLines$FlitBuffer" "MeshLines$FlitBuffer" "size" "I") ∈ evW := evWi (tj_1 _ (List.mem_of_getElem? (i := 92) rfl)) rfl
set_option maxRecDepth 20000 in
theorem w_95 : (Jvm.Cond.arrayClass Jvm.ClassFile.FieldType.int) ∈ evW := evWi (tj_1 _ (List.mem_of_getElem? (i := 95) rfl)) rfl
set_option maxRecDepth 20000 in
theorem w_96 : (Jvm.Cond.fieldLink "MeshLines$Lane" (34 : Nat) "MeshLines$Lane" "node" "I") ∈ evW := evWi (tj_1 _ (List.mem_of_getElem? (i := 96) rfl)) rfl
set_option maxRecDepth 20000 in
theorem w_97 : (Jvm.Cond.fieldLink "MeshLines$Lane" (12 : Nat) "MeshLines$Lane" "row" "Ljava/util/ArrayList;") ∈ evW := evWi (tj_1 _ (List.mem_of_getElem? (i := 97) rfl)) rfl
set_option maxRecDepth 20000 in
theorem w_98 : (Jvm.Cond.fieldLink "MeshLines$Mesh" (37 : Nat) "MeshLines$Lane" "row" "Ljava/util/ArrayList;") ∈ evW := evWi (tj_1 _ (List.mem_of_getElem? (i := 98) rfl)) rfl
set_option maxRecDepth 20000 in
theorem w_99 : (Jvm.Cond.fieldLink "MeshLines" (112 : Nat) "MeshLines$Lane" "row" "Ljava/util/ArrayList;") ∈ evW := evWi (tj_1 _ (List.mem_of_getElem? (i := 99) rfl)) rfl
set_option maxRecDepth 20000 in
theorem w_100 : (Jvm.Cond.fieldLink "MeshLines$Lane" (18 : Nat) "MeshLines$Lane" "inbox" "Ljava/util/ArrayList;") ∈ evW := evWi (tj_1 _ (List.mem_of_getElem? (i := 100) rfl)) rfl
set_option maxRecDepth 20000 in
theorem w_101 : (Jvm.Cond.fieldLink "MeshLines$Node" (47 : Nat) "MeshLines$Lane" "inbox" "Ljava/util/ArrayList;") ∈ evW := evWi (tj_1 _ (List.mem_of_getElem? (i := 101) rfl)) rfl
set_option maxRecDepth 20000 in
theorem w_102 : (Jvm.Cond.fieldLink "MeshLines$Mesh" (110 : Nat) "MeshLines$Lane" "inbox" "Ljava/util/ArrayList;") ∈ evW := evWi (tj_1 _ (List.mem_of_getElem? (i := 102) rfl)) rfl
set_option maxRecDepth 20000 in
theorem w_103 : (Jvm.Cond.fieldLink "MeshLines" (124 : Nat) "MeshLines$Lane" "inbox" "Ljava/util/ArrayList;") ∈ evW := evWi (tj_1 _ (List.mem_of_getElem? (i := 103) rfl)) rfl
set_option maxRecDepth 20000 in
theorem w_104 : (Jvm.Cond.fieldLink "MeshLines$Lane" (23 : Nat) "MeshLines$Lane" "buffers" "[LMeshLines$FlitBuffer;") ∈ evW := evWi (tj_1 _ (List.mem_of_getElem? (i := 104) rfl)) rfl
set_option maxRecDepth 20000 in
theorem w_105 : (Jvm.Cond.fieldLink "MeshLines$Mesh" (69 : Nat) "MeshLines$Lane" "buffers" "[LMeshLines$FlitBuffer;") ∈ evW := evWi (tj_1 _ (List.mem_of_getElem? (i := 105) rfl)) rfl
set_option maxRecDepth 20000 in
theorem w_106 : (Jvm.Cond.fieldLink "MeshLines" (127 : Nat) "MeshLines$Lane" "buffers" "[LMeshLines$FlitBuffer;") ∈ evW := evWi (tj_1 _ (List.mem_of_getElem? (i := 106) rfl)) rfl
set_option maxRecDepth 20000 in
theorem w_107 : (Jvm.Cond.fieldLink "MeshLines$Lane" (27 : Nat) "MeshLines$Lane" "holders" "[I") ∈ evW := evWi (tj_1 _ (List.mem_of_getElem? (i := 107) rfl)) rfl
set_option maxRecDepth 20000 in
theorem w_108 : (Jvm.Cond.fieldLink "MeshLines" (135 : Nat) "MeshLines$Lane" "holders" "[I") ∈ evW := evWi (tj_1 _ (List.mem_of_getElem? (i := 108) rfl)) rfl
set_option maxRecDepth 20000 in
theorem w_109 : (Jvm.Cond.fieldLink "MeshLines$Lane" (31 : Nat) "MeshLines$Lane" "last" "[I") ∈ evW := evWi (tj_1 _ (List.mem_of_getElem? (i := 109) rfl)) rfl
set_option maxRecDepth 20000 in
theorem w_110 : (Jvm.Cond.fieldLink "MeshLines$Lane" (56 : Nat) "MeshLines$Lane" "entered" "I") ∈ evW := evWi (tj_1 _ (List.mem_of_getElem? (i := 110) rfl)) rfl
set_option maxRecDepth 20000 in
theorem w_111 : (Jvm.Cond.laysFinal "MeshLines$Lane" "MeshLines$Lane" "node" "I") ∈ evW := evWi (tj_1 _ (List.mem_of_getElem? (i := 111) rfl)) rfl
set_option maxRecDepth 20000 in
theorem w_113 : (Jvm.Cond.laysFinal "MeshLines$Lane" "MeshLines$Lane" "row" "Ljava/util/ArrayList;") ∈ evW := evWi (tj_1 _ (List.mem_of_getElem? (i := 113) rfl)) rfl
set_option maxRecDepth 20000 in
theorem w_115 : (Jvm.Cond.laysFinal "MeshLines$Lane" "MeshLines$Lane" "inbox" "Ljava/util/ArrayList;") ∈ evW := evWi (tj_1 _ (List.mem_of_getElem? (i := 115) rfl)) rfl
set_option maxRecDepth 20000 in
theorem w_117 : (Jvm.Cond.laysFinal "MeshLines$Lane" "MeshLines$Lane" "buffers" "[LMeshLines$FlitBuffer;") ∈ evW := evWi (tj_1 _ (List.mem_of_getElem? (i := 117) rfl)) rfl
set_option maxRecDepth 20000 in
theorem w_119 : (Jvm.Cond.laysFinal "MeshLines$Lane" "MeshLines$Lane" "holders" "[I") ∈ evW := evWi (tj_1 _ (List.mem_of_getElem? (i := 119) rfl)) rfl
set_option maxRecDepth 20000 in
theorem w_121 : (Jvm.Cond.laysFinal "MeshLines$Lane" "MeshLines$Lane" "last" "[I") ∈ evW := evWi (tj_1 _ (List.mem_of_getElem? (i := 121) rfl)) rfl
set_option maxRecDepth 20000 in
theorem w_123 : (Jvm.Cond.lays "MeshLines$Lane" "MeshLines$Lane" "entered" "I") ∈ evW := evWi (tj_1 _ (List.mem_of_getElem? (i := 123) rfl)) rfl
set_option maxRecDepth 20000 in
theorem w_126 : (Jvm.Cond.fieldLink "MeshLines$Mesh" (11 : Nat) "MeshLines$Mesh" "lanes" "[LMeshLines$Lane;") ∈ evW := evWi (tj_1 _ (List.mem_of_getElem? (i := 126) rfl)) rfl
set_option maxRecDepth 20000 in
theorem w_127 : (Jvm.Cond.fieldLink "MeshLines$Mesh" (17 : Nat) "MeshLines$Mesh" "flits" "I") ∈ evW := evWi (tj_1 _ (List.mem_of_getElem? (i := 127) rfl)) rfl
set_option maxRecDepth 20000 in
theorem w_128 : (Jvm.Cond.fieldLink "MeshLines$Mesh" (47 : Nat) "MeshLines$Mesh" "sent" "I") ∈ evW := evWi (tj_1 _ (List.mem_of_getElem? (i := 128) rfl)) rfl
set_option maxRecDepth 20000 in
theorem w_129 : (Jvm.Cond.fieldLink "MeshLines" (138 : Nat) "MeshLines$Mesh" "sent" "I") ∈ evW := evWi (tj_1 _ (List.mem_of_getElem? (i := 129) rfl)) rfl
set_option maxRecDepth 20000 in
theorem w_130 : (Jvm.Cond.fieldLink "MeshLines$Mesh" (54 : Nat) "MeshLines$Mesh" "arrived" "I") ∈ evW := evWi (tj_1 _ (List.mem_of_getElem? (i := 130) rfl)) rfl
set_option maxRecDepth 20000 in
theorem w_131 : (Jvm.Cond.fieldLink "MeshLines" (141 : Nat) "MeshLines$Mesh" "arrived" "I") ∈ evW := evWi (tj_1 _ (List.mem_of_getElem? (i := 131) rfl)) rfl
set_option maxRecDepth 20000 in
theorem w_132 : (Jvm.Cond.fieldLink "MeshLines$Mesh" (100 : Nat) "MeshLines$Mesh" "overLinks" "I") ∈ evW := evWi (tj_1 _ (List.mem_of_getElem? (i := 132) rfl)) rfl
set_option maxRecDepth 20000 in
theorem w_133 : (Jvm.Cond.fieldLink "MeshLines" (144 : Nat) "MeshLines$Mesh" "overLinks" "I") ∈ evW := evWi (tj_1 _ (List.mem_of_getElem? (i := 133) rfl)) rfl
set_option maxRecDepth 20000 in
theorem w_134 : (Jvm.Cond.laysFinal "MeshLines$Mesh" "MeshLines$Mesh" "lanes" "[LMeshLines$Lane;") ∈ evW := evWi (tj_1 _ (List.mem_of_getElem? (i := 134) rfl)) rfl
set_option maxRecDepth 20000 in
theorem w_136 : (Jvm.Cond.laysFinal "MeshLines$Mesh" "MeshLines$Mesh" "flits" "I") ∈ evW := evWi (tj_1 _ (List.mem_of_getElem? (i := 136) rfl)) rfl
set_option maxRecDepth 20000 in
theorem w_138 : (Jvm.Cond.lays "MeshLines$Mesh" "MeshLines$Mesh" "sent" "I") ∈ evW := evWi (tj_1 _ (List.mem_of_getElem? (i := 138) rfl)) rfl
set_option maxRecDepth 20000 in
theorem w_140 : (Jvm.Cond.lays "MeshLines$Mesh" "MeshLines$Mesh" "arrived" "I") ∈ evW := evWi (tj_1 _ (List.mem_of_getElem? (i := 140) rfl)) rfl
set_option maxRecDepth 20000 in
theorem w_142 : (Jvm.Cond.lays "MeshLines$Mesh" "MeshLines$Mesh" "overLinks" "I") ∈ evW := evWi (tj_1 _ (List.mem_of_getElem? (i := 142) rfl)) rfl
set_option maxRecDepth 20000 in
theorem w_145 : (Jvm.Cond.classLink "MeshLines" (22 : Nat) "MeshLines$Home") ∈ evW := evWi (tj_1 _ (List.mem_of_getElem? (i := 145) rfl)) rfl
set_option maxRecDepth 20000 in
theorem w_147 : (Jvm.Cond.instantiable "MeshLines$Home" (7 : Nat)) ∈ evW := evWi (tj_1 _ (List.mem_of_getElem? (i := 147) rfl)) rfl
set_option maxRecDepth 20000 in
theorem w_148 : (Jvm.Cond.methodLink "MeshLines" (28 : Nat) ({ cls := "MeshLines$Home", name := "<init>", desc := "(ILMeshLines$Mesh;)V" } : Jvm.MethodName)) ∈ evW := evWi (tj_1 _ (List.mem_of_getElem? (i := 148) rfl)) rfl
set_option maxRecDepth 20000 in
theorem w_149 : (Jvm.Cond.instanceMethod ({ cls := "MeshLines$Home", name := "<init>", desc := "(ILMeshLines$Mesh;)V" } : Jvm.MethodName)) ∈ evW := evWi (tj_1 _ (List.mem_of_getElem? (i := 149) rfl)) rfl
set_option maxRecDepth 20000 in
theorem w_150 : (Jvm.Cond.code ({ cls := "MeshLines$Home", name := "<init>", desc := "(ILMeshLines$Mesh;)V" } : Jvm.MethodName) prog_6_method_1_code (3 : Nat) (Option.none : Option Jvm.ClassFile.FieldType)) ∈ evW := evWi (tj_1 _ (List.mem_of_getElem? (i := 150) rfl)) rfl
set_option maxRecDepth 20000 in
theorem w_151 : (Jvm.Cond.methodLink "MeshLines$Home" (3 : Nat) ({ cls := "java/lang/Object", name := "<init>", desc := "()V" } : Jvm.MethodName)) ∈ evW := evWi (tj_1 _ (List.mem_of_getElem? (i := 151) rfl)) rfl
set_option maxRecDepth 20000 in
theorem w_153 : (Jvm.Cond.static ({ cls := "MeshLines", name := "homeOf", desc := "(I)I" } : Jvm.MethodName)) ∈ evW := evWi (tj_1 _ (List.mem_of_getElem? (i := 153) rfl)) rfl
set_option maxRecDepth 20000 in
theorem w_154 : (Jvm.Cond.code ({ cls := "MeshLines", name := "homeOf", desc := "(I)I" } : Jvm.MethodName) prog_1_method_13_code (1 : Nat) (Option.some Jvm.ClassFile.FieldType.int)) ∈ evW := evWi (tj_1 _ (List.mem_of_getElem? (i := 154) rfl)) rfl
set_option maxRecDepth 20000 in
theorem w_155 : (Jvm.Cond.fieldLink "MeshLines$Home" (18 : Nat) "MeshLines$Home" "line" "I") ∈ evW := evWi (tj_1 _ (List.mem_of_getElem? (i := 155) rfl)) rfl
set_option maxRecDepth 20000 in
theorem w_156 : (Jvm.Cond.fieldLink "MeshLines$Home" (25 : Nat) "MeshLines$Home" "node" "I") ∈ evW := evWi (tj_1 _ (List.mem_of_getElem? (i := 156) rfl)) rfl
set_option maxRecDepth 20000 in
theorem w_157 : (Jvm.Cond.fieldLink "MeshLines$Home" (28 : Nat) "MeshLines$Home" "mesh" "LMeshLines$Mesh;") ∈ evW := evWi (tj_1 _ (List.mem_of_getElem? (i := 157) rfl)) rfl
set_option maxRecDepth 20000 in
theorem w_158 : (Jvm.Cond.fieldLink "MeshLines$Home" (11 : Nat) "MeshLines$Home" "state" "I") ∈ evW := evWi (tj_1 _ (List.mem_of_getElem? (i := 158) rfl)) rfl
set_option maxRecDepth 20000 in
theorem w_159 : (Jvm.Cond.fieldLink "MeshLines" (96 : Nat) "MeshLines$Home" "state" "I") ∈ evW := evWi (tj_1 _ (List.mem_of_getElem? (i := 159) rfl)) rfl
set_option maxRecDepth 20000 in
theorem w_160 : (Jvm.Cond.fieldLink "MeshLines$Home" (15 : Nat) "MeshLines$Home" "owner" "I") ∈ evW := evWi (tj_1 _ (List.mem_of_getElem? (i := 160) rfl)) rfl
set_option maxRecDepth 20000 in
theorem w_161 : (Jvm.Cond.fieldLink "MeshLines" (102 : Nat) "MeshLines$Home" "owner" "I") ∈ evW := evWi (tj_1 _ (List.mem_of_getElem? (i := 161) rfl)) rfl
set_option maxRecDepth 20000 in
theorem w_162 : (Jvm.Cond.fieldLink "MeshLines$Home" (64 : Nat) "MeshLines$Home" "sharers" "I") ∈ evW := evWi (tj_1 _ (List.mem_of_getElem? (i := 162) rfl)) rfl
set_option maxRecDepth 20000 in
theorem w_163 : (Jvm.Cond.fieldLink "MeshLines" (105 : Nat) "MeshLines$Home" "sharers" "I") ∈ evW := evWi (tj_1 _ (List.mem_of_getElem? (i := 163) rfl)) rfl
set_option maxRecDepth 20000 in
theorem w_164 : (Jvm.Cond.fieldLink "MeshLines$Home" (57 : Nat) "MeshLines$Home" "value" "I") ∈ evW := evWi (tj_1 _ (List.mem_of_getElem? (i := 164) rfl)) rfl
set_option maxRecDepth 20000 in
theorem w_165 : (Jvm.Cond.fieldLink "MeshLines" (99 : Nat) "MeshLines$Home" "value" "I") ∈ evW := evWi (tj_1 _ (List.mem_of_getElem? (i := 165) rfl)) rfl
set_option maxRecDepth 20000 in
theorem w_166 : (Jvm.Cond.laysFinal "MeshLines$Home" "MeshLines$Home" "line" "I") ∈ evW := evWi (tj_1 _ (List.mem_of_getElem? (i := 166) rfl)) rfl
set_option maxRecDepth 20000 in
theorem w_168 : (Jvm.Cond.laysFinal "MeshLines$Home" "MeshLines$Home" "node" "I") ∈ evW := evWi (tj_1 _ (List.mem_of_getElem? (i := 168) rfl)) rfl
set_option maxRecDepth 20000 in
theorem w_170 : (Jvm.Cond.laysFinal "MeshLines$Home" "MeshLines$Home" "mesh" "LMeshLines$Mesh;") ∈ evW := evWi (tj_1 _ (List.mem_of_getElem? (i := 170) rfl)) rfl
set_option maxRecDepth 20000 in
theorem w_172 : (Jvm.Cond.lays "MeshLines$Home" "MeshLines$Home" "state" "I") ∈ evW := evWi (tj_1 _ (List.mem_of_getElem? (i := 172) rfl)) rfl
set_option maxRecDepth 20000 in
theorem w_174 : (Jvm.Cond.lays "MeshLines$Home" "MeshLines$Home" "owner" "I") ∈ evW := evWi (tj_1 _ (List.mem_of_getElem? (i := 174) rfl)) rfl
set_option maxRecDepth 20000 in
theorem w_176 : (Jvm.Cond.lays "MeshLines$Home" "MeshLines$Home" "sharers" "I") ∈ evW := evWi (tj_1 _ (List.mem_of_getElem? (i := 176) rfl)) rfl
set_option maxRecDepth 20000 in
theorem w_178 : (Jvm.Cond.lays "MeshLines$Home" "MeshLines$Home" "value" "I") ∈ evW := evWi (tj_1 _ (List.mem_of_getElem? (i := 178) rfl)) rfl
set_option maxRecDepth 20000 in
theorem w_181 : (Jvm.Cond.classLink "MeshLines" (31 : Nat) "MeshLines$Node") ∈ evW := evWi (tj_1 _ (List.mem_of_getElem? (i := 181) rfl)) rfl
set_option maxRecDepth 20000 in
theorem w_183 : (Jvm.Cond.instantiable "MeshLines$Node" (5 : Nat)) ∈ evW := evWi (tj_1 _ (List.mem_of_getElem? (i := 183) rfl)) rfl
set_option maxRecDepth 20000 in
theorem w_184 : (Jvm.Cond.methodLink "MeshLines" (37 : Nat) ({ cls := "MeshLines$Node", name := "<init>", desc := "(ILMeshLines$Mesh;[LMeshLines$Home;)V" } : Jvm.MethodName)) ∈ evW := evWi (tj_1 _ (List.mem_of_getElem? (i := 184) rfl)) rfl
set_option maxRecDepth 20000 in
theorem w_185 : (Jvm.Cond.instanceMethod ({ cls := "MeshLines$Node", name := "<init>", desc := "(ILMeshLines$Mesh;[LMeshLines$Home;)V" } : Jvm.MethodName)) ∈ evW := evWi (tj_1 _ (List.mem_of_getElem? (i := 185) rfl)) rfl
set_option maxRecDepth 20000 in
theorem w_186 : (Jvm.Cond.code ({ cls := "MeshLines$Node", name := "<init>", desc := "(ILMeshLines$Mesh;[LMeshLines$Home;)V" } : Jvm.MethodName) prog_9_method_1_code (4 : Nat) (Option.none : Option Jvm.ClassFile.FieldType)) ∈ evW := evWi (tj_1 _ (List.mem_of_getElem? (i := 186) rfl)) rfl
set_option maxRecDepth 20000 in
theorem w_187 : (Jvm.Cond.methodLink "MeshLines$Node" (3 : Nat) ({ cls := "java/lang/Object", name := "<init>", desc := "()V" } : Jvm.MethodName)) ∈ evW := evWi (tj_1 _ (List.mem_of_getElem? (i := 187) rfl)) rfl
set_option maxRecDepth 20000 in
theorem w_188 : (Jvm.Cond.classLink "MeshLines$Node" (23 : Nat) "MeshLines$Cache") ∈ evW := evWi (tj_1 _ (List.mem_of_getElem? (i := 188) rfl)) rfl
set_option maxRecDepth 20000 in
theorem w_189 : (Jvm.Cond.instantiable "MeshLines$Cache" (6 : Nat)) ∈ evW := evWi (tj_1 _ (List.mem_of_getElem? (i := 189) rfl)) rfl
set_option maxRecDepth 20000 in
theorem w_190 : (Jvm.Cond.methodLink "MeshLines$Node" (25 : Nat) ({ cls := "MeshLines$Cache", name := "<init>", desc := "(ILMeshLines$Mesh;)V" } : Jvm.MethodName)) ∈ evW := evWi (tj_1 _ (List.mem_of_getElem? (i := 190) rfl)) rfl
set_option maxRecDepth 20000 in
theorem w_191 : (Jvm.Cond.instanceMethod ({ cls := "MeshLines$Cache", name := "<init>", desc := "(ILMeshLines$Mesh;)V" } : Jvm.MethodName)) ∈ evW := evWi (tj_1 _ (List.mem_of_getElem? (i := 191) rfl)) rfl
set_option maxRecDepth 20000 in
theorem w_192 : (Jvm.Cond.code ({ cls := "MeshLines$Cache", name := "<init>", desc := "(ILMeshLines$Mesh;)V" } : Jvm.MethodName) prog_2_method_1_code (3 : Nat) (Option.none : Option Jvm.ClassFile.FieldType)) ∈ evW := evWi (tj_1 _ (List.mem_of_getElem? (i := 192) rfl)) rfl
set_option maxRecDepth 20000 in
theorem w_193 : (Jvm.Cond.methodLink "MeshLines$Cache" (3 : Nat) ({ cls := "java/lang/Object", name := "<init>", desc := "()V" } : Jvm.MethodName)) ∈ evW := evWi (tj_1 _ (List.mem_of_getElem? (i := 193) rfl)) rfl
set_option maxRecDepth 20000 in
theorem w_194 : (Jvm.Cond.fieldLink "MeshLines$Cache" (24 : Nat) "MeshLines$Cache" "node" "I") ∈ evW := evWi (tj_1 _ (List.mem_of_getElem? (i := 194) rfl)) rfl
set_option maxRecDepth 20000 in
theorem w_195 : (Jvm.Cond.fieldLink "MeshLines$Cache" (28 : Nat) "MeshLines$Cache" "mesh" "LMeshLines$Mesh;") ∈ evW := evWi (tj_1 _ (List.mem_of_getElem? (i := 195) rfl)) rfl
set_option maxRecDepth 20000 in
theorem w_196 : (Jvm.Cond.fieldLink "MeshLines$Cache" (9 : Nat) "MeshLines$Cache" "states" "[I") ∈ evW := evWi (tj_1 _ (List.mem_of_getElem? (i := 196) rfl)) rfl
set_option maxRecDepth 20000 in
theorem w_197 : (Jvm.Cond.fieldLink "MeshLines$Core" (41 : Nat) "MeshLines$Cache" "states" "[I") ∈ evW := evWi (tj_1 _ (List.mem_of_getElem? (i := 197) rfl)) rfl
set_option maxRecDepth 20000 in
theorem w_198 : (Jvm.Cond.fieldLink "MeshLines" (82 : Nat) "MeshLines$Cache" "states" "[I") ∈ evW := evWi (tj_1 _ (List.mem_of_getElem? (i := 198) rfl)) rfl
set_option maxRecDepth 20000 in
theorem w_199 : (Jvm.Cond.fieldLink "MeshLines$Cache" (15 : Nat) "MeshLines$Cache" "values" "[I") ∈ evW := evWi (tj_1 _ (List.mem_of_getElem? (i := 199) rfl)) rfl
set_option maxRecDepth 20000 in
theorem w_200 : (Jvm.Cond.fieldLink "MeshLines$Core" (65 : Nat) "MeshLines$Cache" "values" "[I") ∈ evW := evWi (tj_1 _ (List.mem_of_getElem? (i := 200) rfl)) rfl
set_option maxRecDepth 20000 in
theorem w_201 : (Jvm.Cond.fieldLink "MeshLines" (87 : Nat) "MeshLines$Cache" "values" "[I") ∈ evW := evWi (tj_1 _ (List.mem_of_getElem? (i := 201) rfl)) rfl
set_option maxRecDepth 20000 in
theorem w_202 : (Jvm.Cond.fieldLink "MeshLines$Cache" (18 : Nat) "MeshLines$Cache" "needs" "[I") ∈ evW := evWi (tj_1 _ (List.mem_of_getElem? (i := 202) rfl)) rfl
set_option maxRecDepth 20000 in
theorem w_203 : (Jvm.Cond.fieldLink "MeshLines" (90 : Nat) "MeshLines$Cache" "needs" "[I") ∈ evW := evWi (tj_1 _ (List.mem_of_getElem? (i := 203) rfl)) rfl
set_option maxRecDepth 20000 in
theorem w_204 : (Jvm.Cond.fieldLink "MeshLines$Cache" (21 : Nat) "MeshLines$Cache" "used" "[I") ∈ evW := evWi (tj_1 _ (List.mem_of_getElem? (i := 204) rfl)) rfl
set_option maxRecDepth 20000 in
theorem w_205 : (Jvm.Cond.fieldLink "MeshLines$Core" (66 : Nat) "MeshLines$Cache" "used" "[I") ∈ evW := evWi (tj_1 _ (List.mem_of_getElem? (i := 205) rfl)) rfl
set_option maxRecDepth 20000 in
theorem w_206 : (Jvm.Cond.fieldLink "MeshLines" (93 : Nat) "MeshLines$Cache" "used" "[I") ∈ evW := evWi (tj_1 _ (List.mem_of_getElem? (i := 206) rfl)) rfl
set_option maxRecDepth 20000 in
theorem w_207 : (Jvm.Cond.laysFinal "MeshLines$Cache" "MeshLines$Cache" "node" "I") ∈ evW := evWi (tj_1 _ (List.mem_of_getElem? (i := 207) rfl)) rfl
set_option maxRecDepth 20000 in
theorem w_209 : (Jvm.Cond.laysFinal "MeshLines$Cache" "MeshLines$Cache" "mesh" "LMeshLines$Mesh;") ∈ evW := evWi (tj_1 _ (List.mem_of_getElem? (i := 209) rfl)) rfl
set_option maxRecDepth 20000 in
theorem w_211 : (Jvm.Cond.laysFinal "MeshLines$Cache" "MeshLines$Cache" "states" "[I") ∈ evW := evWi (tj_1 _ (List.mem_of_getElem? (i := 211) rfl)) rfl
set_option maxRecDepth 20000 in
theorem w_213 : (Jvm.Cond.laysFinal "MeshLines$Cache" "MeshLines$Cache" "values" "[I") ∈ evW := evWi (tj_1 _ (List.mem_of_getElem? (i := 213) rfl)) rfl
set_option maxRecDepth 20000 in
theorem w_215 : (Jvm.Cond.laysFinal "MeshLines$Cache" "MeshLines$Cache" "needs" "[I") ∈ evW := evWi (tj_1 _ (List.mem_of_getElem? (i := 215) rfl)) rfl
set_option maxRecDepth 20000 in
theorem w_217 : (Jvm.Cond.laysFinal "MeshLines$Cache" "MeshLines$Cache" "used" "[I") ∈ evW := evWi (tj_1 _ (List.mem_of_getElem? (i := 217) rfl)) rfl
set_option maxRecDepth 20000 in
theorem w_220 : (Jvm.Cond.classLink "MeshLines$Node" (32 : Nat) "MeshLines$Core") ∈ evW := evWi (tj_1 _ (List.mem_of_getElem? (i := 220) rfl)) rfl
set_option maxRecDepth 20000 in
theorem w_221 : (Jvm.Cond.instantiable "MeshLines$Core" (9 : Nat)) ∈ evW := evWi (tj_1 _ (List.mem_of_getElem? (i := 221) rfl)) rfl
set_option maxRecDepth 20000 in
theorem w_222 : (Jvm.Cond.methodLink "MeshLines$Node" (34 : Nat) ({ cls := "MeshLines$Core", name := "<init>", desc := "(LMeshLines$Cache;)V" } : Jvm.MethodName)) ∈ evW := evWi (tj_1 _ (List.mem_of_getElem? (i := 222) rfl)) rfl
set_option maxRecDepth 20000 in
theorem w_223 : (Jvm.Cond.instanceMethod ({ cls := "MeshLines$Core", name := "<init>", desc := "(LMeshLines$Cache;)V" } : Jvm.MethodName)) ∈ evW := evWi (tj_1 _ (List.mem_of_getElem? (i := 223) rfl)) rfl
set_option maxRecDepth 20000 in
theorem w_224 : (Jvm.Cond.code ({ cls := "MeshLines$Core", name := "<init>", desc := "(LMeshLines$Cache;)V" } : Jvm.MethodName) prog_3_method_1_code (2 : Nat) (Option.none : Option Jvm.ClassFile.FieldType)) ∈ evW := evWi (tj_1 _ (List.mem_of_getElem? (i := 224) rfl)) rfl
set_option maxRecDepth 20000 in
theorem w_225 : (Jvm.Cond.methodLink "MeshLines$Core" (3 : Nat) ({ cls := "java/lang/Object", name := "<init>", desc := "()V" } : Jvm.MethodName)) ∈ evW := evWi (tj_1 _ (List.mem_of_getElem? (i := 225) rfl)) rfl
set_option maxRecDepth 20000 in
theorem w_226 : (Jvm.Cond.fieldLink "MeshLines$Core" (27 : Nat) "MeshLines$Core" "cache" "LMeshLines$Cache;") ∈ evW := evWi (tj_1 _ (List.mem_of_getElem? (i := 226) rfl)) rfl
set_option maxRecDepth 20000 in
theorem w_227 : (Jvm.Cond.fieldLink "MeshLines$Core" (9 : Nat) "MeshLines$Core" "kinds" "[I") ∈ evW := evWi (tj_1 _ (List.mem_of_getElem? (i := 227) rfl)) rfl
set_option maxRecDepth 20000 in
theorem w_228 : (Jvm.Cond.fieldLink "MeshLines$Core" (15 : Nat) "MeshLines$Core" "lines" "[I") ∈ evW := evWi (tj_1 _ (List.mem_of_getElem? (i := 228) rfl)) rfl
set_option maxRecDepth 20000 in
theorem w_229 : (Jvm.Cond.fieldLink "MeshLines$Core" (18 : Nat) "MeshLines$Core" "values" "[I") ∈ evW := evWi (tj_1 _ (List.mem_of_getElem? (i := 229) rfl)) rfl
set_option maxRecDepth 20000 in
theorem w_230 : (Jvm.Cond.fieldLink "MeshLines$Core" (21 : Nat) "MeshLines$Core" "delays" "[I") ∈ evW := evWi (tj_1 _ (List.mem_of_getElem? (i := 230) rfl)) rfl
set_option maxRecDepth 20000 in
theorem w_231 : (Jvm.Cond.fieldLink "MeshLines$Core" (24 : Nat) "MeshLines$Core" "results" "[I") ∈ evW := evWi (tj_1 _ (List.mem_of_getElem? (i := 231) rfl)) rfl
set_option maxRecDepth 20000 in
theorem w_232 : (Jvm.Cond.fieldLink "MeshLines" (74 : Nat) "MeshLines$Core" "results" "[I") ∈ evW := evWi (tj_1 _ (List.mem_of_getElem? (i := 232) rfl)) rfl
set_option maxRecDepth 20000 in
theorem w_233 : (Jvm.Cond.fieldLink "MeshLines$Core" (31 : Nat) "MeshLines$Core" "total" "I") ∈ evW := evWi (tj_1 _ (List.mem_of_getElem? (i := 233) rfl)) rfl
set_option maxRecDepth 20000 in
theorem w_234 : (Jvm.Cond.fieldLink "MeshLines$Core" (35 : Nat) "MeshLines$Core" "finished" "I") ∈ evW := evWi (tj_1 _ (List.mem_of_getElem? (i := 234) rfl)) rfl
set_option maxRecDepth 20000 in
theorem w_235 : (Jvm.Cond.fieldLink "MeshLines" (71 : Nat) "MeshLines$Core" "finished" "I") ∈ evW := evWi (tj_1 _ (List.mem_of_getElem? (i := 235) rfl)) rfl
set_option maxRecDepth 20000 in
theorem w_236 : (Jvm.Cond.fieldLink "MeshLines$Core" (38 : Nat) "MeshLines$Core" "finishedIn" "I") ∈ evW := evWi (tj_1 _ (List.mem_of_getElem? (i := 236) rfl)) rfl
set_option maxRecDepth 20000 in
theorem w_237 : (Jvm.Cond.laysFinal "MeshLines$Core" "MeshLines$Core" "cache" "LMeshLines$Cache;") ∈ evW := evWi (tj_1 _ (List.mem_of_getElem? (i := 237) rfl)) rfl
set_option maxRecDepth 20000 in
theorem w_239 : (Jvm.Cond.laysFinal "MeshLines$Core" "MeshLines$Core" "kinds" "[I") ∈ evW := evWi (tj_1 _ (List.mem_of_getElem? (i := 239) rfl)) rfl
set_option maxRecDepth 20000 in
theorem w_241 : (Jvm.Cond.laysFinal "MeshLines$Core" "MeshLines$Core" "lines" "[I") ∈ evW := evWi (tj_2 _ (List.mem_of_getElem? (i := 1) rfl)) rfl
set_option maxRecDepth 20000 in
theorem w_243 : (Jvm.Cond.laysFinal "MeshLines$Core" "MeshLines$Core" "values" "[I") ∈ evW := evWi (tj_2 _ (List.mem_of_getElem? (i := 3) rfl)) rfl
set_option maxRecDepth 20000 in
theorem w_245 : (Jvm.Cond.laysFinal "MeshLines$Core" "MeshLines$Core" "delays" "[I") ∈ evW := evWi (tj_2 _ (List.mem_of_getElem? (i := 5) rfl)) rfl
set_option maxRecDepth 20000 in
theorem w_247 : (Jvm.Cond.laysFinal "MeshLines$Core" "MeshLines$Core" "results" "[I") ∈ evW := evWi (tj_2 _ (List.mem_of_getElem? (i := 7) rfl)) rfl
set_option maxRecDepth 20000 in
theorem w_249 : (Jvm.Cond.lays "MeshLines$Core" "MeshLines$Core" "total" "I") ∈ evW := evWi (tj_2 _ (List.mem_of_getElem? (i := 9) rfl)) rfl
set_option maxRecDepth 20000 in
theorem w_251 : (Jvm.Cond.lays "MeshLines$Core" "MeshLines$Core" "finished" "I") ∈ evW := evWi (tj_2 _ (List.mem_of_getElem? (i := 11) rfl)) rfl
set_option maxRecDepth 20000 in
theorem w_253 : (Jvm.Cond.lays "MeshLines$Core" "MeshLines$Core" "finishedIn" "I") ∈ evW := evWi (tj_2 _ (List.mem_of_getElem? (i := 13) rfl)) rfl
set_option maxRecDepth 20000 in
theorem w_256 : (Jvm.Cond.fieldLink "MeshLines$Node" (9 : Nat) "MeshLines$Node" "number" "I") ∈ evW := evWi (tj_2 _ (List.mem_of_getElem? (i := 16) rfl)) rfl
set_option maxRecDepth 20000 in
theorem w_257 : (Jvm.Cond.fieldLink "MeshLines$Node" (15 : Nat) "MeshLines$Node" "mesh" "LMeshLines$Mesh;") ∈ evW := evWi (tj_2 _ (List.mem_of_getElem? (i := 17) rfl)) rfl
set_option maxRecDepth 20000 in
theorem w_258 : (Jvm.Cond.fieldLink "MeshLines$Node" (19 : Nat) "MeshLines$Node" "homes" "[LMeshLines$Home;") ∈ evW := evWi (tj_2 _ (List.mem_of_getElem? (i := 18) rfl)) rfl
set_option maxRecDepth 20000 in
theorem w_259 : (Jvm.Cond.fieldLink "MeshLines$Node" (28 : Nat) "MeshLines$Node" "cache" "LMeshLines$Cache;") ∈ evW := evWi (tj_2 _ (List.mem_of_getElem? (i := 19) rfl)) rfl
set_option maxRecDepth 20000 in
theorem w_260 : (Jvm.Cond.fieldLink "MeshLines" (78 : Nat) "MeshLines$Node" "cache" "LMeshLines$Cache;") ∈ evW := evWi (tj_2 _ (List.mem_of_getElem? (i := 20) rfl)) rfl
set_option maxRecDepth 20000 in
theorem w_261 : (Jvm.Cond.fieldLink "MeshLines$Node" (37 : Nat) "MeshLines$Node" "core" "LMeshLines$Core;") ∈ evW := evWi (tj_2 _ (List.mem_of_getElem? (i := 21) rfl)) rfl
set_option maxRecDepth 20000 in
theorem w_262 : (Jvm.Cond.fieldLink "MeshLines" (44 : Nat) "MeshLines$Node" "core" "LMeshLines$Core;") ∈ evW := evWi (tj_2 _ (List.mem_of_getElem? (i := 22) rfl)) rfl
set_option maxRecDepth 20000 in
theorem w_263 : (Jvm.Cond.laysFinal "MeshLines$Node" "MeshLines$Node" "number" "I") ∈ evW := evWi (tj_2 _ (List.mem_of_getElem? (i := 23) rfl)) rfl
set_option maxRecDepth 20000 in
theorem w_265 : (Jvm.Cond.laysFinal "MeshLines$Node" "MeshLines$Node" "mesh" "LMeshLines$Mesh;") ∈ evW := evWi (tj_2 _ (List.mem_of_getElem? (i := 25) rfl)) rfl
set_option maxRecDepth 20000 in
theorem w_267 : (Jvm.Cond.laysFinal "MeshLines$Node" "MeshLines$Node" "homes" "[LMeshLines$Home;") ∈ evW := evWi (tj_2 _ (List.mem_of_getElem? (i := 27) rfl)) rfl
set_option maxRecDepth 20000 in
theorem w_269 : (Jvm.Cond.laysFinal "MeshLines$Node" "MeshLines$Node" "cache" "LMeshLines$Cache;") ∈ evW := evWi (tj_2 _ (List.mem_of_getElem? (i := 29) rfl)) rfl
set_option maxRecDepth 20000 in
theorem w_271 : (Jvm.Cond.laysFinal "MeshLines$Node" "MeshLines$Node" "core" "LMeshLines$Core;") ∈ evW := evWi (tj_2 _ (List.mem_of_getElem? (i := 31) rfl)) rfl
set_option maxRecDepth 20000 in
theorem w_274 : (Jvm.Cond.fieldLink "MeshLines" (18 : Nat) "MeshLines" "mesh" "LMeshLines$Mesh;") ∈ evW := evWi (tj_2 _ (List.mem_of_getElem? (i := 34) rfl)) rfl
set_option maxRecDepth 20000 in
theorem w_275 : (Jvm.Cond.fieldLink "MeshLines" (24 : Nat) "MeshLines" "homes" "[LMeshLines$Home;") ∈ evW := evWi (tj_2 _ (List.mem_of_getElem? (i := 35) rfl)) rfl
set_option maxRecDepth 20000 in
theorem w_276 : (Jvm.Cond.fieldLink "MeshLines" (33 : Nat) "MeshLines" "nodes" "[LMeshLines$Node;") ∈ evW := evWi (tj_2 _ (List.mem_of_getElem? (i := 36) rfl)) rfl
set_option maxRecDepth 20000 in
theorem w_277 : (Jvm.Cond.fieldLink "MeshLines" (54 : Nat) "MeshLines" "cycle" "I") ∈ evW := evWi (tj_2 _ (List.mem_of_getElem? (i := 37) rfl)) rfl
set_option maxRecDepth 20000 in
theorem w_278 : (Jvm.Cond.laysFinal "MeshLines" "MeshLines" "mesh" "LMeshLines$Mesh;") ∈ evW := evWi (tj_2 _ (List.mem_of_getElem? (i := 38) rfl)) rfl
set_option maxRecDepth 20000 in
theorem w_280 : (Jvm.Cond.laysFinal "MeshLines" "MeshLines" "homes" "[LMeshLines$Home;") ∈ evW := evWi (tj_2 _ (List.mem_of_getElem? (i := 40) rfl)) rfl
set_option maxRecDepth 20000 in
theorem w_282 : (Jvm.Cond.laysFinal "MeshLines" "MeshLines" "nodes" "[LMeshLines$Node;") ∈ evW := evWi (tj_2 _ (List.mem_of_getElem? (i := 42) rfl)) rfl
set_option maxRecDepth 20000 in
theorem w_284 : (Jvm.Cond.lays "MeshLines" "MeshLines" "cycle" "I") ∈ evW := evWi (tj_2 _ (List.mem_of_getElem? (i := 44) rfl)) rfl
set_option maxRecDepth 20000 in
theorem w_287 : (Jvm.Cond.methodLink "MeshLinesLaw" (21 : Nat) ({ cls := "MeshLines", name := "operation", desc := "(IIIII)I" } : Jvm.MethodName)) ∈ evW := evWi (tj_2 _ (List.mem_of_getElem? (i := 47) rfl)) rfl
set_option maxRecDepth 20000 in
theorem w_288 : (Jvm.Cond.instanceMethod ({ cls := "MeshLines", name := "operation", desc := "(IIIII)I" } : Jvm.MethodName)) ∈ evW := evWi (tj_2 _ (List.mem_of_getElem? (i := 48) rfl)) rfl
set_option maxRecDepth 20000 in
theorem w_289 : (Jvm.Cond.selects "MeshLines" ({ cls := "MeshLines", name := "operation", desc := "(IIIII)I" } : Jvm.MethodName) ({ cls := "MeshLines", name := "operation", desc := "(IIIII)I" } : Jvm.MethodName)) ∈ evW := evWi (tj_2 _ (List.mem_of_getElem? (i := 49) rfl)) rfl
set_option maxRecDepth 20000 in
theorem w_290 : (Jvm.Cond.code ({ cls := "MeshLines", name := "operation", desc := "(IIIII)I" } : Jvm.MethodName) prog_1_method_2_code (6 : Nat) (Option.some Jvm.ClassFile.FieldType.int)) ∈ evW := evWi (tj_2 _ (List.mem_of_getElem? (i := 50) rfl)) rfl
set_option maxRecDepth 20000 in
theorem w_291 : (Jvm.Cond.methodLink "MeshLines" (40 : Nat) ({ cls := "MeshLines", name := "isBelow", desc := "(II)Z" } : Jvm.MethodName)) ∈ evW := evWi (tj_2 _ (List.mem_of_getElem? (i := 51) rfl)) rfl
set_option maxRecDepth 20000 in
theorem w_292 : (Jvm.Cond.static ({ cls := "MeshLines", name := "isBelow", desc := "(II)Z" } : Jvm.MethodName)) ∈ evW := evWi (tj_2 _ (List.mem_of_getElem? (i := 52) rfl)) rfl
set_option maxRecDepth 20000 in
theorem w_293 : (Jvm.Cond.code ({ cls := "MeshLines", name := "isBelow", desc := "(II)Z" } : Jvm.MethodName) prog_1_method_11_code (2 : Nat) (Option.some Jvm.ClassFile.FieldType.boolean)) ∈ evW := evWi (tj_2 _ (List.mem_of_getElem? (i := 53) rfl)) rfl
set_option maxRecDepth 20000 in
theorem w_294 : (Jvm.Cond.methodLink "MeshLines" (48 : Nat) ({ cls := "MeshLines$Core", name := "append", desc := "(IIII)I" } : Jvm.MethodName)) ∈ evW := evWi (tj_2 _ (List.mem_of_getElem? (i := 54) rfl)) rfl
set_option maxRecDepth 20000 in
theorem w_295 : (Jvm.Cond.instanceMethod ({ cls := "MeshLines$Core", name := "append", desc := "(IIII)I" } : Jvm.MethodName)) ∈ evW := evWi (tj_2 _ (List.mem_of_getElem? (i := 55) rfl)) rfl
set_option maxRecDepth 20000 in
theorem w_296 : (Jvm.Cond.selects "MeshLines$Core" ({ cls := "MeshLines$Core", name := "append", desc := "(IIII)I" } : Jvm.MethodName) ({ cls := "MeshLines$Core", name := "append", desc := "(IIII)I" } : Jvm.MethodName)) ∈ evW := evWi (tj_2 _ (List.mem_of_getElem? (i := 56) rfl)) rfl
set_option maxRecDepth 20000 in
theorem w_297 : (Jvm.Cond.code ({ cls := "MeshLines$Core", name := "append", desc := "(IIII)I" } : Jvm.MethodName) prog_3_method_2_code (5 : Nat) (Option.some Jvm.ClassFile.FieldType.int)) ∈ evW := evWi (tj_2 _ (List.mem_of_getElem? (i := 57) rfl)) rfl
set_option maxRecDepth 20000 in
theorem w_298 : (Jvm.Cond.methodLink "MeshLinesLaw" (26 : Nat) ({ cls := "MeshLines", name := "run", desc := "(I)I" } : Jvm.MethodName)) ∈ evW := evWi (tj_2 _ (List.mem_of_getElem? (i := 58) rfl)) rfl
set_option maxRecDepth 20000 in
theorem w_299 : (Jvm.Cond.instanceMethod ({ cls := "MeshLines", name := "run", desc := "(I)I" } : Jvm.MethodName)) ∈ evW := evWi (tj_2 _ (List.mem_of_getElem? (i := 59) rfl)) rfl
set_option maxRecDepth 20000 in
theorem w_300 : (Jvm.Cond.selects "MeshLines" ({ cls := "MeshLines", name := "run", desc := "(I)I" } : Jvm.MethodName) ({ cls := "MeshLines", name := "run", desc := "(I)I" } : Jvm.MethodName)) ∈ evW := evWi (tj_2 _ (List.mem_of_getElem? (i := 60) rfl)) rfl
set_option maxRecDepth 20000 in
theorem w_301 : (Jvm.Cond.code ({ cls := "MeshLines", name := "run", desc := "(I)I" } : Jvm.MethodName) prog_1_method_3_code (4 : Nat) (Option.some Jvm.ClassFile.FieldType.int)) ∈ evW := evWi (tj_2 _ (List.mem_of_getElem? (i := 61) rfl)) rfl
set_option maxRecDepth 20000 in
theorem w_302 : (Jvm.Cond.methodLink "MeshLines" (58 : Nat) ({ cls := "MeshLines$Mesh", name := "enterFlits", desc := "(I)V" } : Jvm.MethodName)) ∈ evW := evWi (tj_2 _ (List.mem_of_getElem? (i := 62) rfl)) rfl
set_option maxRecDepth 20000 in
theorem w_303 : (Jvm.Cond.instanceMethod ({ cls := "MeshLines$Mesh", name := "enterFlits", desc := "(I)V" } : Jvm.MethodName)) ∈ evW := evWi (tj_2 _ (List.mem_of_getElem? (i := 63) rfl)) rfl
set_option maxRecDepth 20000 in
theorem w_304 : (Jvm.Cond.selects "MeshLines$Mesh" ({ cls := "MeshLines$Mesh", name := "enterFlits", desc := "(I)V" } : Jvm.MethodName) ({ cls := "MeshLines$Mesh", name := "enterFlits", desc := "(I)V" } : Jvm.MethodName)) ∈ evW := evWi (tj_2 _ (List.mem_of_getElem? (i := 64) rfl)) rfl
set_option maxRecDepth 20000 in
theorem w_305 : (Jvm.Cond.code ({ cls := "MeshLines$Mesh", name := "enterFlits", desc := "(I)V" } : Jvm.MethodName) prog_8_method_4_code (3 : Nat) (Option.none : Option Jvm.ClassFile.FieldType)) ∈ evW := evWi (tj_2 _ (List.mem_of_getElem? (i := 65) rfl)) rfl
set_option maxRecDepth 20000 in
theorem w_306 : (Jvm.Cond.methodLink "MeshLines$Mesh" (50 : Nat) ({ cls := "MeshLines$Lane", name := "enterFlit", desc := "(I)V" } : Jvm.MethodName)) ∈ evW := evWi (tj_2 _ (List.mem_of_getElem? (i := 66) rfl)) rfl
set_option maxRecDepth 20000 in
theorem w_307 : (Jvm.Cond.instanceMethod ({ cls := "MeshLines$Lane", name := "enterFlit", desc := "(I)V" } : Jvm.MethodName)) ∈ evW := evWi (tj_2 _ (List.mem_of_getElem? (i := 67) rfl)) rfl
set_option maxRecDepth 20000 in
theorem w_308 : (Jvm.Cond.selects "MeshLines$Lane" ({ cls := "MeshLines$Lane", name := "enterFlit", desc := "(I)V" } : Jvm.MethodName) ({ cls := "MeshLines$Lane", name := "enterFlit", desc := "(I)V" } : Jvm.MethodName)) ∈ evW := evWi (tj_2 _ (List.mem_of_getElem? (i := 68) rfl)) rfl
set_option maxRecDepth 20000 in
theorem w_309 : (Jvm.Cond.code ({ cls := "MeshLines$Lane", name := "enterFlit", desc := "(I)V" } : Jvm.MethodName) prog_7_method_2_code (3 : Nat) (Option.none : Option Jvm.ClassFile.FieldType)) ∈ evW := evWi (tj_2 _ (List.mem_of_getElem? (i := 69) rfl)) rfl
set_option maxRecDepth 20000 in
theorem w_310 : (Jvm.Cond.methodLink "MeshLines$Lane" (41 : Nat) ({ cls := "java/util/ArrayList", name := "isEmpty", desc := "()Z" } : Jvm.MethodName)) ∈ evW := evWi (tj_2 _ (List.mem_of_getElem? (i := 70) rfl)) rfl
set_option maxRecDepth 20000 in
theorem w_311 : (Jvm.Cond.instanceMethod ({ cls := "java/util/ArrayList", name := "isEmpty", desc := "()Z" } : Jvm.MethodName)) ∈ evW := evWi (tj_2 _ (List.mem_of_getElem? (i := 71) rfl)) rfl
set_option maxRecDepth 20000 in
theorem w_312 : (Jvm.Cond.selects "java/util/ArrayList" ({ cls := "java/util/ArrayList", name := "isEmpty", desc := "()Z" } : Jvm.MethodName) ({ cls := "java/util/ArrayList", name := "isEmpty", desc := "()Z" } : Jvm.MethodName)) ∈ evW := evWi (tj_2 _ (List.mem_of_getElem? (i := 72) rfl)) rfl
set_option maxRecDepth 20000 in
theorem w_313 : (Jvm.Cond.code ({ cls := "java/util/ArrayList", name := "isEmpty", desc := "()Z" } : Jvm.MethodName) prog_21_method_9_code (1 : Nat) (Option.some Jvm.ClassFile.FieldType.boolean)) ∈ evW := evWi (tj_2 _ (List.mem_of_getElem? (i := 73) rfl)) rfl
set_option maxRecDepth 20000 in
theorem w_314 : (Jvm.Cond.methodLink "MeshLines$Lane" (45 : Nat) ({ cls := "MeshLines$FlitBuffer", name := "hasRoom", desc := "()Z" } : Jvm.MethodName)) ∈ evW := evWi (tj_2 _ (List.mem_of_getElem? (i := 74) rfl)) rfl
set_option maxRecDepth 20000 in
theorem w_315 : (Jvm.Cond.instanceMethod ({ cls := "MeshLines$FlitBuffer", name := "hasRoom", desc := "()Z" } : Jvm.MethodName)) ∈ evW := evWi (tj_2 _ (List.mem_of_getElem? (i := 75) rfl)) rfl
set_option maxRecDepth 20000 in
theorem w_316 : (Jvm.Cond.selects "MeshLines$FlitBuffer" ({ cls := "MeshLines$FlitBuffer", name := "hasRoom", desc := "()Z" } : Jvm.MethodName) ({ cls := "MeshLines$FlitBuffer", name := "hasRoom", desc := "()Z" } : Jvm.MethodName)) ∈ evW := evWi (tj_2 _ (List.mem_of_getElem? (i := 76) rfl)) rfl
set_option maxRecDepth 20000 in
theorem w_317 : (Jvm.Cond.code ({ cls := "MeshLines$FlitBuffer", name := "hasRoom", desc := "()Z" } : Jvm.MethodName) prog_5_method_2_code (1 : Nat) (Option.some Jvm.ClassFile.FieldType.boolean)) ∈ evW := evWi (tj_2 _ (List.mem_of_getElem? (i := 77) rfl)) rfl
set_option maxRecDepth 20000 in
theorem w_318 : (Jvm.Cond.classLink "MeshLines$Lane" (48 : Nat) "MeshLines$Flit") ∈ evW := evWi (tj_2 _ (List.mem_of_getElem? (i := 78) rfl)) rfl
set_option maxRecDepth 20000 in
theorem w_319 : (Jvm.Cond.instantiable "MeshLines$Flit" (4 : Nat)) ∈ evW := evWi (tj_2 _ (List.mem_of_getElem? (i := 79) rfl)) rfl
set_option maxRecDepth 20000 in
theorem w_320 : (Jvm.Cond.methodLink "MeshLines$Lane" (50 : Nat) ({ cls := "java/util/ArrayList", name := "get", desc := "(I)Ljava/lang/Object;" } : Jvm.MethodName)) ∈ evW := evWi (tj_2 _ (List.mem_of_getElem? (i := 80) rfl)) rfl
set_option maxRecDepth 20000 in
theorem w_321 : (Jvm.Cond.instanceMethod ({ cls := "java/util/ArrayList", name := "get", desc := "(I)Ljava/lang/Object;" } : Jvm.MethodName)) ∈ evW := evWi (tj_2 _ (List.mem_of_getElem? (i := 81) rfl)) rfl
set_option maxRecDepth 20000 in
theorem w_322 : (Jvm.Cond.selects "java/util/ArrayList" ({ cls := "java/util/ArrayList", name := "get", desc := "(I)Ljava/lang/Object;" } : Jvm.MethodName) ({ cls := "java/util/ArrayList", name := "get", desc := "(I)Ljava/lang/Object;" } : Jvm.MethodName)) ∈ evW := evWi (tj_2 _ (List.mem_of_getElem? (i := 82) rfl)) rfl
set_option maxRecDepth 20000 in
theorem w_323 : (Jvm.Cond.code ({ cls := "java/util/ArrayList", name := "get", desc := "(I)Ljava/lang/Object;" } : Jvm.MethodName) prog_21_method_20_code (2 : Nat) (Option.some (Jvm.ClassFile.FieldType.object "java/lang/Object"))) ∈ evW := evWi (tj_2 _ (List.mem_of_getElem? (i := 83) rfl)) rfl
set_option maxRecDepth 20000 in
theorem w_324 : (Jvm.Cond.methodLink "java/util/ArrayList" (118 : Nat) ({ cls := "java/util/Objects", name := "checkIndex", desc := "(II)I" } : Jvm.MethodName)) ∈ evW := evWi (tj_2 _ (List.mem_of_getElem? (i := 84) rfl)) rfl
set_option maxRecDepth 20000 in
theorem w_325 : (Jvm.Cond.static ({ cls := "java/util/Objects", name := "checkIndex", desc := "(II)I" } : Jvm.MethodName)) ∈ evW := evWi (tj_2 _ (List.mem_of_getElem? (i := 85) rfl)) rfl
set_option maxRecDepth 20000 in
theorem w_326 : (Jvm.Cond.code ({ cls := "java/util/Objects", name := "checkIndex", desc := "(II)I" } : Jvm.MethodName) prog_25_method_17_code (2 : Nat) (Option.some Jvm.ClassFile.FieldType.int)) ∈ evW := evWi (tj_2 _ (List.mem_of_getElem? (i := 86) rfl)) rfl
set_option maxRecDepth 20000 in
theorem w_327 : (Jvm.Cond.methodLink "java/util/Objects" (105 : Nat) ({ cls := "jdk/internal/util/Preconditions", name := "checkIndex", desc := "(IILjava/util/function/BiFunction;)I" } : Jvm.MethodName)) ∈ evW := evWi (tj_2 _ (List.mem_of_getElem? (i := 87) rfl)) rfl
set_option maxRecDepth 20000 in
theorem w_328 : (Jvm.Cond.static ({ cls := "jdk/internal/util/Preconditions", name := "checkIndex", desc := "(IILjava/util/function/BiFunction;)I" } : Jvm.MethodName)) ∈ evW := evWi (tj_2 _ (List.mem_of_getElem? (i := 88) rfl)) rfl
set_option maxRecDepth 20000 in
theorem w_329 : (Jvm.Cond.code ({ cls := "jdk/internal/util/Preconditions", name := "checkIndex", desc := "(IILjava/util/function/BiFunction;)I" } : Jvm.MethodName) prog_29_method_11_code (3 : Nat) (Option.some Jvm.ClassFile.FieldType.int)) ∈ evW := evWi (tj_2 _ (List.mem_of_getElem? (i := 89) rfl)) rfl
set_option maxRecDepth 20000 in
theorem w_330 : (Jvm.Cond.methodLink "java/util/ArrayList" (123 : Nat) ({ cls := "java/util/ArrayList", name := "elementData", desc := "(I)Ljava/lang/Object;" } : Jvm.MethodName)) ∈ evW := evWi (tj_2 _ (List.mem_of_getElem? (i := 90) rfl)) rfl
set_option maxRecDepth 20000 in
theorem w_331 : (Jvm.Cond.instanceMethod ({ cls := "java/util/ArrayList", name := "elementData", desc := "(I)Ljava/lang/Object;" } : Jvm.MethodName)) ∈ evW := evWi (tj_2 _ (List.mem_of_getElem? (i := 91) rfl)) rfl
set_option maxRecDepth 20000 in
theorem w_332 : (Jvm.Cond.selects "java/util/ArrayList" ({ cls := "java/util/ArrayList", name := "elementData", desc := "(I)Ljava/lang/Object;" } : Jvm.MethodName) ({ cls := "java/util/ArrayList", name := "elementData", desc := "(I)Ljava/lang/Object;" } : Jvm.MethodName)) ∈ evW := evWi (tj_2 _ (List.mem_of_getElem? (i := 92) rfl)) rfl
set_option maxRecDepth 20000 in
theorem w_333 : (Jvm.Cond.code ({ cls := "java/util/ArrayList", name := "elementData", desc := "(I)Ljava/lang/Object;" } : Jvm.MethodName) prog_21_method_18_code (2 : Nat) (Option.some (Jvm.ClassFile.FieldType.object "java/lang/Object"))) ∈ evW := evWi (tj_2 _ (List.mem_of_getElem? (i := 93) rfl)) rfl
set_option maxRecDepth 20000 in
theorem w_334 : (Jvm.Cond.classLink "MeshLines$Lane" (54 : Nat) "MeshLines$Packet") ∈ evW := evWi (tj_2 _ (List.mem_of_getElem? (i := 94) rfl)) rfl
set_option maxRecDepth 20000 in
theorem w_335 : (Jvm.Cond.methodLink "MeshLines$Lane" (59 : Nat) ({ cls := "MeshLines$Flit", name := "<init>", desc := "(LMeshLines$Packet;I)V" } : Jvm.MethodName)) ∈ evW := evWi (tj_2 _ (List.mem_of_getElem? (i := 95) rfl)) rfl
set_option maxRecDepth 20000 in
theorem w_336 : (Jvm.Cond.instanceMethod ({ cls := "MeshLines$Flit", name := "<init>", desc := "(LMeshLines$Packet;I)V" } : Jvm.MethodName)) ∈ evW := evWi (tj_2 _ (List.mem_of_getElem? (i := 96) rfl)) rfl
set_option maxRecDepth 20000 in
theorem w_337 : (Jvm.Cond.code ({ cls := "MeshLines$Flit", name := "<init>", desc := "(LMeshLines$Packet;I)V" } : Jvm.MethodName) prog_4_method_1_code (3 : Nat) (Option.none : Option Jvm.ClassFile.FieldType)) ∈ evW := evWi (tj_2 _ (List.mem_of_getElem? (i := 97) rfl)) rfl
set_option maxRecDepth 20000 in
theorem w_338 : (Jvm.Cond.methodLink "MeshLines$Flit" (1 : Nat) ({ cls := "java/lang/Object", name := "<init>", desc := "()V" } : Jvm.MethodName)) ∈ evW := evWi (tj_2 _ (List.mem_of_getElem? (i := 98) rfl)) rfl
set_option maxRecDepth 20000 in
theorem w_339 : (Jvm.Cond.fieldLink "MeshLines$Flit" (7 : Nat) "MeshLines$Flit" "packet" "LMeshLines$Packet;") ∈ evW := evWi (tj_2 _ (List.mem_of_getElem? (i := 99) rfl)) rfl
set_option maxRecDepth 20000 in
theorem w_340 : (Jvm.Cond.fieldLink "MeshLines$Lane" (80 : Nat) "MeshLines$Flit" "packet" "LMeshLines$Packet;") ∈ evW := evWi (tj_2 _ (List.mem_of_getElem? (i := 100) rfl)) rfl
set_option maxRecDepth 20000 in
theorem w_341 : (Jvm.Cond.fieldLink "MeshLines$Mesh" (113 : Nat) "MeshLines$Flit" "packet" "LMeshLines$Packet;") ∈ evW := evWi (tj_2 _ (List.mem_of_getElem? (i := 101) rfl)) rfl
set_option maxRecDepth 20000 in
theorem w_342 : (Jvm.Cond.fieldLink "MeshLines$Flit" (13 : Nat) "MeshLines$Flit" "isHead" "Z") ∈ evW := evWi (tj_2 _ (List.mem_of_getElem? (i := 102) rfl)) rfl
set_option maxRecDepth 20000 in
theorem w_343 : (Jvm.Cond.fieldLink "MeshLines$Lane" (77 : Nat) "MeshLines$Flit" "isHead" "Z") ∈ evW := evWi (tj_2 _ (List.mem_of_getElem? (i := 103) rfl)) rfl
set_option maxRecDepth 20000 in
theorem w_344 : (Jvm.Cond.fieldLink "MeshLines$Flit" (23 : Nat) "MeshLines$Flit" "isLast" "Z") ∈ evW := evWi (tj_2 _ (List.mem_of_getElem? (i := 104) rfl)) rfl
set_option maxRecDepth 20000 in
theorem w_345 : (Jvm.Cond.fieldLink "MeshLines$Lane" (66 : Nat) "MeshLines$Flit" "isLast" "Z") ∈ evW := evWi (tj_2 _ (List.mem_of_getElem? (i := 105) rfl)) rfl
set_option maxRecDepth 20000 in
theorem w_346 : (Jvm.Cond.fieldLink "MeshLines$Mesh" (106 : Nat) "MeshLines$Flit" "isLast" "Z") ∈ evW := evWi (tj_2 _ (List.mem_of_getElem? (i := 106) rfl)) rfl
set_option maxRecDepth 20000 in
theorem w_347 : (Jvm.Cond.fieldLink "MeshLines$FlitBuffer" (23 : Nat) "MeshLines$Flit" "cameIn" "I") ∈ evW := evWi (tj_2 _ (List.mem_of_getElem? (i := 107) rfl)) rfl
set_option maxRecDepth 20000 in
theorem w_348 : (Jvm.Cond.fieldLink "MeshLines$Mesh" (79 : Nat) "MeshLines$Flit" "cameIn" "I") ∈ evW := evWi (tj_2 _ (List.mem_of_getElem? (i := 108) rfl)) rfl
set_option maxRecDepth 20000 in
theorem w_349 : (Jvm.Cond.laysFinal "MeshLines$Flit" "MeshLines$Flit" "packet" "LMeshLines$Packet;") ∈ evW := evWi (tj_2 _ (List.mem_of_getElem? (i := 109) rfl)) rfl
set_option maxRecDepth 20000 in
theorem w_351 : (Jvm.Cond.laysFinal "MeshLines$Flit" "MeshLines$Flit" "isHead" "Z") ∈ evW := evWi (tj_2 _ (List.mem_of_getElem? (i := 111) rfl)) rfl
set_option maxRecDepth 20000 in
theorem w_353 : (Jvm.Cond.laysFinal "MeshLines$Flit" "MeshLines$Flit" "isLast" "Z") ∈ evW := evWi (tj_2 _ (List.mem_of_getElem? (i := 113) rfl)) rfl
set_option maxRecDepth 20000 in
theorem w_355 : (Jvm.Cond.lays "MeshLines$Flit" "MeshLines$Flit" "cameIn" "I") ∈ evW := evWi (tj_2 _ (List.mem_of_getElem? (i := 115) rfl)) rfl
set_option maxRecDepth 20000 in
theorem w_358 : (Jvm.Cond.methodLink "MeshLines$Lane" (62 : Nat) ({ cls := "MeshLines$FlitBuffer", name := "put", desc := "(LMeshLines$Flit;I)V" } : Jvm.MethodName)) ∈ evW := evWi (tj_2 _ (List.mem_of_getElem? (i := 118) rfl)) rfl
set_option maxRecDepth 20000 in
theorem w_359 : (Jvm.Cond.instanceMethod ({ cls := "MeshLines$FlitBuffer", name := "put", desc := "(LMeshLines$Flit;I)V" } : Jvm.MethodName)) ∈ evW := evWi (tj_2 _ (List.mem_of_getElem? (i := 119) rfl)) rfl
set_option maxRecDepth 20000 in
theorem w_360 : (Jvm.Cond.selects "MeshLines$FlitBuffer" ({ cls := "MeshLines$FlitBuffer", name := "put", desc := "(LMeshLines$Flit;I)V" } : Jvm.MethodName) ({ cls := "MeshLines$FlitBuffer", name := "put", desc := "(LMeshLines$Flit;I)V" } : Jvm.MethodName)) ∈ evW := evWi (tj_2 _ (List.mem_of_getElem? (i := 120) rfl)) rfl
set_option maxRecDepth 20000 in
theorem w_361 : (Jvm.Cond.code ({ cls := "MeshLines$FlitBuffer", name := "put", desc := "(LMeshLines$Flit;I)V" } : Jvm.MethodName) prog_5_method_4_code (3 : Nat) (Option.none : Option Jvm.ClassFile.FieldType)) ∈ evW := evWi (tj_2 _ (List.mem_of_getElem? (i := 121) rfl)) rfl
set_option maxRecDepth 20000 in
theorem w_362 : (Jvm.Cond.methodLink "MeshLines$FlitBuffer" (19 : Nat) ({ cls := "MeshLines$FlitBuffer", name := "hasRoom", desc := "()Z" } : Jvm.MethodName)) ∈ evW := evWi (tj_2 _ (List.mem_of_getElem? (i := 122) rfl)) rfl
set_option maxRecDepth 20000 in
theorem w_363 : (Jvm.Cond.methodLink "MeshLines$Lane" (70 : Nat) ({ cls := "java/util/ArrayList", name := "remove", desc := "(I)Ljava/lang/Object;" } : Jvm.MethodName)) ∈ evW := evWi (tj_2 _ (List.mem_of_getElem? (i := 123) rfl)) rfl
set_option maxRecDepth 20000 in
theorem w_364 : (Jvm.Cond.instanceMethod ({ cls := "java/util/ArrayList", name := "remove", desc := "(I)Ljava/lang/Object;" } : Jvm.MethodName)) ∈ evW := evWi (tj_2 _ (List.mem_of_getElem? (i := 124) rfl)) rfl
set_option maxRecDepth 20000 in
theorem w_365 : (Jvm.Cond.selects "java/util/ArrayList" ({ cls := "java/util/ArrayList", name := "remove", desc := "(I)Ljava/lang/Object;" } : Jvm.MethodName) ({ cls := "java/util/ArrayList", name := "remove", desc := "(I)Ljava/lang/Object;" } : Jvm.MethodName)) ∈ evW := evWi (tj_2 _ (List.mem_of_getElem? (i := 125) rfl)) rfl
set_option maxRecDepth 20000 in
theorem w_366 : (Jvm.Cond.code ({ cls := "java/util/ArrayList", name := "remove", desc := "(I)Ljava/lang/Object;" } : Jvm.MethodName) prog_21_method_29_code (4 : Nat) (Option.some (Jvm.ClassFile.FieldType.object "java/lang/Object"))) ∈ evW := evWi (tj_2 _ (List.mem_of_getElem? (i := 126) rfl)) rfl
set_option maxRecDepth 20000 in
theorem w_367 : (Jvm.Cond.methodLink "java/util/ArrayList" (144 : Nat) ({ cls := "java/util/ArrayList", name := "fastRemove", desc := "([Ljava/lang/Object;I)V" } : Jvm.MethodName)) ∈ evW := evWi (tj_2 _ (List.mem_of_getElem? (i := 127) rfl)) rfl
set_option maxRecDepth 20000 in
theorem w_369 : (Jvm.Cond.instanceMethod ({ cls := "java/util/ArrayList", name := "fastRemove", desc := "([Ljava/lang/Object;I)V" } : Jvm.MethodName)) ∈ evW := evWi (tj_2 _ (List.mem_of_getElem? (i := 129) rfl)) rfl
set_option maxRecDepth 20000 in
theorem w_370 : (Jvm.Cond.code ({ cls := "java/util/ArrayList", name := "fastRemove", desc := "([Ljava/lang/Object;I)V" } : Jvm.MethodName) prog_21_method_39_code (4 : Nat) (Option.none : Option Jvm.ClassFile.FieldType)) ∈ evW := evWi (tj_2 _ (List.mem_of_getElem? (i := 130) rfl)) rfl
set_option maxRecDepth 20000 in
theorem w_371 : (Jvm.Cond.methodLink "java/util/ArrayList" (112 : Nat) ({ cls := "java/lang/System", name := "arraycopy", desc := "(Ljava/lang/Object;ILjava/lang/Object;II)V" } : Jvm.MethodName)) ∈ evW := evWi (tj_2 _ (List.mem_of_getElem? (i := 131) rfl)) rfl
set_option maxRecDepth 20000 in
theorem w_372 : (Jvm.Cond.static ({ cls := "java/lang/System", name := "arraycopy", desc := "(Ljava/lang/Object;ILjava/lang/Object;II)V" } : Jvm.MethodName)) ∈ evW := evWi (tj_2 _ (List.mem_of_getElem? (i := 132) rfl)) rfl
set_option maxRecDepth 20000 in
theorem w_373 : (Jvm.Cond.native ({ cls := "java/lang/System", name := "arraycopy", desc := "(Ljava/lang/Object;ILjava/lang/Object;II)V" } : Jvm.MethodName)) ∈ evW := evWi (tj_2 _ (List.mem_of_getElem? (i := 133) rfl)) rfl
set_option maxRecDepth 20000 in
theorem w_374 : (Jvm.Cond.methodLink "MeshLines" (62 : Nat) ({ cls := "MeshLines$Mesh", name := "moveFlits", desc := "(I)V" } : Jvm.MethodName)) ∈ evW := evWi (tj_2 _ (List.mem_of_getElem? (i := 134) rfl)) rfl
set_option maxRecDepth 20000 in
theorem w_375 : (Jvm.Cond.instanceMethod ({ cls := "MeshLines$Mesh", name := "moveFlits", desc := "(I)V" } : Jvm.MethodName)) ∈ evW := evWi (tj_2 _ (List.mem_of_getElem? (i := 135) rfl)) rfl
set_option maxRecDepth 20000 in
theorem w_376 : (Jvm.Cond.selects "MeshLines$Mesh" ({ cls := "MeshLines$Mesh", name := "moveFlits", desc := "(I)V" } : Jvm.MethodName) ({ cls := "MeshLines$Mesh", name := "moveFlits", desc := "(I)V" } : Jvm.MethodName)) ∈ evW := evWi (tj_2 _ (List.mem_of_getElem? (i := 136) rfl)) rfl
set_option maxRecDepth 20000 in
theorem w_377 : (Jvm.Cond.code ({ cls := "MeshLines$Mesh", name := "moveFlits", desc := "(I)V" } : Jvm.MethodName) prog_8_method_5_code (4 : Nat) (Option.none : Option Jvm.ClassFile.FieldType)) ∈ evW := evWi (tj_2 _ (List.mem_of_getElem? (i := 137) rfl)) rfl
set_option maxRecDepth 20000 in
theorem w_378 : (Jvm.Cond.methodLink "MeshLines$Mesh" (57 : Nat) ({ cls := "MeshLines$Mesh", name := "moveOneFlit", desc := "(III)V" } : Jvm.MethodName)) ∈ evW := evWi (tj_2 _ (List.mem_of_getElem? (i := 138) rfl)) rfl
set_option maxRecDepth 20000 in
theorem w_380 : (Jvm.Cond.instanceMethod ({ cls := "MeshLines$Mesh", name := "moveOneFlit", desc := "(III)V" } : Jvm.MethodName)) ∈ evW := evWi (tj_2 _ (List.mem_of_getElem? (i := 140) rfl)) rfl
set_option maxRecDepth 20000 in
theorem w_381 : (Jvm.Cond.code ({ cls := "MeshLines$Mesh", name := "moveOneFlit", desc := "(III)V" } : Jvm.MethodName) prog_8_method_6_code (6 : Nat) (Option.none : Option Jvm.ClassFile.FieldType)) ∈ evW := evWi (tj_2 _ (List.mem_of_getElem? (i := 141) rfl)) rfl
set_option maxRecDepth 20000 in
theorem w_382 : (Jvm.Cond.methodLink "MeshLines$Mesh" (61 : Nat) ({ cls := "MeshLines$Mesh", name := "moveFlitOf", desc := "(IIII)Z" } : Jvm.MethodName)) ∈ evW := evWi (tj_2 _ (List.mem_of_getElem? (i := 142) rfl)) rfl
set_option maxRecDepth 20000 in
theorem w_384 : (Jvm.Cond.instanceMethod ({ cls := "MeshLines$Mesh", name := "moveFlitOf", desc := "(IIII)Z" } : Jvm.MethodName)) ∈ evW := evWi (tj_2 _ (List.mem_of_getElem? (i := 144) rfl)) rfl
set_option maxRecDepth 20000 in
theorem w_385 : (Jvm.Cond.code ({ cls := "MeshLines$Mesh", name := "moveFlitOf", desc := "(IIII)Z" } : Jvm.MethodName) prog_8_method_7_code (9 : Nat) (Option.some Jvm.ClassFile.FieldType.boolean)) ∈ evW := evWi (tj_2 _ (List.mem_of_getElem? (i := 145) rfl)) rfl
set_option maxRecDepth 20000 in
theorem w_386 : (Jvm.Cond.methodLink "MeshLines$Mesh" (33 : Nat) ({ cls := "MeshLines$Mesh", name := "laneOf", desc := "(II)LMeshLines$Lane;" } : Jvm.MethodName)) ∈ evW := evWi (tj_2 _ (List.mem_of_getElem? (i := 146) rfl)) rfl
set_option maxRecDepth 20000 in
theorem w_387 : (Jvm.Cond.instanceMethod ({ cls := "MeshLines$Mesh", name := "laneOf", desc := "(II)LMeshLines$Lane;" } : Jvm.MethodName)) ∈ evW := evWi (tj_2 _ (List.mem_of_getElem? (i := 147) rfl)) rfl
set_option maxRecDepth 20000 in
theorem w_388 : (Jvm.Cond.selects "MeshLines$Mesh" ({ cls := "MeshLines$Mesh", name := "laneOf", desc := "(II)LMeshLines$Lane;" } : Jvm.MethodName) ({ cls := "MeshLines$Mesh", name := "laneOf", desc := "(II)LMeshLines$Lane;" } : Jvm.MethodName)) ∈ evW := evWi (tj_2 _ (List.mem_of_getElem? (i := 148) rfl)) rfl
set_option maxRecDepth 20000 in
theorem w_389 : (Jvm.Cond.code ({ cls := "MeshLines$Mesh", name := "laneOf", desc := "(II)LMeshLines$Lane;" } : Jvm.MethodName) prog_8_method_2_code (3 : Nat) (Option.some (Jvm.ClassFile.FieldType.object "MeshLines$Lane"))) ∈ evW := evWi (tj_2 _ (List.mem_of_getElem? (i := 149) rfl)) rfl
set_option maxRecDepth 20000 in
theorem w_390 : (Jvm.Cond.methodLink "MeshLines$Mesh" (65 : Nat) ({ cls := "MeshLines$Lane", name := "portFor", desc := "(I)I" } : Jvm.MethodName)) ∈ evW := evWi (tj_2 _ (List.mem_of_getElem? (i := 150) rfl)) rfl
set_option maxRecDepth 20000 in
theorem w_391 : (Jvm.Cond.instanceMethod ({ cls := "MeshLines$Lane", name := "portFor", desc := "(I)I" } : Jvm.MethodName)) ∈ evW := evWi (tj_2 _ (List.mem_of_getElem? (i := 151) rfl)) rfl
set_option maxRecDepth 20000 in
theorem w_392 : (Jvm.Cond.selects "MeshLines$Lane" ({ cls := "MeshLines$Lane", name := "portFor", desc := "(I)I" } : Jvm.MethodName) ({ cls := "MeshLines$Lane", name := "portFor", desc := "(I)I" } : Jvm.MethodName)) ∈ evW := evWi (tj_2 _ (List.mem_of_getElem? (i := 152) rfl)) rfl
set_option maxRecDepth 20000 in
theorem w_393 : (Jvm.Cond.code ({ cls := "MeshLines$Lane", name := "portFor", desc := "(I)I" } : Jvm.MethodName) prog_7_method_3_code (5 : Nat) (Option.some Jvm.ClassFile.FieldType.int)) ∈ evW := evWi (tj_2 _ (List.mem_of_getElem? (i := 153) rfl)) rfl
set_option maxRecDepth 20000 in
theorem w_394 : (Jvm.Cond.methodLink "MeshLines$Lane" (73 : Nat) ({ cls := "MeshLines$FlitBuffer", name := "front", desc := "()LMeshLines$Flit;" } : Jvm.MethodName)) ∈ evW := evWi (tj_2 _ (List.mem_of_getElem? (i := 154) rfl)) rfl
set_option maxRecDepth 20000 in
theorem w_395 : (Jvm.Cond.instanceMethod ({ cls := "MeshLines$FlitBuffer", name := "front", desc := "()LMeshLines$Flit;" } : Jvm.MethodName)) ∈ evW := evWi (tj_2 _ (List.mem_of_getElem? (i := 155) rfl)) rfl
set_option maxRecDepth 20000 in
theorem w_396 : (Jvm.Cond.selects "MeshLines$FlitBuffer" ({ cls := "MeshLines$FlitBuffer", name := "front", desc := "()LMeshLines$Flit;" } : Jvm.MethodName) ({ cls := "MeshLines$FlitBuffer", name := "front", desc := "()LMeshLines$Flit;" } : Jvm.MethodName)) ∈ evW := evWi (tj_2 _ (List.mem_of_getElem? (i := 156) rfl)) rfl
set_option maxRecDepth 20000 in
theorem w_397 : (Jvm.Cond.code ({ cls := "MeshLines$FlitBuffer", name := "front", desc := "()LMeshLines$Flit;" } : Jvm.MethodName) prog_5_method_3_code (1 : Nat) (Option.some (Jvm.ClassFile.FieldType.object "MeshLines$Flit"))) ∈ evW := evWi (tj_2 _ (List.mem_of_getElem? (i := 157) rfl)) rfl
set_option maxRecDepth 20000 in
theorem w_398 : (Jvm.Cond.methodLink "MeshLines$Lane" (87 : Nat) ({ cls := "MeshLines$Lane", name := "wayTo", desc := "(I)I" } : Jvm.MethodName)) ∈ evW := evWi (tj_2 _ (List.mem_of_getElem? (i := 158) rfl)) rfl
set_option maxRecDepth 20000 in
theorem w_400 : (Jvm.Cond.instanceMethod ({ cls := "MeshLines$Lane", name := "wayTo", desc := "(I)I" } : Jvm.MethodName)) ∈ evW := evWi (tj_2 _ (List.mem_of_getElem? (i := 160) rfl)) rfl
set_option maxRecDepth 20000 in
theorem w_401 : (Jvm.Cond.code ({ cls := "MeshLines$Lane", name := "wayTo", desc := "(I)I" } : Jvm.MethodName) prog_7_method_4_code (4 : Nat) (Option.some Jvm.ClassFile.FieldType.int)) ∈ evW := evWi (tj_2 _ (List.mem_of_getElem? (i := 161) rfl)) rfl
set_option maxRecDepth 20000 in
theorem w_402 : (Jvm.Cond.methodLink "MeshLines$Mesh" (73 : Nat) ({ cls := "MeshLines$FlitBuffer", name := "front", desc := "()LMeshLines$Flit;" } : Jvm.MethodName)) ∈ evW := evWi (tj_2 _ (List.mem_of_getElem? (i := 162) rfl)) rfl
set_option maxRecDepth 20000 in
theorem w_403 : (Jvm.Cond.methodLink "MeshLines$Mesh" (84 : Nat) ({ cls := "MeshLines$Mesh", name := "leaveMesh", desc := "(LMeshLines$Flit;LMeshLines$Lane;)V" } : Jvm.MethodName)) ∈ evW := evWi (tj_2 _ (List.mem_of_getElem? (i := 163) rfl)) rfl
set_option maxRecDepth 20000 in
theorem w_405 : (Jvm.Cond.instanceMethod ({ cls := "MeshLines$Mesh", name := "leaveMesh", desc := "(LMeshLines$Flit;LMeshLines$Lane;)V" } : Jvm.MethodName)) ∈ evW := evWi (tj_2 _ (List.mem_of_getElem? (i := 165) rfl)) rfl
set_option maxRecDepth 20000 in
theorem w_406 : (Jvm.Cond.code ({ cls := "MeshLines$Mesh", name := "leaveMesh", desc := "(LMeshLines$Flit;LMeshLines$Lane;)V" } : Jvm.MethodName) prog_8_method_8_code (3 : Nat) (Option.none : Option Jvm.ClassFile.FieldType)) ∈ evW := evWi (tj_2 _ (List.mem_of_getElem? (i := 166) rfl)) rfl
set_option maxRecDepth 20000 in
theorem w_407 : (Jvm.Cond.methodLink "MeshLines$Mesh" (41 : Nat) ({ cls := "java/util/ArrayList", name := "add", desc := "(Ljava/lang/Object;)Z" } : Jvm.MethodName)) ∈ evW := evWi (tj_2 _ (List.mem_of_getElem? (i := 167) rfl)) rfl
set_option maxRecDepth 20000 in
theorem w_408 : (Jvm.Cond.instanceMethod ({ cls := "java/util/ArrayList", name := "add", desc := "(Ljava/lang/Object;)Z" } : Jvm.MethodName)) ∈ evW := evWi (tj_2 _ (List.mem_of_getElem? (i := 168) rfl)) rfl
set_option maxRecDepth 20000 in
theorem w_409 : (Jvm.Cond.selects "java/util/ArrayList" ({ cls := "java/util/ArrayList", name := "add", desc := "(Ljava/lang/Object;)Z" } : Jvm.MethodName) ({ cls := "java/util/ArrayList", name := "add", desc := "(Ljava/lang/Object;)Z" } : Jvm.MethodName)) ∈ evW := evWi (tj_2 _ (List.mem_of_getElem? (i := 169) rfl)) rfl
set_option maxRecDepth 20000 in
theorem w_410 : (Jvm.Cond.code ({ cls := "java/util/ArrayList", name := "add", desc := "(Ljava/lang/Object;)Z" } : Jvm.MethodName) prog_21_method_25_code (2 : Nat) (Option.some Jvm.ClassFile.FieldType.boolean)) ∈ evW := evWi (tj_2 _ (List.mem_of_getElem? (i := 170) rfl)) rfl
set_option maxRecDepth 20000 in
theorem w_411 : (Jvm.Cond.methodLink "java/util/ArrayList" (131 : Nat) ({ cls := "java/util/ArrayList", name := "add", desc := "(Ljava/lang/Object;[Ljava/lang/Object;I)V" } : Jvm.MethodName)) ∈ evW := evWi (tj_2 _ (List.mem_of_getElem? (i := 171) rfl)) rfl
set_option maxRecDepth 20000 in
theorem w_413 : (Jvm.Cond.instanceMethod ({ cls := "java/util/ArrayList", name := "add", desc := "(Ljava/lang/Object;[Ljava/lang/Object;I)V" } : Jvm.MethodName)) ∈ evW := evWi (tj_2 _ (List.mem_of_getElem? (i := 173) rfl)) rfl
set_option maxRecDepth 20000 in
theorem w_414 : (Jvm.Cond.code ({ cls := "java/util/ArrayList", name := "add", desc := "(Ljava/lang/Object;[Ljava/lang/Object;I)V" } : Jvm.MethodName) prog_21_method_24_code (4 : Nat) (Option.none : Option Jvm.ClassFile.FieldType)) ∈ evW := evWi (tj_2 _ (List.mem_of_getElem? (i := 174) rfl)) rfl
set_option maxRecDepth 20000 in
theorem w_415 : (Jvm.Cond.methodLink "java/util/ArrayList" (129 : Nat) ({ cls := "java/util/ArrayList", name := "grow", desc := "()[Ljava/lang/Object;" } : Jvm.MethodName)) ∈ evW := evWi (tj_2 _ (List.mem_of_getElem? (i := 175) rfl)) rfl
set_option maxRecDepth 20000 in
theorem w_417 : (Jvm.Cond.instanceMethod ({ cls := "java/util/ArrayList", name := "grow", desc := "()[Ljava/lang/Object;" } : Jvm.MethodName)) ∈ evW := evWi (tj_2 _ (List.mem_of_getElem? (i := 177) rfl)) rfl
set_option maxRecDepth 20000 in
theorem w_418 : (Jvm.Cond.code ({ cls := "java/util/ArrayList", name := "grow", desc := "()[Ljava/lang/Object;" } : Jvm.MethodName) prog_21_method_7_code (1 : Nat) (Option.some (Jvm.ClassFile.FieldType.array (Jvm.ClassFile.FieldType.object "java/lang/Object")))) ∈ evW := evWi (tj_2 _ (List.mem_of_getElem? (i := 178) rfl)) rfl
set_option maxRecDepth 20000 in
theorem w_419 : (Jvm.Cond.methodLink "java/util/ArrayList" (69 : Nat) ({ cls := "java/util/ArrayList", name := "grow", desc := "(I)[Ljava/lang/Object;" } : Jvm.MethodName)) ∈ evW := evWi (tj_2 _ (List.mem_of_getElem? (i := 179) rfl)) rfl
set_option maxRecDepth 20000 in
theorem w_421 : (Jvm.Cond.instanceMethod ({ cls := "java/util/ArrayList", name := "grow", desc := "(I)[Ljava/lang/Object;" } : Jvm.MethodName)) ∈ evW := evWi (tj_2 _ (List.mem_of_getElem? (i := 181) rfl)) rfl
set_option maxRecDepth 20000 in
theorem w_422 : (Jvm.Cond.code ({ cls := "java/util/ArrayList", name := "grow", desc := "(I)[Ljava/lang/Object;" } : Jvm.MethodName) prog_21_method_6_code (4 : Nat) (Option.some (Jvm.ClassFile.FieldType.array (Jvm.ClassFile.FieldType.object "java/lang/Object")))) ∈ evW := evWi (tj_2 _ (List.mem_of_getElem? (i := 182) rfl)) rfl
set_option maxRecDepth 20000 in
theorem w_423 : (Jvm.Cond.methodLink "java/util/ArrayList" (73 : Nat) ({ cls := "jdk/internal/util/ArraysSupport", name := "newLength", desc := "(III)I" } : Jvm.MethodName)) ∈ evW := evWi (tj_2 _ (List.mem_of_getElem? (i := 183) rfl)) rfl
set_option maxRecDepth 20000 in
theorem w_424 : (Jvm.Cond.static ({ cls := "jdk/internal/util/ArraysSupport", name := "newLength", desc := "(III)I" } : Jvm.MethodName)) ∈ evW := evWi (tj_2 _ (List.mem_of_getElem? (i := 184) rfl)) rfl
set_option maxRecDepth 20000 in
theorem w_425 : (Jvm.Cond.code ({ cls := "jdk/internal/util/ArraysSupport", name := "newLength", desc := "(III)I" } : Jvm.MethodName) prog_28_method_27_code (4 : Nat) (Option.some Jvm.ClassFile.FieldType.int)) ∈ evW := evWi (tj_2 _ (List.mem_of_getElem? (i := 185) rfl)) rfl
set_option maxRecDepth 20000 in
theorem w_426 : (Jvm.Cond.methodLink "jdk/internal/util/ArraysSupport" (194 : Nat) ({ cls := "java/lang/Math", name := "max", desc := "(II)I" } : Jvm.MethodName)) ∈ evW := evWi (tj_2 _ (List.mem_of_getElem? (i := 186) rfl)) rfl
set_option maxRecDepth 20000 in
theorem w_427 : (Jvm.Cond.constant "jdk/internal/util/ArraysSupport" (200 : Nat) (2147483639 : Int32)) ∈ evW := evWi (tj_2 _ (List.mem_of_getElem? (i := 187) rfl)) rfl
set_option maxRecDepth 20000 in
theorem w_428 : (Jvm.Cond.methodLink "jdk/internal/util/ArraysSupport" (201 : Nat) ({ cls := "jdk/internal/util/ArraysSupport", name := "hugeLength", desc := "(II)I" } : Jvm.MethodName)) ∈ evW := evWi (tj_2 _ (List.mem_of_getElem? (i := 188) rfl)) rfl
set_option maxRecDepth 20000 in
theorem w_429 : (Jvm.Cond.static ({ cls := "jdk/internal/util/ArraysSupport", name := "hugeLength", desc := "(II)I" } : Jvm.MethodName)) ∈ evW := evWi (tj_2 _ (List.mem_of_getElem? (i := 189) rfl)) rfl
set_option maxRecDepth 20000 in
theorem w_430 : (Jvm.Cond.code ({ cls := "jdk/internal/util/ArraysSupport", name := "hugeLength", desc := "(II)I" } : Jvm.MethodName) prog_28_method_28_code (3 : Nat) (Option.some Jvm.ClassFile.FieldType.int)) ∈ evW := evWi (tj_2 _ (List.mem_of_getElem? (i := 190) rfl)) rfl
set_option maxRecDepth 20000 in
theorem w_431 : (Jvm.Cond.methodLink "java/util/ArrayList" (66 : Nat) ({ cls := "java/util/Arrays", name := "copyOf", desc := "([Ljava/lang/Object;I)[Ljava/lang/Object;" } : Jvm.MethodName)) ∈ evW := evWi (tj_2 _ (List.mem_of_getElem? (i := 191) rfl)) rfl
set_option maxRecDepth 20000 in
theorem w_432 : (Jvm.Cond.static ({ cls := "java/util/Arrays", name := "copyOf", desc := "([Ljava/lang/Object;I)[Ljava/lang/Object;" } : Jvm.MethodName)) ∈ evW := evWi (tj_2 _ (List.mem_of_getElem? (i := 192) rfl)) rfl
set_option maxRecDepth 20000 in
theorem w_433 : (Jvm.Cond.code ({ cls := "java/util/Arrays", name := "copyOf", desc := "([Ljava/lang/Object;I)[Ljava/lang/Object;" } : Jvm.MethodName) prog_22_method_119_code (2 : Nat) (Option.some (Jvm.ClassFile.FieldType.array (Jvm.ClassFile.FieldType.object "java/lang/Object")))) ∈ evW := evWi (tj_2 _ (List.mem_of_getElem? (i := 193) rfl)) rfl
set_option maxRecDepth 20000 in
theorem w_434 : (Jvm.Cond.methodLink "java/util/Arrays" (86 : Nat) ({ cls := "java/lang/Object", name := "getClass", desc := "()Ljava/lang/Class;" } : Jvm.MethodName)) ∈ evW := evWi (tj_2 _ (List.mem_of_getElem? (i := 194) rfl)) rfl
set_option maxRecDepth 20000 in
theorem w_435 : (Jvm.Cond.instanceMethod ({ cls := "java/lang/Object", name := "getClass", desc := "()Ljava/lang/Class;" } : Jvm.MethodName)) ∈ evW := evWi (tj_2 _ (List.mem_of_getElem? (i := 195) rfl)) rfl
set_option maxRecDepth 20000 in
theorem w_449 : (Jvm.Cond.native ({ cls := "java/lang/Object", name := "getClass", desc := "()Ljava/lang/Class;" } : Jvm.MethodName)) ∈ evW := evWi (tj_2 _ (List.mem_of_getElem? (i := 209) rfl)) rfl
set_option maxRecDepth 20000 in
theorem w_450 : (Jvm.Cond.methodLink "java/util/Arrays" (300 : Nat) ({ cls := "java/util/Arrays", name := "copyOf", desc := "([Ljava/lang/Object;ILjava/lang/Class;)[Ljava/lang/Object;" } : Jvm.MethodName)) ∈ evW := evWi (tj_2 _ (List.mem_of_getElem? (i := 210) rfl)) rfl
set_option maxRecDepth 20000 in
theorem w_451 : (Jvm.Cond.static ({ cls := "java/util/Arrays", name := "copyOf", desc := "([Ljava/lang/Object;ILjava/lang/Class;)[Ljava/lang/Object;" } : Jvm.MethodName)) ∈ evW := evWi (tj_2 _ (List.mem_of_getElem? (i := 211) rfl)) rfl
set_option maxRecDepth 20000 in
theorem w_452 : (Jvm.Cond.code ({ cls := "java/util/Arrays", name := "copyOf", desc := "([Ljava/lang/Object;ILjava/lang/Class;)[Ljava/lang/Object;" } : Jvm.MethodName) prog_22_method_120_code (4 : Nat) (Option.some (Jvm.ClassFile.FieldType.array (Jvm.ClassFile.FieldType.object "java/lang/Object")))) ∈ evW := evWi (tj_2 _ (List.mem_of_getElem? (i := 212) rfl)) rfl
set_option maxRecDepth 20000 in
theorem w_453 : (Jvm.Cond.classLink "java/util/Arrays" (110 : Nat) "[Ljava/lang/Object;") ∈ evW := evWi (tj_2 _ (List.mem_of_getElem? (i := 213) rfl)) rfl
set_option maxRecDepth 20000 in
theorem w_455 : (Jvm.Cond.classLink "java/util/Arrays" (2 : Nat) "java/lang/Object") ∈ evW := evWi (tj_2 _ (List.mem_of_getElem? (i := 215) rfl)) rfl
set_option maxRecDepth 20000 in
theorem w_456 : (Jvm.Cond.methodLink "java/util/Arrays" (304 : Nat) ({ cls := "java/lang/Math", name := "min", desc := "(II)I" } : Jvm.MethodName)) ∈ evW := evWi (tj_2 _ (List.mem_of_getElem? (i := 216) rfl)) rfl
set_option maxRecDepth 20000 in
theorem w_457 : (Jvm.Cond.methodLink "java/util/Arrays" (150 : Nat) ({ cls := "java/lang/System", name := "arraycopy", desc := "(Ljava/lang/Object;ILjava/lang/Object;II)V" } : Jvm.MethodName)) ∈ evW := evWi (tj_2 _ (List.mem_of_getElem? (i := 217) rfl)) rfl
set_option maxRecDepth 20000 in
theorem w_458 : (Jvm.Cond.methodLink "java/util/ArrayList" (79 : Nat) ({ cls := "java/lang/Math", name := "max", desc := "(II)I" } : Jvm.MethodName)) ∈ evW := evWi (tj_2 _ (List.mem_of_getElem? (i := 218) rfl)) rfl
set_option maxRecDepth 20000 in
theorem w_459 : (Jvm.Cond.classLink "java/util/ArrayList" (7 : Nat) "java/lang/Object") ∈ evW := evWi (tj_2 _ (List.mem_of_getElem? (i := 219) rfl)) rfl
set_option maxRecDepth 20000 in
theorem w_460 : (Jvm.Cond.methodLink "MeshLines$Mesh" (88 : Nat) ({ cls := "MeshLines$Mesh", name := "bufferBeyond", desc := "(III)LMeshLines$FlitBuffer;" } : Jvm.MethodName)) ∈ evW := evWi (tj_2 _ (List.mem_of_getElem? (i := 220) rfl)) rfl
set_option maxRecDepth 20000 in
theorem w_462 : (Jvm.Cond.instanceMethod ({ cls := "MeshLines$Mesh", name := "bufferBeyond", desc := "(III)LMeshLines$FlitBuffer;" } : Jvm.MethodName)) ∈ evW := evWi (tj_2 _ (List.mem_of_getElem? (i := 222) rfl)) rfl
set_option maxRecDepth 20000 in
theorem w_463 : (Jvm.Cond.code ({ cls := "MeshLines$Mesh", name := "bufferBeyond", desc := "(III)LMeshLines$FlitBuffer;" } : Jvm.MethodName) prog_8_method_9_code (4 : Nat) (Option.some (Jvm.ClassFile.FieldType.object "MeshLines$FlitBuffer"))) ∈ evW := evWi (tj_2 _ (List.mem_of_getElem? (i := 223) rfl)) rfl
set_option maxRecDepth 20000 in
theorem w_464 : (Jvm.Cond.methodLink "MeshLines$Mesh" (92 : Nat) ({ cls := "MeshLines$FlitBuffer", name := "hasRoom", desc := "()Z" } : Jvm.MethodName)) ∈ evW := evWi (tj_2 _ (List.mem_of_getElem? (i := 224) rfl)) rfl
set_option maxRecDepth 20000 in
theorem w_465 : (Jvm.Cond.methodLink "MeshLines$Mesh" (96 : Nat) ({ cls := "MeshLines$FlitBuffer", name := "put", desc := "(LMeshLines$Flit;I)V" } : Jvm.MethodName)) ∈ evW := evWi (tj_2 _ (List.mem_of_getElem? (i := 225) rfl)) rfl
set_option maxRecDepth 20000 in
theorem w_466 : (Jvm.Cond.methodLink "MeshLines$Mesh" (103 : Nat) ({ cls := "MeshLines$Lane", name := "dropFront", desc := "(II)V" } : Jvm.MethodName)) ∈ evW := evWi (tj_2 _ (List.mem_of_getElem? (i := 226) rfl)) rfl
set_option maxRecDepth 20000 in
theorem w_467 : (Jvm.Cond.instanceMethod ({ cls := "MeshLines$Lane", name := "dropFront", desc := "(II)V" } : Jvm.MethodName)) ∈ evW := evWi (tj_2 _ (List.mem_of_getElem? (i := 227) rfl)) rfl
set_option maxRecDepth 20000 in
theorem w_468 : (Jvm.Cond.selects "MeshLines$Lane" ({ cls := "MeshLines$Lane", name := "dropFront", desc := "(II)V" } : Jvm.MethodName) ({ cls := "MeshLines$Lane", name := "dropFront", desc := "(II)V" } : Jvm.MethodName)) ∈ evW := evWi (tj_2 _ (List.mem_of_getElem? (i := 228) rfl)) rfl
set_option maxRecDepth 20000 in
theorem w_469 : (Jvm.Cond.code ({ cls := "MeshLines$Lane", name := "dropFront", desc := "(II)V" } : Jvm.MethodName) prog_7_method_5_code (4 : Nat) (Option.none : Option Jvm.ClassFile.FieldType)) ∈ evW := evWi (tj_2 _ (List.mem_of_getElem? (i := 229) rfl)) rfl
set_option maxRecDepth 20000 in
theorem w_470 : (Jvm.Cond.methodLink "MeshLines$Lane" (91 : Nat) ({ cls := "MeshLines$FlitBuffer", name := "dropFront", desc := "()V" } : Jvm.MethodName)) ∈ evW := evWi (tj_2 _ (List.mem_of_getElem? (i := 230) rfl)) rfl
set_option maxRecDepth 20000 in
theorem w_471 : (Jvm.Cond.instanceMethod ({ cls := "MeshLines$FlitBuffer", name := "dropFront", desc := "()V" } : Jvm.MethodName)) ∈ evW := evWi (tj_2 _ (List.mem_of_getElem? (i := 231) rfl)) rfl
set_option maxRecDepth 20000 in
theorem w_472 : (Jvm.Cond.selects "MeshLines$FlitBuffer" ({ cls := "MeshLines$FlitBuffer", name := "dropFront", desc := "()V" } : Jvm.MethodName) ({ cls := "MeshLines$FlitBuffer", name := "dropFront", desc := "()V" } : Jvm.MethodName)) ∈ evW := evWi (tj_2 _ (List.mem_of_getElem? (i := 232) rfl)) rfl
set_option maxRecDepth 20000 in
theorem w_473 : (Jvm.Cond.code ({ cls := "MeshLines$FlitBuffer", name := "dropFront", desc := "()V" } : Jvm.MethodName) prog_5_method_5_code (2 : Nat) (Option.none : Option Jvm.ClassFile.FieldType)) ∈ evW := evWi (tj_2 _ (List.mem_of_getElem? (i := 233) rfl)) rfl
set_option maxRecDepth 20000 in
theorem w_474 : (Jvm.Cond.methodLink "MeshLines" (65 : Nat) ({ cls := "MeshLines$Node", name := "takePackets", desc := "(I)V" } : Jvm.MethodName)) ∈ evW := evWi (tj_2 _ (List.mem_of_getElem? (i := 234) rfl)) rfl
set_option maxRecDepth 20000 in
theorem w_475 : (Jvm.Cond.instanceMethod ({ cls := "MeshLines$Node", name := "takePackets", desc := "(I)V" } : Jvm.MethodName)) ∈ evW := evWi (tj_2 _ (List.mem_of_getElem? (i := 235) rfl)) rfl
set_option maxRecDepth 20000 in
theorem w_476 : (Jvm.Cond.selects "MeshLines$Node" ({ cls := "MeshLines$Node", name := "takePackets", desc := "(I)V" } : Jvm.MethodName) ({ cls := "MeshLines$Node", name := "takePackets", desc := "(I)V" } : Jvm.MethodName)) ∈ evW := evWi (tj_2 _ (List.mem_of_getElem? (i := 236) rfl)) rfl
set_option maxRecDepth 20000 in
theorem w_477 : (Jvm.Cond.code ({ cls := "MeshLines$Node", name := "takePackets", desc := "(I)V" } : Jvm.MethodName) prog_9_method_2_code (5 : Nat) (Option.none : Option Jvm.ClassFile.FieldType)) ∈ evW := evWi (tj_2 _ (List.mem_of_getElem? (i := 237) rfl)) rfl
set_option maxRecDepth 20000 in
theorem w_478 : (Jvm.Cond.methodLink "MeshLines$Node" (41 : Nat) ({ cls := "MeshLines$Mesh", name := "laneOf", desc := "(II)LMeshLines$Lane;" } : Jvm.MethodName)) ∈ evW := evWi (tj_2 _ (List.mem_of_getElem? (i := 238) rfl)) rfl
set_option maxRecDepth 20000 in
theorem w_479 : (Jvm.Cond.methodLink "MeshLines$Node" (53 : Nat) ({ cls := "MeshLines$Node", name := "firstToTake", desc := "(Ljava/util/ArrayList;)I" } : Jvm.MethodName)) ∈ evW := evWi (tj_2 _ (List.mem_of_getElem? (i := 239) rfl)) rfl
set_option maxRecDepth 20000 in
theorem w_481 : (Jvm.Cond.instanceMethod ({ cls := "MeshLines$Node", name := "firstToTake", desc := "(Ljava/util/ArrayList;)I" } : Jvm.MethodName)) ∈ evW := evWi (tj_3 _ (List.mem_of_getElem? (i := 1) rfl)) rfl
set_option maxRecDepth 20000 in
theorem w_482 : (Jvm.Cond.code ({ cls := "MeshLines$Node", name := "firstToTake", desc := "(Ljava/util/ArrayList;)I" } : Jvm.MethodName) prog_9_method_3_code (7 : Nat) (Option.some Jvm.ClassFile.FieldType.int)) ∈ evW := evWi (tj_3 _ (List.mem_of_getElem? (i := 2) rfl)) rfl
set_option maxRecDepth 20000 in
theorem w_483 : (Jvm.Cond.methodLink "MeshLines$Node" (69 : Nat) ({ cls := "java/util/ArrayList", name := "size", desc := "()I" } : Jvm.MethodName)) ∈ evW := evWi (tj_3 _ (List.mem_of_getElem? (i := 3) rfl)) rfl
set_option maxRecDepth 20000 in
theorem w_484 : (Jvm.Cond.instanceMethod ({ cls := "java/util/ArrayList", name := "size", desc := "()I" } : Jvm.MethodName)) ∈ evW := evWi (tj_3 _ (List.mem_of_getElem? (i := 4) rfl)) rfl
set_option maxRecDepth 20000 in
theorem w_485 : (Jvm.Cond.selects "java/util/ArrayList" ({ cls := "java/util/ArrayList", name := "size", desc := "()I" } : Jvm.MethodName) ({ cls := "java/util/ArrayList", name := "size", desc := "()I" } : Jvm.MethodName)) ∈ evW := evWi (tj_3 _ (List.mem_of_getElem? (i := 5) rfl)) rfl
set_option maxRecDepth 20000 in
theorem w_486 : (Jvm.Cond.code ({ cls := "java/util/ArrayList", name := "size", desc := "()I" } : Jvm.MethodName) prog_21_method_8_code (1 : Nat) (Option.some Jvm.ClassFile.FieldType.int)) ∈ evW := evWi (tj_3 _ (List.mem_of_getElem? (i := 6) rfl)) rfl
set_option maxRecDepth 20000 in
theorem w_487 : (Jvm.Cond.methodLink "MeshLines$Node" (73 : Nat) ({ cls := "java/util/ArrayList", name := "get", desc := "(I)Ljava/lang/Object;" } : Jvm.MethodName)) ∈ evW := evWi (tj_3 _ (List.mem_of_getElem? (i := 7) rfl)) rfl
set_option maxRecDepth 20000 in
theorem w_488 : (Jvm.Cond.classLink "MeshLines$Node" (63 : Nat) "MeshLines$Packet") ∈ evW := evWi (tj_3 _ (List.mem_of_getElem? (i := 8) rfl)) rfl
set_option maxRecDepth 20000 in
theorem w_489 : (Jvm.Cond.methodLink "MeshLines$Node" (79 : Nat) ({ cls := "MeshLines$Node", name := "stalls", desc := "(LMeshLines$Packet;)Z" } : Jvm.MethodName)) ∈ evW := evWi (tj_3 _ (List.mem_of_getElem? (i := 9) rfl)) rfl
set_option maxRecDepth 20000 in
theorem w_491 : (Jvm.Cond.instanceMethod ({ cls := "MeshLines$Node", name := "stalls", desc := "(LMeshLines$Packet;)Z" } : Jvm.MethodName)) ∈ evW := evWi (tj_3 _ (List.mem_of_getElem? (i := 11) rfl)) rfl
set_option maxRecDepth 20000 in
theorem w_492 : (Jvm.Cond.code ({ cls := "MeshLines$Node", name := "stalls", desc := "(LMeshLines$Packet;)Z" } : Jvm.MethodName) prog_9_method_4_code (2 : Nat) (Option.some Jvm.ClassFile.FieldType.boolean)) ∈ evW := evWi (tj_3 _ (List.mem_of_getElem? (i := 12) rfl)) rfl
set_option maxRecDepth 20000 in
theorem w_493 : (Jvm.Cond.methodLink "MeshLines$Node" (83 : Nat) ({ cls := "MeshLines$Packet", name := "isForHome", desc := "()Z" } : Jvm.MethodName)) ∈ evW := evWi (tj_3 _ (List.mem_of_getElem? (i := 13) rfl)) rfl
set_option maxRecDepth 20000 in
theorem w_494 : (Jvm.Cond.instanceMethod ({ cls := "MeshLines$Packet", name := "isForHome", desc := "()Z" } : Jvm.MethodName)) ∈ evW := evWi (tj_3 _ (List.mem_of_getElem? (i := 14) rfl)) rfl
set_option maxRecDepth 20000 in
theorem w_495 : (Jvm.Cond.selects "MeshLines$Packet" ({ cls := "MeshLines$Packet", name := "isForHome", desc := "()Z" } : Jvm.MethodName) ({ cls := "MeshLines$Packet", name := "isForHome", desc := "()Z" } : Jvm.MethodName)) ∈ evW := evWi (tj_3 _ (List.mem_of_getElem? (i := 15) rfl)) rfl
set_option maxRecDepth 20000 in
theorem w_496 : (Jvm.Cond.code ({ cls := "MeshLines$Packet", name := "isForHome", desc := "()Z" } : Jvm.MethodName) prog_10_method_3_code (1 : Nat) (Option.some Jvm.ClassFile.FieldType.boolean)) ∈ evW := evWi (tj_3 _ (List.mem_of_getElem? (i := 16) rfl)) rfl
set_option maxRecDepth 20000 in
theorem w_497 : (Jvm.Cond.methodLink "MeshLines$Node" (87 : Nat) ({ cls := "MeshLines$Home", name := "stalls", desc := "(LMeshLines$Packet;)Z" } : Jvm.MethodName)) ∈ evW := evWi (tj_3 _ (List.mem_of_getElem? (i := 17) rfl)) rfl
set_option maxRecDepth 20000 in
theorem w_498 : (Jvm.Cond.instanceMethod ({ cls := "MeshLines$Home", name := "stalls", desc := "(LMeshLines$Packet;)Z" } : Jvm.MethodName)) ∈ evW := evWi (tj_3 _ (List.mem_of_getElem? (i := 18) rfl)) rfl
set_option maxRecDepth 20000 in
theorem w_499 : (Jvm.Cond.selects "MeshLines$Home" ({ cls := "MeshLines$Home", name := "stalls", desc := "(LMeshLines$Packet;)Z" } : Jvm.MethodName) ({ cls := "MeshLines$Home", name := "stalls", desc := "(LMeshLines$Packet;)Z" } : Jvm.MethodName)) ∈ evW := evWi (tj_3 _ (List.mem_of_getElem? (i := 19) rfl)) rfl
set_option maxRecDepth 20000 in
theorem w_500 : (Jvm.Cond.code ({ cls := "MeshLines$Home", name := "stalls", desc := "(LMeshLines$Packet;)Z" } : Jvm.MethodName) prog_6_method_2_code (2 : Nat) (Option.some Jvm.ClassFile.FieldType.boolean)) ∈ evW := evWi (tj_3 _ (List.mem_of_getElem? (i := 20) rfl)) rfl
set_option maxRecDepth 20000 in
theorem w_501 : (Jvm.Cond.methodLink "MeshLines$Node" (90 : Nat) ({ cls := "MeshLines$Cache", name := "stalls", desc := "(LMeshLines$Packet;)Z" } : Jvm.MethodName)) ∈ evW := evWi (tj_3 _ (List.mem_of_getElem? (i := 21) rfl)) rfl
set_option maxRecDepth 20000 in
theorem w_502 : (Jvm.Cond.instanceMethod ({ cls := "MeshLines$Cache", name := "stalls", desc := "(LMeshLines$Packet;)Z" } : Jvm.MethodName)) ∈ evW := evWi (tj_3 _ (List.mem_of_getElem? (i := 22) rfl)) rfl
set_option maxRecDepth 20000 in
theorem w_503 : (Jvm.Cond.selects "MeshLines$Cache" ({ cls := "MeshLines$Cache", name := "stalls", desc := "(LMeshLines$Packet;)Z" } : Jvm.MethodName) ({ cls := "MeshLines$Cache", name := "stalls", desc := "(LMeshLines$Packet;)Z" } : Jvm.MethodName)) ∈ evW := evWi (tj_3 _ (List.mem_of_getElem? (i := 23) rfl)) rfl
set_option maxRecDepth 20000 in
theorem w_504 : (Jvm.Cond.code ({ cls := "MeshLines$Cache", name := "stalls", desc := "(LMeshLines$Packet;)Z" } : Jvm.MethodName) prog_2_method_2_code (3 : Nat) (Option.some Jvm.ClassFile.FieldType.boolean)) ∈ evW := evWi (tj_3 _ (List.mem_of_getElem? (i := 24) rfl)) rfl
set_option maxRecDepth 20000 in
theorem w_505 : (Jvm.Cond.methodLink "MeshLines$Node" (57 : Nat) ({ cls := "java/util/ArrayList", name := "remove", desc := "(I)Ljava/lang/Object;" } : Jvm.MethodName)) ∈ evW := evWi (tj_3 _ (List.mem_of_getElem? (i := 25) rfl)) rfl
set_option maxRecDepth 20000 in
theorem w_506 : (Jvm.Cond.methodLink "MeshLines$Node" (65 : Nat) ({ cls := "MeshLines$Node", name := "take", desc := "(LMeshLines$Packet;I)V" } : Jvm.MethodName)) ∈ evW := evWi (tj_3 _ (List.mem_of_getElem? (i := 26) rfl)) rfl
set_option maxRecDepth 20000 in
theorem w_508 : (Jvm.Cond.instanceMethod ({ cls := "MeshLines$Node", name := "take", desc := "(LMeshLines$Packet;I)V" } : Jvm.MethodName)) ∈ evW := evWi (tj_3 _ (List.mem_of_getElem? (i := 28) rfl)) rfl
set_option maxRecDepth 20000 in
theorem w_509 : (Jvm.Cond.code ({ cls := "MeshLines$Node", name := "take", desc := "(LMeshLines$Packet;I)V" } : Jvm.MethodName) prog_9_method_5_code (3 : Nat) (Option.none : Option Jvm.ClassFile.FieldType)) ∈ evW := evWi (tj_3 _ (List.mem_of_getElem? (i := 29) rfl)) rfl
set_option maxRecDepth 20000 in
theorem w_510 : (Jvm.Cond.methodLink "MeshLines$Node" (91 : Nat) ({ cls := "MeshLines$Home", name := "take", desc := "(LMeshLines$Packet;)V" } : Jvm.MethodName)) ∈ evW := evWi (tj_3 _ (List.mem_of_getElem? (i := 30) rfl)) rfl
set_option maxRecDepth 20000 in
theorem w_511 : (Jvm.Cond.instanceMethod ({ cls := "MeshLines$Home", name := "take", desc := "(LMeshLines$Packet;)V" } : Jvm.MethodName)) ∈ evW := evWi (tj_3 _ (List.mem_of_getElem? (i := 31) rfl)) rfl
set_option maxRecDepth 20000 in
theorem w_512 : (Jvm.Cond.selects "MeshLines$Home" ({ cls := "MeshLines$Home", name := "take", desc := "(LMeshLines$Packet;)V" } : Jvm.MethodName) ({ cls := "MeshLines$Home", name := "take", desc := "(LMeshLines$Packet;)V" } : Jvm.MethodName)) ∈ evW := evWi (tj_3 _ (List.mem_of_getElem? (i := 32) rfl)) rfl
set_option maxRecDepth 20000 in
theorem w_513 : (Jvm.Cond.code ({ cls := "MeshLines$Home", name := "take", desc := "(LMeshLines$Packet;)V" } : Jvm.MethodName) prog_6_method_3_code (2 : Nat) (Option.none : Option Jvm.ClassFile.FieldType)) ∈ evW := evWi (tj_3 _ (List.mem_of_getElem? (i := 33) rfl)) rfl
set_option maxRecDepth 20000 in
theorem w_514 : (Jvm.Cond.methodLink "MeshLines$Home" (40 : Nat) ({ cls := "MeshLines$Home", name := "takeGets", desc := "(I)V" } : Jvm.MethodName)) ∈ evW := evWi (tj_3 _ (List.mem_of_getElem? (i := 34) rfl)) rfl
set_option maxRecDepth 20000 in
theorem w_516 : (Jvm.Cond.instanceMethod ({ cls := "MeshLines$Home", name := "takeGets", desc := "(I)V" } : Jvm.MethodName)) ∈ evW := evWi (tj_3 _ (List.mem_of_getElem? (i := 36) rfl)) rfl
set_option maxRecDepth 20000 in
theorem w_517 : (Jvm.Cond.code ({ cls := "MeshLines$Home", name := "takeGets", desc := "(I)V" } : Jvm.MethodName) prog_6_method_4_code (2 : Nat) (Option.none : Option Jvm.ClassFile.FieldType)) ∈ evW := evWi (tj_3 _ (List.mem_of_getElem? (i := 37) rfl)) rfl
set_option maxRecDepth 20000 in
theorem w_518 : (Jvm.Cond.methodLink "MeshLines$Home" (58 : Nat) ({ cls := "MeshLines$Mesh", name := "send", desc := "(IIIIIII)V" } : Jvm.MethodName)) ∈ evW := evWi (tj_3 _ (List.mem_of_getElem? (i := 38) rfl)) rfl
set_option maxRecDepth 20000 in
theorem w_519 : (Jvm.Cond.instanceMethod ({ cls := "MeshLines$Mesh", name := "send", desc := "(IIIIIII)V" } : Jvm.MethodName)) ∈ evW := evWi (tj_3 _ (List.mem_of_getElem? (i := 39) rfl)) rfl
set_option maxRecDepth 20000 in
theorem w_520 : (Jvm.Cond.selects "MeshLines$Mesh" ({ cls := "MeshLines$Mesh", name := "send", desc := "(IIIIIII)V" } : Jvm.MethodName) ({ cls := "MeshLines$Mesh", name := "send", desc := "(IIIIIII)V" } : Jvm.MethodName)) ∈ evW := evWi (tj_3 _ (List.mem_of_getElem? (i := 40) rfl)) rfl
set_option maxRecDepth 20000 in
theorem w_521 : (Jvm.Cond.code ({ cls := "MeshLines$Mesh", name := "send", desc := "(IIIIIII)V" } : Jvm.MethodName) prog_8_method_3_code (9 : Nat) (Option.none : Option Jvm.ClassFile.FieldType)) ∈ evW := evWi (tj_3 _ (List.mem_of_getElem? (i := 41) rfl)) rfl
set_option maxRecDepth 20000 in
theorem w_522 : (Jvm.Cond.classLink "MeshLines$Mesh" (24 : Nat) "MeshLines$Packet") ∈ evW := evWi (tj_3 _ (List.mem_of_getElem? (i := 42) rfl)) rfl
set_option maxRecDepth 20000 in
theorem w_523 : (Jvm.Cond.instantiable "MeshLines$Packet" (7 : Nat)) ∈ evW := evWi (tj_3 _ (List.mem_of_getElem? (i := 43) rfl)) rfl
set_option maxRecDepth 20000 in
theorem w_524 : (Jvm.Cond.methodLink "MeshLines$Mesh" (26 : Nat) ({ cls := "MeshLines$Packet", name := "<init>", desc := "(IIIIIII)V" } : Jvm.MethodName)) ∈ evW := evWi (tj_3 _ (List.mem_of_getElem? (i := 44) rfl)) rfl
set_option maxRecDepth 20000 in
theorem w_525 : (Jvm.Cond.instanceMethod ({ cls := "MeshLines$Packet", name := "<init>", desc := "(IIIIIII)V" } : Jvm.MethodName)) ∈ evW := evWi (tj_3 _ (List.mem_of_getElem? (i := 45) rfl)) rfl
set_option maxRecDepth 20000 in
theorem w_526 : (Jvm.Cond.code ({ cls := "MeshLines$Packet", name := "<init>", desc := "(IIIIIII)V" } : Jvm.MethodName) prog_10_method_1_code (9 : Nat) (Option.none : Option Jvm.ClassFile.FieldType)) ∈ evW := evWi (tj_3 _ (List.mem_of_getElem? (i := 46) rfl)) rfl
set_option maxRecDepth 20000 in
theorem w_527 : (Jvm.Cond.methodLink "MeshLines$Packet" (3 : Nat) ({ cls := "java/lang/Object", name := "<init>", desc := "()V" } : Jvm.MethodName)) ∈ evW := evWi (tj_3 _ (List.mem_of_getElem? (i := 47) rfl)) rfl
set_option maxRecDepth 20000 in
theorem w_528 : (Jvm.Cond.fieldLink "MeshLines$Packet" (9 : Nat) "MeshLines$Packet" "kind" "I") ∈ evW := evWi (tj_3 _ (List.mem_of_getElem? (i := 48) rfl)) rfl
set_option maxRecDepth 20000 in
theorem w_529 : (Jvm.Cond.fieldLink "MeshLines$Home" (32 : Nat) "MeshLines$Packet" "kind" "I") ∈ evW := evWi (tj_3 _ (List.mem_of_getElem? (i := 49) rfl)) rfl
set_option maxRecDepth 20000 in
theorem w_530 : (Jvm.Cond.fieldLink "MeshLines$Cache" (37 : Nat) "MeshLines$Packet" "kind" "I") ∈ evW := evWi (tj_3 _ (List.mem_of_getElem? (i := 50) rfl)) rfl
set_option maxRecDepth 20000 in
theorem w_531 : (Jvm.Cond.fieldLink "MeshLines$Packet" (15 : Nat) "MeshLines$Packet" "line" "I") ∈ evW := evWi (tj_3 _ (List.mem_of_getElem? (i := 51) rfl)) rfl
set_option maxRecDepth 20000 in
theorem w_532 : (Jvm.Cond.fieldLink "MeshLines$Cache" (32 : Nat) "MeshLines$Packet" "line" "I") ∈ evW := evWi (tj_3 _ (List.mem_of_getElem? (i := 52) rfl)) rfl
set_option maxRecDepth 20000 in
theorem w_533 : (Jvm.Cond.fieldLink "MeshLines$Node" (76 : Nat) "MeshLines$Packet" "line" "I") ∈ evW := evWi (tj_3 _ (List.mem_of_getElem? (i := 53) rfl)) rfl
set_option maxRecDepth 20000 in
theorem w_534 : (Jvm.Cond.fieldLink "MeshLines$Packet" (18 : Nat) "MeshLines$Packet" "destination" "I") ∈ evW := evWi (tj_3 _ (List.mem_of_getElem? (i := 54) rfl)) rfl
set_option maxRecDepth 20000 in
theorem w_535 : (Jvm.Cond.fieldLink "MeshLines$Lane" (84 : Nat) "MeshLines$Packet" "destination" "I") ∈ evW := evWi (tj_3 _ (List.mem_of_getElem? (i := 55) rfl)) rfl
set_option maxRecDepth 20000 in
theorem w_536 : (Jvm.Cond.fieldLink "MeshLines$Packet" (21 : Nat) "MeshLines$Packet" "asker" "I") ∈ evW := evWi (tj_3 _ (List.mem_of_getElem? (i := 56) rfl)) rfl
set_option maxRecDepth 20000 in
theorem w_537 : (Jvm.Cond.fieldLink "MeshLines$Home" (37 : Nat) "MeshLines$Packet" "asker" "I") ∈ evW := evWi (tj_3 _ (List.mem_of_getElem? (i := 57) rfl)) rfl
set_option maxRecDepth 20000 in
theorem w_538 : (Jvm.Cond.fieldLink "MeshLines$Cache" (56 : Nat) "MeshLines$Packet" "asker" "I") ∈ evW := evWi (tj_3 _ (List.mem_of_getElem? (i := 58) rfl)) rfl
set_option maxRecDepth 20000 in
theorem w_539 : (Jvm.Cond.fieldLink "MeshLines$Packet" (24 : Nat) "MeshLines$Packet" "value" "I") ∈ evW := evWi (tj_3 _ (List.mem_of_getElem? (i := 59) rfl)) rfl
set_option maxRecDepth 20000 in
theorem w_540 : (Jvm.Cond.fieldLink "MeshLines$Home" (50 : Nat) "MeshLines$Packet" "value" "I") ∈ evW := evWi (tj_3 _ (List.mem_of_getElem? (i := 60) rfl)) rfl
set_option maxRecDepth 20000 in
theorem w_541 : (Jvm.Cond.fieldLink "MeshLines$Cache" (70 : Nat) "MeshLines$Packet" "value" "I") ∈ evW := evWi (tj_3 _ (List.mem_of_getElem? (i := 61) rfl)) rfl
set_option maxRecDepth 20000 in
theorem w_542 : (Jvm.Cond.fieldLink "MeshLines$Packet" (27 : Nat) "MeshLines$Packet" "acks" "I") ∈ evW := evWi (tj_3 _ (List.mem_of_getElem? (i := 62) rfl)) rfl
set_option maxRecDepth 20000 in
theorem w_543 : (Jvm.Cond.fieldLink "MeshLines$Cache" (67 : Nat) "MeshLines$Packet" "acks" "I") ∈ evW := evWi (tj_3 _ (List.mem_of_getElem? (i := 63) rfl)) rfl
set_option maxRecDepth 20000 in
theorem w_544 : (Jvm.Cond.fieldLink "MeshLines$Flit" (17 : Nat) "MeshLines$Packet" "length" "I") ∈ evW := evWi (tj_3 _ (List.mem_of_getElem? (i := 64) rfl)) rfl
set_option maxRecDepth 20000 in
theorem w_545 : (Jvm.Cond.fieldLink "MeshLines$Packet" (30 : Nat) "MeshLines$Packet" "length" "I") ∈ evW := evWi (tj_3 _ (List.mem_of_getElem? (i := 65) rfl)) rfl
set_option maxRecDepth 20000 in
theorem w_546 : (Jvm.Cond.laysFinal "MeshLines$Packet" "MeshLines$Packet" "kind" "I") ∈ evW := evWi (tj_3 _ (List.mem_of_getElem? (i := 66) rfl)) rfl
set_option maxRecDepth 20000 in
theorem w_548 : (Jvm.Cond.laysFinal "MeshLines$Packet" "MeshLines$Packet" "line" "I") ∈ evW := evWi (tj_3 _ (List.mem_of_getElem? (i := 68) rfl)) rfl
set_option maxRecDepth 20000 in
theorem w_550 : (Jvm.Cond.laysFinal "MeshLines$Packet" "MeshLines$Packet" "destination" "I") ∈ evW := evWi (tj_3 _ (List.mem_of_getElem? (i := 70) rfl)) rfl
set_option maxRecDepth 20000 in
theorem w_552 : (Jvm.Cond.laysFinal "MeshLines$Packet" "MeshLines$Packet" "asker" "I") ∈ evW := evWi (tj_3 _ (List.mem_of_getElem? (i := 72) rfl)) rfl
set_option maxRecDepth 20000 in
theorem w_554 : (Jvm.Cond.laysFinal "MeshLines$Packet" "MeshLines$Packet" "value" "I") ∈ evW := evWi (tj_3 _ (List.mem_of_getElem? (i := 74) rfl)) rfl
set_option maxRecDepth 20000 in
theorem w_556 : (Jvm.Cond.laysFinal "MeshLines$Packet" "MeshLines$Packet" "acks" "I") ∈ evW := evWi (tj_3 _ (List.mem_of_getElem? (i := 76) rfl)) rfl
set_option maxRecDepth 20000 in
theorem w_558 : (Jvm.Cond.laysFinal "MeshLines$Packet" "MeshLines$Packet" "length" "I") ∈ evW := evWi (tj_3 _ (List.mem_of_getElem? (i := 78) rfl)) rfl
set_option maxRecDepth 20000 in
theorem w_561 : (Jvm.Cond.methodLink "MeshLines$Mesh" (29 : Nat) ({ cls := "MeshLines$Packet", name := "channel", desc := "()I" } : Jvm.MethodName)) ∈ evW := evWi (tj_3 _ (List.mem_of_getElem? (i := 81) rfl)) rfl
set_option maxRecDepth 20000 in
theorem w_562 : (Jvm.Cond.instanceMethod ({ cls := "MeshLines$Packet", name := "channel", desc := "()I" } : Jvm.MethodName)) ∈ evW := evWi (tj_3 _ (List.mem_of_getElem? (i := 82) rfl)) rfl
set_option maxRecDepth 20000 in
theorem w_563 : (Jvm.Cond.selects "MeshLines$Packet" ({ cls := "MeshLines$Packet", name := "channel", desc := "()I" } : Jvm.MethodName) ({ cls := "MeshLines$Packet", name := "channel", desc := "()I" } : Jvm.MethodName)) ∈ evW := evWi (tj_3 _ (List.mem_of_getElem? (i := 83) rfl)) rfl
set_option maxRecDepth 20000 in
theorem w_564 : (Jvm.Cond.code ({ cls := "MeshLines$Packet", name := "channel", desc := "()I" } : Jvm.MethodName) prog_10_method_2_code (1 : Nat) (Option.some Jvm.ClassFile.FieldType.int)) ∈ evW := evWi (tj_3 _ (List.mem_of_getElem? (i := 84) rfl)) rfl
set_option maxRecDepth 20000 in
theorem w_565 : (Jvm.Cond.methodLink "MeshLines$Home" (44 : Nat) ({ cls := "MeshLines$Home", name := "takeGetm", desc := "(I)V" } : Jvm.MethodName)) ∈ evW := evWi (tj_3 _ (List.mem_of_getElem? (i := 85) rfl)) rfl
set_option maxRecDepth 20000 in
theorem w_567 : (Jvm.Cond.instanceMethod ({ cls := "MeshLines$Home", name := "takeGetm", desc := "(I)V" } : Jvm.MethodName)) ∈ evW := evWi (tj_3 _ (List.mem_of_getElem? (i := 87) rfl)) rfl
set_option maxRecDepth 20000 in
theorem w_568 : (Jvm.Cond.code ({ cls := "MeshLines$Home", name := "takeGetm", desc := "(I)V" } : Jvm.MethodName) prog_6_method_5_code (4 : Nat) (Option.none : Option Jvm.ClassFile.FieldType)) ∈ evW := evWi (tj_3 _ (List.mem_of_getElem? (i := 88) rfl)) rfl
set_option maxRecDepth 20000 in
theorem w_569 : (Jvm.Cond.methodLink "MeshLines$Home" (67 : Nat) ({ cls := "java/lang/Integer", name := "bitCount", desc := "(I)I" } : Jvm.MethodName)) ∈ evW := evWi (tj_3 _ (List.mem_of_getElem? (i := 89) rfl)) rfl
set_option maxRecDepth 20000 in
theorem w_570 : (Jvm.Cond.static ({ cls := "java/lang/Integer", name := "bitCount", desc := "(I)I" } : Jvm.MethodName)) ∈ evW := evWi (tj_3 _ (List.mem_of_getElem? (i := 90) rfl)) rfl
set_option maxRecDepth 20000 in
theorem w_571 : (Jvm.Cond.code ({ cls := "java/lang/Integer", name := "bitCount", desc := "(I)I" } : Jvm.MethodName) prog_15_method_49_code (1 : Nat) (Option.some Jvm.ClassFile.FieldType.int)) ∈ evW := evWi (tj_3 _ (List.mem_of_getElem? (i := 91) rfl)) rfl
set_option maxRecDepth 20000 in
theorem w_572 : (Jvm.Cond.constant "java/lang/Integer" (265 : Nat) (1431655765 : Int32)) ∈ evW := evWi (tj_3 _ (List.mem_of_getElem? (i := 92) rfl)) rfl
set_option maxRecDepth 20000 in
theorem w_573 : (Jvm.Cond.constant "java/lang/Integer" (266 : Nat) (858993459 : Int32)) ∈ evW := evWi (tj_3 _ (List.mem_of_getElem? (i := 93) rfl)) rfl
set_option maxRecDepth 20000 in
theorem w_574 : (Jvm.Cond.constant "java/lang/Integer" (267 : Nat) (252645135 : Int32)) ∈ evW := evWi (tj_3 _ (List.mem_of_getElem? (i := 94) rfl)) rfl
set_option maxRecDepth 20000 in
theorem w_575 : (Jvm.Cond.methodLink "MeshLines$Home" (47 : Nat) ({ cls := "MeshLines$Home", name := "takePuts", desc := "(I)V" } : Jvm.MethodName)) ∈ evW := evWi (tj_3 _ (List.mem_of_getElem? (i := 95) rfl)) rfl
set_option maxRecDepth 20000 in
theorem w_577 : (Jvm.Cond.instanceMethod ({ cls := "MeshLines$Home", name := "takePuts", desc := "(I)V" } : Jvm.MethodName)) ∈ evW := evWi (tj_3 _ (List.mem_of_getElem? (i := 97) rfl)) rfl
set_option maxRecDepth 20000 in
theorem w_578 : (Jvm.Cond.code ({ cls := "MeshLines$Home", name := "takePuts", desc := "(I)V" } : Jvm.MethodName) prog_6_method_6_code (2 : Nat) (Option.none : Option Jvm.ClassFile.FieldType)) ∈ evW := evWi (tj_3 _ (List.mem_of_getElem? (i := 98) rfl)) rfl
set_option maxRecDepth 20000 in
theorem w_579 : (Jvm.Cond.methodLink "MeshLines$Home" (72 : Nat) ({ cls := "MeshLines$Home", name := "dropSharer", desc := "(I)V" } : Jvm.MethodName)) ∈ evW := evWi (tj_3 _ (List.mem_of_getElem? (i := 99) rfl)) rfl
set_option maxRecDepth 20000 in
theorem w_581 : (Jvm.Cond.instanceMethod ({ cls := "MeshLines$Home", name := "dropSharer", desc := "(I)V" } : Jvm.MethodName)) ∈ evW := evWi (tj_3 _ (List.mem_of_getElem? (i := 101) rfl)) rfl
set_option maxRecDepth 20000 in
theorem w_582 : (Jvm.Cond.code ({ cls := "MeshLines$Home", name := "dropSharer", desc := "(I)V" } : Jvm.MethodName) prog_6_method_8_code (2 : Nat) (Option.none : Option Jvm.ClassFile.FieldType)) ∈ evW := evWi (tj_3 _ (List.mem_of_getElem? (i := 102) rfl)) rfl
set_option maxRecDepth 20000 in
theorem w_583 : (Jvm.Cond.methodLink "MeshLines$Home" (53 : Nat) ({ cls := "MeshLines$Home", name := "takePutm", desc := "(II)V" } : Jvm.MethodName)) ∈ evW := evWi (tj_3 _ (List.mem_of_getElem? (i := 103) rfl)) rfl
set_option maxRecDepth 20000 in
theorem w_585 : (Jvm.Cond.instanceMethod ({ cls := "MeshLines$Home", name := "takePutm", desc := "(II)V" } : Jvm.MethodName)) ∈ evW := evWi (tj_3 _ (List.mem_of_getElem? (i := 105) rfl)) rfl
set_option maxRecDepth 20000 in
theorem w_586 : (Jvm.Cond.code ({ cls := "MeshLines$Home", name := "takePutm", desc := "(II)V" } : Jvm.MethodName) prog_6_method_7_code (3 : Nat) (Option.none : Option Jvm.ClassFile.FieldType)) ∈ evW := evWi (tj_3 _ (List.mem_of_getElem? (i := 106) rfl)) rfl
set_option maxRecDepth 20000 in
theorem w_587 : (Jvm.Cond.methodLink "MeshLines$Node" (94 : Nat) ({ cls := "MeshLines$Cache", name := "take", desc := "(LMeshLines$Packet;)Z" } : Jvm.MethodName)) ∈ evW := evWi (tj_3 _ (List.mem_of_getElem? (i := 107) rfl)) rfl
set_option maxRecDepth 20000 in
theorem w_588 : (Jvm.Cond.instanceMethod ({ cls := "MeshLines$Cache", name := "take", desc := "(LMeshLines$Packet;)Z" } : Jvm.MethodName)) ∈ evW := evWi (tj_3 _ (List.mem_of_getElem? (i := 108) rfl)) rfl
set_option maxRecDepth 20000 in
theorem w_589 : (Jvm.Cond.selects "MeshLines$Cache" ({ cls := "MeshLines$Cache", name := "take", desc := "(LMeshLines$Packet;)Z" } : Jvm.MethodName) ({ cls := "MeshLines$Cache", name := "take", desc := "(LMeshLines$Packet;)Z" } : Jvm.MethodName)) ∈ evW := evWi (tj_3 _ (List.mem_of_getElem? (i := 109) rfl)) rfl
set_option maxRecDepth 20000 in
theorem w_590 : (Jvm.Cond.code ({ cls := "MeshLines$Cache", name := "take", desc := "(LMeshLines$Packet;)Z" } : Jvm.MethodName) prog_2_method_3_code (3 : Nat) (Option.some Jvm.ClassFile.FieldType.boolean)) ∈ evW := evWi (tj_3 _ (List.mem_of_getElem? (i := 110) rfl)) rfl
set_option maxRecDepth 20000 in
theorem w_591 : (Jvm.Cond.methodLink "MeshLines$Cache" (40 : Nat) ({ cls := "MeshLines$Cache", name := "takeData", desc := "(LMeshLines$Packet;)Z" } : Jvm.MethodName)) ∈ evW := evWi (tj_3 _ (List.mem_of_getElem? (i := 111) rfl)) rfl
set_option maxRecDepth 20000 in
theorem w_593 : (Jvm.Cond.instanceMethod ({ cls := "MeshLines$Cache", name := "takeData", desc := "(LMeshLines$Packet;)Z" } : Jvm.MethodName)) ∈ evW := evWi (tj_3 _ (List.mem_of_getElem? (i := 113) rfl)) rfl
set_option maxRecDepth 20000 in
theorem w_594 : (Jvm.Cond.code ({ cls := "MeshLines$Cache", name := "takeData", desc := "(LMeshLines$Packet;)Z" } : Jvm.MethodName) prog_2_method_4_code (4 : Nat) (Option.some Jvm.ClassFile.FieldType.boolean)) ∈ evW := evWi (tj_3 _ (List.mem_of_getElem? (i := 114) rfl)) rfl
set_option maxRecDepth 20000 in
theorem w_595 : (Jvm.Cond.methodLink "MeshLines$Cache" (44 : Nat) ({ cls := "MeshLines$Cache", name := "takeAck", desc := "(I)Z" } : Jvm.MethodName)) ∈ evW := evWi (tj_3 _ (List.mem_of_getElem? (i := 115) rfl)) rfl
set_option maxRecDepth 20000 in
theorem w_597 : (Jvm.Cond.instanceMethod ({ cls := "MeshLines$Cache", name := "takeAck", desc := "(I)Z" } : Jvm.MethodName)) ∈ evW := evWi (tj_3 _ (List.mem_of_getElem? (i := 117) rfl)) rfl
set_option maxRecDepth 20000 in
theorem w_598 : (Jvm.Cond.code ({ cls := "MeshLines$Cache", name := "takeAck", desc := "(I)Z" } : Jvm.MethodName) prog_2_method_5_code (3 : Nat) (Option.some Jvm.ClassFile.FieldType.boolean)) ∈ evW := evWi (tj_3 _ (List.mem_of_getElem? (i := 118) rfl)) rfl
set_option maxRecDepth 20000 in
theorem w_599 : (Jvm.Cond.methodLink "MeshLines$Cache" (48 : Nat) ({ cls := "MeshLines$Cache", name := "takeInv", desc := "(LMeshLines$Packet;)V" } : Jvm.MethodName)) ∈ evW := evWi (tj_3 _ (List.mem_of_getElem? (i := 119) rfl)) rfl
set_option maxRecDepth 20000 in
theorem w_601 : (Jvm.Cond.instanceMethod ({ cls := "MeshLines$Cache", name := "takeInv", desc := "(LMeshLines$Packet;)V" } : Jvm.MethodName)) ∈ evW := evWi (tj_3 _ (List.mem_of_getElem? (i := 121) rfl)) rfl
set_option maxRecDepth 20000 in
theorem w_602 : (Jvm.Cond.code ({ cls := "MeshLines$Cache", name := "takeInv", desc := "(LMeshLines$Packet;)V" } : Jvm.MethodName) prog_2_method_6_code (3 : Nat) (Option.none : Option Jvm.ClassFile.FieldType)) ∈ evW := evWi (tj_3 _ (List.mem_of_getElem? (i := 122) rfl)) rfl
set_option maxRecDepth 20000 in
theorem w_603 : (Jvm.Cond.methodLink "MeshLines$Cache" (52 : Nat) ({ cls := "MeshLines$Cache", name := "become", desc := "(II)V" } : Jvm.MethodName)) ∈ evW := evWi (tj_3 _ (List.mem_of_getElem? (i := 123) rfl)) rfl
set_option maxRecDepth 20000 in
theorem w_605 : (Jvm.Cond.instanceMethod ({ cls := "MeshLines$Cache", name := "become", desc := "(II)V" } : Jvm.MethodName)) ∈ evW := evWi (tj_3 _ (List.mem_of_getElem? (i := 125) rfl)) rfl
set_option maxRecDepth 20000 in
theorem w_606 : (Jvm.Cond.code ({ cls := "MeshLines$Cache", name := "become", desc := "(II)V" } : Jvm.MethodName) prog_2_method_7_code (3 : Nat) (Option.none : Option Jvm.ClassFile.FieldType)) ∈ evW := evWi (tj_3 _ (List.mem_of_getElem? (i := 126) rfl)) rfl
set_option maxRecDepth 20000 in
theorem w_607 : (Jvm.Cond.methodLink "MeshLines$Cache" (73 : Nat) ({ cls := "MeshLines$Mesh", name := "send", desc := "(IIIIIII)V" } : Jvm.MethodName)) ∈ evW := evWi (tj_3 _ (List.mem_of_getElem? (i := 127) rfl)) rfl
set_option maxRecDepth 20000 in
theorem w_608 : (Jvm.Cond.methodLink "MeshLines$Cache" (59 : Nat) ({ cls := "MeshLines$Cache", name := "giveData", desc := "(III)V" } : Jvm.MethodName)) ∈ evW := evWi (tj_3 _ (List.mem_of_getElem? (i := 128) rfl)) rfl
set_option maxRecDepth 20000 in
theorem w_610 : (Jvm.Cond.instanceMethod ({ cls := "MeshLines$Cache", name := "giveData", desc := "(III)V" } : Jvm.MethodName)) ∈ evW := evWi (tj_3 _ (List.mem_of_getElem? (i := 130) rfl)) rfl
set_option maxRecDepth 20000 in
theorem w_611 : (Jvm.Cond.code ({ cls := "MeshLines$Cache", name := "giveData", desc := "(III)V" } : Jvm.MethodName) prog_2_method_8_code (4 : Nat) (Option.none : Option Jvm.ClassFile.FieldType)) ∈ evW := evWi (tj_3 _ (List.mem_of_getElem? (i := 131) rfl)) rfl
set_option maxRecDepth 20000 in
theorem w_613 : (Jvm.Cond.methodLink "MeshLines$Node" (96 : Nat) ({ cls := "MeshLines$Core", name := "finishPresent", desc := "(I)V" } : Jvm.MethodName)) ∈ evW := evWi (tj_3 _ (List.mem_of_getElem? (i := 133) rfl)) rfl
set_option maxRecDepth 20000 in
theorem w_614 : (Jvm.Cond.instanceMethod ({ cls := "MeshLines$Core", name := "finishPresent", desc := "(I)V" } : Jvm.MethodName)) ∈ evW := evWi (tj_3 _ (List.mem_of_getElem? (i := 134) rfl)) rfl
set_option maxRecDepth 20000 in
theorem w_615 : (Jvm.Cond.selects "MeshLines$Core" ({ cls := "MeshLines$Core", name := "finishPresent", desc := "(I)V" } : Jvm.MethodName) ({ cls := "MeshLines$Core", name := "finishPresent", desc := "(I)V" } : Jvm.MethodName)) ∈ evW := evWi (tj_3 _ (List.mem_of_getElem? (i := 135) rfl)) rfl
set_option maxRecDepth 20000 in
theorem w_616 : (Jvm.Cond.code ({ cls := "MeshLines$Core", name := "finishPresent", desc := "(I)V" } : Jvm.MethodName) prog_3_method_5_code (4 : Nat) (Option.none : Option Jvm.ClassFile.FieldType)) ∈ evW := evWi (tj_3 _ (List.mem_of_getElem? (i := 136) rfl)) rfl
set_option maxRecDepth 20000 in
theorem w_617 : (Jvm.Cond.methodLink "MeshLines" (68 : Nat) ({ cls := "MeshLines$Core", name := "act", desc := "(I)V" } : Jvm.MethodName)) ∈ evW := evWi (tj_3 _ (List.mem_of_getElem? (i := 137) rfl)) rfl
set_option maxRecDepth 20000 in
theorem w_618 : (Jvm.Cond.instanceMethod ({ cls := "MeshLines$Core", name := "act", desc := "(I)V" } : Jvm.MethodName)) ∈ evW := evWi (tj_3 _ (List.mem_of_getElem? (i := 138) rfl)) rfl
set_option maxRecDepth 20000 in
theorem w_619 : (Jvm.Cond.selects "MeshLines$Core" ({ cls := "MeshLines$Core", name := "act", desc := "(I)V" } : Jvm.MethodName) ({ cls := "MeshLines$Core", name := "act", desc := "(I)V" } : Jvm.MethodName)) ∈ evW := evWi (tj_3 _ (List.mem_of_getElem? (i := 139) rfl)) rfl
set_option maxRecDepth 20000 in
theorem w_620 : (Jvm.Cond.code ({ cls := "MeshLines$Core", name := "act", desc := "(I)V" } : Jvm.MethodName) prog_3_method_3_code (5 : Nat) (Option.none : Option Jvm.ClassFile.FieldType)) ∈ evW := evWi (tj_3 _ (List.mem_of_getElem? (i := 140) rfl)) rfl
set_option maxRecDepth 20000 in
theorem w_621 : (Jvm.Cond.methodLink "MeshLines$Core" (46 : Nat) ({ cls := "MeshLines$Core", name := "finishPresent", desc := "(I)V" } : Jvm.MethodName)) ∈ evW := evWi (tj_3 _ (List.mem_of_getElem? (i := 141) rfl)) rfl
set_option maxRecDepth 20000 in
theorem w_622 : (Jvm.Cond.methodLink "MeshLines$Core" (50 : Nat) ({ cls := "MeshLines$Cache", name := "ask", desc := "(III)V" } : Jvm.MethodName)) ∈ evW := evWi (tj_3 _ (List.mem_of_getElem? (i := 142) rfl)) rfl
set_option maxRecDepth 20000 in
theorem w_623 : (Jvm.Cond.instanceMethod ({ cls := "MeshLines$Cache", name := "ask", desc := "(III)V" } : Jvm.MethodName)) ∈ evW := evWi (tj_3 _ (List.mem_of_getElem? (i := 143) rfl)) rfl
set_option maxRecDepth 20000 in
theorem w_624 : (Jvm.Cond.selects "MeshLines$Cache" ({ cls := "MeshLines$Cache", name := "ask", desc := "(III)V" } : Jvm.MethodName) ({ cls := "MeshLines$Cache", name := "ask", desc := "(III)V" } : Jvm.MethodName)) ∈ evW := evWi (tj_3 _ (List.mem_of_getElem? (i := 144) rfl)) rfl
set_option maxRecDepth 20000 in
theorem w_625 : (Jvm.Cond.code ({ cls := "MeshLines$Cache", name := "ask", desc := "(III)V" } : Jvm.MethodName) prog_2_method_10_code (4 : Nat) (Option.none : Option Jvm.ClassFile.FieldType)) ∈ evW := evWi (tj_3 _ (List.mem_of_getElem? (i := 145) rfl)) rfl
set_option maxRecDepth 20000 in
theorem w_626 : (Jvm.Cond.methodLink "MeshLines$Core" (54 : Nat) ({ cls := "MeshLines$Core", name := "fetch", desc := "(IZ)V" } : Jvm.MethodName)) ∈ evW := evWi (tj_3 _ (List.mem_of_getElem? (i := 146) rfl)) rfl
set_option maxRecDepth 20000 in
theorem w_628 : (Jvm.Cond.instanceMethod ({ cls := "MeshLines$Core", name := "fetch", desc := "(IZ)V" } : Jvm.MethodName)) ∈ evW := evWi (tj_3 _ (List.mem_of_getElem? (i := 148) rfl)) rfl
set_option maxRecDepth 20000 in
theorem w_629 : (Jvm.Cond.code ({ cls := "MeshLines$Core", name := "fetch", desc := "(IZ)V" } : Jvm.MethodName) prog_3_method_4_code (3 : Nat) (Option.none : Option Jvm.ClassFile.FieldType)) ∈ evW := evWi (tj_3 _ (List.mem_of_getElem? (i := 149) rfl)) rfl
set_option maxRecDepth 20000 in
theorem w_630 : (Jvm.Cond.methodLink "MeshLines$Core" (58 : Nat) ({ cls := "MeshLines$Cache", name := "hasRoomFor", desc := "(I)Z" } : Jvm.MethodName)) ∈ evW := evWi (tj_3 _ (List.mem_of_getElem? (i := 150) rfl)) rfl
set_option maxRecDepth 20000 in
theorem w_631 : (Jvm.Cond.instanceMethod ({ cls := "MeshLines$Cache", name := "hasRoomFor", desc := "(I)Z" } : Jvm.MethodName)) ∈ evW := evWi (tj_3 _ (List.mem_of_getElem? (i := 151) rfl)) rfl
set_option maxRecDepth 20000 in
theorem w_632 : (Jvm.Cond.selects "MeshLines$Cache" ({ cls := "MeshLines$Cache", name := "hasRoomFor", desc := "(I)Z" } : Jvm.MethodName) ({ cls := "MeshLines$Cache", name := "hasRoomFor", desc := "(I)Z" } : Jvm.MethodName)) ∈ evW := evWi (tj_3 _ (List.mem_of_getElem? (i := 152) rfl)) rfl
set_option maxRecDepth 20000 in
theorem w_633 : (Jvm.Cond.code ({ cls := "MeshLines$Cache", name := "hasRoomFor", desc := "(I)Z" } : Jvm.MethodName) prog_2_method_9_code (4 : Nat) (Option.some Jvm.ClassFile.FieldType.boolean)) ∈ evW := evWi (tj_3 _ (List.mem_of_getElem? (i := 153) rfl)) rfl
set_option maxRecDepth 20000 in
theorem w_634 : (Jvm.Cond.methodLink "MeshLines$Core" (62 : Nat) ({ cls := "MeshLines$Cache", name := "makeRoomFor", desc := "(I)V" } : Jvm.MethodName)) ∈ evW := evWi (tj_3 _ (List.mem_of_getElem? (i := 154) rfl)) rfl
set_option maxRecDepth 20000 in
theorem w_635 : (Jvm.Cond.instanceMethod ({ cls := "MeshLines$Cache", name := "makeRoomFor", desc := "(I)V" } : Jvm.MethodName)) ∈ evW := evWi (tj_3 _ (List.mem_of_getElem? (i := 155) rfl)) rfl
set_option maxRecDepth 20000 in
theorem w_636 : (Jvm.Cond.selects "MeshLines$Cache" ({ cls := "MeshLines$Cache", name := "makeRoomFor", desc := "(I)V" } : Jvm.MethodName) ({ cls := "MeshLines$Cache", name := "makeRoomFor", desc := "(I)V" } : Jvm.MethodName)) ∈ evW := evWi (tj_3 _ (List.mem_of_getElem? (i := 156) rfl)) rfl
set_option maxRecDepth 20000 in
theorem w_637 : (Jvm.Cond.code ({ cls := "MeshLines$Cache", name := "makeRoomFor", desc := "(I)V" } : Jvm.MethodName) prog_2_method_11_code (5 : Nat) (Option.none : Option Jvm.ClassFile.FieldType)) ∈ evW := evWi (tj_3 _ (List.mem_of_getElem? (i := 157) rfl)) rfl
set_option maxRecDepth 20000 in
theorem w_638 : (Jvm.Cond.methodLink "MeshLines$Cache" (79 : Nat) ({ cls := "MeshLines$Cache", name := "ask", desc := "(III)V" } : Jvm.MethodName)) ∈ evW := evWi (tj_3 _ (List.mem_of_getElem? (i := 158) rfl)) rfl
set_option maxRecDepth 20000 in
theorem w_639 : (Jvm.Cond.methodLink "MeshLinesLaw" (31 : Nat) ({ cls := "MeshLines", name := "result", desc := "(II)I" } : Jvm.MethodName)) ∈ evW := evWi (tj_3 _ (List.mem_of_getElem? (i := 159) rfl)) rfl
set_option maxRecDepth 20000 in
theorem w_640 : (Jvm.Cond.instanceMethod ({ cls := "MeshLines", name := "result", desc := "(II)I" } : Jvm.MethodName)) ∈ evW := evWi (tj_3 _ (List.mem_of_getElem? (i := 160) rfl)) rfl
set_option maxRecDepth 20000 in
theorem w_641 : (Jvm.Cond.selects "MeshLines" ({ cls := "MeshLines", name := "result", desc := "(II)I" } : Jvm.MethodName) ({ cls := "MeshLines", name := "result", desc := "(II)I" } : Jvm.MethodName)) ∈ evW := evWi (tj_3 _ (List.mem_of_getElem? (i := 161) rfl)) rfl
set_option maxRecDepth 20000 in
theorem w_642 : (Jvm.Cond.code ({ cls := "MeshLines", name := "result", desc := "(II)I" } : Jvm.MethodName) prog_1_method_4_code (4 : Nat) (Option.some Jvm.ClassFile.FieldType.int)) ∈ evW := evWi (tj_3 _ (List.mem_of_getElem? (i := 162) rfl)) rfl
set_option maxRecDepth 20000 in
theorem w_643 : (Jvm.Cond.methodLink "MeshLinesLaw" (36 : Nat) ({ cls := "MeshLines", name := "done", desc := "(I)I" } : Jvm.MethodName)) ∈ evW := evWi (tj_3 _ (List.mem_of_getElem? (i := 163) rfl)) rfl
set_option maxRecDepth 20000 in
theorem w_644 : (Jvm.Cond.instanceMethod ({ cls := "MeshLines", name := "done", desc := "(I)I" } : Jvm.MethodName)) ∈ evW := evWi (tj_3 _ (List.mem_of_getElem? (i := 164) rfl)) rfl
set_option maxRecDepth 20000 in
theorem w_645 : (Jvm.Cond.selects "MeshLines" ({ cls := "MeshLines", name := "done", desc := "(I)I" } : Jvm.MethodName) ({ cls := "MeshLines", name := "done", desc := "(I)I" } : Jvm.MethodName)) ∈ evW := evWi (tj_3 _ (List.mem_of_getElem? (i := 165) rfl)) rfl
set_option maxRecDepth 20000 in
theorem w_646 : (Jvm.Cond.code ({ cls := "MeshLines", name := "done", desc := "(I)I" } : Jvm.MethodName) prog_1_method_5_code (2 : Nat) (Option.some Jvm.ClassFile.FieldType.int)) ∈ evW := evWi (tj_3 _ (List.mem_of_getElem? (i := 166) rfl)) rfl
set_option maxRecDepth 20000 in
theorem w_647 : (Jvm.Cond.methodLink "MeshLinesLaw" (40 : Nat) ({ cls := "MeshLines", name := "cache", desc := "(III)I" } : Jvm.MethodName)) ∈ evW := evWi (tj_3 _ (List.mem_of_getElem? (i := 167) rfl)) rfl
set_option maxRecDepth 20000 in
theorem w_648 : (Jvm.Cond.instanceMethod ({ cls := "MeshLines", name := "cache", desc := "(III)I" } : Jvm.MethodName)) ∈ evW := evWi (tj_3 _ (List.mem_of_getElem? (i := 168) rfl)) rfl
set_option maxRecDepth 20000 in
theorem w_649 : (Jvm.Cond.selects "MeshLines" ({ cls := "MeshLines", name := "cache", desc := "(III)I" } : Jvm.MethodName) ({ cls := "MeshLines", name := "cache", desc := "(III)I" } : Jvm.MethodName)) ∈ evW := evWi (tj_3 _ (List.mem_of_getElem? (i := 169) rfl)) rfl
set_option maxRecDepth 20000 in
theorem w_650 : (Jvm.Cond.code ({ cls := "MeshLines", name := "cache", desc := "(III)I" } : Jvm.MethodName) prog_1_method_6_code (5 : Nat) (Option.some Jvm.ClassFile.FieldType.int)) ∈ evW := evWi (tj_3 _ (List.mem_of_getElem? (i := 170) rfl)) rfl
set_option maxRecDepth 20000 in
theorem w_651 : (Jvm.Cond.methodLink "MeshLinesLaw" (45 : Nat) ({ cls := "MeshLines", name := "home", desc := "(II)I" } : Jvm.MethodName)) ∈ evW := evWi (tj_3 _ (List.mem_of_getElem? (i := 171) rfl)) rfl
set_option maxRecDepth 20000 in
theorem w_652 : (Jvm.Cond.instanceMethod ({ cls := "MeshLines", name := "home", desc := "(II)I" } : Jvm.MethodName)) ∈ evW := evWi (tj_3 _ (List.mem_of_getElem? (i := 172) rfl)) rfl
set_option maxRecDepth 20000 in
theorem w_653 : (Jvm.Cond.selects "MeshLines" ({ cls := "MeshLines", name := "home", desc := "(II)I" } : Jvm.MethodName) ({ cls := "MeshLines", name := "home", desc := "(II)I" } : Jvm.MethodName)) ∈ evW := evWi (tj_3 _ (List.mem_of_getElem? (i := 173) rfl)) rfl
set_option maxRecDepth 20000 in
theorem w_654 : (Jvm.Cond.code ({ cls := "MeshLines", name := "home", desc := "(II)I" } : Jvm.MethodName) prog_1_method_7_code (4 : Nat) (Option.some Jvm.ClassFile.FieldType.int)) ∈ evW := evWi (tj_3 _ (List.mem_of_getElem? (i := 174) rfl)) rfl
set_option maxRecDepth 20000 in
theorem w_655 : (Jvm.Cond.methodLink "MeshLinesLaw" (49 : Nat) ({ cls := "MeshLines", name := "buffer", desc := "(III)I" } : Jvm.MethodName)) ∈ evW := evWi (tj_3 _ (List.mem_of_getElem? (i := 175) rfl)) rfl
set_option maxRecDepth 20000 in
theorem w_656 : (Jvm.Cond.instanceMethod ({ cls := "MeshLines", name := "buffer", desc := "(III)I" } : Jvm.MethodName)) ∈ evW := evWi (tj_3 _ (List.mem_of_getElem? (i := 176) rfl)) rfl
set_option maxRecDepth 20000 in
theorem w_657 : (Jvm.Cond.selects "MeshLines" ({ cls := "MeshLines", name := "buffer", desc := "(III)I" } : Jvm.MethodName) ({ cls := "MeshLines", name := "buffer", desc := "(III)I" } : Jvm.MethodName)) ∈ evW := evWi (tj_3 _ (List.mem_of_getElem? (i := 177) rfl)) rfl
set_option maxRecDepth 20000 in
theorem w_658 : (Jvm.Cond.code ({ cls := "MeshLines", name := "buffer", desc := "(III)I" } : Jvm.MethodName) prog_1_method_8_code (5 : Nat) (Option.some Jvm.ClassFile.FieldType.int)) ∈ evW := evWi (tj_3 _ (List.mem_of_getElem? (i := 178) rfl)) rfl
set_option maxRecDepth 20000 in
theorem w_659 : (Jvm.Cond.methodLink "MeshLines" (108 : Nat) ({ cls := "MeshLines$Mesh", name := "laneOf", desc := "(II)LMeshLines$Lane;" } : Jvm.MethodName)) ∈ evW := evWi (tj_3 _ (List.mem_of_getElem? (i := 179) rfl)) rfl
set_option maxRecDepth 20000 in
theorem w_660 : (Jvm.Cond.methodLink "MeshLines" (118 : Nat) ({ cls := "java/util/ArrayList", name := "size", desc := "()I" } : Jvm.MethodName)) ∈ evW := evWi (tj_3 _ (List.mem_of_getElem? (i := 180) rfl)) rfl
set_option maxRecDepth 20000 in
theorem w_661 : (Jvm.Cond.methodLink "MeshLinesLaw" (53 : Nat) ({ cls := "MeshLines", name := "held", desc := "(III)I" } : Jvm.MethodName)) ∈ evW := evWi (tj_3 _ (List.mem_of_getElem? (i := 181) rfl)) rfl
set_option maxRecDepth 20000 in
theorem w_662 : (Jvm.Cond.instanceMethod ({ cls := "MeshLines", name := "held", desc := "(III)I" } : Jvm.MethodName)) ∈ evW := evWi (tj_3 _ (List.mem_of_getElem? (i := 182) rfl)) rfl
set_option maxRecDepth 20000 in
theorem w_663 : (Jvm.Cond.selects "MeshLines" ({ cls := "MeshLines", name := "held", desc := "(III)I" } : Jvm.MethodName) ({ cls := "MeshLines", name := "held", desc := "(III)I" } : Jvm.MethodName)) ∈ evW := evWi (tj_3 _ (List.mem_of_getElem? (i := 183) rfl)) rfl
set_option maxRecDepth 20000 in
theorem w_664 : (Jvm.Cond.code ({ cls := "MeshLines", name := "held", desc := "(III)I" } : Jvm.MethodName) prog_1_method_9_code (5 : Nat) (Option.some Jvm.ClassFile.FieldType.int)) ∈ evW := evWi (tj_3 _ (List.mem_of_getElem? (i := 184) rfl)) rfl
set_option maxRecDepth 20000 in
theorem w_665 : (Jvm.Cond.methodLink "MeshLinesLaw" (57 : Nat) ({ cls := "MeshLines", name := "count", desc := "(I)I" } : Jvm.MethodName)) ∈ evW := evWi (tj_3 _ (List.mem_of_getElem? (i := 185) rfl)) rfl
set_option maxRecDepth 20000 in
theorem w_666 : (Jvm.Cond.instanceMethod ({ cls := "MeshLines", name := "count", desc := "(I)I" } : Jvm.MethodName)) ∈ evW := evWi (tj_3 _ (List.mem_of_getElem? (i := 186) rfl)) rfl
set_option maxRecDepth 20000 in
theorem w_667 : (Jvm.Cond.selects "MeshLines" ({ cls := "MeshLines", name := "count", desc := "(I)I" } : Jvm.MethodName) ({ cls := "MeshLines", name := "count", desc := "(I)I" } : Jvm.MethodName)) ∈ evW := evWi (tj_3 _ (List.mem_of_getElem? (i := 187) rfl)) rfl
set_option maxRecDepth 20000 in
theorem w_668 : (Jvm.Cond.code ({ cls := "MeshLines", name := "count", desc := "(I)I" } : Jvm.MethodName) prog_1_method_10_code (2 : Nat) (Option.some Jvm.ClassFile.FieldType.int)) ∈ evW := evWi (tj_3 _ (List.mem_of_getElem? (i := 188) rfl)) rfl
set_option maxRecDepth 20000 in
theorem w_669 : (Jvm.Cond.methodLink "MeshLinesLaw" (9 : Nat) ({ cls := "MeshLinesLaw", name := "cell", desc := "([II)I" } : Jvm.MethodName)) ∈ evW := evWi (tj_3 _ (List.mem_of_getElem? (i := 189) rfl)) rfl
set_option maxRecDepth 20000 in
theorem w_670 : (Jvm.Cond.static ({ cls := "MeshLinesLaw", name := "cell", desc := "([II)I" } : Jvm.MethodName)) ∈ evW := evWi (tj_3 _ (List.mem_of_getElem? (i := 190) rfl)) rfl
set_option maxRecDepth 20000 in
theorem w_671 : (Jvm.Cond.code ({ cls := "MeshLinesLaw", name := "cell", desc := "([II)I" } : Jvm.MethodName) method_2_code (2 : Nat) (Option.some Jvm.ClassFile.FieldType.int)) ∈ evW := evWi (tj_3 _ (List.mem_of_getElem? (i := 191) rfl)) rfl
set_option maxRecDepth 20000 in
theorem w_672 : (Jvm.Cond.classLink "MeshLinesLaw" (18 : Nat) "MeshLinesModel") ∈ evW := evWi (tj_3 _ (List.mem_of_getElem? (i := 192) rfl)) rfl
set_option maxRecDepth 20000 in
theorem w_673 : (Jvm.Cond.instantiable "MeshLinesModel" (41 : Nat)) ∈ evW := evWi (tj_3 _ (List.mem_of_getElem? (i := 193) rfl)) rfl
set_option maxRecDepth 20000 in
theorem w_674 : (Jvm.Cond.methodLink "MeshLinesLaw" (20 : Nat) ({ cls := "MeshLinesModel", name := "<init>", desc := "(II)V" } : Jvm.MethodName)) ∈ evW := evWi (tj_3 _ (List.mem_of_getElem? (i := 194) rfl)) rfl
set_option maxRecDepth 20000 in
theorem w_675 : (Jvm.Cond.instanceMethod ({ cls := "MeshLinesModel", name := "<init>", desc := "(II)V" } : Jvm.MethodName)) ∈ evW := evWi (tj_3 _ (List.mem_of_getElem? (i := 195) rfl)) rfl
set_option maxRecDepth 20000 in
theorem w_676 : (Jvm.Cond.code ({ cls := "MeshLinesModel", name := "<init>", desc := "(II)V" } : Jvm.MethodName) prog_12_method_1_code (4 : Nat) (Option.none : Option Jvm.ClassFile.FieldType)) ∈ evW := evWi (tj_3 _ (List.mem_of_getElem? (i := 196) rfl)) rfl
set_option maxRecDepth 20000 in
theorem w_677 : (Jvm.Cond.methodLink "MeshLinesModel" (1 : Nat) ({ cls := "java/lang/Object", name := "<init>", desc := "()V" } : Jvm.MethodName)) ∈ evW := evWi (tj_3 _ (List.mem_of_getElem? (i := 197) rfl)) rfl
set_option maxRecDepth 20000 in
theorem w_678 : (Jvm.Cond.fieldLink "MeshLinesModel" (116 : Nat) "MeshLinesModel" "depth" "I") ∈ evW := evWi (tj_3 _ (List.mem_of_getElem? (i := 198) rfl)) rfl
set_option maxRecDepth 20000 in
theorem w_679 : (Jvm.Cond.fieldLink "MeshLinesModel" (120 : Nat) "MeshLinesModel" "flits" "I") ∈ evW := evWi (tj_3 _ (List.mem_of_getElem? (i := 199) rfl)) rfl
set_option maxRecDepth 20000 in
theorem w_680 : (Jvm.Cond.fieldLink "MeshLinesModel" (130 : Nat) "MeshLinesModel" "cycle" "I") ∈ evW := evWi (tj_3 _ (List.mem_of_getElem? (i := 200) rfl)) rfl
set_option maxRecDepth 20000 in
theorem w_681 : (Jvm.Cond.fieldLink "MeshLinesModel" (7 : Nat) "MeshLinesModel" "live" "[Z") ∈ evW := evWi (tj_3 _ (List.mem_of_getElem? (i := 201) rfl)) rfl
set_option maxRecDepth 20000 in
theorem w_682 : (Jvm.Cond.fieldLink "MeshLinesModel" (13 : Nat) "MeshLinesModel" "kind" "[I") ∈ evW := evWi (tj_3 _ (List.mem_of_getElem? (i := 202) rfl)) rfl
set_option maxRecDepth 20000 in
theorem w_683 : (Jvm.Cond.fieldLink "MeshLinesModel" (17 : Nat) "MeshLinesModel" "line" "[I") ∈ evW := evWi (tj_3 _ (List.mem_of_getElem? (i := 203) rfl)) rfl
set_option maxRecDepth 20000 in
theorem w_684 : (Jvm.Cond.fieldLink "MeshLinesModel" (20 : Nat) "MeshLinesModel" "to" "[I") ∈ evW := evWi (tj_3 _ (List.mem_of_getElem? (i := 204) rfl)) rfl
set_option maxRecDepth 20000 in
theorem w_685 : (Jvm.Cond.fieldLink "MeshLinesModel" (23 : Nat) "MeshLinesModel" "sender" "[I") ∈ evW := evWi (tj_3 _ (List.mem_of_getElem? (i := 205) rfl)) rfl
set_option maxRecDepth 20000 in
theorem w_686 : (Jvm.Cond.fieldLink "MeshLinesModel" (26 : Nat) "MeshLinesModel" "asker" "[I") ∈ evW := evWi (tj_3 _ (List.mem_of_getElem? (i := 206) rfl)) rfl
set_option maxRecDepth 20000 in
theorem w_687 : (Jvm.Cond.fieldLink "MeshLinesModel" (29 : Nat) "MeshLinesModel" "value" "[I") ∈ evW := evWi (tj_3 _ (List.mem_of_getElem? (i := 207) rfl)) rfl
set_option maxRecDepth 20000 in
theorem w_688 : (Jvm.Cond.fieldLink "MeshLinesModel" (32 : Nat) "MeshLinesModel" "acks" "[I") ∈ evW := evWi (tj_3 _ (List.mem_of_getElem? (i := 208) rfl)) rfl
set_option maxRecDepth 20000 in
theorem w_689 : (Jvm.Cond.fieldLink "MeshLinesModel" (35 : Nat) "MeshLinesModel" "row" "[I") ∈ evW := evWi (tj_3 _ (List.mem_of_getElem? (i := 209) rfl)) rfl
set_option maxRecDepth 20000 in
theorem w_690 : (Jvm.Cond.fieldLink "MeshLinesModel" (38 : Nat) "MeshLinesModel" "rowCount" "[I") ∈ evW := evWi (tj_3 _ (List.mem_of_getElem? (i := 210) rfl)) rfl
set_option maxRecDepth 20000 in
theorem w_691 : (Jvm.Cond.fieldLink "MeshLinesModel" (41 : Nat) "MeshLinesModel" "given" "[I") ∈ evW := evWi (tj_3 _ (List.mem_of_getElem? (i := 211) rfl)) rfl
set_option maxRecDepth 20000 in
theorem w_692 : (Jvm.Cond.fieldLink "MeshLinesModel" (44 : Nat) "MeshLinesModel" "inbox" "[I") ∈ evW := evWi (tj_3 _ (List.mem_of_getElem? (i := 212) rfl)) rfl
set_option maxRecDepth 20000 in
theorem w_693 : (Jvm.Cond.fieldLink "MeshLinesModel" (47 : Nat) "MeshLinesModel" "inCount" "[I") ∈ evW := evWi (tj_3 _ (List.mem_of_getElem? (i := 213) rfl)) rfl
set_option maxRecDepth 20000 in
theorem w_694 : (Jvm.Cond.fieldLink "MeshLinesModel" (50 : Nat) "MeshLinesModel" "flitOf" "[I") ∈ evW := evWi (tj_3 _ (List.mem_of_getElem? (i := 214) rfl)) rfl
set_option maxRecDepth 20000 in
theorem w_695 : (Jvm.Cond.fieldLink "MeshLinesModel" (53 : Nat) "MeshLinesModel" "flitNumber" "[I") ∈ evW := evWi (tj_3 _ (List.mem_of_getElem? (i := 215) rfl)) rfl
set_option maxRecDepth 20000 in
theorem w_696 : (Jvm.Cond.fieldLink "MeshLinesModel" (56 : Nat) "MeshLinesModel" "cameIn" "[I") ∈ evW := evWi (tj_3 _ (List.mem_of_getElem? (i := 216) rfl)) rfl
set_option maxRecDepth 20000 in
theorem w_697 : (Jvm.Cond.fieldLink "MeshLinesModel" (59 : Nat) "MeshLinesModel" "bufferCount" "[I") ∈ evW := evWi (tj_3 _ (List.mem_of_getElem? (i := 217) rfl)) rfl
set_option maxRecDepth 20000 in
theorem w_698 : (Jvm.Cond.fieldLink "MeshLinesModel" (62 : Nat) "MeshLinesModel" "holder" "[I") ∈ evW := evWi (tj_3 _ (List.mem_of_getElem? (i := 218) rfl)) rfl
set_option maxRecDepth 20000 in
theorem w_699 : (Jvm.Cond.fieldLink "MeshLinesModel" (65 : Nat) "MeshLinesModel" "lastPort" "[I") ∈ evW := evWi (tj_3 _ (List.mem_of_getElem? (i := 219) rfl)) rfl
set_option maxRecDepth 20000 in
theorem w_700 : (Jvm.Cond.fieldLink "MeshLinesModel" (68 : Nat) "MeshLinesModel" "state" "[I") ∈ evW := evWi (tj_3 _ (List.mem_of_getElem? (i := 220) rfl)) rfl
set_option maxRecDepth 20000 in
theorem w_701 : (Jvm.Cond.fieldLink "MeshLinesModel" (71 : Nat) "MeshLinesModel" "copy" "[I") ∈ evW := evWi (tj_3 _ (List.mem_of_getElem? (i := 221) rfl)) rfl
set_option maxRecDepth 20000 in
theorem w_702 : (Jvm.Cond.fieldLink "MeshLinesModel" (74 : Nat) "MeshLinesModel" "needs" "[I") ∈ evW := evWi (tj_3 _ (List.mem_of_getElem? (i := 222) rfl)) rfl
set_option maxRecDepth 20000 in
theorem w_703 : (Jvm.Cond.fieldLink "MeshLinesModel" (77 : Nat) "MeshLinesModel" "usedAt" "[I") ∈ evW := evWi (tj_3 _ (List.mem_of_getElem? (i := 223) rfl)) rfl
set_option maxRecDepth 20000 in
theorem w_704 : (Jvm.Cond.fieldLink "MeshLinesModel" (80 : Nat) "MeshLinesModel" "homeState" "[I") ∈ evW := evWi (tj_3 _ (List.mem_of_getElem? (i := 224) rfl)) rfl
set_option maxRecDepth 20000 in
theorem w_705 : (Jvm.Cond.fieldLink "MeshLinesModel" (83 : Nat) "MeshLinesModel" "memory" "[I") ∈ evW := evWi (tj_3 _ (List.mem_of_getElem? (i := 225) rfl)) rfl
set_option maxRecDepth 20000 in
theorem w_706 : (Jvm.Cond.fieldLink "MeshLinesModel" (86 : Nat) "MeshLinesModel" "owner" "[I") ∈ evW := evWi (tj_3 _ (List.mem_of_getElem? (i := 226) rfl)) rfl
set_option maxRecDepth 20000 in
theorem w_707 : (Jvm.Cond.fieldLink "MeshLinesModel" (89 : Nat) "MeshLinesModel" "sharers" "[I") ∈ evW := evWi (tj_3 _ (List.mem_of_getElem? (i := 227) rfl)) rfl
set_option maxRecDepth 20000 in
theorem w_708 : (Jvm.Cond.fieldLink "MeshLinesModel" (92 : Nat) "MeshLinesModel" "opKind" "[I") ∈ evW := evWi (tj_3 _ (List.mem_of_getElem? (i := 228) rfl)) rfl
set_option maxRecDepth 20000 in
theorem w_709 : (Jvm.Cond.fieldLink "MeshLinesModel" (95 : Nat) "MeshLinesModel" "opLine" "[I") ∈ evW := evWi (tj_3 _ (List.mem_of_getElem? (i := 229) rfl)) rfl
set_option maxRecDepth 20000 in
theorem w_710 : (Jvm.Cond.fieldLink "MeshLinesModel" (98 : Nat) "MeshLinesModel" "opValue" "[I") ∈ evW := evWi (tj_3 _ (List.mem_of_getElem? (i := 230) rfl)) rfl
set_option maxRecDepth 20000 in
theorem w_711 : (Jvm.Cond.fieldLink "MeshLinesModel" (101 : Nat) "MeshLinesModel" "opDelay" "[I") ∈ evW := evWi (tj_3 _ (List.mem_of_getElem? (i := 231) rfl)) rfl
set_option maxRecDepth 20000 in
theorem w_712 : (Jvm.Cond.fieldLink "MeshLinesModel" (104 : Nat) "MeshLinesModel" "results" "[I") ∈ evW := evWi (tj_3 _ (List.mem_of_getElem? (i := 232) rfl)) rfl
set_option maxRecDepth 20000 in
theorem w_713 : (Jvm.Cond.fieldLink "MeshLinesModel" (107 : Nat) "MeshLinesModel" "operations" "[I") ∈ evW := evWi (tj_3 _ (List.mem_of_getElem? (i := 233) rfl)) rfl
set_option maxRecDepth 20000 in
theorem w_714 : (Jvm.Cond.fieldLink "MeshLinesModel" (110 : Nat) "MeshLinesModel" "doneCount" "[I") ∈ evW := evWi (tj_3 _ (List.mem_of_getElem? (i := 234) rfl)) rfl
set_option maxRecDepth 20000 in
theorem w_715 : (Jvm.Cond.fieldLink "MeshLinesModel" (113 : Nat) "MeshLinesModel" "rests" "[Z") ∈ evW := evWi (tj_3 _ (List.mem_of_getElem? (i := 235) rfl)) rfl
set_option maxRecDepth 20000 in
theorem w_716 : (Jvm.Cond.fieldLink "MeshLinesModel" (127 : Nat) "MeshLinesModel" "sent" "I") ∈ evW := evWi (tj_3 _ (List.mem_of_getElem? (i := 236) rfl)) rfl
set_option maxRecDepth 20000 in
theorem w_717 : (Jvm.Cond.fieldLink "MeshLinesModel" (158 : Nat) "MeshLinesModel" "arrived" "I") ∈ evW := evWi (tj_3 _ (List.mem_of_getElem? (i := 237) rfl)) rfl
set_option maxRecDepth 20000 in
theorem w_718 : (Jvm.Cond.fieldLink "MeshLinesModel" (155 : Nat) "MeshLinesModel" "crossed" "I") ∈ evW := evWi (tj_3 _ (List.mem_of_getElem? (i := 238) rfl)) rfl
set_option maxRecDepth 20000 in
theorem w_719 : (Jvm.Cond.laysFinal "MeshLinesModel" "MeshLinesModel" "depth" "I") ∈ evW := evWi (tj_3 _ (List.mem_of_getElem? (i := 239) rfl)) rfl
set_option maxRecDepth 20000 in
theorem w_721 : (Jvm.Cond.laysFinal "MeshLinesModel" "MeshLinesModel" "flits" "I") ∈ evW := evWi (tj_4 _ (List.mem_of_getElem? (i := 1) rfl)) rfl
set_option maxRecDepth 20000 in
theorem w_723 : (Jvm.Cond.lays "MeshLinesModel" "MeshLinesModel" "cycle" "I") ∈ evW := evWi (tj_4 _ (List.mem_of_getElem? (i := 3) rfl)) rfl
set_option maxRecDepth 20000 in
theorem w_725 : (Jvm.Cond.lays "MeshLinesModel" "MeshLinesModel" "live" "[Z") ∈ evW := evWi (tj_4 _ (List.mem_of_getElem? (i := 5) rfl)) rfl
set_option maxRecDepth 20000 in
theorem w_727 : (Jvm.Cond.lays "MeshLinesModel" "MeshLinesModel" "kind" "[I") ∈ evW := evWi (tj_4 _ (List.mem_of_getElem? (i := 7) rfl)) rfl
set_option maxRecDepth 20000 in
theorem w_729 : (Jvm.Cond.lays "MeshLinesModel" "MeshLinesModel" "line" "[I") ∈ evW := evWi (tj_4 _ (List.mem_of_getElem? (i := 9) rfl)) rfl
set_option maxRecDepth 20000 in
theorem w_731 : (Jvm.Cond.lays "MeshLinesModel" "MeshLinesModel" "to" "[I") ∈ evW := evWi (tj_4 _ (List.mem_of_getElem? (i := 11) rfl)) rfl
set_option maxRecDepth 20000 in
theorem w_733 : (Jvm.Cond.lays "MeshLinesModel" "MeshLinesModel" "sender" "[I") ∈ evW := evWi (tj_4 _ (List.mem_of_getElem? (i := 13) rfl)) rfl
set_option maxRecDepth 20000 in
theorem w_735 : (Jvm.Cond.lays "MeshLinesModel" "MeshLinesModel" "asker" "[I") ∈ evW := evWi (tj_4 _ (List.mem_of_getElem? (i := 15) rfl)) rfl
set_option maxRecDepth 20000 in
theorem w_737 : (Jvm.Cond.lays "MeshLinesModel" "MeshLinesModel" "value" "[I") ∈ evW := evWi (tj_4 _ (List.mem_of_getElem? (i := 17) rfl)) rfl
set_option maxRecDepth 20000 in
theorem w_739 : (Jvm.Cond.lays "MeshLinesModel" "MeshLinesModel" "acks" "[I") ∈ evW := evWi (tj_4 _ (List.mem_of_getElem? (i := 19) rfl)) rfl
set_option maxRecDepth 20000 in
theorem w_741 : (Jvm.Cond.lays "MeshLinesModel" "MeshLinesModel" "row" "[I") ∈ evW := evWi (tj_4 _ (List.mem_of_getElem? (i := 21) rfl)) rfl
set_option maxRecDepth 20000 in
theorem w_743 : (Jvm.Cond.lays "MeshLinesModel" "MeshLinesModel" "rowCount" "[I") ∈ evW := evWi (tj_4 _ (List.mem_of_getElem? (i := 23) rfl)) rfl
set_option maxRecDepth 20000 in
theorem w_745 : (Jvm.Cond.lays "MeshLinesModel" "MeshLinesModel" "given" "[I") ∈ evW := evWi (tj_4 _ (List.mem_of_getElem? (i := 25) rfl)) rfl
set_option maxRecDepth 20000 in
theorem w_747 : (Jvm.Cond.lays "MeshLinesModel" "MeshLinesModel" "inbox" "[I") ∈ evW := evWi (tj_4 _ (List.mem_of_getElem? (i := 27) rfl)) rfl
set_option maxRecDepth 20000 in
theorem w_749 : (Jvm.Cond.lays "MeshLinesModel" "MeshLinesModel" "inCount" "[I") ∈ evW := evWi (tj_4 _ (List.mem_of_getElem? (i := 29) rfl)) rfl
set_option maxRecDepth 20000 in
theorem w_751 : (Jvm.Cond.lays "MeshLinesModel" "MeshLinesModel" "flitOf" "[I") ∈ evW := evWi (tj_4 _ (List.mem_of_getElem? (i := 31) rfl)) rfl
set_option maxRecDepth 20000 in
theorem w_753 : (Jvm.Cond.lays "MeshLinesModel" "MeshLinesModel" "flitNumber" "[I") ∈ evW := evWi (tj_4 _ (List.mem_of_getElem? (i := 33) rfl)) rfl
set_option maxRecDepth 20000 in
theorem w_755 : (Jvm.Cond.lays "MeshLinesModel" "MeshLinesModel" "cameIn" "[I") ∈ evW := evWi (tj_4 _ (List.mem_of_getElem? (i := 35) rfl)) rfl
set_option maxRecDepth 20000 in
theorem w_757 : (Jvm.Cond.lays "MeshLinesModel" "MeshLinesModel" "bufferCount" "[I") ∈ evW := evWi (tj_4 _ (List.mem_of_getElem? (i := 37) rfl)) rfl
set_option maxRecDepth 20000 in
theorem w_759 : (Jvm.Cond.lays "MeshLinesModel" "MeshLinesModel" "holder" "[I") ∈ evW := evWi (tj_4 _ (List.mem_of_getElem? (i := 39) rfl)) rfl
set_option maxRecDepth 20000 in
theorem w_761 : (Jvm.Cond.lays "MeshLinesModel" "MeshLinesModel" "lastPort" "[I") ∈ evW := evWi (tj_4 _ (List.mem_of_getElem? (i := 41) rfl)) rfl
set_option maxRecDepth 20000 in
theorem w_763 : (Jvm.Cond.lays "MeshLinesModel" "MeshLinesModel" "state" "[I") ∈ evW := evWi (tj_4 _ (List.mem_of_getElem? (i := 43) rfl)) rfl
set_option maxRecDepth 20000 in
theorem w_765 : (Jvm.Cond.lays "MeshLinesModel" "MeshLinesModel" "copy" "[I") ∈ evW := evWi (tj_4 _ (List.mem_of_getElem? (i := 45) rfl)) rfl
set_option maxRecDepth 20000 in
theorem w_767 : (Jvm.Cond.lays "MeshLinesModel" "MeshLinesModel" "needs" "[I") ∈ evW := evWi (tj_4 _ (List.mem_of_getElem? (i := 47) rfl)) rfl
set_option maxRecDepth 20000 in
theorem w_769 : (Jvm.Cond.lays "MeshLinesModel" "MeshLinesModel" "usedAt" "[I") ∈ evW := evWi (tj_4 _ (List.mem_of_getElem? (i := 49) rfl)) rfl
set_option maxRecDepth 20000 in
theorem w_771 : (Jvm.Cond.lays "MeshLinesModel" "MeshLinesModel" "homeState" "[I") ∈ evW := evWi (tj_4 _ (List.mem_of_getElem? (i := 51) rfl)) rfl
set_option maxRecDepth 20000 in
theorem w_773 : (Jvm.Cond.lays "MeshLinesModel" "MeshLinesModel" "memory" "[I") ∈ evW := evWi (tj_4 _ (List.mem_of_getElem? (i := 53) rfl)) rfl
set_option maxRecDepth 20000 in
theorem w_775 : (Jvm.Cond.lays "MeshLinesModel" "MeshLinesModel" "owner" "[I") ∈ evW := evWi (tj_4 _ (List.mem_of_getElem? (i := 55) rfl)) rfl
set_option maxRecDepth 20000 in
theorem w_777 : (Jvm.Cond.lays "MeshLinesModel" "MeshLinesModel" "sharers" "[I") ∈ evW := evWi (tj_4 _ (List.mem_of_getElem? (i := 57) rfl)) rfl
set_option maxRecDepth 20000 in
theorem w_779 : (Jvm.Cond.lays "MeshLinesModel" "MeshLinesModel" "opKind" "[I") ∈ evW := evWi (tj_4 _ (List.mem_of_getElem? (i := 59) rfl)) rfl
set_option maxRecDepth 20000 in
theorem w_781 : (Jvm.Cond.lays "MeshLinesModel" "MeshLinesModel" "opLine" "[I") ∈ evW := evWi (tj_4 _ (List.mem_of_getElem? (i := 61) rfl)) rfl
set_option maxRecDepth 20000 in
theorem w_783 : (Jvm.Cond.lays "MeshLinesModel" "MeshLinesModel" "opValue" "[I") ∈ evW := evWi (tj_4 _ (List.mem_of_getElem? (i := 63) rfl)) rfl
set_option maxRecDepth 20000 in
theorem w_785 : (Jvm.Cond.lays "MeshLinesModel" "MeshLinesModel" "opDelay" "[I") ∈ evW := evWi (tj_4 _ (List.mem_of_getElem? (i := 65) rfl)) rfl
set_option maxRecDepth 20000 in
theorem w_787 : (Jvm.Cond.lays "MeshLinesModel" "MeshLinesModel" "results" "[I") ∈ evW := evWi (tj_4 _ (List.mem_of_getElem? (i := 67) rfl)) rfl
set_option maxRecDepth 20000 in
theorem w_789 : (Jvm.Cond.lays "MeshLinesModel" "MeshLinesModel" "operations" "[I") ∈ evW := evWi (tj_4 _ (List.mem_of_getElem? (i := 69) rfl)) rfl
set_option maxRecDepth 20000 in
theorem w_791 : (Jvm.Cond.lays "MeshLinesModel" "MeshLinesModel" "doneCount" "[I") ∈ evW := evWi (tj_4 _ (List.mem_of_getElem? (i := 71) rfl)) rfl
set_option maxRecDepth 20000 in
theorem w_793 : (Jvm.Cond.lays "MeshLinesModel" "MeshLinesModel" "rests" "[Z") ∈ evW := evWi (tj_4 _ (List.mem_of_getElem? (i := 73) rfl)) rfl
set_option maxRecDepth 20000 in
theorem w_795 : (Jvm.Cond.lays "MeshLinesModel" "MeshLinesModel" "sent" "I") ∈ evW := evWi (tj_4 _ (List.mem_of_getElem? (i := 75) rfl)) rfl
set_option maxRecDepth 20000 in
theorem w_797 : (Jvm.Cond.lays "MeshLinesModel" "MeshLinesModel" "arrived" "I") ∈ evW := evWi (tj_4 _ (List.mem_of_getElem? (i := 77) rfl)) rfl
set_option maxRecDepth 20000 in
theorem w_799 : (Jvm.Cond.lays "MeshLinesModel" "MeshLinesModel" "crossed" "I") ∈ evW := evWi (tj_4 _ (List.mem_of_getElem? (i := 79) rfl)) rfl
set_option maxRecDepth 20000 in
theorem w_802 : (Jvm.Cond.arrayClass Jvm.ClassFile.FieldType.boolean) ∈ evW := evWi (tj_4 _ (List.mem_of_getElem? (i := 82) rfl)) rfl
set_option maxRecDepth 20000 in
theorem w_803 : (Jvm.Cond.methodLink "MeshLinesLaw" (25 : Nat) ({ cls := "MeshLinesModel", name := "operation", desc := "(IIIII)I" } : Jvm.MethodName)) ∈ evW := evWi (tj_4 _ (List.mem_of_getElem? (i := 83) rfl)) rfl
set_option maxRecDepth 20000 in
theorem w_804 : (Jvm.Cond.instanceMethod ({ cls := "MeshLinesModel", name := "operation", desc := "(IIIII)I" } : Jvm.MethodName)) ∈ evW := evWi (tj_4 _ (List.mem_of_getElem? (i := 84) rfl)) rfl
set_option maxRecDepth 20000 in
theorem w_805 : (Jvm.Cond.selects "MeshLinesModel" ({ cls := "MeshLinesModel", name := "operation", desc := "(IIIII)I" } : Jvm.MethodName) ({ cls := "MeshLinesModel", name := "operation", desc := "(IIIII)I" } : Jvm.MethodName)) ∈ evW := evWi (tj_4 _ (List.mem_of_getElem? (i := 85) rfl)) rfl
set_option maxRecDepth 20000 in
theorem w_806 : (Jvm.Cond.code ({ cls := "MeshLinesModel", name := "operation", desc := "(IIIII)I" } : Jvm.MethodName) prog_12_method_32_code (7 : Nat) (Option.some Jvm.ClassFile.FieldType.int)) ∈ evW := evWi (tj_4 _ (List.mem_of_getElem? (i := 86) rfl)) rfl
set_option maxRecDepth 20000 in
theorem w_807 : (Jvm.Cond.methodLink "MeshLinesModel" (227 : Nat) ({ cls := "MeshLinesModel", name := "isNode", desc := "(I)Z" } : Jvm.MethodName)) ∈ evW := evWi (tj_4 _ (List.mem_of_getElem? (i := 87) rfl)) rfl
set_option maxRecDepth 20000 in
theorem w_808 : (Jvm.Cond.static ({ cls := "MeshLinesModel", name := "isNode", desc := "(I)Z" } : Jvm.MethodName)) ∈ evW := evWi (tj_4 _ (List.mem_of_getElem? (i := 88) rfl)) rfl
set_option maxRecDepth 20000 in
theorem w_809 : (Jvm.Cond.code ({ cls := "MeshLinesModel", name := "isNode", desc := "(I)Z" } : Jvm.MethodName) prog_12_method_2_code (1 : Nat) (Option.some Jvm.ClassFile.FieldType.boolean)) ∈ evW := evWi (tj_4 _ (List.mem_of_getElem? (i := 89) rfl)) rfl
set_option maxRecDepth 20000 in
theorem w_810 : (Jvm.Cond.methodLink "MeshLinesModel" (230 : Nat) ({ cls := "MeshLinesModel", name := "isLine", desc := "(I)Z" } : Jvm.MethodName)) ∈ evW := evWi (tj_4 _ (List.mem_of_getElem? (i := 90) rfl)) rfl
set_option maxRecDepth 20000 in
theorem w_811 : (Jvm.Cond.static ({ cls := "MeshLinesModel", name := "isLine", desc := "(I)Z" } : Jvm.MethodName)) ∈ evW := evWi (tj_4 _ (List.mem_of_getElem? (i := 91) rfl)) rfl
set_option maxRecDepth 20000 in
theorem w_812 : (Jvm.Cond.code ({ cls := "MeshLinesModel", name := "isLine", desc := "(I)Z" } : Jvm.MethodName) prog_12_method_3_code (1 : Nat) (Option.some Jvm.ClassFile.FieldType.boolean)) ∈ evW := evWi (tj_4 _ (List.mem_of_getElem? (i := 92) rfl)) rfl
set_option maxRecDepth 20000 in
theorem w_813 : (Jvm.Cond.methodLink "MeshLinesLaw" (30 : Nat) ({ cls := "MeshLinesModel", name := "run", desc := "(I)I" } : Jvm.MethodName)) ∈ evW := evWi (tj_4 _ (List.mem_of_getElem? (i := 93) rfl)) rfl
set_option maxRecDepth 20000 in
theorem w_814 : (Jvm.Cond.instanceMethod ({ cls := "MeshLinesModel", name := "run", desc := "(I)I" } : Jvm.MethodName)) ∈ evW := evWi (tj_4 _ (List.mem_of_getElem? (i := 94) rfl)) rfl
set_option maxRecDepth 20000 in
theorem w_815 : (Jvm.Cond.selects "MeshLinesModel" ({ cls := "MeshLinesModel", name := "run", desc := "(I)I" } : Jvm.MethodName) ({ cls := "MeshLinesModel", name := "run", desc := "(I)I" } : Jvm.MethodName)) ∈ evW := evWi (tj_4 _ (List.mem_of_getElem? (i := 95) rfl)) rfl
set_option maxRecDepth 20000 in
theorem w_816 : (Jvm.Cond.code ({ cls := "MeshLinesModel", name := "run", desc := "(I)I" } : Jvm.MethodName) prog_12_method_33_code (3 : Nat) (Option.some Jvm.ClassFile.FieldType.int)) ∈ evW := evWi (tj_4 _ (List.mem_of_getElem? (i := 96) rfl)) rfl
set_option maxRecDepth 20000 in
theorem w_817 : (Jvm.Cond.methodLink "MeshLinesModel" (233 : Nat) ({ cls := "MeshLinesModel", name := "oneCycle", desc := "()V" } : Jvm.MethodName)) ∈ evW := evWi (tj_4 _ (List.mem_of_getElem? (i := 97) rfl)) rfl
set_option maxRecDepth 20000 in
theorem w_819 : (Jvm.Cond.instanceMethod ({ cls := "MeshLinesModel", name := "oneCycle", desc := "()V" } : Jvm.MethodName)) ∈ evW := evWi (tj_4 _ (List.mem_of_getElem? (i := 99) rfl)) rfl
set_option maxRecDepth 20000 in
theorem w_820 : (Jvm.Cond.code ({ cls := "MeshLinesModel", name := "oneCycle", desc := "()V" } : Jvm.MethodName) prog_12_method_31_code (5 : Nat) (Option.none : Option Jvm.ClassFile.FieldType)) ∈ evW := evWi (tj_4 _ (List.mem_of_getElem? (i := 100) rfl)) rfl
set_option maxRecDepth 20000 in
theorem w_821 : (Jvm.Cond.methodLink "MeshLinesModel" (215 : Nat) ({ cls := "MeshLinesModel", name := "inject", desc := "(II)V" } : Jvm.MethodName)) ∈ evW := evWi (tj_4 _ (List.mem_of_getElem? (i := 101) rfl)) rfl
set_option maxRecDepth 20000 in
theorem w_823 : (Jvm.Cond.instanceMethod ({ cls := "MeshLinesModel", name := "inject", desc := "(II)V" } : Jvm.MethodName)) ∈ evW := evWi (tj_4 _ (List.mem_of_getElem? (i := 103) rfl)) rfl
set_option maxRecDepth 20000 in
theorem w_824 : (Jvm.Cond.code ({ cls := "MeshLinesModel", name := "inject", desc := "(II)V" } : Jvm.MethodName) prog_12_method_11_code (7 : Nat) (Option.none : Option Jvm.ClassFile.FieldType)) ∈ evW := evWi (tj_4 _ (List.mem_of_getElem? (i := 104) rfl)) rfl
set_option maxRecDepth 20000 in
theorem w_825 : (Jvm.Cond.methodLink "MeshLinesModel" (133 : Nat) ({ cls := "MeshLinesModel", name := "append", desc := "(III)V" } : Jvm.MethodName)) ∈ evW := evWi (tj_4 _ (List.mem_of_getElem? (i := 105) rfl)) rfl
set_option maxRecDepth 20000 in
theorem w_827 : (Jvm.Cond.instanceMethod ({ cls := "MeshLinesModel", name := "append", desc := "(III)V" } : Jvm.MethodName)) ∈ evW := evWi (tj_4 _ (List.mem_of_getElem? (i := 107) rfl)) rfl
set_option maxRecDepth 20000 in
theorem w_828 : (Jvm.Cond.code ({ cls := "MeshLinesModel", name := "append", desc := "(III)V" } : Jvm.MethodName) prog_12_method_9_code (5 : Nat) (Option.none : Option Jvm.ClassFile.FieldType)) ∈ evW := evWi (tj_4 _ (List.mem_of_getElem? (i := 108) rfl)) rfl
set_option maxRecDepth 20000 in
theorem w_829 : (Jvm.Cond.methodLink "MeshLinesModel" (137 : Nat) ({ cls := "MeshLinesModel", name := "sizeOf", desc := "(I)I" } : Jvm.MethodName)) ∈ evW := evWi (tj_4 _ (List.mem_of_getElem? (i := 109) rfl)) rfl
set_option maxRecDepth 20000 in
theorem w_831 : (Jvm.Cond.instanceMethod ({ cls := "MeshLinesModel", name := "sizeOf", desc := "(I)I" } : Jvm.MethodName)) ∈ evW := evWi (tj_4 _ (List.mem_of_getElem? (i := 111) rfl)) rfl
set_option maxRecDepth 20000 in
theorem w_832 : (Jvm.Cond.code ({ cls := "MeshLinesModel", name := "sizeOf", desc := "(I)I" } : Jvm.MethodName) prog_12_method_5_code (2 : Nat) (Option.some Jvm.ClassFile.FieldType.int)) ∈ evW := evWi (tj_4 _ (List.mem_of_getElem? (i := 112) rfl)) rfl
set_option maxRecDepth 20000 in
theorem w_833 : (Jvm.Cond.methodLink "MeshLinesModel" (218 : Nat) ({ cls := "MeshLinesModel", name := "moves", desc := "(III)Z" } : Jvm.MethodName)) ∈ evW := evWi (tj_4 _ (List.mem_of_getElem? (i := 113) rfl)) rfl
set_option maxRecDepth 20000 in
theorem w_835 : (Jvm.Cond.instanceMethod ({ cls := "MeshLinesModel", name := "moves", desc := "(III)Z" } : Jvm.MethodName)) ∈ evW := evWi (tj_4 _ (List.mem_of_getElem? (i := 115) rfl)) rfl
set_option maxRecDepth 20000 in
theorem w_836 : (Jvm.Cond.code ({ cls := "MeshLinesModel", name := "moves", desc := "(III)Z" } : Jvm.MethodName) prog_12_method_13_code (14 : Nat) (Option.some Jvm.ClassFile.FieldType.boolean)) ∈ evW := evWi (tj_4 _ (List.mem_of_getElem? (i := 116) rfl)) rfl
set_option maxRecDepth 20000 in
theorem w_837 : (Jvm.Cond.methodLink "MeshLinesModel" (144 : Nat) ({ cls := "MeshLinesModel", name := "served", desc := "(III)I" } : Jvm.MethodName)) ∈ evW := evWi (tj_4 _ (List.mem_of_getElem? (i := 117) rfl)) rfl
set_option maxRecDepth 20000 in
theorem w_839 : (Jvm.Cond.instanceMethod ({ cls := "MeshLinesModel", name := "served", desc := "(III)I" } : Jvm.MethodName)) ∈ evW := evWi (tj_4 _ (List.mem_of_getElem? (i := 119) rfl)) rfl
set_option maxRecDepth 20000 in
theorem w_840 : (Jvm.Cond.code ({ cls := "MeshLinesModel", name := "served", desc := "(III)I" } : Jvm.MethodName) prog_12_method_12_code (9 : Nat) (Option.some Jvm.ClassFile.FieldType.int)) ∈ evW := evWi (tj_4 _ (List.mem_of_getElem? (i := 120) rfl)) rfl
set_option maxRecDepth 20000 in
theorem w_841 : (Jvm.Cond.methodLink "MeshLinesModel" (140 : Nat) ({ cls := "MeshLinesModel", name := "way", desc := "(II)I" } : Jvm.MethodName)) ∈ evW := evWi (tj_4 _ (List.mem_of_getElem? (i := 121) rfl)) rfl
set_option maxRecDepth 20000 in
theorem w_842 : (Jvm.Cond.static ({ cls := "MeshLinesModel", name := "way", desc := "(II)I" } : Jvm.MethodName)) ∈ evW := evWi (tj_4 _ (List.mem_of_getElem? (i := 122) rfl)) rfl
set_option maxRecDepth 20000 in
theorem w_843 : (Jvm.Cond.code ({ cls := "MeshLinesModel", name := "way", desc := "(II)I" } : Jvm.MethodName) prog_12_method_7_code (4 : Nat) (Option.some Jvm.ClassFile.FieldType.int)) ∈ evW := evWi (tj_4 _ (List.mem_of_getElem? (i := 123) rfl)) rfl
set_option maxRecDepth 20000 in
theorem w_844 : (Jvm.Cond.methodLink "MeshLinesModel" (148 : Nat) ({ cls := "MeshLinesModel", name := "neighbour", desc := "(II)I" } : Jvm.MethodName)) ∈ evW := evWi (tj_4 _ (List.mem_of_getElem? (i := 124) rfl)) rfl
set_option maxRecDepth 20000 in
theorem w_845 : (Jvm.Cond.static ({ cls := "MeshLinesModel", name := "neighbour", desc := "(II)I" } : Jvm.MethodName)) ∈ evW := evWi (tj_4 _ (List.mem_of_getElem? (i := 125) rfl)) rfl
set_option maxRecDepth 20000 in
theorem w_846 : (Jvm.Cond.code ({ cls := "MeshLinesModel", name := "neighbour", desc := "(II)I" } : Jvm.MethodName) prog_12_method_8_code (2 : Nat) (Option.some Jvm.ClassFile.FieldType.int)) ∈ evW := evWi (tj_4 _ (List.mem_of_getElem? (i := 126) rfl)) rfl
set_option maxRecDepth 20000 in
theorem w_847 : (Jvm.Cond.methodLink "MeshLinesModel" (151 : Nat) ({ cls := "MeshLinesModel", name := "removeFront", desc := "(I)V" } : Jvm.MethodName)) ∈ evW := evWi (tj_4 _ (List.mem_of_getElem? (i := 127) rfl)) rfl
set_option maxRecDepth 20000 in
theorem w_849 : (Jvm.Cond.instanceMethod ({ cls := "MeshLinesModel", name := "removeFront", desc := "(I)V" } : Jvm.MethodName)) ∈ evW := evWi (tj_4 _ (List.mem_of_getElem? (i := 129) rfl)) rfl
set_option maxRecDepth 20000 in
theorem w_850 : (Jvm.Cond.code ({ cls := "MeshLinesModel", name := "removeFront", desc := "(I)V" } : Jvm.MethodName) prog_12_method_10_code (3 : Nat) (Option.none : Option Jvm.ClassFile.FieldType)) ∈ evW := evWi (tj_4 _ (List.mem_of_getElem? (i := 130) rfl)) rfl
set_option maxRecDepth 20000 in
theorem w_851 : (Jvm.Cond.methodLink "MeshLinesModel" (221 : Nat) ({ cls := "MeshLinesModel", name := "takeFirst", desc := "(II)V" } : Jvm.MethodName)) ∈ evW := evWi (tj_4 _ (List.mem_of_getElem? (i := 131) rfl)) rfl
set_option maxRecDepth 20000 in
theorem w_853 : (Jvm.Cond.instanceMethod ({ cls := "MeshLinesModel", name := "takeFirst", desc := "(II)V" } : Jvm.MethodName)) ∈ evW := evWi (tj_4 _ (List.mem_of_getElem? (i := 133) rfl)) rfl
set_option maxRecDepth 20000 in
theorem w_854 : (Jvm.Cond.code ({ cls := "MeshLinesModel", name := "takeFirst", desc := "(II)V" } : Jvm.MethodName) prog_12_method_27_code (6 : Nat) (Option.none : Option Jvm.ClassFile.FieldType)) ∈ evW := evWi (tj_4 _ (List.mem_of_getElem? (i := 134) rfl)) rfl
set_option maxRecDepth 20000 in
theorem w_855 : (Jvm.Cond.methodLink "MeshLinesModel" (202 : Nat) ({ cls := "MeshLinesModel", name := "isBehind", desc := "(II)Z" } : Jvm.MethodName)) ∈ evW := evWi (tj_4 _ (List.mem_of_getElem? (i := 135) rfl)) rfl
set_option maxRecDepth 20000 in
theorem w_857 : (Jvm.Cond.instanceMethod ({ cls := "MeshLinesModel", name := "isBehind", desc := "(II)Z" } : Jvm.MethodName)) ∈ evW := evWi (tj_4 _ (List.mem_of_getElem? (i := 137) rfl)) rfl
set_option maxRecDepth 20000 in
theorem w_858 : (Jvm.Cond.code ({ cls := "MeshLinesModel", name := "isBehind", desc := "(II)Z" } : Jvm.MethodName) prog_12_method_26_code (5 : Nat) (Option.some Jvm.ClassFile.FieldType.boolean)) ∈ evW := evWi (tj_4 _ (List.mem_of_getElem? (i := 138) rfl)) rfl
set_option maxRecDepth 20000 in
theorem w_859 : (Jvm.Cond.methodLink "MeshLinesModel" (205 : Nat) ({ cls := "MeshLinesModel", name := "takes", desc := "(II)Z" } : Jvm.MethodName)) ∈ evW := evWi (tj_4 _ (List.mem_of_getElem? (i := 139) rfl)) rfl
set_option maxRecDepth 20000 in
theorem w_861 : (Jvm.Cond.instanceMethod ({ cls := "MeshLinesModel", name := "takes", desc := "(II)Z" } : Jvm.MethodName)) ∈ evW := evWi (tj_4 _ (List.mem_of_getElem? (i := 141) rfl)) rfl
set_option maxRecDepth 20000 in
theorem w_862 : (Jvm.Cond.code ({ cls := "MeshLinesModel", name := "takes", desc := "(II)Z" } : Jvm.MethodName) prog_12_method_25_code (5 : Nat) (Option.some Jvm.ClassFile.FieldType.boolean)) ∈ evW := evWi (tj_4 _ (List.mem_of_getElem? (i := 142) rfl)) rfl
set_option maxRecDepth 20000 in
theorem w_863 : (Jvm.Cond.methodLink "MeshLinesModel" (178 : Nat) ({ cls := "MeshLinesModel", name := "gets", desc := "(III)Z" } : Jvm.MethodName)) ∈ evW := evWi (tj_4 _ (List.mem_of_getElem? (i := 143) rfl)) rfl
set_option maxRecDepth 20000 in
theorem w_865 : (Jvm.Cond.instanceMethod ({ cls := "MeshLinesModel", name := "gets", desc := "(III)Z" } : Jvm.MethodName)) ∈ evW := evWi (tj_4 _ (List.mem_of_getElem? (i := 145) rfl)) rfl
set_option maxRecDepth 20000 in
theorem w_866 : (Jvm.Cond.code ({ cls := "MeshLinesModel", name := "gets", desc := "(III)Z" } : Jvm.MethodName) prog_12_method_22_code (4 : Nat) (Option.some Jvm.ClassFile.FieldType.boolean)) ∈ evW := evWi (tj_4 _ (List.mem_of_getElem? (i := 146) rfl)) rfl
set_option maxRecDepth 20000 in
theorem w_867 : (Jvm.Cond.methodLink "MeshLinesModel" (165 : Nat) ({ cls := "MeshLinesModel", name := "send", desc := "(IIIIIII)V" } : Jvm.MethodName)) ∈ evW := evWi (tj_4 _ (List.mem_of_getElem? (i := 147) rfl)) rfl
set_option maxRecDepth 20000 in
theorem w_869 : (Jvm.Cond.instanceMethod ({ cls := "MeshLinesModel", name := "send", desc := "(IIIIIII)V" } : Jvm.MethodName)) ∈ evW := evWi (tj_4 _ (List.mem_of_getElem? (i := 149) rfl)) rfl
set_option maxRecDepth 20000 in
theorem w_870 : (Jvm.Cond.code ({ cls := "MeshLinesModel", name := "send", desc := "(IIIIIII)V" } : Jvm.MethodName) prog_12_method_6_code (10 : Nat) (Option.none : Option Jvm.ClassFile.FieldType)) ∈ evW := evWi (tj_4 _ (List.mem_of_getElem? (i := 150) rfl)) rfl
set_option maxRecDepth 20000 in
theorem w_871 : (Jvm.Cond.methodLink "MeshLinesModel" (123 : Nat) ({ cls := "MeshLinesModel", name := "channelOf", desc := "(I)I" } : Jvm.MethodName)) ∈ evW := evWi (tj_4 _ (List.mem_of_getElem? (i := 151) rfl)) rfl
set_option maxRecDepth 20000 in
theorem w_872 : (Jvm.Cond.static ({ cls := "MeshLinesModel", name := "channelOf", desc := "(I)I" } : Jvm.MethodName)) ∈ evW := evWi (tj_4 _ (List.mem_of_getElem? (i := 152) rfl)) rfl
set_option maxRecDepth 20000 in
theorem w_873 : (Jvm.Cond.code ({ cls := "MeshLinesModel", name := "channelOf", desc := "(I)I" } : Jvm.MethodName) prog_12_method_4_code (1 : Nat) (Option.some Jvm.ClassFile.FieldType.int)) ∈ evW := evWi (tj_4 _ (List.mem_of_getElem? (i := 153) rfl)) rfl
set_option maxRecDepth 20000 in
theorem w_874 : (Jvm.Cond.methodLink "MeshLinesModel" (182 : Nat) ({ cls := "MeshLinesModel", name := "getm", desc := "(III)Z" } : Jvm.MethodName)) ∈ evW := evWi (tj_4 _ (List.mem_of_getElem? (i := 154) rfl)) rfl
set_option maxRecDepth 20000 in
theorem w_876 : (Jvm.Cond.instanceMethod ({ cls := "MeshLinesModel", name := "getm", desc := "(III)Z" } : Jvm.MethodName)) ∈ evW := evWi (tj_4 _ (List.mem_of_getElem? (i := 156) rfl)) rfl
set_option maxRecDepth 20000 in
theorem w_877 : (Jvm.Cond.code ({ cls := "MeshLinesModel", name := "getm", desc := "(III)Z" } : Jvm.MethodName) prog_12_method_23_code (7 : Nat) (Option.some Jvm.ClassFile.FieldType.boolean)) ∈ evW := evWi (tj_4 _ (List.mem_of_getElem? (i := 157) rfl)) rfl
set_option maxRecDepth 20000 in
theorem w_878 : (Jvm.Cond.methodLink "MeshLinesModel" (175 : Nat) ({ cls := "MeshLinesModel", name := "gone", desc := "(II)V" } : Jvm.MethodName)) ∈ evW := evWi (tj_4 _ (List.mem_of_getElem? (i := 158) rfl)) rfl
set_option maxRecDepth 20000 in
theorem w_880 : (Jvm.Cond.instanceMethod ({ cls := "MeshLinesModel", name := "gone", desc := "(II)V" } : Jvm.MethodName)) ∈ evW := evWi (tj_4 _ (List.mem_of_getElem? (i := 160) rfl)) rfl
set_option maxRecDepth 20000 in
theorem w_881 : (Jvm.Cond.code ({ cls := "MeshLinesModel", name := "gone", desc := "(II)V" } : Jvm.MethodName) prog_12_method_21_code (3 : Nat) (Option.none : Option Jvm.ClassFile.FieldType)) ∈ evW := evWi (tj_4 _ (List.mem_of_getElem? (i := 161) rfl)) rfl
set_option maxRecDepth 20000 in
theorem w_882 : (Jvm.Cond.methodLink "MeshLinesModel" (185 : Nat) ({ cls := "MeshLinesModel", name := "putm", desc := "(III)V" } : Jvm.MethodName)) ∈ evW := evWi (tj_4 _ (List.mem_of_getElem? (i := 162) rfl)) rfl
set_option maxRecDepth 20000 in
theorem w_884 : (Jvm.Cond.instanceMethod ({ cls := "MeshLinesModel", name := "putm", desc := "(III)V" } : Jvm.MethodName)) ∈ evW := evWi (tj_4 _ (List.mem_of_getElem? (i := 164) rfl)) rfl
set_option maxRecDepth 20000 in
theorem w_885 : (Jvm.Cond.code ({ cls := "MeshLinesModel", name := "putm", desc := "(III)V" } : Jvm.MethodName) prog_12_method_24_code (4 : Nat) (Option.none : Option Jvm.ClassFile.FieldType)) ∈ evW := evWi (tj_4 _ (List.mem_of_getElem? (i := 165) rfl)) rfl
set_option maxRecDepth 20000 in
theorem w_886 : (Jvm.Cond.methodLink "MeshLinesModel" (188 : Nat) ({ cls := "MeshLinesModel", name := "forward", desc := "(IIZ)Z" } : Jvm.MethodName)) ∈ evW := evWi (tj_4 _ (List.mem_of_getElem? (i := 166) rfl)) rfl
set_option maxRecDepth 20000 in
theorem w_888 : (Jvm.Cond.instanceMethod ({ cls := "MeshLinesModel", name := "forward", desc := "(IIZ)Z" } : Jvm.MethodName)) ∈ evW := evWi (tj_4 _ (List.mem_of_getElem? (i := 168) rfl)) rfl
set_option maxRecDepth 20000 in
theorem w_889 : (Jvm.Cond.code ({ cls := "MeshLinesModel", name := "forward", desc := "(IIZ)Z" } : Jvm.MethodName) prog_12_method_18_code (7 : Nat) (Option.some Jvm.ClassFile.FieldType.boolean)) ∈ evW := evWi (tj_4 _ (List.mem_of_getElem? (i := 169) rfl)) rfl
set_option maxRecDepth 20000 in
theorem w_890 : (Jvm.Cond.methodLink "MeshLinesModel" (169 : Nat) ({ cls := "MeshLinesModel", name := "homeOf", desc := "(I)I" } : Jvm.MethodName)) ∈ evW := evWi (tj_4 _ (List.mem_of_getElem? (i := 170) rfl)) rfl
set_option maxRecDepth 20000 in
theorem w_891 : (Jvm.Cond.static ({ cls := "MeshLinesModel", name := "homeOf", desc := "(I)I" } : Jvm.MethodName)) ∈ evW := evWi (tj_4 _ (List.mem_of_getElem? (i := 171) rfl)) rfl
set_option maxRecDepth 20000 in
theorem w_892 : (Jvm.Cond.code ({ cls := "MeshLinesModel", name := "homeOf", desc := "(I)I" } : Jvm.MethodName) prog_12_method_14_code (1 : Nat) (Option.some Jvm.ClassFile.FieldType.int)) ∈ evW := evWi (tj_4 _ (List.mem_of_getElem? (i := 172) rfl)) rfl
set_option maxRecDepth 20000 in
theorem w_893 : (Jvm.Cond.methodLink "MeshLinesModel" (192 : Nat) ({ cls := "MeshLinesModel", name := "invalidate", desc := "(II)Z" } : Jvm.MethodName)) ∈ evW := evWi (tj_4 _ (List.mem_of_getElem? (i := 173) rfl)) rfl
set_option maxRecDepth 20000 in
theorem w_895 : (Jvm.Cond.instanceMethod ({ cls := "MeshLinesModel", name := "invalidate", desc := "(II)Z" } : Jvm.MethodName)) ∈ evW := evWi (tj_4 _ (List.mem_of_getElem? (i := 175) rfl)) rfl
set_option maxRecDepth 20000 in
theorem w_896 : (Jvm.Cond.code ({ cls := "MeshLinesModel", name := "invalidate", desc := "(II)Z" } : Jvm.MethodName) prog_12_method_17_code (6 : Nat) (Option.some Jvm.ClassFile.FieldType.boolean)) ∈ evW := evWi (tj_4 _ (List.mem_of_getElem? (i := 176) rfl)) rfl
set_option maxRecDepth 20000 in
theorem w_897 : (Jvm.Cond.methodLink "MeshLinesModel" (196 : Nat) ({ cls := "MeshLinesModel", name := "data", desc := "(II)V" } : Jvm.MethodName)) ∈ evW := evWi (tj_4 _ (List.mem_of_getElem? (i := 177) rfl)) rfl
set_option maxRecDepth 20000 in
theorem w_899 : (Jvm.Cond.instanceMethod ({ cls := "MeshLinesModel", name := "data", desc := "(II)V" } : Jvm.MethodName)) ∈ evW := evWi (tj_4 _ (List.mem_of_getElem? (i := 179) rfl)) rfl
set_option maxRecDepth 20000 in
theorem w_900 : (Jvm.Cond.code ({ cls := "MeshLinesModel", name := "data", desc := "(II)V" } : Jvm.MethodName) prog_12_method_19_code (6 : Nat) (Option.none : Option Jvm.ClassFile.FieldType)) ∈ evW := evWi (tj_4 _ (List.mem_of_getElem? (i := 180) rfl)) rfl
set_option maxRecDepth 20000 in
theorem w_901 : (Jvm.Cond.methodLink "MeshLinesModel" (172 : Nat) ({ cls := "MeshLinesModel", name := "become", desc := "(III)V" } : Jvm.MethodName)) ∈ evW := evWi (tj_4 _ (List.mem_of_getElem? (i := 181) rfl)) rfl
set_option maxRecDepth 20000 in
theorem w_903 : (Jvm.Cond.instanceMethod ({ cls := "MeshLinesModel", name := "become", desc := "(III)V" } : Jvm.MethodName)) ∈ evW := evWi (tj_4 _ (List.mem_of_getElem? (i := 183) rfl)) rfl
set_option maxRecDepth 20000 in
theorem w_904 : (Jvm.Cond.code ({ cls := "MeshLinesModel", name := "become", desc := "(III)V" } : Jvm.MethodName) prog_12_method_16_code (4 : Nat) (Option.none : Option Jvm.ClassFile.FieldType)) ∈ evW := evWi (tj_4 _ (List.mem_of_getElem? (i := 184) rfl)) rfl
set_option maxRecDepth 20000 in
theorem w_905 : (Jvm.Cond.methodLink "MeshLinesModel" (161 : Nat) ({ cls := "MeshLinesModel", name := "finish", desc := "(II)V" } : Jvm.MethodName)) ∈ evW := evWi (tj_4 _ (List.mem_of_getElem? (i := 185) rfl)) rfl
set_option maxRecDepth 20000 in
theorem w_907 : (Jvm.Cond.instanceMethod ({ cls := "MeshLinesModel", name := "finish", desc := "(II)V" } : Jvm.MethodName)) ∈ evW := evWi (tj_4 _ (List.mem_of_getElem? (i := 187) rfl)) rfl
set_option maxRecDepth 20000 in
theorem w_908 : (Jvm.Cond.code ({ cls := "MeshLinesModel", name := "finish", desc := "(II)V" } : Jvm.MethodName) prog_12_method_15_code (5 : Nat) (Option.none : Option Jvm.ClassFile.FieldType)) ∈ evW := evWi (tj_4 _ (List.mem_of_getElem? (i := 188) rfl)) rfl
set_option maxRecDepth 20000 in
theorem w_909 : (Jvm.Cond.methodLink "MeshLinesModel" (199 : Nat) ({ cls := "MeshLinesModel", name := "acknowledged", desc := "(II)V" } : Jvm.MethodName)) ∈ evW := evWi (tj_4 _ (List.mem_of_getElem? (i := 189) rfl)) rfl
set_option maxRecDepth 20000 in
theorem w_911 : (Jvm.Cond.instanceMethod ({ cls := "MeshLinesModel", name := "acknowledged", desc := "(II)V" } : Jvm.MethodName)) ∈ evW := evWi (tj_4 _ (List.mem_of_getElem? (i := 191) rfl)) rfl
set_option maxRecDepth 20000 in
theorem w_912 : (Jvm.Cond.code ({ cls := "MeshLinesModel", name := "acknowledged", desc := "(II)V" } : Jvm.MethodName) prog_12_method_20_code (5 : Nat) (Option.none : Option Jvm.ClassFile.FieldType)) ∈ evW := evWi (tj_4 _ (List.mem_of_getElem? (i := 192) rfl)) rfl
set_option maxRecDepth 20000 in
theorem w_913 : (Jvm.Cond.methodLink "MeshLinesModel" (224 : Nat) ({ cls := "MeshLinesModel", name := "core", desc := "(I)V" } : Jvm.MethodName)) ∈ evW := evWi (tj_4 _ (List.mem_of_getElem? (i := 193) rfl)) rfl
set_option maxRecDepth 20000 in
theorem w_915 : (Jvm.Cond.instanceMethod ({ cls := "MeshLinesModel", name := "core", desc := "(I)V" } : Jvm.MethodName)) ∈ evW := evWi (tj_4 _ (List.mem_of_getElem? (i := 195) rfl)) rfl
set_option maxRecDepth 20000 in
theorem w_916 : (Jvm.Cond.code ({ cls := "MeshLinesModel", name := "core", desc := "(I)V" } : Jvm.MethodName) prog_12_method_30_code (8 : Nat) (Option.none : Option Jvm.ClassFile.FieldType)) ∈ evW := evWi (tj_4 _ (List.mem_of_getElem? (i := 196) rfl)) rfl
set_option maxRecDepth 20000 in
theorem w_917 : (Jvm.Cond.methodLink "MeshLinesModel" (212 : Nat) ({ cls := "MeshLinesModel", name := "evict", desc := "(II)V" } : Jvm.MethodName)) ∈ evW := evWi (tj_4 _ (List.mem_of_getElem? (i := 197) rfl)) rfl
set_option maxRecDepth 20000 in
theorem w_919 : (Jvm.Cond.instanceMethod ({ cls := "MeshLinesModel", name := "evict", desc := "(II)V" } : Jvm.MethodName)) ∈ evW := evWi (tj_4 _ (List.mem_of_getElem? (i := 199) rfl)) rfl
set_option maxRecDepth 20000 in
theorem w_920 : (Jvm.Cond.code ({ cls := "MeshLinesModel", name := "evict", desc := "(II)V" } : Jvm.MethodName) prog_12_method_29_code (7 : Nat) (Option.none : Option Jvm.ClassFile.FieldType)) ∈ evW := evWi (tj_4 _ (List.mem_of_getElem? (i := 200) rfl)) rfl
set_option maxRecDepth 20000 in
theorem w_921 : (Jvm.Cond.methodLink "MeshLinesModel" (208 : Nat) ({ cls := "MeshLinesModel", name := "isLeaving", desc := "(I)Z" } : Jvm.MethodName)) ∈ evW := evWi (tj_4 _ (List.mem_of_getElem? (i := 201) rfl)) rfl
set_option maxRecDepth 20000 in
theorem w_922 : (Jvm.Cond.static ({ cls := "MeshLinesModel", name := "isLeaving", desc := "(I)Z" } : Jvm.MethodName)) ∈ evW := evWi (tj_4 _ (List.mem_of_getElem? (i := 202) rfl)) rfl
set_option maxRecDepth 20000 in
theorem w_923 : (Jvm.Cond.code ({ cls := "MeshLinesModel", name := "isLeaving", desc := "(I)Z" } : Jvm.MethodName) prog_12_method_28_code (1 : Nat) (Option.some Jvm.ClassFile.FieldType.boolean)) ∈ evW := evWi (tj_4 _ (List.mem_of_getElem? (i := 203) rfl)) rfl
set_option maxRecDepth 20000 in
theorem w_924 : (Jvm.Cond.methodLink "MeshLinesLaw" (35 : Nat) ({ cls := "MeshLinesModel", name := "result", desc := "(II)I" } : Jvm.MethodName)) ∈ evW := evWi (tj_4 _ (List.mem_of_getElem? (i := 204) rfl)) rfl
set_option maxRecDepth 20000 in
theorem w_925 : (Jvm.Cond.instanceMethod ({ cls := "MeshLinesModel", name := "result", desc := "(II)I" } : Jvm.MethodName)) ∈ evW := evWi (tj_4 _ (List.mem_of_getElem? (i := 205) rfl)) rfl
set_option maxRecDepth 20000 in
theorem w_926 : (Jvm.Cond.selects "MeshLinesModel" ({ cls := "MeshLinesModel", name := "result", desc := "(II)I" } : Jvm.MethodName) ({ cls := "MeshLinesModel", name := "result", desc := "(II)I" } : Jvm.MethodName)) ∈ evW := evWi (tj_4 _ (List.mem_of_getElem? (i := 206) rfl)) rfl
set_option maxRecDepth 20000 in
theorem w_927 : (Jvm.Cond.code ({ cls := "MeshLinesModel", name := "result", desc := "(II)I" } : Jvm.MethodName) prog_12_method_34_code (3 : Nat) (Option.some Jvm.ClassFile.FieldType.int)) ∈ evW := evWi (tj_4 _ (List.mem_of_getElem? (i := 207) rfl)) rfl
set_option maxRecDepth 20000 in
theorem w_928 : (Jvm.Cond.methodLink "MeshLinesLaw" (39 : Nat) ({ cls := "MeshLinesModel", name := "done", desc := "(I)I" } : Jvm.MethodName)) ∈ evW := evWi (tj_4 _ (List.mem_of_getElem? (i := 208) rfl)) rfl
set_option maxRecDepth 20000 in
theorem w_929 : (Jvm.Cond.instanceMethod ({ cls := "MeshLinesModel", name := "done", desc := "(I)I" } : Jvm.MethodName)) ∈ evW := evWi (tj_4 _ (List.mem_of_getElem? (i := 209) rfl)) rfl
set_option maxRecDepth 20000 in
theorem w_930 : (Jvm.Cond.selects "MeshLinesModel" ({ cls := "MeshLinesModel", name := "done", desc := "(I)I" } : Jvm.MethodName) ({ cls := "MeshLinesModel", name := "done", desc := "(I)I" } : Jvm.MethodName)) ∈ evW := evWi (tj_4 _ (List.mem_of_getElem? (i := 210) rfl)) rfl
set_option maxRecDepth 20000 in
theorem w_931 : (Jvm.Cond.code ({ cls := "MeshLinesModel", name := "done", desc := "(I)I" } : Jvm.MethodName) prog_12_method_35_code (2 : Nat) (Option.some Jvm.ClassFile.FieldType.int)) ∈ evW := evWi (tj_4 _ (List.mem_of_getElem? (i := 211) rfl)) rfl
set_option maxRecDepth 20000 in
theorem w_932 : (Jvm.Cond.methodLink "MeshLinesLaw" (44 : Nat) ({ cls := "MeshLinesModel", name := "cache", desc := "(III)I" } : Jvm.MethodName)) ∈ evW := evWi (tj_4 _ (List.mem_of_getElem? (i := 212) rfl)) rfl
set_option maxRecDepth 20000 in
theorem w_933 : (Jvm.Cond.instanceMethod ({ cls := "MeshLinesModel", name := "cache", desc := "(III)I" } : Jvm.MethodName)) ∈ evW := evWi (tj_4 _ (List.mem_of_getElem? (i := 213) rfl)) rfl
set_option maxRecDepth 20000 in
theorem w_934 : (Jvm.Cond.selects "MeshLinesModel" ({ cls := "MeshLinesModel", name := "cache", desc := "(III)I" } : Jvm.MethodName) ({ cls := "MeshLinesModel", name := "cache", desc := "(III)I" } : Jvm.MethodName)) ∈ evW := evWi (tj_4 _ (List.mem_of_getElem? (i := 214) rfl)) rfl
set_option maxRecDepth 20000 in
theorem w_935 : (Jvm.Cond.code ({ cls := "MeshLinesModel", name := "cache", desc := "(III)I" } : Jvm.MethodName) prog_12_method_36_code (5 : Nat) (Option.some Jvm.ClassFile.FieldType.int)) ∈ evW := evWi (tj_4 _ (List.mem_of_getElem? (i := 215) rfl)) rfl
set_option maxRecDepth 20000 in
theorem w_936 : (Jvm.Cond.methodLink "MeshLinesLaw" (48 : Nat) ({ cls := "MeshLinesModel", name := "home", desc := "(II)I" } : Jvm.MethodName)) ∈ evW := evWi (tj_4 _ (List.mem_of_getElem? (i := 216) rfl)) rfl
set_option maxRecDepth 20000 in
theorem w_937 : (Jvm.Cond.instanceMethod ({ cls := "MeshLinesModel", name := "home", desc := "(II)I" } : Jvm.MethodName)) ∈ evW := evWi (tj_4 _ (List.mem_of_getElem? (i := 217) rfl)) rfl
set_option maxRecDepth 20000 in
theorem w_938 : (Jvm.Cond.selects "MeshLinesModel" ({ cls := "MeshLinesModel", name := "home", desc := "(II)I" } : Jvm.MethodName) ({ cls := "MeshLinesModel", name := "home", desc := "(II)I" } : Jvm.MethodName)) ∈ evW := evWi (tj_4 _ (List.mem_of_getElem? (i := 218) rfl)) rfl
set_option maxRecDepth 20000 in
theorem w_939 : (Jvm.Cond.code ({ cls := "MeshLinesModel", name := "home", desc := "(II)I" } : Jvm.MethodName) prog_12_method_37_code (3 : Nat) (Option.some Jvm.ClassFile.FieldType.int)) ∈ evW := evWi (tj_4 _ (List.mem_of_getElem? (i := 219) rfl)) rfl
set_option maxRecDepth 20000 in
theorem w_940 : (Jvm.Cond.methodLink "MeshLinesLaw" (52 : Nat) ({ cls := "MeshLinesModel", name := "buffer", desc := "(III)I" } : Jvm.MethodName)) ∈ evW := evWi (tj_4 _ (List.mem_of_getElem? (i := 220) rfl)) rfl
set_option maxRecDepth 20000 in
theorem w_941 : (Jvm.Cond.instanceMethod ({ cls := "MeshLinesModel", name := "buffer", desc := "(III)I" } : Jvm.MethodName)) ∈ evW := evWi (tj_4 _ (List.mem_of_getElem? (i := 221) rfl)) rfl
set_option maxRecDepth 20000 in
theorem w_942 : (Jvm.Cond.selects "MeshLinesModel" ({ cls := "MeshLinesModel", name := "buffer", desc := "(III)I" } : Jvm.MethodName) ({ cls := "MeshLinesModel", name := "buffer", desc := "(III)I" } : Jvm.MethodName)) ∈ evW := evWi (tj_4 _ (List.mem_of_getElem? (i := 222) rfl)) rfl
set_option maxRecDepth 20000 in
theorem w_943 : (Jvm.Cond.code ({ cls := "MeshLinesModel", name := "buffer", desc := "(III)I" } : Jvm.MethodName) prog_12_method_38_code (4 : Nat) (Option.some Jvm.ClassFile.FieldType.int)) ∈ evW := evWi (tj_4 _ (List.mem_of_getElem? (i := 223) rfl)) rfl
set_option maxRecDepth 20000 in
theorem w_944 : (Jvm.Cond.methodLink "MeshLinesLaw" (56 : Nat) ({ cls := "MeshLinesModel", name := "held", desc := "(III)I" } : Jvm.MethodName)) ∈ evW := evWi (tj_4 _ (List.mem_of_getElem? (i := 224) rfl)) rfl
set_option maxRecDepth 20000 in
theorem w_945 : (Jvm.Cond.instanceMethod ({ cls := "MeshLinesModel", name := "held", desc := "(III)I" } : Jvm.MethodName)) ∈ evW := evWi (tj_4 _ (List.mem_of_getElem? (i := 225) rfl)) rfl
set_option maxRecDepth 20000 in
theorem w_946 : (Jvm.Cond.selects "MeshLinesModel" ({ cls := "MeshLinesModel", name := "held", desc := "(III)I" } : Jvm.MethodName) ({ cls := "MeshLinesModel", name := "held", desc := "(III)I" } : Jvm.MethodName)) ∈ evW := evWi (tj_4 _ (List.mem_of_getElem? (i := 226) rfl)) rfl
set_option maxRecDepth 20000 in
theorem w_947 : (Jvm.Cond.code ({ cls := "MeshLinesModel", name := "held", desc := "(III)I" } : Jvm.MethodName) prog_12_method_39_code (4 : Nat) (Option.some Jvm.ClassFile.FieldType.int)) ∈ evW := evWi (tj_4 _ (List.mem_of_getElem? (i := 227) rfl)) rfl
set_option maxRecDepth 20000 in
theorem w_948 : (Jvm.Cond.methodLink "MeshLinesLaw" (60 : Nat) ({ cls := "MeshLinesModel", name := "count", desc := "(I)I" } : Jvm.MethodName)) ∈ evW := evWi (tj_4 _ (List.mem_of_getElem? (i := 228) rfl)) rfl
set_option maxRecDepth 20000 in
theorem w_949 : (Jvm.Cond.instanceMethod ({ cls := "MeshLinesModel", name := "count", desc := "(I)I" } : Jvm.MethodName)) ∈ evW := evWi (tj_4 _ (List.mem_of_getElem? (i := 229) rfl)) rfl
set_option maxRecDepth 20000 in
theorem w_950 : (Jvm.Cond.selects "MeshLinesModel" ({ cls := "MeshLinesModel", name := "count", desc := "(I)I" } : Jvm.MethodName) ({ cls := "MeshLinesModel", name := "count", desc := "(I)I" } : Jvm.MethodName)) ∈ evW := evWi (tj_4 _ (List.mem_of_getElem? (i := 230) rfl)) rfl
set_option maxRecDepth 20000 in
theorem w_951 : (Jvm.Cond.code ({ cls := "MeshLinesModel", name := "count", desc := "(I)I" } : Jvm.MethodName) prog_12_method_40_code (2 : Nat) (Option.some Jvm.ClassFile.FieldType.int)) ∈ evW := evWi (tj_4 _ (List.mem_of_getElem? (i := 231) rfl)) rfl
set_option maxRecDepth 20000 in
theorem w_954 : (Jvm.Cond.selects "[Ljava/lang/Object;" ({ cls := "java/lang/Object", name := "getClass", desc := "()Ljava/lang/Class;" } : Jvm.MethodName) ({ cls := "java/lang/Object", name := "getClass", desc := "()Ljava/lang/Class;" } : Jvm.MethodName)) ∈ evW := evWi (tj_4 _ (List.mem_of_getElem? (i := 234) rfl)) rfl
