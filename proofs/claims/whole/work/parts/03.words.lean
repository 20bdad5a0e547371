def mtb : List Cond := lw_tbl.filter goodWord
theorem mtb_in {w : Cond} (k : Nat) (h : lw_tbl[k]? = some w) (hg : goodWord w = true) : w ∈ mtb := List.mem_filter.mpr ⟨List.mem_of_getElem? h, hg⟩
theorem ms_0 : Cond.selects "LaneSlices" ⟨"LaneSlices", "refuse", "(I)I"⟩ ⟨"LaneSlices", "refuse", "(I)I"⟩ ∈ mtb := mtb_in 0 (by decide +kernel) rfl
theorem ms_1 : Cond.selects "LaneSlices" ⟨"LaneSlices", "becomeSpare", "(II)I"⟩ ⟨"LaneSlices", "becomeSpare", "(II)I"⟩ ∈ mtb := mtb_in 1 (by decide +kernel) rfl
theorem ms_2 : Cond.selects "LaneSlices$Slices" ⟨"LaneSlices$Slices", "plus", "(LLaneSlices$Slices;)V"⟩ ⟨"LaneSlices$Slices", "plus", "(LLaneSlices$Slices;)V"⟩ ∈ mtb := mtb_in 2 (by decide +kernel) rfl
theorem ms_3 : Cond.selects "LaneSlices$Slices" ⟨"LaneSlices$Slices", "minus", "(LLaneSlices$Slices;)V"⟩ ⟨"LaneSlices$Slices", "minus", "(LLaneSlices$Slices;)V"⟩ ∈ mtb := mtb_in 3 (by decide +kernel) rfl
theorem ms_4 : Cond.selects "LaneSlices$Slices" ⟨"LaneSlices$Slices", "times", "(LLaneSlices$Slices;)V"⟩ ⟨"LaneSlices$Slices", "times", "(LLaneSlices$Slices;)V"⟩ ∈ mtb := mtb_in 4 (by decide +kernel) rfl
theorem ms_5 : Cond.selects "LaneSlices$Slices" ⟨"LaneSlices$Slices", "both", "(LLaneSlices$Slices;)V"⟩ ⟨"LaneSlices$Slices", "both", "(LLaneSlices$Slices;)V"⟩ ∈ mtb := mtb_in 5 (by decide +kernel) rfl
theorem ms_6 : Cond.selects "LaneSlices$Slices" ⟨"LaneSlices$Slices", "setTruth", "(J)V"⟩ ⟨"LaneSlices$Slices", "setTruth", "(J)V"⟩ ∈ mtb := mtb_in 6 (by decide +kernel) rfl
theorem ms_7 : Cond.selects "LaneSlices" ⟨"LaneSlices", "lanesLike", "(II)J"⟩ ⟨"LaneSlices", "lanesLike", "(II)J"⟩ ∈ mtb := mtb_in 7 (by decide +kernel) rfl
theorem ms_8 : Cond.selects "LaneSlices" ⟨"LaneSlices", "flood", "(II)J"⟩ ⟨"LaneSlices", "flood", "(II)J"⟩ ∈ mtb := mtb_in 8 (by decide +kernel) rfl
theorem ms_9 : Cond.selects "LaneSlices" ⟨"LaneSlices", "spread", "(JJ)J"⟩ ⟨"LaneSlices", "spread", "(JJ)J"⟩ ∈ mtb := mtb_in 9 (by decide +kernel) rfl
theorem ms_10 : Cond.selects "LaneSlices$Reader" ⟨"LaneSlices$Reader", "block", "(II)LLaneSlices$Deed;"⟩ ⟨"LaneSlices$Reader", "block", "(II)LLaneSlices$Deed;"⟩ ∈ mtb := mtb_in 10 (by decide +kernel) rfl
theorem ms_11 : Cond.selects "LaneSlices$Reader" ⟨"LaneSlices$Reader", "deed", "(II)LLaneSlices$Deed;"⟩ ⟨"LaneSlices$Reader", "deed", "(II)LLaneSlices$Deed;"⟩ ∈ mtb := mtb_in 11 (by decide +kernel) rfl
theorem ms_12 : Cond.selects "LaneSlices$Reader" ⟨"LaneSlices$Reader", "sign", "()I"⟩ ⟨"LaneSlices$Reader", "sign", "()I"⟩ ∈ mtb := mtb_in 12 (by decide +kernel) rfl
theorem ms_13 : Cond.selects "LaneSlices$Reader" ⟨"LaneSlices$Reader", "become", "(LLaneSlices$Deed;)V"⟩ ⟨"LaneSlices$Reader", "become", "(LLaneSlices$Deed;)V"⟩ ∈ mtb := mtb_in 13 (by decide +kernel) rfl
theorem ms_14 : Cond.selects "LaneSlices$Reader" ⟨"LaneSlices$Reader", "takeVariable", "()I"⟩ ⟨"LaneSlices$Reader", "takeVariable", "()I"⟩ ∈ mtb := mtb_in 14 (by decide +kernel) rfl
theorem ms_15 : Cond.selects "LaneSlices$Reader" ⟨"LaneSlices$Reader", "fail", "()V"⟩ ⟨"LaneSlices$Reader", "fail", "()V"⟩ ∈ mtb := mtb_in 15 (by decide +kernel) rfl
theorem ms_16 : Cond.selects "LaneSlices$Reader" ⟨"LaneSlices$Reader", "takeWay", "()I"⟩ ⟨"LaneSlices$Reader", "takeWay", "()I"⟩ ∈ mtb := mtb_in 16 (by decide +kernel) rfl
theorem ms_17 : Cond.selects "LaneSlices$Reader" ⟨"LaneSlices$Reader", "take", "(C)V"⟩ ⟨"LaneSlices$Reader", "take", "(C)V"⟩ ∈ mtb := mtb_in 17 (by decide +kernel) rfl
theorem ms_18 : Cond.selects "LaneSlices$Reader" ⟨"LaneSlices$Reader", "formula", "()LLaneSlices$Formula;"⟩ ⟨"LaneSlices$Reader", "formula", "()LLaneSlices$Formula;"⟩ ∈ mtb := mtb_in 18 (by decide +kernel) rfl
theorem ms_19 : Cond.selects "LaneSlices$Reader" ⟨"LaneSlices$Reader", "compared", "(I)V"⟩ ⟨"LaneSlices$Reader", "compared", "(I)V"⟩ ∈ mtb := mtb_in 19 (by decide +kernel) rfl
theorem ms_20 : Cond.selects "LaneSlices$Reader" ⟨"LaneSlices$Reader", "added", "(I)V"⟩ ⟨"LaneSlices$Reader", "added", "(I)V"⟩ ∈ mtb := mtb_in 20 (by decide +kernel) rfl
theorem ms_21 : Cond.selects "LaneSlices$Reader" ⟨"LaneSlices$Reader", "multiplied", "(I)V"⟩ ⟨"LaneSlices$Reader", "multiplied", "(I)V"⟩ ∈ mtb := mtb_in 21 (by decide +kernel) rfl
theorem ms_22 : Cond.selects "LaneSlices$Reader" ⟨"LaneSlices$Reader", "unit", "(I)V"⟩ ⟨"LaneSlices$Reader", "unit", "(I)V"⟩ ∈ mtb := mtb_in 22 (by decide +kernel) rfl
theorem ms_23 : Cond.selects "LaneSlices$Reader" ⟨"LaneSlices$Reader", "number", "()V"⟩ ⟨"LaneSlices$Reader", "number", "()V"⟩ ∈ mtb := mtb_in 23 (by decide +kernel) rfl
theorem ms_24 : Cond.selects "LaneSlices$Reader" ⟨"LaneSlices$Reader", "word", "(II)V"⟩ ⟨"LaneSlices$Reader", "word", "(II)V"⟩ ∈ mtb := mtb_in 24 (by decide +kernel) rfl
theorem ms_25 : Cond.selects "LaneSlices$Reader" ⟨"LaneSlices$Reader", "choose", "(LLaneSlices$Deed;II)V"⟩ ⟨"LaneSlices$Reader", "choose", "(LLaneSlices$Deed;II)V"⟩ ∈ mtb := mtb_in 25 (by decide +kernel) rfl
theorem ms_26 : Cond.selects "LaneSlices$Reader" ⟨"LaneSlices$Reader", "repeat", "(LLaneSlices$Deed;II)V"⟩ ⟨"LaneSlices$Reader", "repeat", "(LLaneSlices$Deed;II)V"⟩ ∈ mtb := mtb_in 26 (by decide +kernel) rfl
theorem ms_27 : Cond.selects "LaneSlices" ⟨"LaneSlices", "think", "(I)I"⟩ ⟨"LaneSlices", "think", "(I)I"⟩ ∈ mtb := mtb_in 27 (by decide +kernel) rfl
theorem ms_28 : Cond.selects "LaneSlices$Walker" ⟨"LaneSlices$Walker", "walk", "(LLaneSlices$Deed;JI)V"⟩ ⟨"LaneSlices$Walker", "walk", "(LLaneSlices$Deed;JI)V"⟩ ∈ mtb := mtb_in 28 (by decide +kernel) rfl
theorem ms_29 : Cond.selects "LaneSlices$Walker" ⟨"LaneSlices$Walker", "workOut", "(LLaneSlices$Formula;)LLaneSlices$Slices;"⟩ ⟨"LaneSlices$Walker", "workOut", "(LLaneSlices$Formula;)LLaneSlices$Slices;"⟩ ∈ mtb := mtb_in 29 (by decide +kernel) rfl
theorem ms_30 : Cond.selects "LaneSlices$Walker" ⟨"LaneSlices$Walker", "hold", "(LLaneSlices$Slices;II)V"⟩ ⟨"LaneSlices$Walker", "hold", "(LLaneSlices$Slices;II)V"⟩ ∈ mtb := mtb_in 30 (by decide +kernel) rfl
theorem ms_31 : Cond.selects "LaneSlices$Walker" ⟨"LaneSlices$Walker", "choose", "(LLaneSlices$Deed;JI)V"⟩ ⟨"LaneSlices$Walker", "choose", "(LLaneSlices$Deed;JI)V"⟩ ∈ mtb := mtb_in 31 (by decide +kernel) rfl
theorem ms_32 : Cond.selects "LaneSlices$Walker" ⟨"LaneSlices$Walker", "repeat", "(LLaneSlices$Deed;JI)V"⟩ ⟨"LaneSlices$Walker", "repeat", "(LLaneSlices$Deed;JI)V"⟩ ∈ mtb := mtb_in 32 (by decide +kernel) rfl
theorem ms_33 : Cond.selects "LaneSlices$Shelf" ⟨"LaneSlices$Shelf", "narrow", "(J)J"⟩ ⟨"LaneSlices$Shelf", "narrow", "(J)J"⟩ ∈ mtb := mtb_in 33 (by decide +kernel) rfl
theorem ms_34 : Cond.selects "LaneSlicesModel" ⟨"LaneSlicesModel", "refuse", "(I)I"⟩ ⟨"LaneSlicesModel", "refuse", "(I)I"⟩ ∈ mtb := mtb_in 34 (by decide +kernel) rfl
theorem ms_35 : Cond.selects "LaneSlicesModel" ⟨"LaneSlicesModel", "takes", "(I)I"⟩ ⟨"LaneSlicesModel", "takes", "(I)I"⟩ ∈ mtb := mtb_in 35 (by decide +kernel) rfl
theorem ms_36 : Cond.selects "LaneSlicesModel" ⟨"LaneSlicesModel", "routes", "(IIIJ)V"⟩ ⟨"LaneSlicesModel", "routes", "(IIIJ)V"⟩ ∈ mtb := mtb_in 36 (by decide +kernel) rfl
theorem ms_37 : Cond.selects "LaneSlicesModel" ⟨"LaneSlicesModel", "beside", "(II)I"⟩ ⟨"LaneSlicesModel", "beside", "(II)I"⟩ ∈ mtb := mtb_in 37 (by decide +kernel) rfl
theorem ms_38 : Cond.selects "LaneSlicesModel" ⟨"LaneSlicesModel", "regionOf", "(II)J"⟩ ⟨"LaneSlicesModel", "regionOf", "(II)J"⟩ ∈ mtb := mtb_in 38 (by decide +kernel) rfl
theorem ms_39 : Cond.selects "LaneSlicesModel" ⟨"LaneSlicesModel", "program", "()I"⟩ ⟨"LaneSlicesModel", "program", "()I"⟩ ∈ mtb := mtb_in 39 (by decide +kernel) rfl
theorem ms_40 : Cond.selects "LaneSlicesModel" ⟨"LaneSlicesModel", "statement", "()I"⟩ ⟨"LaneSlicesModel", "statement", "()I"⟩ ∈ mtb := mtb_in 40 (by decide +kernel) rfl
theorem ms_41 : Cond.selects "LaneSlicesModel" ⟨"LaneSlicesModel", "byteAt", "()I"⟩ ⟨"LaneSlicesModel", "byteAt", "()I"⟩ ∈ mtb := mtb_in 41 (by decide +kernel) rfl
theorem ms_42 : Cond.selects "LaneSlicesModel" ⟨"LaneSlicesModel", "fails", "(I)I"⟩ ⟨"LaneSlicesModel", "fails", "(I)I"⟩ ∈ mtb := mtb_in 42 (by decide +kernel) rfl
theorem ms_43 : Cond.selects "LaneSlicesModel" ⟨"LaneSlicesModel", "expression", "()I"⟩ ⟨"LaneSlicesModel", "expression", "()I"⟩ ∈ mtb := mtb_in 43 (by decide +kernel) rfl
theorem ms_44 : Cond.selects "LaneSlicesModel" ⟨"LaneSlicesModel", "sum", "()I"⟩ ⟨"LaneSlicesModel", "sum", "()I"⟩ ∈ mtb := mtb_in 44 (by decide +kernel) rfl
theorem ms_45 : Cond.selects "LaneSlicesModel" ⟨"LaneSlicesModel", "term", "()I"⟩ ⟨"LaneSlicesModel", "term", "()I"⟩ ∈ mtb := mtb_in 45 (by decide +kernel) rfl
theorem ms_46 : Cond.selects "LaneSlicesModel" ⟨"LaneSlicesModel", "unit", "()I"⟩ ⟨"LaneSlicesModel", "unit", "()I"⟩ ∈ mtb := mtb_in 46 (by decide +kernel) rfl
theorem ms_47 : Cond.selects "LaneSlicesModel" ⟨"LaneSlicesModel", "isDigit", "()Z"⟩ ⟨"LaneSlicesModel", "isDigit", "()Z"⟩ ∈ mtb := mtb_in 47 (by decide +kernel) rfl
theorem ms_48 : Cond.selects "LaneSlicesModel" ⟨"LaneSlicesModel", "number", "()I"⟩ ⟨"LaneSlicesModel", "number", "()I"⟩ ∈ mtb := mtb_in 48 (by decide +kernel) rfl
theorem ms_49 : Cond.selects "LaneSlicesModel" ⟨"LaneSlicesModel", "made", "(IIII)I"⟩ ⟨"LaneSlicesModel", "made", "(IIII)I"⟩ ∈ mtb := mtb_in 49 (by decide +kernel) rfl
theorem ms_50 : Cond.selects "LaneSlicesModel" ⟨"LaneSlicesModel", "wants", "(I)V"⟩ ⟨"LaneSlicesModel", "wants", "(I)V"⟩ ∈ mtb := mtb_in 50 (by decide +kernel) rfl
theorem ms_51 : Cond.selects "LaneSlicesModel" ⟨"LaneSlicesModel", "takesByte", "(I)Z"⟩ ⟨"LaneSlicesModel", "takesByte", "(I)Z"⟩ ∈ mtb := mtb_in 51 (by decide +kernel) rfl
theorem ms_52 : Cond.selects "LaneSlicesModel" ⟨"LaneSlicesModel", "variable", "()I"⟩ ⟨"LaneSlicesModel", "variable", "()I"⟩ ∈ mtb := mtb_in 52 (by decide +kernel) rfl
theorem ms_53 : Cond.selects "LaneSlicesModel" ⟨"LaneSlicesModel", "goes", "(IJ)V"⟩ ⟨"LaneSlicesModel", "goes", "(IJ)V"⟩ ∈ mtb := mtb_in 53 (by decide +kernel) rfl
theorem ms_54 : Cond.selects "LaneSlicesModel" ⟨"LaneSlicesModel", "works", "(II)V"⟩ ⟨"LaneSlicesModel", "works", "(II)V"⟩ ∈ mtb := mtb_in 54 (by decide +kernel) rfl
theorem ms_55 : Cond.selects "LaneSlicesModel" ⟨"LaneSlicesModel", "asked", "(IJ)J"⟩ ⟨"LaneSlicesModel", "asked", "(IJ)J"⟩ ∈ mtb := mtb_in 55 (by decide +kernel) rfl
theorem ms_56 : Cond.selects "LaneSlicesModel" ⟨"LaneSlicesModel", "loops", "(IJ)V"⟩ ⟨"LaneSlicesModel", "loops", "(IJ)V"⟩ ∈ mtb := mtb_in 56 (by decide +kernel) rfl
theorem ms_57 : Cond.selects "LaneSlicesModel" ⟨"LaneSlicesModel", "thinks", "(I)V"⟩ ⟨"LaneSlicesModel", "thinks", "(I)V"⟩ ∈ mtb := mtb_in 57 (by decide +kernel) rfl
theorem ms_58 : Cond.selects "LaneSlicesModel" ⟨"LaneSlicesModel", "returns", "()V"⟩ ⟨"LaneSlicesModel", "returns", "()V"⟩ ∈ mtb := mtb_in 58 (by decide +kernel) rfl
theorem ms_59 : Cond.selects "LaneSlicesModel" ⟨"LaneSlicesModel", "marks", "(IIJ)V"⟩ ⟨"LaneSlicesModel", "marks", "(IIJ)V"⟩ ∈ mtb := mtb_in 59 (by decide +kernel) rfl
theorem ms_60 : Cond.selects "LaneSlicesModel" ⟨"LaneSlicesModel", "lacks", "(II)I"⟩ ⟨"LaneSlicesModel", "lacks", "(II)I"⟩ ∈ mtb := mtb_in 60 (by decide +kernel) rfl
theorem mw_0 : (Jvm.Cond.initialized "LaneSlicesLaw") ∈ mtb := mtb_in 61 (by decide +kernel) rfl
theorem mw_1 : (Jvm.Cond.initialized "LaneSlices") ∈ mtb := mtb_in 62 (by decide +kernel) rfl
theorem mw_2 : (Jvm.Cond.initialized "LaneSlices$Whole") ∈ mtb := mtb_in 63 (by decide +kernel) rfl
theorem mw_3 : (Jvm.Cond.initialized "LaneSlices$Variables") ∈ mtb := mtb_in 64 (by decide +kernel) rfl
theorem mw_4 : (Jvm.Cond.initialized "LaneSlices$Slices") ∈ mtb := mtb_in 65 (by decide +kernel) rfl
theorem mw_5 : (Jvm.Cond.initialized "LaneSlices$Masks") ∈ mtb := mtb_in 66 (by decide +kernel) rfl
theorem mw_6 : (Jvm.Cond.initialized "LaneSlices$Reader") ∈ mtb := mtb_in 67 (by decide +kernel) rfl
theorem mw_7 : (Jvm.Cond.initialized "LaneSlices$Tape") ∈ mtb := mtb_in 68 (by decide +kernel) rfl
theorem mw_8 : (Jvm.Cond.initialized "LaneSlices$Walker") ∈ mtb := mtb_in 69 (by decide +kernel) rfl
theorem mw_9 : (Jvm.Cond.initialized "LaneSlices$Shelf") ∈ mtb := mtb_in 70 (by decide +kernel) rfl
theorem mw_10 : (Jvm.Cond.initialized "LaneSlicesModel") ∈ mtb := mtb_in 71 (by decide +kernel) rfl
theorem mw_11 : (Jvm.Cond.initialized "java/lang/Number") ∈ mtb := mtb_in 72 (by decide +kernel) rfl
theorem mw_12 : (Jvm.Cond.initialized "java/lang/Long") ∈ mtb := mtb_in 73 (by decide +kernel) rfl
theorem mw_13 : (Jvm.Cond.initialized "java/lang/System") ∈ mtb := mtb_in 74 (by decide +kernel) rfl
theorem mw_14 : (Jvm.Cond.initialized "java/lang/Integer") ∈ mtb := mtb_in 75 (by decide +kernel) rfl
theorem mw_15 : (Jvm.Cond.initialized "LaneSlices$Deed") ∈ mtb := mtb_in 76 (by decide +kernel) rfl
theorem mw_16 : (Jvm.Cond.initialized "LaneSlices$Formula") ∈ mtb := mtb_in 77 (by decide +kernel) rfl
theorem mw_17 : (Jvm.Cond.initialized "java/util/Arrays") ∈ mtb := mtb_in 78 (by decide +kernel) rfl
theorem mw_18 : (Jvm.Cond.initialized "java/lang/Math") ∈ mtb := mtb_in 79 (by decide +kernel) rfl
theorem mw_19 : (Jvm.Cond.initialized "LaneSlices$Program") ∈ mtb := mtb_in 80 (by decide +kernel) rfl
theorem mw_20 : (Jvm.Cond.classLink "LaneSlicesLaw" (7 : Nat) "LaneSlices") ∈ mtb := mtb_in 81 (by decide +kernel) rfl
theorem mw_21 : (Jvm.Cond.instantiable "LaneSlices" (9 : Nat)) ∈ mtb := mtb_in 82 (by decide +kernel) rfl
theorem mw_22 : (Jvm.Cond.methodLink "LaneSlicesLaw" (9 : Nat) ({ cls := "LaneSlices", name := "<init>", desc := "()V" } : Jvm.MethodName)) ∈ mtb := mtb_in 83 (by decide +kernel) rfl
theorem mw_23 : (Jvm.Cond.instanceMethod ({ cls := "LaneSlices", name := "<init>", desc := "()V" } : Jvm.MethodName)) ∈ mtb := mtb_in 84 (by decide +kernel) rfl
theorem mw_24 : (Jvm.Cond.code ({ cls := "LaneSlices", name := "<init>", desc := "()V" } : Jvm.MethodName) prog_1_method_1_code (2 : Nat) (Option.none : Option Jvm.ClassFile.FieldType)) ∈ mtb := mtb_in 85 (by decide +kernel) rfl
theorem mw_25 : (Jvm.Cond.methodLink "LaneSlices" (3 : Nat) ({ cls := "java/lang/Object", name := "<init>", desc := "()V" } : Jvm.MethodName)) ∈ mtb := mtb_in 86 (by decide +kernel) rfl
theorem mw_26 : (Jvm.Cond.instanceMethod ({ cls := "java/lang/Object", name := "<init>", desc := "()V" } : Jvm.MethodName)) ∈ mtb := mtb_in 87 (by decide +kernel) rfl
theorem mw_27 : (Jvm.Cond.code ({ cls := "java/lang/Object", name := "<init>", desc := "()V" } : Jvm.MethodName) object_method_1_code (1 : Nat) (Option.none : Option Jvm.ClassFile.FieldType)) ∈ mtb := mtb_in 88 (by decide +kernel) rfl
theorem mw_28 : (Jvm.Cond.classLink "LaneSlices" (9 : Nat) "LaneSlices$Whole") ∈ mtb := mtb_in 89 (by decide +kernel) rfl
theorem mw_29 : (Jvm.Cond.instantiable "LaneSlices$Whole" (5 : Nat)) ∈ mtb := mtb_in 90 (by decide +kernel) rfl
theorem mw_30 : (Jvm.Cond.methodLinkNest "LaneSlices" (11 : Nat) ({ cls := "LaneSlices$Whole", name := "<init>", desc := "()V" } : Jvm.MethodName) "LaneSlices") ∈ lw_tbl := List.mem_of_getElem? (i := 91) (by decide +kernel)
theorem mw_31 : (Jvm.Cond.instanceMethod ({ cls := "LaneSlices$Whole", name := "<init>", desc := "()V" } : Jvm.MethodName)) ∈ mtb := mtb_in 92 (by decide +kernel) rfl
theorem mw_32 : (Jvm.Cond.code ({ cls := "LaneSlices$Whole", name := "<init>", desc := "()V" } : Jvm.MethodName) prog_12_method_1_code (1 : Nat) (Option.none : Option Jvm.ClassFile.FieldType)) ∈ mtb := mtb_in 93 (by decide +kernel) rfl
theorem mw_33 : (Jvm.Cond.methodLink "LaneSlices$Whole" (1 : Nat) ({ cls := "java/lang/Object", name := "<init>", desc := "()V" } : Jvm.MethodName)) ∈ mtb := mtb_in 94 (by decide +kernel) rfl
theorem mw_34 : (Jvm.Cond.classLink "LaneSlices$Whole" (7 : Nat) "LaneSlices$Variables") ∈ mtb := mtb_in 95 (by decide +kernel) rfl
theorem mw_35 : (Jvm.Cond.instantiable "LaneSlices$Variables" (1 : Nat)) ∈ mtb := mtb_in 96 (by decide +kernel) rfl
theorem mw_36 : (Jvm.Cond.methodLink "LaneSlices$Whole" (9 : Nat) ({ cls := "LaneSlices$Variables", name := "<init>", desc := "()V" } : Jvm.MethodName)) ∈ mtb := mtb_in 97 (by decide +kernel) rfl
theorem mw_37 : (Jvm.Cond.instanceMethod ({ cls := "LaneSlices$Variables", name := "<init>", desc := "()V" } : Jvm.MethodName)) ∈ mtb := mtb_in 98 (by decide +kernel) rfl
theorem mw_38 : (Jvm.Cond.code ({ cls := "LaneSlices$Variables", name := "<init>", desc := "()V" } : Jvm.MethodName) prog_10_method_1_code (2 : Nat) (Option.none : Option Jvm.ClassFile.FieldType)) ∈ mtb := mtb_in 99 (by decide +kernel) rfl
theorem mw_39 : (Jvm.Cond.methodLink "LaneSlices$Variables" (3 : Nat) ({ cls := "java/lang/Object", name := "<init>", desc := "()V" } : Jvm.MethodName)) ∈ mtb := mtb_in 100 (by decide +kernel) rfl
theorem mw_40 : (Jvm.Cond.classLink "LaneSlices$Variables" (9 : Nat) "LaneSlices$Slices") ∈ mtb := mtb_in 101 (by decide +kernel) rfl
theorem mw_41 : (Jvm.Cond.arrayOver (Jvm.ClassFile.FieldType.object "LaneSlices$Slices")) ∈ lw_tbl := List.mem_of_getElem? (i := 102) (by decide +kernel)
theorem mw_42 : (Jvm.Cond.instantiable "LaneSlices$Slices" (1 : Nat)) ∈ mtb := mtb_in 103 (by decide +kernel) rfl
theorem mw_43 : (Jvm.Cond.methodLinkNest "LaneSlices$Variables" (17 : Nat) ({ cls := "LaneSlices$Slices", name := "<init>", desc := "()V" } : Jvm.MethodName) "LaneSlices") ∈ lw_tbl := List.mem_of_getElem? (i := 104) (by decide +kernel)
theorem mw_44 : (Jvm.Cond.instanceMethod ({ cls := "LaneSlices$Slices", name := "<init>", desc := "()V" } : Jvm.MethodName)) ∈ mtb := mtb_in 105 (by decide +kernel) rfl
theorem mw_45 : (Jvm.Cond.code ({ cls := "LaneSlices$Slices", name := "<init>", desc := "()V" } : Jvm.MethodName) prog_8_method_1_code (1 : Nat) (Option.none : Option Jvm.ClassFile.FieldType)) ∈ mtb := mtb_in 106 (by decide +kernel) rfl
theorem mw_46 : (Jvm.Cond.methodLink "LaneSlices$Slices" (3 : Nat) ({ cls := "java/lang/Object", name := "<init>", desc := "()V" } : Jvm.MethodName)) ∈ mtb := mtb_in 107 (by decide +kernel) rfl
theorem mw_47 : (Jvm.Cond.fieldLink "LaneSlices$Slices" (9 : Nat) "LaneSlices$Slices" "planes" "[J") ∈ mtb := mtb_in 108 (by decide +kernel) rfl
theorem mw_48 : (Jvm.Cond.fieldLinkNest "LaneSlices" (89 : Nat) "LaneSlices$Slices" "planes" "[J" "LaneSlices") ∈ lw_tbl := List.mem_of_getElem? (i := 109) (by decide +kernel)
theorem mw_49 : (Jvm.Cond.laysFinal "LaneSlices$Slices" "LaneSlices$Slices" "planes" "[J") ∈ mtb := mtb_in 110 (by decide +kernel) rfl
theorem mw_50 : (Jvm.Cond.soleField "LaneSlices$Slices" "planes") ∈ mtb := mtb_in 111 (by decide +kernel) rfl
theorem mw_51 : (Jvm.Cond.superclass "LaneSlices$Slices" "java/lang/Object") ∈ mtb := mtb_in 112 (by decide +kernel) rfl
theorem mw_52 : (Jvm.Cond.arrayClass Jvm.ClassFile.FieldType.long) ∈ mtb := mtb_in 113 (by decide +kernel) rfl
theorem mw_53 : (Jvm.Cond.fieldLink "LaneSlices$Variables" (11 : Nat) "LaneSlices$Variables" "all" "[LLaneSlices$Slices;") ∈ mtb := mtb_in 114 (by decide +kernel) rfl
theorem mw_54 : (Jvm.Cond.laysFinal "LaneSlices$Variables" "LaneSlices$Variables" "all" "[LLaneSlices$Slices;") ∈ mtb := mtb_in 115 (by decide +kernel) rfl
theorem mw_55 : (Jvm.Cond.soleField "LaneSlices$Variables" "all") ∈ mtb := mtb_in 116 (by decide +kernel) rfl
theorem mw_56 : (Jvm.Cond.superclass "LaneSlices$Variables" "java/lang/Object") ∈ mtb := mtb_in 117 (by decide +kernel) rfl
theorem mw_57 : (Jvm.Cond.classLink "LaneSlices$Whole" (16 : Nat) "LaneSlices$Masks") ∈ mtb := mtb_in 118 (by decide +kernel) rfl
theorem mw_58 : (Jvm.Cond.instantiable "LaneSlices$Masks" (2 : Nat)) ∈ mtb := mtb_in 119 (by decide +kernel) rfl
theorem mw_59 : (Jvm.Cond.methodLinkNest "LaneSlices$Whole" (18 : Nat) ({ cls := "LaneSlices$Masks", name := "<init>", desc := "()V" } : Jvm.MethodName) "LaneSlices") ∈ lw_tbl := List.mem_of_getElem? (i := 120) (by decide +kernel)
theorem mw_60 : (Jvm.Cond.instanceMethod ({ cls := "LaneSlices$Masks", name := "<init>", desc := "()V" } : Jvm.MethodName)) ∈ mtb := mtb_in 121 (by decide +kernel) rfl
theorem mw_61 : (Jvm.Cond.code ({ cls := "LaneSlices$Masks", name := "<init>", desc := "()V" } : Jvm.MethodName) prog_4_method_1_code (1 : Nat) (Option.none : Option Jvm.ClassFile.FieldType)) ∈ mtb := mtb_in 122 (by decide +kernel) rfl
theorem mw_62 : (Jvm.Cond.methodLink "LaneSlices$Masks" (3 : Nat) ({ cls := "java/lang/Object", name := "<init>", desc := "()V" } : Jvm.MethodName)) ∈ mtb := mtb_in 123 (by decide +kernel) rfl
theorem mw_63 : (Jvm.Cond.fieldLink "LaneSlices$Masks" (9 : Nat) "LaneSlices$Masks" "sets" "[J") ∈ mtb := mtb_in 124 (by decide +kernel) rfl
theorem mw_64 : (Jvm.Cond.fieldLink "LaneSlices$Masks" (15 : Nat) "LaneSlices$Masks" "height" "I") ∈ mtb := mtb_in 125 (by decide +kernel) rfl
theorem mw_65 : (Jvm.Cond.fieldLinkNest "LaneSlices" (146 : Nat) "LaneSlices$Masks" "height" "I" "LaneSlices") ∈ lw_tbl := List.mem_of_getElem? (i := 126) (by decide +kernel)
theorem mw_66 : (Jvm.Cond.laysFinal "LaneSlices$Masks" "LaneSlices$Masks" "sets" "[J") ∈ mtb := mtb_in 127 (by decide +kernel) rfl
theorem mw_67 : (Jvm.Cond.soleField "LaneSlices$Masks" "sets") ∈ mtb := mtb_in 128 (by decide +kernel) rfl
theorem mw_68 : (Jvm.Cond.lays "LaneSlices$Masks" "LaneSlices$Masks" "height" "I") ∈ mtb := mtb_in 129 (by decide +kernel) rfl
theorem mw_69 : (Jvm.Cond.soleField "LaneSlices$Masks" "height") ∈ mtb := mtb_in 130 (by decide +kernel) rfl
theorem mw_70 : (Jvm.Cond.superclass "LaneSlices$Masks" "java/lang/Object") ∈ mtb := mtb_in 131 (by decide +kernel) rfl
theorem mw_71 : (Jvm.Cond.fieldLink "LaneSlices$Whole" (10 : Nat) "LaneSlices$Whole" "variables" "LLaneSlices$Variables;") ∈ mtb := mtb_in 132 (by decide +kernel) rfl
theorem mw_72 : (Jvm.Cond.fieldLinkNest "LaneSlices" (69 : Nat) "LaneSlices$Whole" "variables" "LLaneSlices$Variables;" "LaneSlices") ∈ lw_tbl := List.mem_of_getElem? (i := 133) (by decide +kernel)
theorem mw_73 : (Jvm.Cond.fieldLink "LaneSlices$Whole" (19 : Nat) "LaneSlices$Whole" "masks" "LLaneSlices$Masks;") ∈ mtb := mtb_in 134 (by decide +kernel) rfl
theorem mw_74 : (Jvm.Cond.fieldLinkNest "LaneSlices$Walker" (43 : Nat) "LaneSlices$Whole" "masks" "LLaneSlices$Masks;" "LaneSlices") ∈ lw_tbl := List.mem_of_getElem? (i := 135) (by decide +kernel)
theorem mw_75 : (Jvm.Cond.fieldLinkNest "LaneSlices" (93 : Nat) "LaneSlices$Whole" "masks" "LLaneSlices$Masks;" "LaneSlices") ∈ lw_tbl := List.mem_of_getElem? (i := 136) (by decide +kernel)
theorem mw_76 : (Jvm.Cond.fieldLinkNest "LaneSlices$Walker" (35 : Nat) "LaneSlices$Whole" "edge" "I" "LaneSlices") ∈ lw_tbl := List.mem_of_getElem? (i := 137) (by decide +kernel)
theorem mw_77 : (Jvm.Cond.fieldLink "LaneSlices$Whole" (30 : Nat) "LaneSlices$Whole" "edge" "I") ∈ mtb := mtb_in 138 (by decide +kernel) rfl
theorem mw_78 : (Jvm.Cond.fieldLinkNest "LaneSlices" (130 : Nat) "LaneSlices$Whole" "edge" "I" "LaneSlices") ∈ lw_tbl := List.mem_of_getElem? (i := 139) (by decide +kernel)
theorem mw_79 : (Jvm.Cond.fieldLink "LaneSlices$Whole" (34 : Nat) "LaneSlices$Whole" "steps" "I") ∈ mtb := mtb_in 140 (by decide +kernel) rfl
theorem mw_80 : (Jvm.Cond.fieldLinkNest "LaneSlices" (223 : Nat) "LaneSlices$Whole" "steps" "I" "LaneSlices") ∈ lw_tbl := List.mem_of_getElem? (i := 141) (by decide +kernel)
theorem mw_81 : (Jvm.Cond.fieldLinkNest "LaneSlices$Walker" (29 : Nat) "LaneSlices$Whole" "program" "LLaneSlices$Program;" "LaneSlices") ∈ lw_tbl := List.mem_of_getElem? (i := 142) (by decide +kernel)
theorem mw_82 : (Jvm.Cond.fieldLink "LaneSlices$Whole" (37 : Nat) "LaneSlices$Whole" "program" "LLaneSlices$Program;") ∈ mtb := mtb_in 143 (by decide +kernel) rfl
theorem mw_83 : (Jvm.Cond.fieldLinkNest "LaneSlices" (207 : Nat) "LaneSlices$Whole" "program" "LLaneSlices$Program;" "LaneSlices") ∈ lw_tbl := List.mem_of_getElem? (i := 144) (by decide +kernel)
theorem mw_84 : (Jvm.Cond.laysFinal "LaneSlices$Whole" "LaneSlices$Whole" "variables" "LLaneSlices$Variables;") ∈ mtb := mtb_in 145 (by decide +kernel) rfl
theorem mw_85 : (Jvm.Cond.soleField "LaneSlices$Whole" "variables") ∈ mtb := mtb_in 146 (by decide +kernel) rfl
theorem mw_86 : (Jvm.Cond.laysFinal "LaneSlices$Whole" "LaneSlices$Whole" "masks" "LLaneSlices$Masks;") ∈ mtb := mtb_in 147 (by decide +kernel) rfl
theorem mw_87 : (Jvm.Cond.soleField "LaneSlices$Whole" "masks") ∈ mtb := mtb_in 148 (by decide +kernel) rfl
theorem mw_88 : (Jvm.Cond.lays "LaneSlices$Whole" "LaneSlices$Whole" "edge" "I") ∈ mtb := mtb_in 149 (by decide +kernel) rfl
theorem mw_89 : (Jvm.Cond.soleField "LaneSlices$Whole" "edge") ∈ mtb := mtb_in 150 (by decide +kernel) rfl
theorem mw_90 : (Jvm.Cond.lays "LaneSlices$Whole" "LaneSlices$Whole" "steps" "I") ∈ mtb := mtb_in 151 (by decide +kernel) rfl
theorem mw_91 : (Jvm.Cond.soleField "LaneSlices$Whole" "steps") ∈ mtb := mtb_in 152 (by decide +kernel) rfl
theorem mw_92 : (Jvm.Cond.lays "LaneSlices$Whole" "LaneSlices$Whole" "program" "LLaneSlices$Program;") ∈ mtb := mtb_in 153 (by decide +kernel) rfl
theorem mw_93 : (Jvm.Cond.soleField "LaneSlices$Whole" "program") ∈ mtb := mtb_in 154 (by decide +kernel) rfl
theorem mw_94 : (Jvm.Cond.superclass "LaneSlices$Whole" "java/lang/Object") ∈ mtb := mtb_in 155 (by decide +kernel) rfl
theorem mw_95 : (Jvm.Cond.classLink "LaneSlices" (19 : Nat) "LaneSlices$Shelf") ∈ mtb := mtb_in 156 (by decide +kernel) rfl
theorem mw_96 : (Jvm.Cond.arrayOver (Jvm.ClassFile.FieldType.object "LaneSlices$Shelf")) ∈ lw_tbl := List.mem_of_getElem? (i := 157) (by decide +kernel)
theorem mw_97 : (Jvm.Cond.classLink "LaneSlices" (29 : Nat) "LaneSlices$Reader") ∈ mtb := mtb_in 158 (by decide +kernel) rfl
theorem mw_98 : (Jvm.Cond.instantiable "LaneSlices$Reader" (7 : Nat)) ∈ mtb := mtb_in 159 (by decide +kernel) rfl
theorem mw_99 : (Jvm.Cond.methodLinkNest "LaneSlices" (31 : Nat) ({ cls := "LaneSlices$Reader", name := "<init>", desc := "()V" } : Jvm.MethodName) "LaneSlices") ∈ lw_tbl := List.mem_of_getElem? (i := 160) (by decide +kernel)
theorem mw_100 : (Jvm.Cond.instanceMethod ({ cls := "LaneSlices$Reader", name := "<init>", desc := "()V" } : Jvm.MethodName)) ∈ mtb := mtb_in 161 (by decide +kernel) rfl
theorem mw_101 : (Jvm.Cond.code ({ cls := "LaneSlices$Reader", name := "<init>", desc := "()V" } : Jvm.MethodName) prog_6_method_1_code (1 : Nat) (Option.none : Option Jvm.ClassFile.FieldType)) ∈ mtb := mtb_in 162 (by decide +kernel) rfl
theorem mw_102 : (Jvm.Cond.methodLink "LaneSlices$Reader" (3 : Nat) ({ cls := "java/lang/Object", name := "<init>", desc := "()V" } : Jvm.MethodName)) ∈ mtb := mtb_in 163 (by decide +kernel) rfl
theorem mw_103 : (Jvm.Cond.classLink "LaneSlices$Reader" (9 : Nat) "LaneSlices$Tape") ∈ mtb := mtb_in 164 (by decide +kernel) rfl
theorem mw_104 : (Jvm.Cond.instantiable "LaneSlices$Tape" (2 : Nat)) ∈ mtb := mtb_in 165 (by decide +kernel) rfl
theorem mw_105 : (Jvm.Cond.methodLinkNest "LaneSlices$Reader" (11 : Nat) ({ cls := "LaneSlices$Tape", name := "<init>", desc := "()V" } : Jvm.MethodName) "LaneSlices") ∈ lw_tbl := List.mem_of_getElem? (i := 166) (by decide +kernel)
theorem mw_106 : (Jvm.Cond.instanceMethod ({ cls := "LaneSlices$Tape", name := "<init>", desc := "()V" } : Jvm.MethodName)) ∈ mtb := mtb_in 167 (by decide +kernel) rfl
theorem mw_107 : (Jvm.Cond.code ({ cls := "LaneSlices$Tape", name := "<init>", desc := "()V" } : Jvm.MethodName) prog_9_method_1_code (1 : Nat) (Option.none : Option Jvm.ClassFile.FieldType)) ∈ mtb := mtb_in 168 (by decide +kernel) rfl
theorem mw_108 : (Jvm.Cond.methodLink "LaneSlices$Tape" (3 : Nat) ({ cls := "java/lang/Object", name := "<init>", desc := "()V" } : Jvm.MethodName)) ∈ mtb := mtb_in 169 (by decide +kernel) rfl
theorem mw_109 : (Jvm.Cond.fieldLink "LaneSlices$Tape" (9 : Nat) "LaneSlices$Tape" "bytes" "[I") ∈ mtb := mtb_in 170 (by decide +kernel) rfl
theorem mw_110 : (Jvm.Cond.fieldLinkNest "LaneSlices$Reader" (47 : Nat) "LaneSlices$Tape" "bytes" "[I" "LaneSlices") ∈ lw_tbl := List.mem_of_getElem? (i := 171) (by decide +kernel)
theorem mw_111 : (Jvm.Cond.fieldLink "LaneSlices$Tape" (15 : Nat) "LaneSlices$Tape" "length" "I") ∈ mtb := mtb_in 172 (by decide +kernel) rfl
theorem mw_112 : (Jvm.Cond.fieldLinkNest "LaneSlices$Reader" (36 : Nat) "LaneSlices$Tape" "length" "I" "LaneSlices") ∈ lw_tbl := List.mem_of_getElem? (i := 173) (by decide +kernel)
theorem mw_113 : (Jvm.Cond.fieldLinkNest "LaneSlices" (192 : Nat) "LaneSlices$Tape" "length" "I" "LaneSlices") ∈ lw_tbl := List.mem_of_getElem? (i := 174) (by decide +kernel)
theorem mw_114 : (Jvm.Cond.laysFinal "LaneSlices$Tape" "LaneSlices$Tape" "bytes" "[I") ∈ mtb := mtb_in 175 (by decide +kernel) rfl
theorem mw_115 : (Jvm.Cond.soleField "LaneSlices$Tape" "bytes") ∈ mtb := mtb_in 176 (by decide +kernel) rfl
theorem mw_116 : (Jvm.Cond.lays "LaneSlices$Tape" "LaneSlices$Tape" "length" "I") ∈ mtb := mtb_in 177 (by decide +kernel) rfl
theorem mw_117 : (Jvm.Cond.soleField "LaneSlices$Tape" "length") ∈ mtb := mtb_in 178 (by decide +kernel) rfl
theorem mw_118 : (Jvm.Cond.superclass "LaneSlices$Tape" "java/lang/Object") ∈ mtb := mtb_in 179 (by decide +kernel) rfl
theorem mw_119 : (Jvm.Cond.arrayClass Jvm.ClassFile.FieldType.int) ∈ mtb := mtb_in 180 (by decide +kernel) rfl
theorem mw_120 : (Jvm.Cond.fieldLink "LaneSlices$Reader" (12 : Nat) "LaneSlices$Reader" "tape" "LLaneSlices$Tape;") ∈ mtb := mtb_in 181 (by decide +kernel) rfl
theorem mw_121 : (Jvm.Cond.fieldLinkNest "LaneSlices" (188 : Nat) "LaneSlices$Reader" "tape" "LLaneSlices$Tape;" "LaneSlices") ∈ lw_tbl := List.mem_of_getElem? (i := 182) (by decide +kernel)
theorem mw_122 : (Jvm.Cond.fieldLink "LaneSlices$Reader" (18 : Nat) "LaneSlices$Reader" "words" "[I") ∈ mtb := mtb_in 183 (by decide +kernel) rfl
theorem mw_123 : (Jvm.Cond.fieldLink "LaneSlices$Reader" (110 : Nat) "LaneSlices$Reader" "size" "I") ∈ mtb := mtb_in 184 (by decide +kernel) rfl
theorem mw_124 : (Jvm.Cond.fieldLink "LaneSlices$Reader" (113 : Nat) "LaneSlices$Reader" "cost" "I") ∈ mtb := mtb_in 185 (by decide +kernel) rfl
theorem mw_125 : (Jvm.Cond.fieldLink "LaneSlices$Reader" (22 : Nat) "LaneSlices$Reader" "place" "I") ∈ mtb := mtb_in 186 (by decide +kernel) rfl
theorem mw_126 : (Jvm.Cond.fieldLink "LaneSlices$Reader" (26 : Nat) "LaneSlices$Reader" "deeds" "I") ∈ mtb := mtb_in 187 (by decide +kernel) rfl
theorem mw_127 : (Jvm.Cond.fieldLink "LaneSlices$Reader" (29 : Nat) "LaneSlices$Reader" "fault" "I") ∈ mtb := mtb_in 188 (by decide +kernel) rfl
theorem mw_128 : (Jvm.Cond.fieldLinkNest "LaneSlices" (204 : Nat) "LaneSlices$Reader" "fault" "I" "LaneSlices") ∈ lw_tbl := List.mem_of_getElem? (i := 189) (by decide +kernel)
theorem mw_129 : (Jvm.Cond.laysFinal "LaneSlices$Reader" "LaneSlices$Reader" "tape" "LLaneSlices$Tape;") ∈ mtb := mtb_in 190 (by decide +kernel) rfl
theorem mw_130 : (Jvm.Cond.soleField "LaneSlices$Reader" "tape") ∈ mtb := mtb_in 191 (by decide +kernel) rfl
theorem mw_131 : (Jvm.Cond.laysFinal "LaneSlices$Reader" "LaneSlices$Reader" "words" "[I") ∈ mtb := mtb_in 192 (by decide +kernel) rfl
theorem mw_132 : (Jvm.Cond.soleField "LaneSlices$Reader" "words") ∈ mtb := mtb_in 193 (by decide +kernel) rfl
theorem mw_133 : (Jvm.Cond.lays "LaneSlices$Reader" "LaneSlices$Reader" "size" "I") ∈ mtb := mtb_in 194 (by decide +kernel) rfl
theorem mw_134 : (Jvm.Cond.soleField "LaneSlices$Reader" "size") ∈ mtb := mtb_in 195 (by decide +kernel) rfl
theorem mw_135 : (Jvm.Cond.lays "LaneSlices$Reader" "LaneSlices$Reader" "cost" "I") ∈ mtb := mtb_in 196 (by decide +kernel) rfl
theorem mw_136 : (Jvm.Cond.soleField "LaneSlices$Reader" "cost") ∈ mtb := mtb_in 197 (by decide +kernel) rfl
theorem mw_137 : (Jvm.Cond.lays "LaneSlices$Reader" "LaneSlices$Reader" "place" "I") ∈ mtb := mtb_in 198 (by decide +kernel) rfl
theorem mw_138 : (Jvm.Cond.soleField "LaneSlices$Reader" "place") ∈ mtb := mtb_in 199 (by decide +kernel) rfl
theorem mw_139 : (Jvm.Cond.lays "LaneSlices$Reader" "LaneSlices$Reader" "deeds" "I") ∈ mtb := mtb_in 200 (by decide +kernel) rfl
theorem mw_140 : (Jvm.Cond.soleField "LaneSlices$Reader" "deeds") ∈ mtb := mtb_in 201 (by decide +kernel) rfl
theorem mw_141 : (Jvm.Cond.lays "LaneSlices$Reader" "LaneSlices$Reader" "fault" "I") ∈ mtb := mtb_in 202 (by decide +kernel) rfl
theorem mw_142 : (Jvm.Cond.soleField "LaneSlices$Reader" "fault") ∈ mtb := mtb_in 203 (by decide +kernel) rfl
theorem mw_143 : (Jvm.Cond.superclass "LaneSlices$Reader" "java/lang/Object") ∈ mtb := mtb_in 204 (by decide +kernel) rfl
theorem mw_144 : (Jvm.Cond.classLink "LaneSlices" (36 : Nat) "LaneSlices$Walker") ∈ mtb := mtb_in 205 (by decide +kernel) rfl
theorem mw_145 : (Jvm.Cond.instantiable "LaneSlices$Walker" (5 : Nat)) ∈ mtb := mtb_in 206 (by decide +kernel) rfl
theorem mw_146 : (Jvm.Cond.methodLink "LaneSlices" (38 : Nat) ({ cls := "LaneSlices$Walker", name := "<init>", desc := "()V" } : Jvm.MethodName)) ∈ mtb := mtb_in 207 (by decide +kernel) rfl
theorem mw_147 : (Jvm.Cond.instanceMethod ({ cls := "LaneSlices$Walker", name := "<init>", desc := "()V" } : Jvm.MethodName)) ∈ mtb := mtb_in 208 (by decide +kernel) rfl
theorem mw_148 : (Jvm.Cond.code ({ cls := "LaneSlices$Walker", name := "<init>", desc := "()V" } : Jvm.MethodName) prog_11_method_1_code (2 : Nat) (Option.none : Option Jvm.ClassFile.FieldType)) ∈ mtb := mtb_in 209 (by decide +kernel) rfl
theorem mw_149 : (Jvm.Cond.methodLink "LaneSlices$Walker" (3 : Nat) ({ cls := "java/lang/Object", name := "<init>", desc := "()V" } : Jvm.MethodName)) ∈ mtb := mtb_in 210 (by decide +kernel) rfl
theorem mw_150 : (Jvm.Cond.classLink "LaneSlices$Walker" (9 : Nat) "LaneSlices$Slices") ∈ mtb := mtb_in 211 (by decide +kernel) rfl
theorem mw_151 : (Jvm.Cond.methodLinkNest "LaneSlices$Walker" (17 : Nat) ({ cls := "LaneSlices$Slices", name := "<init>", desc := "()V" } : Jvm.MethodName) "LaneSlices") ∈ lw_tbl := List.mem_of_getElem? (i := 212) (by decide +kernel)
theorem mw_152 : (Jvm.Cond.classLink "LaneSlices$Walker" (22 : Nat) "LaneSlices$Variables") ∈ mtb := mtb_in 213 (by decide +kernel) rfl
theorem mw_153 : (Jvm.Cond.methodLink "LaneSlices$Walker" (24 : Nat) ({ cls := "LaneSlices$Variables", name := "<init>", desc := "()V" } : Jvm.MethodName)) ∈ mtb := mtb_in 214 (by decide +kernel) rfl
theorem mw_154 : (Jvm.Cond.fieldLink "LaneSlices$Walker" (11 : Nat) "LaneSlices$Walker" "held" "[LLaneSlices$Slices;") ∈ mtb := mtb_in 215 (by decide +kernel) rfl
theorem mw_155 : (Jvm.Cond.fieldLink "LaneSlices$Walker" (18 : Nat) "LaneSlices$Walker" "come" "LLaneSlices$Slices;") ∈ mtb := mtb_in 216 (by decide +kernel) rfl
theorem mw_156 : (Jvm.Cond.fieldLink "LaneSlices$Walker" (25 : Nat) "LaneSlices$Walker" "variables" "LLaneSlices$Variables;") ∈ mtb := mtb_in 217 (by decide +kernel) rfl
theorem mw_157 : (Jvm.Cond.fieldLinkNest "LaneSlices" (219 : Nat) "LaneSlices$Walker" "variables" "LLaneSlices$Variables;" "LaneSlices") ∈ lw_tbl := List.mem_of_getElem? (i := 218) (by decide +kernel)
theorem mw_158 : (Jvm.Cond.fieldLink "LaneSlices$Walker" (39 : Nat) "LaneSlices$Walker" "edge" "I") ∈ mtb := mtb_in 219 (by decide +kernel) rfl
theorem mw_159 : (Jvm.Cond.fieldLink "LaneSlices$Walker" (40 : Nat) "LaneSlices$Walker" "taken" "I") ∈ mtb := mtb_in 220 (by decide +kernel) rfl
theorem mw_160 : (Jvm.Cond.laysFinal "LaneSlices$Walker" "LaneSlices$Walker" "held" "[LLaneSlices$Slices;") ∈ mtb := mtb_in 221 (by decide +kernel) rfl
theorem mw_161 : (Jvm.Cond.soleField "LaneSlices$Walker" "held") ∈ mtb := mtb_in 222 (by decide +kernel) rfl
theorem mw_162 : (Jvm.Cond.laysFinal "LaneSlices$Walker" "LaneSlices$Walker" "come" "LLaneSlices$Slices;") ∈ mtb := mtb_in 223 (by decide +kernel) rfl
theorem mw_163 : (Jvm.Cond.soleField "LaneSlices$Walker" "come") ∈ mtb := mtb_in 224 (by decide +kernel) rfl
theorem mw_164 : (Jvm.Cond.laysFinal "LaneSlices$Walker" "LaneSlices$Walker" "variables" "LLaneSlices$Variables;") ∈ mtb := mtb_in 225 (by decide +kernel) rfl
theorem mw_165 : (Jvm.Cond.soleField "LaneSlices$Walker" "variables") ∈ mtb := mtb_in 226 (by decide +kernel) rfl
theorem mw_166 : (Jvm.Cond.lays "LaneSlices$Walker" "LaneSlices$Walker" "edge" "I") ∈ mtb := mtb_in 227 (by decide +kernel) rfl
theorem mw_167 : (Jvm.Cond.soleField "LaneSlices$Walker" "edge") ∈ mtb := mtb_in 228 (by decide +kernel) rfl
theorem mw_168 : (Jvm.Cond.lays "LaneSlices$Walker" "LaneSlices$Walker" "taken" "I") ∈ mtb := mtb_in 229 (by decide +kernel) rfl
theorem mw_169 : (Jvm.Cond.soleField "LaneSlices$Walker" "taken") ∈ mtb := mtb_in 230 (by decide +kernel) rfl
theorem mw_170 : (Jvm.Cond.superclass "LaneSlices$Walker" "java/lang/Object") ∈ mtb := mtb_in 231 (by decide +kernel) rfl
theorem mw_171 : (Jvm.Cond.classLink "LaneSlices" (43 : Nat) "LaneSlices$Variables") ∈ mtb := mtb_in 232 (by decide +kernel) rfl
theorem mw_172 : (Jvm.Cond.methodLink "LaneSlices" (45 : Nat) ({ cls := "LaneSlices$Variables", name := "<init>", desc := "()V" } : Jvm.MethodName)) ∈ mtb := mtb_in 233 (by decide +kernel) rfl
theorem mw_173 : (Jvm.Cond.classLink "LaneSlices" (50 : Nat) "LaneSlices$Slices") ∈ mtb := mtb_in 234 (by decide +kernel) rfl
theorem mw_174 : (Jvm.Cond.methodLinkNest "LaneSlices" (52 : Nat) ({ cls := "LaneSlices$Slices", name := "<init>", desc := "()V" } : Jvm.MethodName) "LaneSlices") ∈ lw_tbl := List.mem_of_getElem? (i := 235) (by decide +kernel)
theorem mw_175 : (Jvm.Cond.instantiable "LaneSlices$Shelf" (3 : Nat)) ∈ mtb := mtb_in 236 (by decide +kernel) rfl
theorem mw_176 : (Jvm.Cond.methodLinkNest "LaneSlices" (57 : Nat) ({ cls := "LaneSlices$Shelf", name := "<init>", desc := "()V" } : Jvm.MethodName) "LaneSlices") ∈ lw_tbl := List.mem_of_getElem? (i := 237) (by decide +kernel)
theorem mw_177 : (Jvm.Cond.instanceMethod ({ cls := "LaneSlices$Shelf", name := "<init>", desc := "()V" } : Jvm.MethodName)) ∈ mtb := mtb_in 238 (by decide +kernel) rfl
theorem mw_178 : (Jvm.Cond.code ({ cls := "LaneSlices$Shelf", name := "<init>", desc := "()V" } : Jvm.MethodName) prog_7_method_1_code (1 : Nat) (Option.none : Option Jvm.ClassFile.FieldType)) ∈ mtb := mtb_in 239 (by decide +kernel) rfl
theorem mw_179 : (Jvm.Cond.methodLink "LaneSlices$Shelf" (3 : Nat) ({ cls := "java/lang/Object", name := "<init>", desc := "()V" } : Jvm.MethodName)) ∈ mtb := mtb_in 240 (by decide +kernel) rfl
theorem mw_180 : (Jvm.Cond.fieldLink "LaneSlices$Shelf" (9 : Nat) "LaneSlices$Shelf" "numbers" "[J") ∈ mtb := mtb_in 241 (by decide +kernel) rfl
theorem mw_181 : (Jvm.Cond.fieldLinkNest "LaneSlices" (253 : Nat) "LaneSlices$Shelf" "numbers" "[J" "LaneSlices") ∈ lw_tbl := List.mem_of_getElem? (i := 242) (by decide +kernel)
theorem mw_182 : (Jvm.Cond.fieldLink "LaneSlices$Shelf" (15 : Nat) "LaneSlices$Shelf" "sort" "I") ∈ mtb := mtb_in 243 (by decide +kernel) rfl
theorem mw_183 : (Jvm.Cond.fieldLink "LaneSlices$Shelf" (28 : Nat) "LaneSlices$Shelf" "length" "I") ∈ mtb := mtb_in 244 (by decide +kernel) rfl
theorem mw_184 : (Jvm.Cond.fieldLinkNest "LaneSlices" (256 : Nat) "LaneSlices$Shelf" "length" "I" "LaneSlices") ∈ lw_tbl := List.mem_of_getElem? (i := 245) (by decide +kernel)
theorem mw_185 : (Jvm.Cond.laysFinal "LaneSlices$Shelf" "LaneSlices$Shelf" "numbers" "[J") ∈ mtb := mtb_in 246 (by decide +kernel) rfl
theorem mw_186 : (Jvm.Cond.soleField "LaneSlices$Shelf" "numbers") ∈ mtb := mtb_in 247 (by decide +kernel) rfl
theorem mw_187 : (Jvm.Cond.lays "LaneSlices$Shelf" "LaneSlices$Shelf" "sort" "I") ∈ mtb := mtb_in 248 (by decide +kernel) rfl
theorem mw_188 : (Jvm.Cond.soleField "LaneSlices$Shelf" "sort") ∈ mtb := mtb_in 249 (by decide +kernel) rfl
theorem mw_189 : (Jvm.Cond.lays "LaneSlices$Shelf" "LaneSlices$Shelf" "length" "I") ∈ mtb := mtb_in 250 (by decide +kernel) rfl
theorem mw_190 : (Jvm.Cond.soleField "LaneSlices$Shelf" "length") ∈ mtb := mtb_in 251 (by decide +kernel) rfl
theorem mw_191 : (Jvm.Cond.superclass "LaneSlices$Shelf" "java/lang/Object") ∈ mtb := mtb_in 252 (by decide +kernel) rfl
theorem mw_192 : (Jvm.Cond.fieldLink "LaneSlices" (12 : Nat) "LaneSlices" "now" "LLaneSlices$Whole;") ∈ mtb := mtb_in 253 (by decide +kernel) rfl
theorem mw_193 : (Jvm.Cond.fieldLink "LaneSlices" (16 : Nat) "LaneSlices" "kept" "LLaneSlices$Whole;") ∈ mtb := mtb_in 254 (by decide +kernel) rfl
theorem mw_194 : (Jvm.Cond.fieldLink "LaneSlices" (260 : Nat) "LaneSlices" "isKept" "Z") ∈ mtb := mtb_in 255 (by decide +kernel) rfl
theorem mw_195 : (Jvm.Cond.fieldLink "LaneSlices" (21 : Nat) "LaneSlices" "shelves" "[LLaneSlices$Shelf;") ∈ mtb := mtb_in 256 (by decide +kernel) rfl
theorem mw_196 : (Jvm.Cond.fieldLink "LaneSlices" (25 : Nat) "LaneSlices" "refusals" "[I") ∈ mtb := mtb_in 257 (by decide +kernel) rfl
theorem mw_197 : (Jvm.Cond.fieldLink "LaneSlices" (32 : Nat) "LaneSlices" "reader" "LLaneSlices$Reader;") ∈ mtb := mtb_in 258 (by decide +kernel) rfl
theorem mw_198 : (Jvm.Cond.fieldLink "LaneSlices" (39 : Nat) "LaneSlices" "walker" "LLaneSlices$Walker;") ∈ mtb := mtb_in 259 (by decide +kernel) rfl
theorem mw_199 : (Jvm.Cond.fieldLink "LaneSlices" (46 : Nat) "LaneSlices" "earlier" "LLaneSlices$Variables;") ∈ mtb := mtb_in 260 (by decide +kernel) rfl
theorem mw_200 : (Jvm.Cond.fieldLink "LaneSlices" (53 : Nat) "LaneSlices" "spare" "LLaneSlices$Slices;") ∈ mtb := mtb_in 261 (by decide +kernel) rfl
theorem mw_201 : (Jvm.Cond.laysFinal "LaneSlices" "LaneSlices" "now" "LLaneSlices$Whole;") ∈ mtb := mtb_in 262 (by decide +kernel) rfl
theorem mw_202 : (Jvm.Cond.soleField "LaneSlices" "now") ∈ mtb := mtb_in 263 (by decide +kernel) rfl
theorem mw_203 : (Jvm.Cond.laysFinal "LaneSlices" "LaneSlices" "kept" "LLaneSlices$Whole;") ∈ mtb := mtb_in 264 (by decide +kernel) rfl
theorem mw_204 : (Jvm.Cond.soleField "LaneSlices" "kept") ∈ mtb := mtb_in 265 (by decide +kernel) rfl
theorem mw_205 : (Jvm.Cond.lays "LaneSlices" "LaneSlices" "isKept" "Z") ∈ mtb := mtb_in 266 (by decide +kernel) rfl
theorem mw_206 : (Jvm.Cond.soleField "LaneSlices" "isKept") ∈ mtb := mtb_in 267 (by decide +kernel) rfl
theorem mw_207 : (Jvm.Cond.laysFinal "LaneSlices" "LaneSlices" "shelves" "[LLaneSlices$Shelf;") ∈ mtb := mtb_in 268 (by decide +kernel) rfl
theorem mw_208 : (Jvm.Cond.soleField "LaneSlices" "shelves") ∈ mtb := mtb_in 269 (by decide +kernel) rfl
theorem mw_209 : (Jvm.Cond.laysFinal "LaneSlices" "LaneSlices" "refusals" "[I") ∈ mtb := mtb_in 270 (by decide +kernel) rfl
theorem mw_210 : (Jvm.Cond.soleField "LaneSlices" "refusals") ∈ mtb := mtb_in 271 (by decide +kernel) rfl
theorem mw_211 : (Jvm.Cond.laysFinal "LaneSlices" "LaneSlices" "reader" "LLaneSlices$Reader;") ∈ mtb := mtb_in 272 (by decide +kernel) rfl
theorem mw_212 : (Jvm.Cond.soleField "LaneSlices" "reader") ∈ mtb := mtb_in 273 (by decide +kernel) rfl
theorem mw_213 : (Jvm.Cond.laysFinal "LaneSlices" "LaneSlices" "walker" "LLaneSlices$Walker;") ∈ mtb := mtb_in 274 (by decide +kernel) rfl
theorem mw_214 : (Jvm.Cond.soleField "LaneSlices" "walker") ∈ mtb := mtb_in 275 (by decide +kernel) rfl
theorem mw_215 : (Jvm.Cond.laysFinal "LaneSlices" "LaneSlices" "earlier" "LLaneSlices$Variables;") ∈ mtb := mtb_in 276 (by decide +kernel) rfl
theorem mw_216 : (Jvm.Cond.soleField "LaneSlices" "earlier") ∈ mtb := mtb_in 277 (by decide +kernel) rfl
theorem mw_217 : (Jvm.Cond.laysFinal "LaneSlices" "LaneSlices" "spare" "LLaneSlices$Slices;") ∈ mtb := mtb_in 278 (by decide +kernel) rfl
theorem mw_218 : (Jvm.Cond.soleField "LaneSlices" "spare") ∈ mtb := mtb_in 279 (by decide +kernel) rfl
theorem mw_219 : (Jvm.Cond.superclass "LaneSlices" "java/lang/Object") ∈ mtb := mtb_in 280 (by decide +kernel) rfl
theorem mw_220 : (Jvm.Cond.methodLink "LaneSlicesLaw" (13 : Nat) ({ cls := "LaneSlices", name := "lane", desc := "(II)I" } : Jvm.MethodName)) ∈ mtb := mtb_in 281 (by decide +kernel) rfl
theorem mw_221 : (Jvm.Cond.instanceMethod ({ cls := "LaneSlices", name := "lane", desc := "(II)I" } : Jvm.MethodName)) ∈ mtb := mtb_in 282 (by decide +kernel) rfl
theorem mw_222 : (Jvm.Cond.selects "LaneSlices" ({ cls := "LaneSlices", name := "lane", desc := "(II)I" } : Jvm.MethodName) ({ cls := "LaneSlices", name := "lane", desc := "(II)I" } : Jvm.MethodName)) ∈ mtb := mtb_in 283 (by decide +kernel) rfl
theorem mw_223 : (Jvm.Cond.code ({ cls := "LaneSlices", name := "lane", desc := "(II)I" } : Jvm.MethodName) prog_1_method_2_code (3 : Nat) (Option.some Jvm.ClassFile.FieldType.int)) ∈ mtb := mtb_in 284 (by decide +kernel) rfl
theorem mw_224 : (Jvm.Cond.methodLink "LaneSlices" (58 : Nat) ({ cls := "LaneSlices", name := "isLane", desc := "(I)Z" } : Jvm.MethodName)) ∈ mtb := mtb_in 285 (by decide +kernel) rfl
theorem mw_225 : (Jvm.Cond.static ({ cls := "LaneSlices", name := "isLane", desc := "(I)Z" } : Jvm.MethodName)) ∈ mtb := mtb_in 286 (by decide +kernel) rfl
theorem mw_226 : (Jvm.Cond.code ({ cls := "LaneSlices", name := "isLane", desc := "(I)Z" } : Jvm.MethodName) prog_1_method_42_code (1 : Nat) (Option.some Jvm.ClassFile.FieldType.boolean)) ∈ mtb := mtb_in 287 (by decide +kernel) rfl
theorem mw_227 : (Jvm.Cond.methodLink "LaneSlices" (62 : Nat) ({ cls := "LaneSlices", name := "isVariable", desc := "(I)Z" } : Jvm.MethodName)) ∈ mtb := mtb_in 288 (by decide +kernel) rfl
theorem mw_228 : (Jvm.Cond.static ({ cls := "LaneSlices", name := "isVariable", desc := "(I)Z" } : Jvm.MethodName)) ∈ mtb := mtb_in 289 (by decide +kernel) rfl
theorem mw_229 : (Jvm.Cond.code ({ cls := "LaneSlices", name := "isVariable", desc := "(I)Z" } : Jvm.MethodName) prog_1_method_43_code (1 : Nat) (Option.some Jvm.ClassFile.FieldType.boolean)) ∈ mtb := mtb_in 290 (by decide +kernel) rfl
theorem mw_230 : (Jvm.Cond.methodLink "LaneSlices" (65 : Nat) ({ cls := "LaneSlices", name := "refuse", desc := "(I)I" } : Jvm.MethodName)) ∈ mtb := mtb_in 291 (by decide +kernel) rfl
theorem mw_232 : (Jvm.Cond.instanceMethod ({ cls := "LaneSlices", name := "refuse", desc := "(I)I" } : Jvm.MethodName)) ∈ mtb := mtb_in 293 (by decide +kernel) rfl
theorem mw_233 : (Jvm.Cond.code ({ cls := "LaneSlices", name := "refuse", desc := "(I)I" } : Jvm.MethodName) prog_1_method_41_code (3 : Nat) (Option.some Jvm.ClassFile.FieldType.int)) ∈ mtb := mtb_in 294 (by decide +kernel) rfl
theorem mw_234 : (Jvm.Cond.methodLink "LaneSlices" (72 : Nat) ({ cls := "LaneSlices$Variables", name := "slices", desc := "(I)LLaneSlices$Slices;" } : Jvm.MethodName)) ∈ mtb := mtb_in 295 (by decide +kernel) rfl
theorem mw_235 : (Jvm.Cond.instanceMethod ({ cls := "LaneSlices$Variables", name := "slices", desc := "(I)LLaneSlices$Slices;" } : Jvm.MethodName)) ∈ mtb := mtb_in 296 (by decide +kernel) rfl
theorem mw_236 : (Jvm.Cond.selects "LaneSlices$Variables" ({ cls := "LaneSlices$Variables", name := "slices", desc := "(I)LLaneSlices$Slices;" } : Jvm.MethodName) ({ cls := "LaneSlices$Variables", name := "slices", desc := "(I)LLaneSlices$Slices;" } : Jvm.MethodName)) ∈ mtb := mtb_in 297 (by decide +kernel) rfl
theorem mw_237 : (Jvm.Cond.code ({ cls := "LaneSlices$Variables", name := "slices", desc := "(I)LLaneSlices$Slices;" } : Jvm.MethodName) prog_10_method_2_code (2 : Nat) (Option.some (Jvm.ClassFile.FieldType.object "LaneSlices$Slices"))) ∈ mtb := mtb_in 298 (by decide +kernel) rfl
theorem mw_238 : (Jvm.Cond.methodLink "LaneSlices" (76 : Nat) ({ cls := "LaneSlices$Slices", name := "inLane", desc := "(I)I" } : Jvm.MethodName)) ∈ mtb := mtb_in 299 (by decide +kernel) rfl
theorem mw_239 : (Jvm.Cond.instanceMethod ({ cls := "LaneSlices$Slices", name := "inLane", desc := "(I)I" } : Jvm.MethodName)) ∈ mtb := mtb_in 300 (by decide +kernel) rfl
theorem mw_240 : (Jvm.Cond.selects "LaneSlices$Slices" ({ cls := "LaneSlices$Slices", name := "inLane", desc := "(I)I" } : Jvm.MethodName) ({ cls := "LaneSlices$Slices", name := "inLane", desc := "(I)I" } : Jvm.MethodName)) ∈ mtb := mtb_in 301 (by decide +kernel) rfl
theorem mw_241 : (Jvm.Cond.code ({ cls := "LaneSlices$Slices", name := "inLane", desc := "(I)I" } : Jvm.MethodName) prog_8_method_2_code (4 : Nat) (Option.some Jvm.ClassFile.FieldType.int)) ∈ mtb := mtb_in 302 (by decide +kernel) rfl
theorem mw_242 : (Jvm.Cond.methodLink "LaneSlicesLaw" (18 : Nat) ({ cls := "LaneSlices", name := "put", desc := "(III)I" } : Jvm.MethodName)) ∈ mtb := mtb_in 303 (by decide +kernel) rfl
theorem mw_243 : (Jvm.Cond.instanceMethod ({ cls := "LaneSlices", name := "put", desc := "(III)I" } : Jvm.MethodName)) ∈ mtb := mtb_in 304 (by decide +kernel) rfl
theorem mw_244 : (Jvm.Cond.selects "LaneSlices" ({ cls := "LaneSlices", name := "put", desc := "(III)I" } : Jvm.MethodName) ({ cls := "LaneSlices", name := "put", desc := "(III)I" } : Jvm.MethodName)) ∈ mtb := mtb_in 305 (by decide +kernel) rfl
theorem mw_245 : (Jvm.Cond.code ({ cls := "LaneSlices", name := "put", desc := "(III)I" } : Jvm.MethodName) prog_1_method_3_code (5 : Nat) (Option.some Jvm.ClassFile.FieldType.int)) ∈ mtb := mtb_in 306 (by decide +kernel) rfl
theorem mw_246 : (Jvm.Cond.methodLink "LaneSlices" (79 : Nat) ({ cls := "LaneSlices", name := "isNumber", desc := "(I)Z" } : Jvm.MethodName)) ∈ mtb := mtb_in 307 (by decide +kernel) rfl
theorem mw_247 : (Jvm.Cond.static ({ cls := "LaneSlices", name := "isNumber", desc := "(I)Z" } : Jvm.MethodName)) ∈ mtb := mtb_in 308 (by decide +kernel) rfl
theorem mw_248 : (Jvm.Cond.code ({ cls := "LaneSlices", name := "isNumber", desc := "(I)Z" } : Jvm.MethodName) prog_1_method_45_code (1 : Nat) (Option.some Jvm.ClassFile.FieldType.boolean)) ∈ mtb := mtb_in 309 (by decide +kernel) rfl
theorem mw_249 : (Jvm.Cond.methodLink "LaneSlices" (82 : Nat) ({ cls := "LaneSlices$Slices", name := "setLane", desc := "(II)V" } : Jvm.MethodName)) ∈ mtb := mtb_in 310 (by decide +kernel) rfl
theorem mw_250 : (Jvm.Cond.instanceMethod ({ cls := "LaneSlices$Slices", name := "setLane", desc := "(II)V" } : Jvm.MethodName)) ∈ mtb := mtb_in 311 (by decide +kernel) rfl
theorem mw_251 : (Jvm.Cond.selects "LaneSlices$Slices" ({ cls := "LaneSlices$Slices", name := "setLane", desc := "(II)V" } : Jvm.MethodName) ({ cls := "LaneSlices$Slices", name := "setLane", desc := "(II)V" } : Jvm.MethodName)) ∈ mtb := mtb_in 312 (by decide +kernel) rfl
theorem mw_252 : (Jvm.Cond.code ({ cls := "LaneSlices$Slices", name := "setLane", desc := "(II)V" } : Jvm.MethodName) prog_8_method_3_code (6 : Nat) (Option.none : Option Jvm.ClassFile.FieldType)) ∈ mtb := mtb_in 313 (by decide +kernel) rfl
theorem mw_253 : (Jvm.Cond.constantLong "LaneSlices$Slices" (15 : Nat) (-1 : Int64)) ∈ mtb := mtb_in 314 (by decide +kernel) rfl
theorem mw_254 : (Jvm.Cond.methodLink "LaneSlicesLaw" (23 : Nat) ({ cls := "LaneSlices", name := "plane", desc := "(II)J" } : Jvm.MethodName)) ∈ mtb := mtb_in 315 (by decide +kernel) rfl
theorem mw_255 : (Jvm.Cond.instanceMethod ({ cls := "LaneSlices", name := "plane", desc := "(II)J" } : Jvm.MethodName)) ∈ mtb := mtb_in 316 (by decide +kernel) rfl
theorem mw_256 : (Jvm.Cond.selects "LaneSlices" ({ cls := "LaneSlices", name := "plane", desc := "(II)J" } : Jvm.MethodName) ({ cls := "LaneSlices", name := "plane", desc := "(II)J" } : Jvm.MethodName)) ∈ mtb := mtb_in 317 (by decide +kernel) rfl
theorem mw_257 : (Jvm.Cond.code ({ cls := "LaneSlices", name := "plane", desc := "(II)J" } : Jvm.MethodName) prog_1_method_4_code (3 : Nat) (Option.some Jvm.ClassFile.FieldType.long)) ∈ mtb := mtb_in 318 (by decide +kernel) rfl
theorem mw_258 : (Jvm.Cond.methodLink "LaneSlices" (86 : Nat) ({ cls := "LaneSlices", name := "isBit", desc := "(I)Z" } : Jvm.MethodName)) ∈ mtb := mtb_in 319 (by decide +kernel) rfl
theorem mw_259 : (Jvm.Cond.static ({ cls := "LaneSlices", name := "isBit", desc := "(I)Z" } : Jvm.MethodName)) ∈ mtb := mtb_in 320 (by decide +kernel) rfl
theorem mw_260 : (Jvm.Cond.code ({ cls := "LaneSlices", name := "isBit", desc := "(I)Z" } : Jvm.MethodName) prog_1_method_44_code (1 : Nat) (Option.some Jvm.ClassFile.FieldType.boolean)) ∈ mtb := mtb_in 321 (by decide +kernel) rfl
theorem mw_261 : (Jvm.Cond.methodLink "LaneSlicesLaw" (30 : Nat) ({ cls := "LaneSlices", name := "lay", desc := "(IIJ)I" } : Jvm.MethodName)) ∈ mtb := mtb_in 322 (by decide +kernel) rfl
theorem mw_262 : (Jvm.Cond.instanceMethod ({ cls := "LaneSlices", name := "lay", desc := "(IIJ)I" } : Jvm.MethodName)) ∈ mtb := mtb_in 323 (by decide +kernel) rfl
theorem mw_263 : (Jvm.Cond.selects "LaneSlices" ({ cls := "LaneSlices", name := "lay", desc := "(IIJ)I" } : Jvm.MethodName) ({ cls := "LaneSlices", name := "lay", desc := "(IIJ)I" } : Jvm.MethodName)) ∈ mtb := mtb_in 324 (by decide +kernel) rfl
theorem mw_264 : (Jvm.Cond.code ({ cls := "LaneSlices", name := "lay", desc := "(IIJ)I" } : Jvm.MethodName) prog_1_method_5_code (8 : Nat) (Option.some Jvm.ClassFile.FieldType.int)) ∈ mtb := mtb_in 325 (by decide +kernel) rfl
theorem mw_265 : (Jvm.Cond.methodLink "LaneSlices" (97 : Nat) ({ cls := "LaneSlices$Masks", name := "common", desc := "()J" } : Jvm.MethodName)) ∈ mtb := mtb_in 326 (by decide +kernel) rfl
theorem mw_266 : (Jvm.Cond.instanceMethod ({ cls := "LaneSlices$Masks", name := "common", desc := "()J" } : Jvm.MethodName)) ∈ mtb := mtb_in 327 (by decide +kernel) rfl
theorem mw_267 : (Jvm.Cond.selects "LaneSlices$Masks" ({ cls := "LaneSlices$Masks", name := "common", desc := "()J" } : Jvm.MethodName) ({ cls := "LaneSlices$Masks", name := "common", desc := "()J" } : Jvm.MethodName)) ∈ mtb := mtb_in 328 (by decide +kernel) rfl
theorem mw_268 : (Jvm.Cond.code ({ cls := "LaneSlices$Masks", name := "common", desc := "()J" } : Jvm.MethodName) prog_4_method_5_code (4 : Nat) (Option.some Jvm.ClassFile.FieldType.long)) ∈ mtb := mtb_in 329 (by decide +kernel) rfl
theorem mw_269 : (Jvm.Cond.constantLong "LaneSlices$Masks" (19 : Nat) (-1 : Int64)) ∈ mtb := mtb_in 330 (by decide +kernel) rfl
theorem mw_270 : (Jvm.Cond.constantLong "LaneSlices" (103 : Nat) (-1 : Int64)) ∈ mtb := mtb_in 331 (by decide +kernel) rfl
theorem mw_271 : (Jvm.Cond.methodLink "LaneSlices" (105 : Nat) ({ cls := "java/lang/Long", name := "bitCount", desc := "(J)I" } : Jvm.MethodName)) ∈ mtb := mtb_in 332 (by decide +kernel) rfl
theorem mw_272 : (Jvm.Cond.static ({ cls := "java/lang/Long", name := "bitCount", desc := "(J)I" } : Jvm.MethodName)) ∈ mtb := mtb_in 333 (by decide +kernel) rfl
theorem mw_273 : (Jvm.Cond.code ({ cls := "java/lang/Long", name := "bitCount", desc := "(J)I" } : Jvm.MethodName) prog_17_method_50_code (2 : Nat) (Option.some Jvm.ClassFile.FieldType.int)) ∈ mtb := mtb_in 334 (by decide +kernel) rfl
theorem mw_274 : (Jvm.Cond.constantLong "java/lang/Long" (314 : Nat) (6148914691236517205 : Int64)) ∈ mtb := mtb_in 335 (by decide +kernel) rfl
theorem mw_275 : (Jvm.Cond.constantLong "java/lang/Long" (316 : Nat) (3689348814741910323 : Int64)) ∈ mtb := mtb_in 336 (by decide +kernel) rfl
theorem mw_276 : (Jvm.Cond.constantLong "java/lang/Long" (318 : Nat) (1085102592571150095 : Int64)) ∈ mtb := mtb_in 337 (by decide +kernel) rfl
theorem mw_277 : (Jvm.Cond.methodLink "LaneSlicesLaw" (35 : Nat) ({ cls := "LaneSlices", name := "fill", desc := "(II)I" } : Jvm.MethodName)) ∈ mtb := mtb_in 338 (by decide +kernel) rfl
theorem mw_278 : (Jvm.Cond.instanceMethod ({ cls := "LaneSlices", name := "fill", desc := "(II)I" } : Jvm.MethodName)) ∈ mtb := mtb_in 339 (by decide +kernel) rfl
theorem mw_279 : (Jvm.Cond.selects "LaneSlices" ({ cls := "LaneSlices", name := "fill", desc := "(II)I" } : Jvm.MethodName) ({ cls := "LaneSlices", name := "fill", desc := "(II)I" } : Jvm.MethodName)) ∈ mtb := mtb_in 340 (by decide +kernel) rfl
theorem mw_280 : (Jvm.Cond.code ({ cls := "LaneSlices", name := "fill", desc := "(II)I" } : Jvm.MethodName) prog_1_method_6_code (3 : Nat) (Option.some Jvm.ClassFile.FieldType.int)) ∈ mtb := mtb_in 341 (by decide +kernel) rfl
theorem mw_281 : (Jvm.Cond.methodLink "LaneSlices" (111 : Nat) ({ cls := "LaneSlices$Slices", name := "setAll", desc := "(I)V" } : Jvm.MethodName)) ∈ mtb := mtb_in 342 (by decide +kernel) rfl
theorem mw_282 : (Jvm.Cond.instanceMethod ({ cls := "LaneSlices$Slices", name := "setAll", desc := "(I)V" } : Jvm.MethodName)) ∈ mtb := mtb_in 343 (by decide +kernel) rfl
theorem mw_283 : (Jvm.Cond.selects "LaneSlices$Slices" ({ cls := "LaneSlices$Slices", name := "setAll", desc := "(I)V" } : Jvm.MethodName) ({ cls := "LaneSlices$Slices", name := "setAll", desc := "(I)V" } : Jvm.MethodName)) ∈ mtb := mtb_in 344 (by decide +kernel) rfl
theorem mw_284 : (Jvm.Cond.code ({ cls := "LaneSlices$Slices", name := "setAll", desc := "(I)V" } : Jvm.MethodName) prog_8_method_4_code (3 : Nat) (Option.none : Option Jvm.ClassFile.FieldType)) ∈ mtb := mtb_in 345 (by decide +kernel) rfl
theorem mw_285 : (Jvm.Cond.fieldLink "LaneSlices" (115 : Nat) "LaneSlices" "STEPS_OF" "[I") ∈ mtb := mtb_in 346 (by decide +kernel) rfl
theorem mw_286 : (Jvm.Cond.laysStatic "LaneSlices" "STEPS_OF" "[I") ∈ lw_tbl := List.mem_of_getElem? (i := 347) (by decide +kernel)
theorem mw_287 : (Jvm.Cond.methodLink "LaneSlices" (118 : Nat) ({ cls := "LaneSlices", name := "becomeSpare", desc := "(II)I" } : Jvm.MethodName)) ∈ mtb := mtb_in 348 (by decide +kernel) rfl
theorem mw_289 : (Jvm.Cond.instanceMethod ({ cls := "LaneSlices", name := "becomeSpare", desc := "(II)I" } : Jvm.MethodName)) ∈ mtb := mtb_in 350 (by decide +kernel) rfl
theorem mw_290 : (Jvm.Cond.code ({ cls := "LaneSlices", name := "becomeSpare", desc := "(II)I" } : Jvm.MethodName) prog_1_method_48_code (3 : Nat) (Option.some Jvm.ClassFile.FieldType.int)) ∈ mtb := mtb_in 351 (by decide +kernel) rfl
theorem mw_291 : (Jvm.Cond.methodLink "LaneSlices" (264 : Nat) ({ cls := "LaneSlices$Slices", name := "becomeIn", desc := "(LLaneSlices$Slices;J)V" } : Jvm.MethodName)) ∈ mtb := mtb_in 352 (by decide +kernel) rfl
theorem mw_292 : (Jvm.Cond.instanceMethod ({ cls := "LaneSlices$Slices", name := "becomeIn", desc := "(LLaneSlices$Slices;J)V" } : Jvm.MethodName)) ∈ mtb := mtb_in 353 (by decide +kernel) rfl
theorem mw_293 : (Jvm.Cond.selects "LaneSlices$Slices" ({ cls := "LaneSlices$Slices", name := "becomeIn", desc := "(LLaneSlices$Slices;J)V" } : Jvm.MethodName) ({ cls := "LaneSlices$Slices", name := "becomeIn", desc := "(LLaneSlices$Slices;J)V" } : Jvm.MethodName)) ∈ mtb := mtb_in 354 (by decide +kernel) rfl
theorem mw_294 : (Jvm.Cond.code ({ cls := "LaneSlices$Slices", name := "becomeIn", desc := "(LLaneSlices$Slices;J)V" } : Jvm.MethodName) prog_8_method_7_code (5 : Nat) (Option.none : Option Jvm.ClassFile.FieldType)) ∈ mtb := mtb_in 355 (by decide +kernel) rfl
theorem mw_295 : (Jvm.Cond.methodLink "LaneSlicesLaw" (39 : Nat) ({ cls := "LaneSlices", name := "does", desc := "(IIII)I" } : Jvm.MethodName)) ∈ mtb := mtb_in 356 (by decide +kernel) rfl
theorem mw_296 : (Jvm.Cond.instanceMethod ({ cls := "LaneSlices", name := "does", desc := "(IIII)I" } : Jvm.MethodName)) ∈ mtb := mtb_in 357 (by decide +kernel) rfl
theorem mw_297 : (Jvm.Cond.selects "LaneSlices" ({ cls := "LaneSlices", name := "does", desc := "(IIII)I" } : Jvm.MethodName) ({ cls := "LaneSlices", name := "does", desc := "(IIII)I" } : Jvm.MethodName)) ∈ mtb := mtb_in 358 (by decide +kernel) rfl
theorem mw_298 : (Jvm.Cond.code ({ cls := "LaneSlices", name := "does", desc := "(IIII)I" } : Jvm.MethodName) prog_1_method_7_code (5 : Nat) (Option.some Jvm.ClassFile.FieldType.int)) ∈ mtb := mtb_in 359 (by decide +kernel) rfl
theorem mw_299 : (Jvm.Cond.methodLink "LaneSlices" (122 : Nat) ({ cls := "LaneSlices$Slices", name := "copyOf", desc := "(LLaneSlices$Slices;)V" } : Jvm.MethodName)) ∈ mtb := mtb_in 360 (by decide +kernel) rfl
theorem mw_300 : (Jvm.Cond.instanceMethod ({ cls := "LaneSlices$Slices", name := "copyOf", desc := "(LLaneSlices$Slices;)V" } : Jvm.MethodName)) ∈ mtb := mtb_in 361 (by decide +kernel) rfl
theorem mw_301 : (Jvm.Cond.selects "LaneSlices$Slices" ({ cls := "LaneSlices$Slices", name := "copyOf", desc := "(LLaneSlices$Slices;)V" } : Jvm.MethodName) ({ cls := "LaneSlices$Slices", name := "copyOf", desc := "(LLaneSlices$Slices;)V" } : Jvm.MethodName)) ∈ mtb := mtb_in 362 (by decide +kernel) rfl
theorem mw_302 : (Jvm.Cond.code ({ cls := "LaneSlices$Slices", name := "copyOf", desc := "(LLaneSlices$Slices;)V" } : Jvm.MethodName) prog_8_method_6_code (2 : Nat) (Option.none : Option Jvm.ClassFile.FieldType)) ∈ mtb := mtb_in 363 (by decide +kernel) rfl
theorem mw_303 : (Jvm.Cond.methodLink "LaneSlices$Slices" (20 : Nat) ({ cls := "java/lang/System", name := "arraycopy", desc := "(Ljava/lang/Object;ILjava/lang/Object;II)V" } : Jvm.MethodName)) ∈ mtb := mtb_in 364 (by decide +kernel) rfl
theorem mw_304 : (Jvm.Cond.static ({ cls := "java/lang/System", name := "arraycopy", desc := "(Ljava/lang/Object;ILjava/lang/Object;II)V" } : Jvm.MethodName)) ∈ mtb := mtb_in 365 (by decide +kernel) rfl
theorem mw_305 : (Jvm.Cond.native ({ cls := "java/lang/System", name := "arraycopy", desc := "(Ljava/lang/Object;ILjava/lang/Object;II)V" } : Jvm.MethodName)) ∈ mtb := mtb_in 366 (by decide +kernel) rfl
theorem mw_306 : (Jvm.Cond.methodLink "LaneSlices" (126 : Nat) ({ cls := "LaneSlices$Slices", name := "pair", desc := "(ILLaneSlices$Slices;)V" } : Jvm.MethodName)) ∈ mtb := mtb_in 367 (by decide +kernel) rfl
theorem mw_307 : (Jvm.Cond.instanceMethod ({ cls := "LaneSlices$Slices", name := "pair", desc := "(ILLaneSlices$Slices;)V" } : Jvm.MethodName)) ∈ mtb := mtb_in 368 (by decide +kernel) rfl
theorem mw_308 : (Jvm.Cond.selects "LaneSlices$Slices" ({ cls := "LaneSlices$Slices", name := "pair", desc := "(ILLaneSlices$Slices;)V" } : Jvm.MethodName) ({ cls := "LaneSlices$Slices", name := "pair", desc := "(ILLaneSlices$Slices;)V" } : Jvm.MethodName)) ∈ mtb := mtb_in 369 (by decide +kernel) rfl
theorem mw_309 : (Jvm.Cond.code ({ cls := "LaneSlices$Slices", name := "pair", desc := "(ILLaneSlices$Slices;)V" } : Jvm.MethodName) prog_8_method_12_code (3 : Nat) (Option.none : Option Jvm.ClassFile.FieldType)) ∈ mtb := mtb_in 370 (by decide +kernel) rfl
theorem mw_310 : (Jvm.Cond.methodLink "LaneSlices$Slices" (30 : Nat) ({ cls := "LaneSlices$Slices", name := "plus", desc := "(LLaneSlices$Slices;)V" } : Jvm.MethodName)) ∈ mtb := mtb_in 371 (by decide +kernel) rfl
theorem mw_312 : (Jvm.Cond.instanceMethod ({ cls := "LaneSlices$Slices", name := "plus", desc := "(LLaneSlices$Slices;)V" } : Jvm.MethodName)) ∈ mtb := mtb_in 373 (by decide +kernel) rfl
theorem mw_313 : (Jvm.Cond.code ({ cls := "LaneSlices$Slices", name := "plus", desc := "(LLaneSlices$Slices;)V" } : Jvm.MethodName) prog_8_method_13_code (9 : Nat) (Option.none : Option Jvm.ClassFile.FieldType)) ∈ mtb := mtb_in 374 (by decide +kernel) rfl
theorem mw_314 : (Jvm.Cond.methodLink "LaneSlices$Slices" (34 : Nat) ({ cls := "LaneSlices$Slices", name := "minus", desc := "(LLaneSlices$Slices;)V" } : Jvm.MethodName)) ∈ mtb := mtb_in 375 (by decide +kernel) rfl
theorem mw_316 : (Jvm.Cond.instanceMethod ({ cls := "LaneSlices$Slices", name := "minus", desc := "(LLaneSlices$Slices;)V" } : Jvm.MethodName)) ∈ mtb := mtb_in 377 (by decide +kernel) rfl
theorem mw_317 : (Jvm.Cond.code ({ cls := "LaneSlices$Slices", name := "minus", desc := "(LLaneSlices$Slices;)V" } : Jvm.MethodName) prog_8_method_14_code (9 : Nat) (Option.none : Option Jvm.ClassFile.FieldType)) ∈ mtb := mtb_in 378 (by decide +kernel) rfl
theorem mw_318 : (Jvm.Cond.methodLink "LaneSlices$Slices" (37 : Nat) ({ cls := "LaneSlices$Slices", name := "times", desc := "(LLaneSlices$Slices;)V" } : Jvm.MethodName)) ∈ mtb := mtb_in 379 (by decide +kernel) rfl
theorem mw_320 : (Jvm.Cond.instanceMethod ({ cls := "LaneSlices$Slices", name := "times", desc := "(LLaneSlices$Slices;)V" } : Jvm.MethodName)) ∈ mtb := mtb_in 381 (by decide +kernel) rfl
theorem mw_321 : (Jvm.Cond.code ({ cls := "LaneSlices$Slices", name := "times", desc := "(LLaneSlices$Slices;)V" } : Jvm.MethodName) prog_8_method_15_code (12 : Nat) (Option.none : Option Jvm.ClassFile.FieldType)) ∈ mtb := mtb_in 382 (by decide +kernel) rfl
theorem mw_322 : (Jvm.Cond.methodLink "LaneSlices$Slices" (40 : Nat) ({ cls := "LaneSlices$Slices", name := "both", desc := "(LLaneSlices$Slices;)V" } : Jvm.MethodName)) ∈ mtb := mtb_in 383 (by decide +kernel) rfl
theorem mw_324 : (Jvm.Cond.instanceMethod ({ cls := "LaneSlices$Slices", name := "both", desc := "(LLaneSlices$Slices;)V" } : Jvm.MethodName)) ∈ mtb := mtb_in 385 (by decide +kernel) rfl
theorem mw_325 : (Jvm.Cond.code ({ cls := "LaneSlices$Slices", name := "both", desc := "(LLaneSlices$Slices;)V" } : Jvm.MethodName) prog_8_method_16_code (3 : Nat) (Option.none : Option Jvm.ClassFile.FieldType)) ∈ mtb := mtb_in 386 (by decide +kernel) rfl
theorem mw_326 : (Jvm.Cond.methodLink "LaneSlices$Slices" (43 : Nat) ({ cls := "LaneSlices$Slices", name := "lanesBelow", desc := "(LLaneSlices$Slices;)J" } : Jvm.MethodName)) ∈ mtb := mtb_in 387 (by decide +kernel) rfl
theorem mw_327 : (Jvm.Cond.instanceMethod ({ cls := "LaneSlices$Slices", name := "lanesBelow", desc := "(LLaneSlices$Slices;)J" } : Jvm.MethodName)) ∈ mtb := mtb_in 388 (by decide +kernel) rfl
theorem mw_328 : (Jvm.Cond.selects "LaneSlices$Slices" ({ cls := "LaneSlices$Slices", name := "lanesBelow", desc := "(LLaneSlices$Slices;)J" } : Jvm.MethodName) ({ cls := "LaneSlices$Slices", name := "lanesBelow", desc := "(LLaneSlices$Slices;)J" } : Jvm.MethodName)) ∈ mtb := mtb_in 389 (by decide +kernel) rfl
theorem mw_329 : (Jvm.Cond.code ({ cls := "LaneSlices$Slices", name := "lanesBelow", desc := "(LLaneSlices$Slices;)J" } : Jvm.MethodName) prog_8_method_11_code (9 : Nat) (Option.some Jvm.ClassFile.FieldType.long)) ∈ mtb := mtb_in 390 (by decide +kernel) rfl
theorem mw_330 : (Jvm.Cond.methodLink "LaneSlices$Slices" (47 : Nat) ({ cls := "LaneSlices$Slices", name := "setTruth", desc := "(J)V" } : Jvm.MethodName)) ∈ mtb := mtb_in 391 (by decide +kernel) rfl
theorem mw_332 : (Jvm.Cond.instanceMethod ({ cls := "LaneSlices$Slices", name := "setTruth", desc := "(J)V" } : Jvm.MethodName)) ∈ mtb := mtb_in 393 (by decide +kernel) rfl
theorem mw_333 : (Jvm.Cond.code ({ cls := "LaneSlices$Slices", name := "setTruth", desc := "(J)V" } : Jvm.MethodName) prog_8_method_17_code (4 : Nat) (Option.none : Option Jvm.ClassFile.FieldType)) ∈ mtb := mtb_in 394 (by decide +kernel) rfl
theorem mw_334 : (Jvm.Cond.methodLink "LaneSlices$Slices" (51 : Nat) ({ cls := "LaneSlices$Slices", name := "differsFrom", desc := "(LLaneSlices$Slices;)J" } : Jvm.MethodName)) ∈ mtb := mtb_in 395 (by decide +kernel) rfl
theorem mw_335 : (Jvm.Cond.instanceMethod ({ cls := "LaneSlices$Slices", name := "differsFrom", desc := "(LLaneSlices$Slices;)J" } : Jvm.MethodName)) ∈ mtb := mtb_in 396 (by decide +kernel) rfl
theorem mw_336 : (Jvm.Cond.selects "LaneSlices$Slices" ({ cls := "LaneSlices$Slices", name := "differsFrom", desc := "(LLaneSlices$Slices;)J" } : Jvm.MethodName) ({ cls := "LaneSlices$Slices", name := "differsFrom", desc := "(LLaneSlices$Slices;)J" } : Jvm.MethodName)) ∈ mtb := mtb_in 397 (by decide +kernel) rfl
theorem mw_337 : (Jvm.Cond.code ({ cls := "LaneSlices$Slices", name := "differsFrom", desc := "(LLaneSlices$Slices;)J" } : Jvm.MethodName) prog_8_method_10_code (5 : Nat) (Option.some Jvm.ClassFile.FieldType.long)) ∈ mtb := mtb_in 398 (by decide +kernel) rfl
theorem mw_338 : (Jvm.Cond.methodLink "LaneSlices$Slices" (54 : Nat) ({ cls := "LaneSlices$Slices", name := "becomeIn", desc := "(LLaneSlices$Slices;J)V" } : Jvm.MethodName)) ∈ mtb := mtb_in 399 (by decide +kernel) rfl
theorem mw_339 : (Jvm.Cond.methodLink "LaneSlicesLaw" (44 : Nat) ({ cls := "LaneSlices", name := "route", desc := "(III)I" } : Jvm.MethodName)) ∈ mtb := mtb_in 400 (by decide +kernel) rfl
theorem mw_340 : (Jvm.Cond.instanceMethod ({ cls := "LaneSlices", name := "route", desc := "(III)I" } : Jvm.MethodName)) ∈ mtb := mtb_in 401 (by decide +kernel) rfl
theorem mw_341 : (Jvm.Cond.selects "LaneSlices" ({ cls := "LaneSlices", name := "route", desc := "(III)I" } : Jvm.MethodName) ({ cls := "LaneSlices", name := "route", desc := "(III)I" } : Jvm.MethodName)) ∈ mtb := mtb_in 402 (by decide +kernel) rfl
theorem mw_342 : (Jvm.Cond.code ({ cls := "LaneSlices", name := "route", desc := "(III)I" } : Jvm.MethodName) prog_1_method_8_code (4 : Nat) (Option.some Jvm.ClassFile.FieldType.int)) ∈ mtb := mtb_in 403 (by decide +kernel) rfl
theorem mw_343 : (Jvm.Cond.methodLink "LaneSlices" (134 : Nat) ({ cls := "LaneSlices$Slices", name := "comeFrom", desc := "(LLaneSlices$Slices;II)V" } : Jvm.MethodName)) ∈ mtb := mtb_in 404 (by decide +kernel) rfl
theorem mw_344 : (Jvm.Cond.instanceMethod ({ cls := "LaneSlices$Slices", name := "comeFrom", desc := "(LLaneSlices$Slices;II)V" } : Jvm.MethodName)) ∈ mtb := mtb_in 405 (by decide +kernel) rfl
theorem mw_345 : (Jvm.Cond.selects "LaneSlices$Slices" ({ cls := "LaneSlices$Slices", name := "comeFrom", desc := "(LLaneSlices$Slices;II)V" } : Jvm.MethodName) ({ cls := "LaneSlices$Slices", name := "comeFrom", desc := "(LLaneSlices$Slices;II)V" } : Jvm.MethodName)) ∈ mtb := mtb_in 406 (by decide +kernel) rfl
theorem mw_346 : (Jvm.Cond.code ({ cls := "LaneSlices$Slices", name := "comeFrom", desc := "(LLaneSlices$Slices;II)V" } : Jvm.MethodName) prog_8_method_8_code (5 : Nat) (Option.none : Option Jvm.ClassFile.FieldType)) ∈ mtb := mtb_in 407 (by decide +kernel) rfl
theorem mw_347 : (Jvm.Cond.methodLinkNest "LaneSlices$Slices" (26 : Nat) ({ cls := "LaneSlices", name := "shift", desc := "(JII)J" } : Jvm.MethodName) "LaneSlices") ∈ lw_tbl := List.mem_of_getElem? (i := 408) (by decide +kernel)
theorem mw_348 : (Jvm.Cond.static ({ cls := "LaneSlices", name := "shift", desc := "(JII)J" } : Jvm.MethodName)) ∈ mtb := mtb_in 409 (by decide +kernel) rfl
theorem mw_349 : (Jvm.Cond.code ({ cls := "LaneSlices", name := "shift", desc := "(JII)J" } : Jvm.MethodName) prog_1_method_52_code (6 : Nat) (Option.some Jvm.ClassFile.FieldType.long)) ∈ mtb := mtb_in 410 (by decide +kernel) rfl
theorem mw_350 : (Jvm.Cond.methodLink "LaneSlices" (274 : Nat) ({ cls := "java/lang/Long", name := "rotateLeft", desc := "(JI)J" } : Jvm.MethodName)) ∈ mtb := mtb_in 411 (by decide +kernel) rfl
theorem mw_351 : (Jvm.Cond.static ({ cls := "java/lang/Long", name := "rotateLeft", desc := "(JI)J" } : Jvm.MethodName)) ∈ mtb := mtb_in 412 (by decide +kernel) rfl
theorem mw_352 : (Jvm.Cond.code ({ cls := "java/lang/Long", name := "rotateLeft", desc := "(JI)J" } : Jvm.MethodName) prog_17_method_51_code (3 : Nat) (Option.some Jvm.ClassFile.FieldType.long)) ∈ mtb := mtb_in 413 (by decide +kernel) rfl
theorem mw_353 : (Jvm.Cond.constantLong "LaneSlices" (278 : Nat) (-9187201950435737472 : Int64)) ∈ mtb := mtb_in 414 (by decide +kernel) rfl
theorem mw_354 : (Jvm.Cond.constantLong "LaneSlices" (280 : Nat) (9187201950435737471 : Int64)) ∈ mtb := mtb_in 415 (by decide +kernel) rfl
theorem mw_355 : (Jvm.Cond.methodLink "LaneSlices" (282 : Nat) ({ cls := "java/lang/Long", name := "rotateRight", desc := "(JI)J" } : Jvm.MethodName)) ∈ mtb := mtb_in 416 (by decide +kernel) rfl
theorem mw_356 : (Jvm.Cond.static ({ cls := "java/lang/Long", name := "rotateRight", desc := "(JI)J" } : Jvm.MethodName)) ∈ mtb := mtb_in 417 (by decide +kernel) rfl
theorem mw_357 : (Jvm.Cond.code ({ cls := "java/lang/Long", name := "rotateRight", desc := "(JI)J" } : Jvm.MethodName) prog_17_method_52_code (3 : Nat) (Option.some Jvm.ClassFile.FieldType.long)) ∈ mtb := mtb_in 418 (by decide +kernel) rfl
theorem mw_358 : (Jvm.Cond.constantLong "LaneSlices" (285 : Nat) (72340172838076673 : Int64)) ∈ mtb := mtb_in 419 (by decide +kernel) rfl
theorem mw_359 : (Jvm.Cond.constantLong "LaneSlices" (287 : Nat) (-72340172838076674 : Int64)) ∈ mtb := mtb_in 420 (by decide +kernel) rfl
theorem mw_360 : (Jvm.Cond.methodLink "LaneSlicesLaw" (48 : Nat) ({ cls := "LaneSlices", name := "edge", desc := "(I)I" } : Jvm.MethodName)) ∈ mtb := mtb_in 421 (by decide +kernel) rfl
theorem mw_361 : (Jvm.Cond.instanceMethod ({ cls := "LaneSlices", name := "edge", desc := "(I)I" } : Jvm.MethodName)) ∈ mtb := mtb_in 422 (by decide +kernel) rfl
theorem mw_362 : (Jvm.Cond.selects "LaneSlices" ({ cls := "LaneSlices", name := "edge", desc := "(I)I" } : Jvm.MethodName) ({ cls := "LaneSlices", name := "edge", desc := "(I)I" } : Jvm.MethodName)) ∈ mtb := mtb_in 423 (by decide +kernel) rfl
theorem mw_363 : (Jvm.Cond.code ({ cls := "LaneSlices", name := "edge", desc := "(I)I" } : Jvm.MethodName) prog_1_method_9_code (3 : Nat) (Option.some Jvm.ClassFile.FieldType.int)) ∈ mtb := mtb_in 424 (by decide +kernel) rfl
theorem mw_364 : (Jvm.Cond.methodLink "LaneSlicesLaw" (53 : Nat) ({ cls := "LaneSlices", name := "push", desc := "(II)I" } : Jvm.MethodName)) ∈ mtb := mtb_in 425 (by decide +kernel) rfl
theorem mw_365 : (Jvm.Cond.instanceMethod ({ cls := "LaneSlices", name := "push", desc := "(II)I" } : Jvm.MethodName)) ∈ mtb := mtb_in 426 (by decide +kernel) rfl
theorem mw_366 : (Jvm.Cond.selects "LaneSlices" ({ cls := "LaneSlices", name := "push", desc := "(II)I" } : Jvm.MethodName) ({ cls := "LaneSlices", name := "push", desc := "(II)I" } : Jvm.MethodName)) ∈ mtb := mtb_in 427 (by decide +kernel) rfl
theorem mw_367 : (Jvm.Cond.code ({ cls := "LaneSlices", name := "push", desc := "(II)I" } : Jvm.MethodName) prog_1_method_10_code (3 : Nat) (Option.some Jvm.ClassFile.FieldType.int)) ∈ mtb := mtb_in 428 (by decide +kernel) rfl
theorem mw_368 : (Jvm.Cond.methodLink "LaneSlices" (138 : Nat) ({ cls := "LaneSlices$Masks", name := "isFull", desc := "()Z" } : Jvm.MethodName)) ∈ mtb := mtb_in 429 (by decide +kernel) rfl
theorem mw_369 : (Jvm.Cond.instanceMethod ({ cls := "LaneSlices$Masks", name := "isFull", desc := "()Z" } : Jvm.MethodName)) ∈ mtb := mtb_in 430 (by decide +kernel) rfl
theorem mw_370 : (Jvm.Cond.selects "LaneSlices$Masks" ({ cls := "LaneSlices$Masks", name := "isFull", desc := "()Z" } : Jvm.MethodName) ({ cls := "LaneSlices$Masks", name := "isFull", desc := "()Z" } : Jvm.MethodName)) ∈ mtb := mtb_in 431 (by decide +kernel) rfl
theorem mw_371 : (Jvm.Cond.code ({ cls := "LaneSlices$Masks", name := "isFull", desc := "()Z" } : Jvm.MethodName) prog_4_method_2_code (1 : Nat) (Option.some Jvm.ClassFile.FieldType.boolean)) ∈ mtb := mtb_in 432 (by decide +kernel) rfl
theorem mw_372 : (Jvm.Cond.methodLink "LaneSlices" (142 : Nat) ({ cls := "LaneSlices$Masks", name := "lie", desc := "(J)V" } : Jvm.MethodName)) ∈ mtb := mtb_in 433 (by decide +kernel) rfl
theorem mw_373 : (Jvm.Cond.instanceMethod ({ cls := "LaneSlices$Masks", name := "lie", desc := "(J)V" } : Jvm.MethodName)) ∈ mtb := mtb_in 434 (by decide +kernel) rfl
theorem mw_374 : (Jvm.Cond.selects "LaneSlices$Masks" ({ cls := "LaneSlices$Masks", name := "lie", desc := "(J)V" } : Jvm.MethodName) ({ cls := "LaneSlices$Masks", name := "lie", desc := "(J)V" } : Jvm.MethodName)) ∈ mtb := mtb_in 435 (by decide +kernel) rfl
theorem mw_375 : (Jvm.Cond.code ({ cls := "LaneSlices$Masks", name := "lie", desc := "(J)V" } : Jvm.MethodName) prog_4_method_3_code (3 : Nat) (Option.none : Option Jvm.ClassFile.FieldType)) ∈ mtb := mtb_in 436 (by decide +kernel) rfl
theorem mw_376 : (Jvm.Cond.methodLink "LaneSlicesLaw" (57 : Nat) ({ cls := "LaneSlices", name := "other", desc := "()I" } : Jvm.MethodName)) ∈ mtb := mtb_in 437 (by decide +kernel) rfl
theorem mw_377 : (Jvm.Cond.instanceMethod ({ cls := "LaneSlices", name := "other", desc := "()I" } : Jvm.MethodName)) ∈ mtb := mtb_in 438 (by decide +kernel) rfl
theorem mw_378 : (Jvm.Cond.selects "LaneSlices" ({ cls := "LaneSlices", name := "other", desc := "()I" } : Jvm.MethodName) ({ cls := "LaneSlices", name := "other", desc := "()I" } : Jvm.MethodName)) ∈ mtb := mtb_in 439 (by decide +kernel) rfl
theorem mw_379 : (Jvm.Cond.code ({ cls := "LaneSlices", name := "other", desc := "()I" } : Jvm.MethodName) prog_1_method_11_code (1 : Nat) (Option.some Jvm.ClassFile.FieldType.int)) ∈ mtb := mtb_in 440 (by decide +kernel) rfl
theorem mw_380 : (Jvm.Cond.methodLink "LaneSlices" (149 : Nat) ({ cls := "LaneSlices$Masks", name := "turn", desc := "()V" } : Jvm.MethodName)) ∈ mtb := mtb_in 441 (by decide +kernel) rfl
theorem mw_381 : (Jvm.Cond.instanceMethod ({ cls := "LaneSlices$Masks", name := "turn", desc := "()V" } : Jvm.MethodName)) ∈ mtb := mtb_in 442 (by decide +kernel) rfl
theorem mw_382 : (Jvm.Cond.selects "LaneSlices$Masks" ({ cls := "LaneSlices$Masks", name := "turn", desc := "()V" } : Jvm.MethodName) ({ cls := "LaneSlices$Masks", name := "turn", desc := "()V" } : Jvm.MethodName)) ∈ mtb := mtb_in 443 (by decide +kernel) rfl
theorem mw_383 : (Jvm.Cond.code ({ cls := "LaneSlices$Masks", name := "turn", desc := "()V" } : Jvm.MethodName) prog_4_method_4_code (1 : Nat) (Option.none : Option Jvm.ClassFile.FieldType)) ∈ mtb := mtb_in 444 (by decide +kernel) rfl
theorem mw_384 : (Jvm.Cond.methodLink "LaneSlicesLaw" (62 : Nat) ({ cls := "LaneSlices", name := "pop", desc := "()I" } : Jvm.MethodName)) ∈ mtb := mtb_in 445 (by decide +kernel) rfl
theorem mw_385 : (Jvm.Cond.instanceMethod ({ cls := "LaneSlices", name := "pop", desc := "()I" } : Jvm.MethodName)) ∈ mtb := mtb_in 446 (by decide +kernel) rfl
theorem mw_386 : (Jvm.Cond.selects "LaneSlices" ({ cls := "LaneSlices", name := "pop", desc := "()I" } : Jvm.MethodName) ({ cls := "LaneSlices", name := "pop", desc := "()I" } : Jvm.MethodName)) ∈ mtb := mtb_in 447 (by decide +kernel) rfl
theorem mw_387 : (Jvm.Cond.code ({ cls := "LaneSlices", name := "pop", desc := "()I" } : Jvm.MethodName) prog_1_method_12_code (1 : Nat) (Option.some Jvm.ClassFile.FieldType.int)) ∈ mtb := mtb_in 448 (by decide +kernel) rfl
theorem mw_388 : (Jvm.Cond.methodLink "LaneSlicesLaw" (66 : Nat) ({ cls := "LaneSlices", name := "active", desc := "()J" } : Jvm.MethodName)) ∈ mtb := mtb_in 449 (by decide +kernel) rfl
theorem mw_389 : (Jvm.Cond.instanceMethod ({ cls := "LaneSlices", name := "active", desc := "()J" } : Jvm.MethodName)) ∈ mtb := mtb_in 450 (by decide +kernel) rfl
theorem mw_390 : (Jvm.Cond.selects "LaneSlices" ({ cls := "LaneSlices", name := "active", desc := "()J" } : Jvm.MethodName) ({ cls := "LaneSlices", name := "active", desc := "()J" } : Jvm.MethodName)) ∈ mtb := mtb_in 451 (by decide +kernel) rfl
theorem mw_391 : (Jvm.Cond.code ({ cls := "LaneSlices", name := "active", desc := "()J" } : Jvm.MethodName) prog_1_method_13_code (1 : Nat) (Option.some Jvm.ClassFile.FieldType.long)) ∈ mtb := mtb_in 452 (by decide +kernel) rfl
theorem mw_392 : (Jvm.Cond.methodLink "LaneSlicesLaw" (71 : Nat) ({ cls := "LaneSlices", name := "reduce", desc := "(II)I" } : Jvm.MethodName)) ∈ mtb := mtb_in 453 (by decide +kernel) rfl
theorem mw_393 : (Jvm.Cond.instanceMethod ({ cls := "LaneSlices", name := "reduce", desc := "(II)I" } : Jvm.MethodName)) ∈ mtb := mtb_in 454 (by decide +kernel) rfl
theorem mw_394 : (Jvm.Cond.selects "LaneSlices" ({ cls := "LaneSlices", name := "reduce", desc := "(II)I" } : Jvm.MethodName) ({ cls := "LaneSlices", name := "reduce", desc := "(II)I" } : Jvm.MethodName)) ∈ mtb := mtb_in 455 (by decide +kernel) rfl
theorem mw_395 : (Jvm.Cond.code ({ cls := "LaneSlices", name := "reduce", desc := "(II)I" } : Jvm.MethodName) prog_1_method_14_code (6 : Nat) (Option.some Jvm.ClassFile.FieldType.int)) ∈ mtb := mtb_in 456 (by decide +kernel) rfl
theorem mw_396 : (Jvm.Cond.methodLink "LaneSlices" (152 : Nat) ({ cls := "LaneSlices$Slices", name := "sum", desc := "(J)I" } : Jvm.MethodName)) ∈ mtb := mtb_in 457 (by decide +kernel) rfl
theorem mw_397 : (Jvm.Cond.instanceMethod ({ cls := "LaneSlices$Slices", name := "sum", desc := "(J)I" } : Jvm.MethodName)) ∈ mtb := mtb_in 458 (by decide +kernel) rfl
theorem mw_398 : (Jvm.Cond.selects "LaneSlices$Slices" ({ cls := "LaneSlices$Slices", name := "sum", desc := "(J)I" } : Jvm.MethodName) ({ cls := "LaneSlices$Slices", name := "sum", desc := "(J)I" } : Jvm.MethodName)) ∈ mtb := mtb_in 459 (by decide +kernel) rfl
theorem mw_399 : (Jvm.Cond.code ({ cls := "LaneSlices$Slices", name := "sum", desc := "(J)I" } : Jvm.MethodName) prog_8_method_19_code (5 : Nat) (Option.some Jvm.ClassFile.FieldType.int)) ∈ mtb := mtb_in 460 (by decide +kernel) rfl
theorem mw_400 : (Jvm.Cond.methodLink "LaneSlices$Slices" (58 : Nat) ({ cls := "java/lang/Long", name := "bitCount", desc := "(J)I" } : Jvm.MethodName)) ∈ mtb := mtb_in 461 (by decide +kernel) rfl
theorem mw_401 : (Jvm.Cond.methodLink "LaneSlices" (155 : Nat) ({ cls := "LaneSlices$Slices", name := "greatest", desc := "(J)I" } : Jvm.MethodName)) ∈ mtb := mtb_in 462 (by decide +kernel) rfl
theorem mw_402 : (Jvm.Cond.instanceMethod ({ cls := "LaneSlices$Slices", name := "greatest", desc := "(J)I" } : Jvm.MethodName)) ∈ mtb := mtb_in 463 (by decide +kernel) rfl
theorem mw_403 : (Jvm.Cond.selects "LaneSlices$Slices" ({ cls := "LaneSlices$Slices", name := "greatest", desc := "(J)I" } : Jvm.MethodName) ({ cls := "LaneSlices$Slices", name := "greatest", desc := "(J)I" } : Jvm.MethodName)) ∈ mtb := mtb_in 464 (by decide +kernel) rfl
theorem mw_404 : (Jvm.Cond.code ({ cls := "LaneSlices$Slices", name := "greatest", desc := "(J)I" } : Jvm.MethodName) prog_8_method_20_code (3 : Nat) (Option.some Jvm.ClassFile.FieldType.int)) ∈ mtb := mtb_in 465 (by decide +kernel) rfl
theorem mw_405 : (Jvm.Cond.methodLink "LaneSlices$Slices" (64 : Nat) ({ cls := "LaneSlices$Slices", name := "firstGreatest", desc := "(J)I" } : Jvm.MethodName)) ∈ mtb := mtb_in 466 (by decide +kernel) rfl
theorem mw_406 : (Jvm.Cond.instanceMethod ({ cls := "LaneSlices$Slices", name := "firstGreatest", desc := "(J)I" } : Jvm.MethodName)) ∈ mtb := mtb_in 467 (by decide +kernel) rfl
theorem mw_407 : (Jvm.Cond.selects "LaneSlices$Slices" ({ cls := "LaneSlices$Slices", name := "firstGreatest", desc := "(J)I" } : Jvm.MethodName) ({ cls := "LaneSlices$Slices", name := "firstGreatest", desc := "(J)I" } : Jvm.MethodName)) ∈ mtb := mtb_in 468 (by decide +kernel) rfl
theorem mw_408 : (Jvm.Cond.code ({ cls := "LaneSlices$Slices", name := "firstGreatest", desc := "(J)I" } : Jvm.MethodName) prog_8_method_21_code (8 : Nat) (Option.some Jvm.ClassFile.FieldType.int)) ∈ mtb := mtb_in 469 (by decide +kernel) rfl
theorem mw_409 : (Jvm.Cond.methodLink "LaneSlices$Slices" (71 : Nat) ({ cls := "java/lang/Long", name := "numberOfTrailingZeros", desc := "(J)I" } : Jvm.MethodName)) ∈ mtb := mtb_in 470 (by decide +kernel) rfl
theorem mw_410 : (Jvm.Cond.static ({ cls := "java/lang/Long", name := "numberOfTrailingZeros", desc := "(J)I" } : Jvm.MethodName)) ∈ mtb := mtb_in 471 (by decide +kernel) rfl
theorem mw_411 : (Jvm.Cond.code ({ cls := "java/lang/Long", name := "numberOfTrailingZeros", desc := "(J)I" } : Jvm.MethodName) prog_17_method_49_code (3 : Nat) (Option.some Jvm.ClassFile.FieldType.int)) ∈ mtb := mtb_in 472 (by decide +kernel) rfl
theorem mw_412 : (Jvm.Cond.methodLink "java/lang/Long" (311 : Nat) ({ cls := "java/lang/Integer", name := "numberOfTrailingZeros", desc := "(I)I" } : Jvm.MethodName)) ∈ mtb := mtb_in 473 (by decide +kernel) rfl
theorem mw_413 : (Jvm.Cond.static ({ cls := "java/lang/Integer", name := "numberOfTrailingZeros", desc := "(I)I" } : Jvm.MethodName)) ∈ mtb := mtb_in 474 (by decide +kernel) rfl
theorem mw_414 : (Jvm.Cond.code ({ cls := "java/lang/Integer", name := "numberOfTrailingZeros", desc := "(I)I" } : Jvm.MethodName) prog_16_method_48_code (2 : Nat) (Option.some Jvm.ClassFile.FieldType.int)) ∈ mtb := mtb_in 475 (by decide +kernel) rfl
theorem mw_415 : (Jvm.Cond.constant "java/lang/Integer" (264 : Nat) (65536 : Int32)) ∈ mtb := mtb_in 476 (by decide +kernel) rfl
theorem mw_416 : (Jvm.Cond.methodLink "LaneSlices$Slices" (67 : Nat) ({ cls := "LaneSlices$Slices", name := "inLane", desc := "(I)I" } : Jvm.MethodName)) ∈ mtb := mtb_in 477 (by decide +kernel) rfl
theorem mw_417 : (Jvm.Cond.methodLink "LaneSlices" (158 : Nat) ({ cls := "LaneSlices$Slices", name := "least", desc := "(J)I" } : Jvm.MethodName)) ∈ mtb := mtb_in 478 (by decide +kernel) rfl
theorem mw_418 : (Jvm.Cond.instanceMethod ({ cls := "LaneSlices$Slices", name := "least", desc := "(J)I" } : Jvm.MethodName)) ∈ mtb := mtb_in 479 (by decide +kernel) rfl
theorem mw_419 : (Jvm.Cond.selects "LaneSlices$Slices" ({ cls := "LaneSlices$Slices", name := "least", desc := "(J)I" } : Jvm.MethodName) ({ cls := "LaneSlices$Slices", name := "least", desc := "(J)I" } : Jvm.MethodName)) ∈ mtb := mtb_in 480 (by decide +kernel) rfl
theorem mw_420 : (Jvm.Cond.code ({ cls := "LaneSlices$Slices", name := "least", desc := "(J)I" } : Jvm.MethodName) prog_8_method_22_code (8 : Nat) (Option.some Jvm.ClassFile.FieldType.int)) ∈ mtb := mtb_in 481 (by decide +kernel) rfl
theorem mw_421 : (Jvm.Cond.methodLink "LaneSlices" (161 : Nat) ({ cls := "LaneSlices$Slices", name := "bitsInAny", desc := "(J)I" } : Jvm.MethodName)) ∈ mtb := mtb_in 482 (by decide +kernel) rfl
theorem mw_422 : (Jvm.Cond.instanceMethod ({ cls := "LaneSlices$Slices", name := "bitsInAny", desc := "(J)I" } : Jvm.MethodName)) ∈ mtb := mtb_in 483 (by decide +kernel) rfl
theorem mw_423 : (Jvm.Cond.selects "LaneSlices$Slices" ({ cls := "LaneSlices$Slices", name := "bitsInAny", desc := "(J)I" } : Jvm.MethodName) ({ cls := "LaneSlices$Slices", name := "bitsInAny", desc := "(J)I" } : Jvm.MethodName)) ∈ mtb := mtb_in 484 (by decide +kernel) rfl
theorem mw_424 : (Jvm.Cond.code ({ cls := "LaneSlices$Slices", name := "bitsInAny", desc := "(J)I" } : Jvm.MethodName) prog_8_method_23_code (5 : Nat) (Option.some Jvm.ClassFile.FieldType.int)) ∈ mtb := mtb_in 485 (by decide +kernel) rfl
theorem mw_425 : (Jvm.Cond.methodLink "LaneSlices" (164 : Nat) ({ cls := "LaneSlices$Slices", name := "bitsInAll", desc := "(J)I" } : Jvm.MethodName)) ∈ mtb := mtb_in 486 (by decide +kernel) rfl
theorem mw_426 : (Jvm.Cond.instanceMethod ({ cls := "LaneSlices$Slices", name := "bitsInAll", desc := "(J)I" } : Jvm.MethodName)) ∈ mtb := mtb_in 487 (by decide +kernel) rfl
theorem mw_427 : (Jvm.Cond.selects "LaneSlices$Slices" ({ cls := "LaneSlices$Slices", name := "bitsInAll", desc := "(J)I" } : Jvm.MethodName) ({ cls := "LaneSlices$Slices", name := "bitsInAll", desc := "(J)I" } : Jvm.MethodName)) ∈ mtb := mtb_in 488 (by decide +kernel) rfl
theorem mw_428 : (Jvm.Cond.code ({ cls := "LaneSlices$Slices", name := "bitsInAll", desc := "(J)I" } : Jvm.MethodName) prog_8_method_24_code (5 : Nat) (Option.some Jvm.ClassFile.FieldType.int)) ∈ mtb := mtb_in 489 (by decide +kernel) rfl
theorem mw_429 : (Jvm.Cond.methodLink "LaneSlices" (167 : Nat) ({ cls := "LaneSlices$Slices", name := "notZero", desc := "()J" } : Jvm.MethodName)) ∈ mtb := mtb_in 490 (by decide +kernel) rfl
theorem mw_430 : (Jvm.Cond.instanceMethod ({ cls := "LaneSlices$Slices", name := "notZero", desc := "()J" } : Jvm.MethodName)) ∈ mtb := mtb_in 491 (by decide +kernel) rfl
theorem mw_431 : (Jvm.Cond.selects "LaneSlices$Slices" ({ cls := "LaneSlices$Slices", name := "notZero", desc := "()J" } : Jvm.MethodName) ({ cls := "LaneSlices$Slices", name := "notZero", desc := "()J" } : Jvm.MethodName)) ∈ mtb := mtb_in 492 (by decide +kernel) rfl
theorem mw_432 : (Jvm.Cond.code ({ cls := "LaneSlices$Slices", name := "notZero", desc := "()J" } : Jvm.MethodName) prog_8_method_9_code (4 : Nat) (Option.some Jvm.ClassFile.FieldType.long)) ∈ mtb := mtb_in 493 (by decide +kernel) rfl
theorem mw_433 : (Jvm.Cond.methodLink "LaneSlices" (170 : Nat) ({ cls := "LaneSlices$Slices", name := "firstGreatest", desc := "(J)I" } : Jvm.MethodName)) ∈ mtb := mtb_in 494 (by decide +kernel) rfl
theorem mw_434 : (Jvm.Cond.methodLink "LaneSlicesLaw" (75 : Nat) ({ cls := "LaneSlices", name := "part", desc := "(III)I" } : Jvm.MethodName)) ∈ mtb := mtb_in 495 (by decide +kernel) rfl
theorem mw_435 : (Jvm.Cond.instanceMethod ({ cls := "LaneSlices", name := "part", desc := "(III)I" } : Jvm.MethodName)) ∈ mtb := mtb_in 496 (by decide +kernel) rfl
theorem mw_436 : (Jvm.Cond.selects "LaneSlices" ({ cls := "LaneSlices", name := "part", desc := "(III)I" } : Jvm.MethodName) ({ cls := "LaneSlices", name := "part", desc := "(III)I" } : Jvm.MethodName)) ∈ mtb := mtb_in 497 (by decide +kernel) rfl
theorem mw_437 : (Jvm.Cond.code ({ cls := "LaneSlices", name := "part", desc := "(III)I" } : Jvm.MethodName) prog_1_method_15_code (7 : Nat) (Option.some Jvm.ClassFile.FieldType.int)) ∈ mtb := mtb_in 498 (by decide +kernel) rfl
theorem mw_438 : (Jvm.Cond.methodLink "LaneSlicesLaw" (79 : Nat) ({ cls := "LaneSlices", name := "rank", desc := "(II)I" } : Jvm.MethodName)) ∈ mtb := mtb_in 499 (by decide +kernel) rfl
theorem mw_439 : (Jvm.Cond.instanceMethod ({ cls := "LaneSlices", name := "rank", desc := "(II)I" } : Jvm.MethodName)) ∈ mtb := mtb_in 500 (by decide +kernel) rfl
theorem mw_440 : (Jvm.Cond.selects "LaneSlices" ({ cls := "LaneSlices", name := "rank", desc := "(II)I" } : Jvm.MethodName) ({ cls := "LaneSlices", name := "rank", desc := "(II)I" } : Jvm.MethodName)) ∈ mtb := mtb_in 501 (by decide +kernel) rfl
theorem mw_441 : (Jvm.Cond.code ({ cls := "LaneSlices", name := "rank", desc := "(II)I" } : Jvm.MethodName) prog_1_method_16_code (4 : Nat) (Option.some Jvm.ClassFile.FieldType.int)) ∈ mtb := mtb_in 502 (by decide +kernel) rfl
theorem mw_442 : (Jvm.Cond.methodLink "LaneSlices" (173 : Nat) ({ cls := "LaneSlices$Slices", name := "lanesBelow", desc := "(LLaneSlices$Slices;)J" } : Jvm.MethodName)) ∈ mtb := mtb_in 503 (by decide +kernel) rfl
theorem mw_443 : (Jvm.Cond.methodLink "LaneSlicesLaw" (83 : Nat) ({ cls := "LaneSlices", name := "alike", desc := "(I)J" } : Jvm.MethodName)) ∈ mtb := mtb_in 504 (by decide +kernel) rfl
theorem mw_444 : (Jvm.Cond.instanceMethod ({ cls := "LaneSlices", name := "alike", desc := "(I)J" } : Jvm.MethodName)) ∈ mtb := mtb_in 505 (by decide +kernel) rfl
theorem mw_445 : (Jvm.Cond.selects "LaneSlices" ({ cls := "LaneSlices", name := "alike", desc := "(I)J" } : Jvm.MethodName) ({ cls := "LaneSlices", name := "alike", desc := "(I)J" } : Jvm.MethodName)) ∈ mtb := mtb_in 506 (by decide +kernel) rfl
theorem mw_446 : (Jvm.Cond.code ({ cls := "LaneSlices", name := "alike", desc := "(I)J" } : Jvm.MethodName) prog_1_method_17_code (5 : Nat) (Option.some Jvm.ClassFile.FieldType.long)) ∈ mtb := mtb_in 507 (by decide +kernel) rfl
theorem mw_447 : (Jvm.Cond.methodLink "LaneSlices" (177 : Nat) ({ cls := "LaneSlices", name := "lanesLike", desc := "(II)J" } : Jvm.MethodName)) ∈ mtb := mtb_in 508 (by decide +kernel) rfl
theorem mw_449 : (Jvm.Cond.instanceMethod ({ cls := "LaneSlices", name := "lanesLike", desc := "(II)J" } : Jvm.MethodName)) ∈ mtb := mtb_in 510 (by decide +kernel) rfl
theorem mw_450 : (Jvm.Cond.code ({ cls := "LaneSlices", name := "lanesLike", desc := "(II)J" } : Jvm.MethodName) prog_1_method_49_code (4 : Nat) (Option.some Jvm.ClassFile.FieldType.long)) ∈ mtb := mtb_in 511 (by decide +kernel) rfl
theorem mw_451 : (Jvm.Cond.methodLink "LaneSlices" (268 : Nat) ({ cls := "LaneSlices$Slices", name := "differsFrom", desc := "(LLaneSlices$Slices;)J" } : Jvm.MethodName)) ∈ mtb := mtb_in 512 (by decide +kernel) rfl
theorem mw_452 : (Jvm.Cond.methodLink "LaneSlicesLaw" (88 : Nat) ({ cls := "LaneSlices", name := "region", desc := "(II)J" } : Jvm.MethodName)) ∈ mtb := mtb_in 513 (by decide +kernel) rfl
theorem mw_453 : (Jvm.Cond.instanceMethod ({ cls := "LaneSlices", name := "region", desc := "(II)J" } : Jvm.MethodName)) ∈ mtb := mtb_in 514 (by decide +kernel) rfl
theorem mw_454 : (Jvm.Cond.selects "LaneSlices" ({ cls := "LaneSlices", name := "region", desc := "(II)J" } : Jvm.MethodName) ({ cls := "LaneSlices", name := "region", desc := "(II)J" } : Jvm.MethodName)) ∈ mtb := mtb_in 515 (by decide +kernel) rfl
theorem mw_455 : (Jvm.Cond.code ({ cls := "LaneSlices", name := "region", desc := "(II)J" } : Jvm.MethodName) prog_1_method_18_code (3 : Nat) (Option.some Jvm.ClassFile.FieldType.long)) ∈ mtb := mtb_in 516 (by decide +kernel) rfl
theorem mw_456 : (Jvm.Cond.methodLink "LaneSlices" (181 : Nat) ({ cls := "LaneSlices", name := "flood", desc := "(II)J" } : Jvm.MethodName)) ∈ mtb := mtb_in 517 (by decide +kernel) rfl
theorem mw_458 : (Jvm.Cond.instanceMethod ({ cls := "LaneSlices", name := "flood", desc := "(II)J" } : Jvm.MethodName)) ∈ mtb := mtb_in 519 (by decide +kernel) rfl
theorem mw_459 : (Jvm.Cond.code ({ cls := "LaneSlices", name := "flood", desc := "(II)J" } : Jvm.MethodName) prog_1_method_50_code (10 : Nat) (Option.some Jvm.ClassFile.FieldType.long)) ∈ mtb := mtb_in 520 (by decide +kernel) rfl
theorem mw_460 : (Jvm.Cond.methodLink "LaneSlices" (184 : Nat) ({ cls := "LaneSlices", name := "spread", desc := "(JJ)J" } : Jvm.MethodName)) ∈ mtb := mtb_in 521 (by decide +kernel) rfl
theorem mw_462 : (Jvm.Cond.instanceMethod ({ cls := "LaneSlices", name := "spread", desc := "(JJ)J" } : Jvm.MethodName)) ∈ mtb := mtb_in 523 (by decide +kernel) rfl
theorem mw_463 : (Jvm.Cond.code ({ cls := "LaneSlices", name := "spread", desc := "(JJ)J" } : Jvm.MethodName) prog_1_method_51_code (8 : Nat) (Option.some Jvm.ClassFile.FieldType.long)) ∈ mtb := mtb_in 524 (by decide +kernel) rfl
theorem mw_464 : (Jvm.Cond.methodLink "LaneSlices" (270 : Nat) ({ cls := "LaneSlices", name := "shift", desc := "(JII)J" } : Jvm.MethodName)) ∈ mtb := mtb_in 525 (by decide +kernel) rfl
theorem mw_465 : (Jvm.Cond.methodLink "LaneSlicesLaw" (92 : Nat) ({ cls := "LaneSlices", name := "regions", desc := "(I)I" } : Jvm.MethodName)) ∈ mtb := mtb_in 526 (by decide +kernel) rfl
theorem mw_466 : (Jvm.Cond.instanceMethod ({ cls := "LaneSlices", name := "regions", desc := "(I)I" } : Jvm.MethodName)) ∈ mtb := mtb_in 527 (by decide +kernel) rfl
theorem mw_467 : (Jvm.Cond.selects "LaneSlices" ({ cls := "LaneSlices", name := "regions", desc := "(I)I" } : Jvm.MethodName) ({ cls := "LaneSlices", name := "regions", desc := "(I)I" } : Jvm.MethodName)) ∈ mtb := mtb_in 528 (by decide +kernel) rfl
theorem mw_468 : (Jvm.Cond.code ({ cls := "LaneSlices", name := "regions", desc := "(I)I" } : Jvm.MethodName) prog_1_method_19_code (6 : Nat) (Option.some Jvm.ClassFile.FieldType.int)) ∈ mtb := mtb_in 529 (by decide +kernel) rfl
theorem mw_469 : (Jvm.Cond.methodLink "LaneSlicesLaw" (96 : Nat) ({ cls := "LaneSlices", name := "way", desc := "(III)I" } : Jvm.MethodName)) ∈ mtb := mtb_in 530 (by decide +kernel) rfl
theorem mw_470 : (Jvm.Cond.instanceMethod ({ cls := "LaneSlices", name := "way", desc := "(III)I" } : Jvm.MethodName)) ∈ mtb := mtb_in 531 (by decide +kernel) rfl
theorem mw_471 : (Jvm.Cond.selects "LaneSlices" ({ cls := "LaneSlices", name := "way", desc := "(III)I" } : Jvm.MethodName) ({ cls := "LaneSlices", name := "way", desc := "(III)I" } : Jvm.MethodName)) ∈ mtb := mtb_in 532 (by decide +kernel) rfl
theorem mw_472 : (Jvm.Cond.code ({ cls := "LaneSlices", name := "way", desc := "(III)I" } : Jvm.MethodName) prog_1_method_20_code (9 : Nat) (Option.some Jvm.ClassFile.FieldType.int)) ∈ mtb := mtb_in 533 (by decide +kernel) rfl
theorem mw_473 : (Jvm.Cond.methodLink "LaneSlicesLaw" (100 : Nat) ({ cls := "LaneSlices", name := "feed", desc := "(JI)I" } : Jvm.MethodName)) ∈ mtb := mtb_in 534 (by decide +kernel) rfl
theorem mw_474 : (Jvm.Cond.instanceMethod ({ cls := "LaneSlices", name := "feed", desc := "(JI)I" } : Jvm.MethodName)) ∈ mtb := mtb_in 535 (by decide +kernel) rfl
theorem mw_475 : (Jvm.Cond.selects "LaneSlices" ({ cls := "LaneSlices", name := "feed", desc := "(JI)I" } : Jvm.MethodName) ({ cls := "LaneSlices", name := "feed", desc := "(JI)I" } : Jvm.MethodName)) ∈ mtb := mtb_in 536 (by decide +kernel) rfl
theorem mw_476 : (Jvm.Cond.code ({ cls := "LaneSlices", name := "feed", desc := "(JI)I" } : Jvm.MethodName) prog_1_method_21_code (6 : Nat) (Option.some Jvm.ClassFile.FieldType.int)) ∈ mtb := mtb_in 537 (by decide +kernel) rfl
theorem mw_477 : (Jvm.Cond.methodLink "LaneSlices" (197 : Nat) ({ cls := "LaneSlices$Tape", name := "lengthen", desc := "(I)V" } : Jvm.MethodName)) ∈ mtb := mtb_in 538 (by decide +kernel) rfl
theorem mw_478 : (Jvm.Cond.instanceMethod ({ cls := "LaneSlices$Tape", name := "lengthen", desc := "(I)V" } : Jvm.MethodName)) ∈ mtb := mtb_in 539 (by decide +kernel) rfl
theorem mw_479 : (Jvm.Cond.selects "LaneSlices$Tape" ({ cls := "LaneSlices$Tape", name := "lengthen", desc := "(I)V" } : Jvm.MethodName) ({ cls := "LaneSlices$Tape", name := "lengthen", desc := "(I)V" } : Jvm.MethodName)) ∈ mtb := mtb_in 540 (by decide +kernel) rfl
theorem mw_480 : (Jvm.Cond.code ({ cls := "LaneSlices$Tape", name := "lengthen", desc := "(I)V" } : Jvm.MethodName) prog_9_method_2_code (2 : Nat) (Option.none : Option Jvm.ClassFile.FieldType)) ∈ mtb := mtb_in 541 (by decide +kernel) rfl
theorem mw_481 : (Jvm.Cond.methodLink "LaneSlicesLaw" (105 : Nat) ({ cls := "LaneSlices", name := "wipe", desc := "()I" } : Jvm.MethodName)) ∈ mtb := mtb_in 542 (by decide +kernel) rfl
theorem mw_482 : (Jvm.Cond.instanceMethod ({ cls := "LaneSlices", name := "wipe", desc := "()I" } : Jvm.MethodName)) ∈ mtb := mtb_in 543 (by decide +kernel) rfl
theorem mw_483 : (Jvm.Cond.selects "LaneSlices" ({ cls := "LaneSlices", name := "wipe", desc := "()I" } : Jvm.MethodName) ({ cls := "LaneSlices", name := "wipe", desc := "()I" } : Jvm.MethodName)) ∈ mtb := mtb_in 544 (by decide +kernel) rfl
theorem mw_484 : (Jvm.Cond.code ({ cls := "LaneSlices", name := "wipe", desc := "()I" } : Jvm.MethodName) prog_1_method_22_code (2 : Nat) (Option.some Jvm.ClassFile.FieldType.int)) ∈ mtb := mtb_in 545 (by decide +kernel) rfl
theorem mw_485 : (Jvm.Cond.methodLink "LaneSlicesLaw" (109 : Nat) ({ cls := "LaneSlices", name := "text", desc := "()I" } : Jvm.MethodName)) ∈ mtb := mtb_in 546 (by decide +kernel) rfl
theorem mw_486 : (Jvm.Cond.instanceMethod ({ cls := "LaneSlices", name := "text", desc := "()I" } : Jvm.MethodName)) ∈ mtb := mtb_in 547 (by decide +kernel) rfl
theorem mw_487 : (Jvm.Cond.selects "LaneSlices" ({ cls := "LaneSlices", name := "text", desc := "()I" } : Jvm.MethodName) ({ cls := "LaneSlices", name := "text", desc := "()I" } : Jvm.MethodName)) ∈ mtb := mtb_in 548 (by decide +kernel) rfl
theorem mw_488 : (Jvm.Cond.code ({ cls := "LaneSlices", name := "text", desc := "()I" } : Jvm.MethodName) prog_1_method_23_code (2 : Nat) (Option.some Jvm.ClassFile.FieldType.int)) ∈ mtb := mtb_in 549 (by decide +kernel) rfl
theorem mw_489 : (Jvm.Cond.methodLink "LaneSlices" (200 : Nat) ({ cls := "LaneSlices$Reader", name := "read", desc := "()LLaneSlices$Program;" } : Jvm.MethodName)) ∈ mtb := mtb_in 550 (by decide +kernel) rfl
theorem mw_490 : (Jvm.Cond.instanceMethod ({ cls := "LaneSlices$Reader", name := "read", desc := "()LLaneSlices$Program;" } : Jvm.MethodName)) ∈ mtb := mtb_in 551 (by decide +kernel) rfl
theorem mw_491 : (Jvm.Cond.selects "LaneSlices$Reader" ({ cls := "LaneSlices$Reader", name := "read", desc := "()LLaneSlices$Program;" } : Jvm.MethodName) ({ cls := "LaneSlices$Reader", name := "read", desc := "()LLaneSlices$Program;" } : Jvm.MethodName)) ∈ mtb := mtb_in 552 (by decide +kernel) rfl
theorem mw_492 : (Jvm.Cond.code ({ cls := "LaneSlices$Reader", name := "read", desc := "()LLaneSlices$Program;" } : Jvm.MethodName) prog_6_method_2_code (2 : Nat) (Option.some (Jvm.ClassFile.FieldType.object "LaneSlices$Program"))) ∈ mtb := mtb_in 553 (by decide +kernel) rfl
theorem mw_493 : (Jvm.Cond.methodLink "LaneSlices$Reader" (32 : Nat) ({ cls := "LaneSlices$Reader", name := "block", desc := "(II)LLaneSlices$Deed;" } : Jvm.MethodName)) ∈ mtb := mtb_in 554 (by decide +kernel) rfl
theorem mw_495 : (Jvm.Cond.instanceMethod ({ cls := "LaneSlices$Reader", name := "block", desc := "(II)LLaneSlices$Deed;" } : Jvm.MethodName)) ∈ mtb := mtb_in 556 (by decide +kernel) rfl
theorem mw_496 : (Jvm.Cond.code ({ cls := "LaneSlices$Reader", name := "block", desc := "(II)LLaneSlices$Deed;" } : Jvm.MethodName) prog_6_method_6_code (7 : Nat) (Option.some (Jvm.ClassFile.FieldType.object "LaneSlices$Deed"))) ∈ mtb := mtb_in 557 (by decide +kernel) rfl
theorem mw_497 : (Jvm.Cond.methodLink "LaneSlices$Reader" (54 : Nat) ({ cls := "LaneSlices$Reader", name := "deed", desc := "(II)LLaneSlices$Deed;" } : Jvm.MethodName)) ∈ mtb := mtb_in 558 (by decide +kernel) rfl
theorem mw_499 : (Jvm.Cond.instanceMethod ({ cls := "LaneSlices$Reader", name := "deed", desc := "(II)LLaneSlices$Deed;" } : Jvm.MethodName)) ∈ mtb := mtb_in 560 (by decide +kernel) rfl
theorem mw_500 : (Jvm.Cond.code ({ cls := "LaneSlices$Reader", name := "deed", desc := "(II)LLaneSlices$Deed;" } : Jvm.MethodName) prog_6_method_7_code (5 : Nat) (Option.some (Jvm.ClassFile.FieldType.object "LaneSlices$Deed"))) ∈ mtb := mtb_in 561 (by decide +kernel) rfl
theorem mw_501 : (Jvm.Cond.classLink "LaneSlices$Reader" (58 : Nat) "LaneSlices$Deed") ∈ mtb := mtb_in 562 (by decide +kernel) rfl
theorem mw_502 : (Jvm.Cond.instantiable "LaneSlices$Deed" (8 : Nat)) ∈ mtb := mtb_in 563 (by decide +kernel) rfl
theorem mw_503 : (Jvm.Cond.methodLinkNest "LaneSlices$Reader" (63 : Nat) ({ cls := "LaneSlices$Deed", name := "<init>", desc := "()V" } : Jvm.MethodName) "LaneSlices") ∈ lw_tbl := List.mem_of_getElem? (i := 564) (by decide +kernel)
theorem mw_504 : (Jvm.Cond.instanceMethod ({ cls := "LaneSlices$Deed", name := "<init>", desc := "()V" } : Jvm.MethodName)) ∈ mtb := mtb_in 565 (by decide +kernel) rfl
theorem mw_505 : (Jvm.Cond.code ({ cls := "LaneSlices$Deed", name := "<init>", desc := "()V" } : Jvm.MethodName) prog_2_method_1_code (1 : Nat) (Option.none : Option Jvm.ClassFile.FieldType)) ∈ mtb := mtb_in 566 (by decide +kernel) rfl
theorem mw_506 : (Jvm.Cond.methodLink "LaneSlices$Deed" (1 : Nat) ({ cls := "java/lang/Object", name := "<init>", desc := "()V" } : Jvm.MethodName)) ∈ mtb := mtb_in 567 (by decide +kernel) rfl
theorem mw_507 : (Jvm.Cond.fieldLinkNest "LaneSlices$Walker" (63 : Nat) "LaneSlices$Deed" "kind" "I" "LaneSlices") ∈ lw_tbl := List.mem_of_getElem? (i := 568) (by decide +kernel)
theorem mw_508 : (Jvm.Cond.fieldLinkNest "LaneSlices$Reader" (81 : Nat) "LaneSlices$Deed" "kind" "I" "LaneSlices") ∈ lw_tbl := List.mem_of_getElem? (i := 569) (by decide +kernel)
theorem mw_509 : (Jvm.Cond.fieldLinkNest "LaneSlices$Walker" (68 : Nat) "LaneSlices$Deed" "target" "I" "LaneSlices") ∈ lw_tbl := List.mem_of_getElem? (i := 570) (by decide +kernel)
theorem mw_510 : (Jvm.Cond.fieldLinkNest "LaneSlices$Reader" (78 : Nat) "LaneSlices$Deed" "target" "I" "LaneSlices") ∈ lw_tbl := List.mem_of_getElem? (i := 571) (by decide +kernel)
theorem mw_511 : (Jvm.Cond.fieldLinkNest "LaneSlices$Walker" (87 : Nat) "LaneSlices$Deed" "source" "I" "LaneSlices") ∈ lw_tbl := List.mem_of_getElem? (i := 572) (by decide +kernel)
theorem mw_512 : (Jvm.Cond.fieldLinkNest "LaneSlices$Reader" (90 : Nat) "LaneSlices$Deed" "source" "I" "LaneSlices") ∈ lw_tbl := List.mem_of_getElem? (i := 573) (by decide +kernel)
theorem mw_513 : (Jvm.Cond.fieldLinkNest "LaneSlices$Walker" (90 : Nat) "LaneSlices$Deed" "way" "I" "LaneSlices") ∈ lw_tbl := List.mem_of_getElem? (i := 574) (by decide +kernel)
theorem mw_514 : (Jvm.Cond.fieldLinkNest "LaneSlices$Reader" (87 : Nat) "LaneSlices$Deed" "way" "I" "LaneSlices") ∈ lw_tbl := List.mem_of_getElem? (i := 575) (by decide +kernel)
theorem mw_515 : (Jvm.Cond.fieldLinkNest "LaneSlices$Walker" (75 : Nat) "LaneSlices$Deed" "formula" "LLaneSlices$Formula;" "LaneSlices") ∈ lw_tbl := List.mem_of_getElem? (i := 576) (by decide +kernel)
theorem mw_516 : (Jvm.Cond.fieldLinkNest "LaneSlices$Reader" (101 : Nat) "LaneSlices$Deed" "formula" "LLaneSlices$Formula;" "LaneSlices") ∈ lw_tbl := List.mem_of_getElem? (i := 577) (by decide +kernel)
theorem mw_517 : (Jvm.Cond.fieldLinkNest "LaneSlices$Walker" (109 : Nat) "LaneSlices$Deed" "inner" "LLaneSlices$Deed;" "LaneSlices") ∈ lw_tbl := List.mem_of_getElem? (i := 578) (by decide +kernel)
theorem mw_518 : (Jvm.Cond.fieldLinkNest "LaneSlices$Reader" (104 : Nat) "LaneSlices$Deed" "inner" "LLaneSlices$Deed;" "LaneSlices") ∈ lw_tbl := List.mem_of_getElem? (i := 579) (by decide +kernel)
theorem mw_519 : (Jvm.Cond.fieldLinkNest "LaneSlices$Walker" (112 : Nat) "LaneSlices$Deed" "otherwise" "LLaneSlices$Deed;" "LaneSlices") ∈ lw_tbl := List.mem_of_getElem? (i := 580) (by decide +kernel)
theorem mw_520 : (Jvm.Cond.fieldLinkNest "LaneSlices$Reader" (107 : Nat) "LaneSlices$Deed" "otherwise" "LLaneSlices$Deed;" "LaneSlices") ∈ lw_tbl := List.mem_of_getElem? (i := 581) (by decide +kernel)
theorem mw_521 : (Jvm.Cond.fieldLinkNest "LaneSlices$Walker" (103 : Nat) "LaneSlices$Deed" "next" "LLaneSlices$Deed;" "LaneSlices") ∈ lw_tbl := List.mem_of_getElem? (i := 582) (by decide +kernel)
theorem mw_522 : (Jvm.Cond.fieldLinkNest "LaneSlices$Reader" (57 : Nat) "LaneSlices$Deed" "next" "LLaneSlices$Deed;" "LaneSlices") ∈ lw_tbl := List.mem_of_getElem? (i := 583) (by decide +kernel)
theorem mw_523 : (Jvm.Cond.lays "LaneSlices$Deed" "LaneSlices$Deed" "kind" "I") ∈ mtb := mtb_in 584 (by decide +kernel) rfl
theorem mw_524 : (Jvm.Cond.soleField "LaneSlices$Deed" "kind") ∈ mtb := mtb_in 585 (by decide +kernel) rfl
theorem mw_525 : (Jvm.Cond.lays "LaneSlices$Deed" "LaneSlices$Deed" "target" "I") ∈ mtb := mtb_in 586 (by decide +kernel) rfl
theorem mw_526 : (Jvm.Cond.soleField "LaneSlices$Deed" "target") ∈ mtb := mtb_in 587 (by decide +kernel) rfl
theorem mw_527 : (Jvm.Cond.lays "LaneSlices$Deed" "LaneSlices$Deed" "source" "I") ∈ mtb := mtb_in 588 (by decide +kernel) rfl
theorem mw_528 : (Jvm.Cond.soleField "LaneSlices$Deed" "source") ∈ mtb := mtb_in 589 (by decide +kernel) rfl
theorem mw_529 : (Jvm.Cond.lays "LaneSlices$Deed" "LaneSlices$Deed" "way" "I") ∈ mtb := mtb_in 590 (by decide +kernel) rfl
theorem mw_530 : (Jvm.Cond.soleField "LaneSlices$Deed" "way") ∈ mtb := mtb_in 591 (by decide +kernel) rfl
theorem mw_531 : (Jvm.Cond.lays "LaneSlices$Deed" "LaneSlices$Deed" "formula" "LLaneSlices$Formula;") ∈ mtb := mtb_in 592 (by decide +kernel) rfl
theorem mw_532 : (Jvm.Cond.soleField "LaneSlices$Deed" "formula") ∈ mtb := mtb_in 593 (by decide +kernel) rfl
theorem mw_533 : (Jvm.Cond.lays "LaneSlices$Deed" "LaneSlices$Deed" "inner" "LLaneSlices$Deed;") ∈ mtb := mtb_in 594 (by decide +kernel) rfl
theorem mw_534 : (Jvm.Cond.soleField "LaneSlices$Deed" "inner") ∈ mtb := mtb_in 595 (by decide +kernel) rfl
theorem mw_535 : (Jvm.Cond.lays "LaneSlices$Deed" "LaneSlices$Deed" "otherwise" "LLaneSlices$Deed;") ∈ mtb := mtb_in 596 (by decide +kernel) rfl
theorem mw_536 : (Jvm.Cond.soleField "LaneSlices$Deed" "otherwise") ∈ mtb := mtb_in 597 (by decide +kernel) rfl
theorem mw_537 : (Jvm.Cond.lays "LaneSlices$Deed" "LaneSlices$Deed" "next" "LLaneSlices$Deed;") ∈ mtb := mtb_in 598 (by decide +kernel) rfl
theorem mw_538 : (Jvm.Cond.soleField "LaneSlices$Deed" "next") ∈ mtb := mtb_in 599 (by decide +kernel) rfl
theorem mw_539 : (Jvm.Cond.superclass "LaneSlices$Deed" "java/lang/Object") ∈ mtb := mtb_in 600 (by decide +kernel) rfl
theorem mw_540 : (Jvm.Cond.methodLink "LaneSlices$Reader" (50 : Nat) ({ cls := "LaneSlices$Reader", name := "sign", desc := "()I" } : Jvm.MethodName)) ∈ mtb := mtb_in 601 (by decide +kernel) rfl
theorem mw_542 : (Jvm.Cond.instanceMethod ({ cls := "LaneSlices$Reader", name := "sign", desc := "()I" } : Jvm.MethodName)) ∈ mtb := mtb_in 603 (by decide +kernel) rfl
theorem mw_543 : (Jvm.Cond.code ({ cls := "LaneSlices$Reader", name := "sign", desc := "()I" } : Jvm.MethodName) prog_6_method_3_code (2 : Nat) (Option.some Jvm.ClassFile.FieldType.int)) ∈ mtb := mtb_in 604 (by decide +kernel) rfl
theorem mw_544 : (Jvm.Cond.methodLink "LaneSlices$Reader" (64 : Nat) ({ cls := "LaneSlices$Reader", name := "become", desc := "(LLaneSlices$Deed;)V" } : Jvm.MethodName)) ∈ mtb := mtb_in 605 (by decide +kernel) rfl
theorem mw_546 : (Jvm.Cond.instanceMethod ({ cls := "LaneSlices$Reader", name := "become", desc := "(LLaneSlices$Deed;)V" } : Jvm.MethodName)) ∈ mtb := mtb_in 607 (by decide +kernel) rfl
theorem mw_547 : (Jvm.Cond.code ({ cls := "LaneSlices$Reader", name := "become", desc := "(LLaneSlices$Deed;)V" } : Jvm.MethodName) prog_6_method_8_code (2 : Nat) (Option.none : Option Jvm.ClassFile.FieldType)) ∈ mtb := mtb_in 608 (by decide +kernel) rfl
theorem mw_548 : (Jvm.Cond.methodLink "LaneSlices$Reader" (75 : Nat) ({ cls := "LaneSlices$Reader", name := "takeVariable", desc := "()I" } : Jvm.MethodName)) ∈ mtb := mtb_in 609 (by decide +kernel) rfl
theorem mw_550 : (Jvm.Cond.instanceMethod ({ cls := "LaneSlices$Reader", name := "takeVariable", desc := "()I" } : Jvm.MethodName)) ∈ mtb := mtb_in 611 (by decide +kernel) rfl
theorem mw_551 : (Jvm.Cond.code ({ cls := "LaneSlices$Reader", name := "takeVariable", desc := "()I" } : Jvm.MethodName) prog_6_method_11_code (2 : Nat) (Option.some Jvm.ClassFile.FieldType.int)) ∈ mtb := mtb_in 612 (by decide +kernel) rfl
theorem mw_552 : (Jvm.Cond.methodLink "LaneSlices$Reader" (39 : Nat) ({ cls := "LaneSlices$Reader", name := "fail", desc := "()V" } : Jvm.MethodName)) ∈ mtb := mtb_in 613 (by decide +kernel) rfl
theorem mw_554 : (Jvm.Cond.instanceMethod ({ cls := "LaneSlices$Reader", name := "fail", desc := "()V" } : Jvm.MethodName)) ∈ mtb := mtb_in 615 (by decide +kernel) rfl
theorem mw_555 : (Jvm.Cond.code ({ cls := "LaneSlices$Reader", name := "fail", desc := "()V" } : Jvm.MethodName) prog_6_method_4_code (1 : Nat) (Option.none : Option Jvm.ClassFile.FieldType)) ∈ mtb := mtb_in 616 (by decide +kernel) rfl
theorem mw_556 : (Jvm.Cond.methodLink "LaneSlices$Reader" (84 : Nat) ({ cls := "LaneSlices$Reader", name := "takeWay", desc := "()I" } : Jvm.MethodName)) ∈ mtb := mtb_in 617 (by decide +kernel) rfl
theorem mw_558 : (Jvm.Cond.instanceMethod ({ cls := "LaneSlices$Reader", name := "takeWay", desc := "()I" } : Jvm.MethodName)) ∈ mtb := mtb_in 619 (by decide +kernel) rfl
theorem mw_559 : (Jvm.Cond.code ({ cls := "LaneSlices$Reader", name := "takeWay", desc := "()I" } : Jvm.MethodName) prog_6_method_12_code (2 : Nat) (Option.some Jvm.ClassFile.FieldType.int)) ∈ mtb := mtb_in 620 (by decide +kernel) rfl
theorem mw_560 : (Jvm.Cond.methodLink "LaneSlices$Reader" (93 : Nat) ({ cls := "LaneSlices$Reader", name := "take", desc := "(C)V" } : Jvm.MethodName)) ∈ mtb := mtb_in 621 (by decide +kernel) rfl
theorem mw_562 : (Jvm.Cond.instanceMethod ({ cls := "LaneSlices$Reader", name := "take", desc := "(C)V" } : Jvm.MethodName)) ∈ mtb := mtb_in 623 (by decide +kernel) rfl
theorem mw_563 : (Jvm.Cond.code ({ cls := "LaneSlices$Reader", name := "take", desc := "(C)V" } : Jvm.MethodName) prog_6_method_5_code (2 : Nat) (Option.none : Option Jvm.ClassFile.FieldType)) ∈ mtb := mtb_in 624 (by decide +kernel) rfl
theorem mw_564 : (Jvm.Cond.methodLink "LaneSlices$Reader" (97 : Nat) ({ cls := "LaneSlices$Reader", name := "formula", desc := "()LLaneSlices$Formula;" } : Jvm.MethodName)) ∈ mtb := mtb_in 625 (by decide +kernel) rfl
theorem mw_566 : (Jvm.Cond.instanceMethod ({ cls := "LaneSlices$Reader", name := "formula", desc := "()LLaneSlices$Formula;" } : Jvm.MethodName)) ∈ mtb := mtb_in 627 (by decide +kernel) rfl
theorem mw_567 : (Jvm.Cond.code ({ cls := "LaneSlices$Reader", name := "formula", desc := "()LLaneSlices$Formula;" } : Jvm.MethodName) prog_6_method_13_code (1 : Nat) (Option.some (Jvm.ClassFile.FieldType.object "LaneSlices$Formula"))) ∈ mtb := mtb_in 628 (by decide +kernel) rfl
theorem mw_568 : (Jvm.Cond.methodLink "LaneSlices$Reader" (116 : Nat) ({ cls := "LaneSlices$Reader", name := "compared", desc := "(I)V" } : Jvm.MethodName)) ∈ mtb := mtb_in 629 (by decide +kernel) rfl
theorem mw_570 : (Jvm.Cond.instanceMethod ({ cls := "LaneSlices$Reader", name := "compared", desc := "(I)V" } : Jvm.MethodName)) ∈ mtb := mtb_in 631 (by decide +kernel) rfl
theorem mw_571 : (Jvm.Cond.code ({ cls := "LaneSlices$Reader", name := "compared", desc := "(I)V" } : Jvm.MethodName) prog_6_method_15_code (3 : Nat) (Option.none : Option Jvm.ClassFile.FieldType)) ∈ mtb := mtb_in 632 (by decide +kernel) rfl
theorem mw_572 : (Jvm.Cond.methodLink "LaneSlices$Reader" (134 : Nat) ({ cls := "LaneSlices$Reader", name := "added", desc := "(I)V" } : Jvm.MethodName)) ∈ mtb := mtb_in 633 (by decide +kernel) rfl
theorem mw_574 : (Jvm.Cond.instanceMethod ({ cls := "LaneSlices$Reader", name := "added", desc := "(I)V" } : Jvm.MethodName)) ∈ mtb := mtb_in 635 (by decide +kernel) rfl
theorem mw_575 : (Jvm.Cond.code ({ cls := "LaneSlices$Reader", name := "added", desc := "(I)V" } : Jvm.MethodName) prog_6_method_16_code (4 : Nat) (Option.none : Option Jvm.ClassFile.FieldType)) ∈ mtb := mtb_in 636 (by decide +kernel) rfl
theorem mw_576 : (Jvm.Cond.methodLink "LaneSlices$Reader" (141 : Nat) ({ cls := "LaneSlices$Reader", name := "multiplied", desc := "(I)V" } : Jvm.MethodName)) ∈ mtb := mtb_in 637 (by decide +kernel) rfl
theorem mw_578 : (Jvm.Cond.instanceMethod ({ cls := "LaneSlices$Reader", name := "multiplied", desc := "(I)V" } : Jvm.MethodName)) ∈ mtb := mtb_in 639 (by decide +kernel) rfl
theorem mw_579 : (Jvm.Cond.code ({ cls := "LaneSlices$Reader", name := "multiplied", desc := "(I)V" } : Jvm.MethodName) prog_6_method_17_code (4 : Nat) (Option.none : Option Jvm.ClassFile.FieldType)) ∈ mtb := mtb_in 640 (by decide +kernel) rfl
theorem mw_580 : (Jvm.Cond.methodLink "LaneSlices$Reader" (144 : Nat) ({ cls := "LaneSlices$Reader", name := "unit", desc := "(I)V" } : Jvm.MethodName)) ∈ mtb := mtb_in 641 (by decide +kernel) rfl
theorem mw_582 : (Jvm.Cond.instanceMethod ({ cls := "LaneSlices$Reader", name := "unit", desc := "(I)V" } : Jvm.MethodName)) ∈ mtb := mtb_in 643 (by decide +kernel) rfl
theorem mw_583 : (Jvm.Cond.code ({ cls := "LaneSlices$Reader", name := "unit", desc := "(I)V" } : Jvm.MethodName) prog_6_method_18_code (3 : Nat) (Option.none : Option Jvm.ClassFile.FieldType)) ∈ mtb := mtb_in 644 (by decide +kernel) rfl
theorem mw_584 : (Jvm.Cond.methodLink "LaneSlices$Reader" (147 : Nat) ({ cls := "LaneSlices$Reader", name := "isDigit", desc := "(I)Z" } : Jvm.MethodName)) ∈ mtb := mtb_in 645 (by decide +kernel) rfl
theorem mw_585 : (Jvm.Cond.static ({ cls := "LaneSlices$Reader", name := "isDigit", desc := "(I)Z" } : Jvm.MethodName)) ∈ mtb := mtb_in 646 (by decide +kernel) rfl
theorem mw_586 : (Jvm.Cond.code ({ cls := "LaneSlices$Reader", name := "isDigit", desc := "(I)Z" } : Jvm.MethodName) prog_6_method_20_code (1 : Nat) (Option.some Jvm.ClassFile.FieldType.boolean)) ∈ mtb := mtb_in 647 (by decide +kernel) rfl
theorem mw_587 : (Jvm.Cond.methodLink "LaneSlices$Reader" (151 : Nat) ({ cls := "LaneSlices$Reader", name := "number", desc := "()V" } : Jvm.MethodName)) ∈ mtb := mtb_in 648 (by decide +kernel) rfl
theorem mw_589 : (Jvm.Cond.instanceMethod ({ cls := "LaneSlices$Reader", name := "number", desc := "()V" } : Jvm.MethodName)) ∈ mtb := mtb_in 650 (by decide +kernel) rfl
theorem mw_590 : (Jvm.Cond.code ({ cls := "LaneSlices$Reader", name := "number", desc := "()V" } : Jvm.MethodName) prog_6_method_19_code (4 : Nat) (Option.none : Option Jvm.ClassFile.FieldType)) ∈ mtb := mtb_in 651 (by decide +kernel) rfl
theorem mw_591 : (Jvm.Cond.methodLink "LaneSlices$Reader" (137 : Nat) ({ cls := "LaneSlices$Reader", name := "word", desc := "(II)V" } : Jvm.MethodName)) ∈ mtb := mtb_in 652 (by decide +kernel) rfl
theorem mw_593 : (Jvm.Cond.instanceMethod ({ cls := "LaneSlices$Reader", name := "word", desc := "(II)V" } : Jvm.MethodName)) ∈ mtb := mtb_in 654 (by decide +kernel) rfl
theorem mw_594 : (Jvm.Cond.code ({ cls := "LaneSlices$Reader", name := "word", desc := "(II)V" } : Jvm.MethodName) prog_6_method_14_code (3 : Nat) (Option.none : Option Jvm.ClassFile.FieldType)) ∈ mtb := mtb_in 655 (by decide +kernel) rfl
theorem mw_595 : (Jvm.Cond.fieldLinkNest "LaneSlices$Reader" (131 : Nat) "LaneSlices" "STEPS_OF" "[I" "LaneSlices") ∈ lw_tbl := List.mem_of_getElem? (i := 656) (by decide +kernel)
theorem mw_596 : (Jvm.Cond.classLink "LaneSlices$Reader" (120 : Nat) "LaneSlices$Formula") ∈ mtb := mtb_in 657 (by decide +kernel) rfl
theorem mw_597 : (Jvm.Cond.instantiable "LaneSlices$Formula" (2 : Nat)) ∈ mtb := mtb_in 658 (by decide +kernel) rfl
theorem mw_598 : (Jvm.Cond.methodLink "LaneSlices$Reader" (122 : Nat) ({ cls := "java/util/Arrays", name := "copyOf", desc := "([II)[I" } : Jvm.MethodName)) ∈ mtb := mtb_in 659 (by decide +kernel) rfl
theorem mw_599 : (Jvm.Cond.static ({ cls := "java/util/Arrays", name := "copyOf", desc := "([II)[I" } : Jvm.MethodName)) ∈ mtb := mtb_in 660 (by decide +kernel) rfl
theorem mw_600 : (Jvm.Cond.code ({ cls := "java/util/Arrays", name := "copyOf", desc := "([II)[I" } : Jvm.MethodName) prog_21_method_123_code (3 : Nat) (Option.some (Jvm.ClassFile.FieldType.array Jvm.ClassFile.FieldType.int))) ∈ mtb := mtb_in 661 (by decide +kernel) rfl
theorem mw_601 : (Jvm.Cond.methodLink "java/util/Arrays" (316 : Nat) ({ cls := "[I", name := "clone", desc := "()Ljava/lang/Object;" } : Jvm.MethodName)) ∈ mtb := mtb_in 662 (by decide +kernel) rfl
theorem mw_602 : (Jvm.Cond.sameMethod "[I" "java/lang/Object" "clone" "()Ljava/lang/Object;") ∈ mtb := mtb_in 663 (by decide +kernel) rfl
theorem mw_603 : (Jvm.Cond.native ({ cls := "java/lang/Object", name := "clone", desc := "()Ljava/lang/Object;" } : Jvm.MethodName)) ∈ mtb := mtb_in 664 (by decide +kernel) rfl
theorem mw_604 : (Jvm.Cond.instanceMethod ({ cls := "java/lang/Object", name := "clone", desc := "()Ljava/lang/Object;" } : Jvm.MethodName)) ∈ mtb := mtb_in 665 (by decide +kernel) rfl
theorem mw_605 : (Jvm.Cond.selects "[I" ({ cls := "[I", name := "clone", desc := "()Ljava/lang/Object;" } : Jvm.MethodName) ({ cls := "java/lang/Object", name := "clone", desc := "()Ljava/lang/Object;" } : Jvm.MethodName)) ∈ mtb := mtb_in 666 (by decide +kernel) rfl
theorem mw_607 : (Jvm.Cond.classLink "java/util/Arrays" (317 : Nat) "[I") ∈ mtb := mtb_in 668 (by decide +kernel) rfl
theorem mw_608 : (Jvm.Cond.methodLink "java/util/Arrays" (304 : Nat) ({ cls := "java/lang/Math", name := "min", desc := "(II)I" } : Jvm.MethodName)) ∈ mtb := mtb_in 669 (by decide +kernel) rfl
theorem mw_609 : (Jvm.Cond.static ({ cls := "java/lang/Math", name := "min", desc := "(II)I" } : Jvm.MethodName)) ∈ mtb := mtb_in 670 (by decide +kernel) rfl
theorem mw_610 : (Jvm.Cond.code ({ cls := "java/lang/Math", name := "min", desc := "(II)I" } : Jvm.MethodName) prog_18_method_69_code (2 : Nat) (Option.some Jvm.ClassFile.FieldType.int)) ∈ mtb := mtb_in 671 (by decide +kernel) rfl
theorem mw_611 : (Jvm.Cond.methodLink "java/util/Arrays" (150 : Nat) ({ cls := "java/lang/System", name := "arraycopy", desc := "(Ljava/lang/Object;ILjava/lang/Object;II)V" } : Jvm.MethodName)) ∈ mtb := mtb_in 672 (by decide +kernel) rfl
theorem mw_612 : (Jvm.Cond.methodLink "LaneSlices$Reader" (128 : Nat) ({ cls := "LaneSlices$Formula", name := "<init>", desc := "([II)V" } : Jvm.MethodName)) ∈ mtb := mtb_in 673 (by decide +kernel) rfl
theorem mw_613 : (Jvm.Cond.instanceMethod ({ cls := "LaneSlices$Formula", name := "<init>", desc := "([II)V" } : Jvm.MethodName)) ∈ mtb := mtb_in 674 (by decide +kernel) rfl
theorem mw_614 : (Jvm.Cond.code ({ cls := "LaneSlices$Formula", name := "<init>", desc := "([II)V" } : Jvm.MethodName) prog_3_method_1_code (3 : Nat) (Option.none : Option Jvm.ClassFile.FieldType)) ∈ mtb := mtb_in 675 (by decide +kernel) rfl
theorem mw_615 : (Jvm.Cond.methodLink "LaneSlices$Formula" (1 : Nat) ({ cls := "java/lang/Object", name := "<init>", desc := "()V" } : Jvm.MethodName)) ∈ mtb := mtb_in 676 (by decide +kernel) rfl
theorem mw_616 : (Jvm.Cond.fieldLink "LaneSlices$Formula" (7 : Nat) "LaneSlices$Formula" "words" "[I") ∈ mtb := mtb_in 677 (by decide +kernel) rfl
theorem mw_617 : (Jvm.Cond.fieldLinkNest "LaneSlices$Walker" (117 : Nat) "LaneSlices$Formula" "words" "[I" "LaneSlices") ∈ lw_tbl := List.mem_of_getElem? (i := 678) (by decide +kernel)
theorem mw_618 : (Jvm.Cond.fieldLink "LaneSlices$Formula" (13 : Nat) "LaneSlices$Formula" "cost" "I") ∈ mtb := mtb_in 679 (by decide +kernel) rfl
theorem mw_619 : (Jvm.Cond.fieldLinkNest "LaneSlices$Walker" (133 : Nat) "LaneSlices$Formula" "cost" "I" "LaneSlices") ∈ lw_tbl := List.mem_of_getElem? (i := 680) (by decide +kernel)
theorem mw_620 : (Jvm.Cond.laysFinal "LaneSlices$Formula" "LaneSlices$Formula" "words" "[I") ∈ mtb := mtb_in 681 (by decide +kernel) rfl
theorem mw_621 : (Jvm.Cond.soleField "LaneSlices$Formula" "words") ∈ mtb := mtb_in 682 (by decide +kernel) rfl
theorem mw_622 : (Jvm.Cond.laysFinal "LaneSlices$Formula" "LaneSlices$Formula" "cost" "I") ∈ mtb := mtb_in 683 (by decide +kernel) rfl
theorem mw_623 : (Jvm.Cond.soleField "LaneSlices$Formula" "cost") ∈ mtb := mtb_in 684 (by decide +kernel) rfl
theorem mw_624 : (Jvm.Cond.superclass "LaneSlices$Formula" "java/lang/Object") ∈ mtb := mtb_in 685 (by decide +kernel) rfl
theorem mw_625 : (Jvm.Cond.methodLink "LaneSlices$Reader" (68 : Nat) ({ cls := "LaneSlices$Reader", name := "choose", desc := "(LLaneSlices$Deed;II)V" } : Jvm.MethodName)) ∈ mtb := mtb_in 686 (by decide +kernel) rfl
theorem mw_627 : (Jvm.Cond.instanceMethod ({ cls := "LaneSlices$Reader", name := "choose", desc := "(LLaneSlices$Deed;II)V" } : Jvm.MethodName)) ∈ mtb := mtb_in 688 (by decide +kernel) rfl
theorem mw_628 : (Jvm.Cond.code ({ cls := "LaneSlices$Reader", name := "choose", desc := "(LLaneSlices$Deed;II)V" } : Jvm.MethodName) prog_6_method_9_code (4 : Nat) (Option.none : Option Jvm.ClassFile.FieldType)) ∈ mtb := mtb_in 689 (by decide +kernel) rfl
theorem mw_629 : (Jvm.Cond.methodLink "LaneSlices$Reader" (72 : Nat) ({ cls := "LaneSlices$Reader", name := "repeat", desc := "(LLaneSlices$Deed;II)V" } : Jvm.MethodName)) ∈ mtb := mtb_in 690 (by decide +kernel) rfl
theorem mw_631 : (Jvm.Cond.instanceMethod ({ cls := "LaneSlices$Reader", name := "repeat", desc := "(LLaneSlices$Deed;II)V" } : Jvm.MethodName)) ∈ mtb := mtb_in 692 (by decide +kernel) rfl
theorem mw_632 : (Jvm.Cond.code ({ cls := "LaneSlices$Reader", name := "repeat", desc := "(LLaneSlices$Deed;II)V" } : Jvm.MethodName) prog_6_method_10_code (4 : Nat) (Option.none : Option Jvm.ClassFile.FieldType)) ∈ mtb := mtb_in 693 (by decide +kernel) rfl
theorem mw_633 : (Jvm.Cond.classLink "LaneSlices$Reader" (42 : Nat) "LaneSlices$Program") ∈ mtb := mtb_in 694 (by decide +kernel) rfl
theorem mw_634 : (Jvm.Cond.instantiable "LaneSlices$Program" (2 : Nat)) ∈ mtb := mtb_in 695 (by decide +kernel) rfl
theorem mw_635 : (Jvm.Cond.methodLink "LaneSlices$Reader" (44 : Nat) ({ cls := "LaneSlices$Program", name := "<init>", desc := "(LLaneSlices$Deed;I)V" } : Jvm.MethodName)) ∈ mtb := mtb_in 696 (by decide +kernel) rfl
theorem mw_636 : (Jvm.Cond.instanceMethod ({ cls := "LaneSlices$Program", name := "<init>", desc := "(LLaneSlices$Deed;I)V" } : Jvm.MethodName)) ∈ mtb := mtb_in 697 (by decide +kernel) rfl
theorem mw_637 : (Jvm.Cond.code ({ cls := "LaneSlices$Program", name := "<init>", desc := "(LLaneSlices$Deed;I)V" } : Jvm.MethodName) prog_5_method_1_code (3 : Nat) (Option.none : Option Jvm.ClassFile.FieldType)) ∈ mtb := mtb_in 698 (by decide +kernel) rfl
theorem mw_638 : (Jvm.Cond.methodLink "LaneSlices$Program" (1 : Nat) ({ cls := "java/lang/Object", name := "<init>", desc := "()V" } : Jvm.MethodName)) ∈ mtb := mtb_in 699 (by decide +kernel) rfl
theorem mw_639 : (Jvm.Cond.fieldLink "LaneSlices$Program" (7 : Nat) "LaneSlices$Program" "start" "LLaneSlices$Deed;") ∈ mtb := mtb_in 700 (by decide +kernel) rfl
theorem mw_640 : (Jvm.Cond.fieldLinkNest "LaneSlices$Walker" (53 : Nat) "LaneSlices$Program" "start" "LLaneSlices$Deed;" "LaneSlices") ∈ lw_tbl := List.mem_of_getElem? (i := 701) (by decide +kernel)
theorem mw_641 : (Jvm.Cond.fieldLink "LaneSlices$Program" (13 : Nat) "LaneSlices$Program" "deeds" "I") ∈ mtb := mtb_in 702 (by decide +kernel) rfl
theorem mw_642 : (Jvm.Cond.fieldLinkNest "LaneSlices" (211 : Nat) "LaneSlices$Program" "deeds" "I" "LaneSlices") ∈ lw_tbl := List.mem_of_getElem? (i := 703) (by decide +kernel)
theorem mw_643 : (Jvm.Cond.laysFinal "LaneSlices$Program" "LaneSlices$Program" "start" "LLaneSlices$Deed;") ∈ mtb := mtb_in 704 (by decide +kernel) rfl
theorem mw_644 : (Jvm.Cond.soleField "LaneSlices$Program" "start") ∈ mtb := mtb_in 705 (by decide +kernel) rfl
theorem mw_645 : (Jvm.Cond.laysFinal "LaneSlices$Program" "LaneSlices$Program" "deeds" "I") ∈ mtb := mtb_in 706 (by decide +kernel) rfl
theorem mw_646 : (Jvm.Cond.soleField "LaneSlices$Program" "deeds") ∈ mtb := mtb_in 707 (by decide +kernel) rfl
theorem mw_647 : (Jvm.Cond.superclass "LaneSlices$Program" "java/lang/Object") ∈ mtb := mtb_in 708 (by decide +kernel) rfl
theorem mw_648 : (Jvm.Cond.methodLink "LaneSlicesLaw" (113 : Nat) ({ cls := "LaneSlices", name := "run", desc := "(I)I" } : Jvm.MethodName)) ∈ mtb := mtb_in 709 (by decide +kernel) rfl
theorem mw_649 : (Jvm.Cond.instanceMethod ({ cls := "LaneSlices", name := "run", desc := "(I)I" } : Jvm.MethodName)) ∈ mtb := mtb_in 710 (by decide +kernel) rfl
theorem mw_650 : (Jvm.Cond.selects "LaneSlices" ({ cls := "LaneSlices", name := "run", desc := "(I)I" } : Jvm.MethodName) ({ cls := "LaneSlices", name := "run", desc := "(I)I" } : Jvm.MethodName)) ∈ mtb := mtb_in 711 (by decide +kernel) rfl
theorem mw_651 : (Jvm.Cond.code ({ cls := "LaneSlices", name := "run", desc := "(I)I" } : Jvm.MethodName) prog_1_method_24_code (3 : Nat) (Option.some Jvm.ClassFile.FieldType.int)) ∈ mtb := mtb_in 712 (by decide +kernel) rfl
theorem mw_652 : (Jvm.Cond.methodLink "LaneSlices" (216 : Nat) ({ cls := "LaneSlices", name := "think", desc := "(I)I" } : Jvm.MethodName)) ∈ mtb := mtb_in 713 (by decide +kernel) rfl
theorem mw_654 : (Jvm.Cond.instanceMethod ({ cls := "LaneSlices", name := "think", desc := "(I)I" } : Jvm.MethodName)) ∈ mtb := mtb_in 715 (by decide +kernel) rfl
theorem mw_655 : (Jvm.Cond.code ({ cls := "LaneSlices", name := "think", desc := "(I)I" } : Jvm.MethodName) prog_1_method_53_code (2 : Nat) (Option.some Jvm.ClassFile.FieldType.int)) ∈ mtb := mtb_in 716 (by decide +kernel) rfl
theorem mw_656 : (Jvm.Cond.methodLink "LaneSlices" (220 : Nat) ({ cls := "LaneSlices$Variables", name := "copyOf", desc := "(LLaneSlices$Variables;)V" } : Jvm.MethodName)) ∈ mtb := mtb_in 717 (by decide +kernel) rfl
theorem mw_657 : (Jvm.Cond.instanceMethod ({ cls := "LaneSlices$Variables", name := "copyOf", desc := "(LLaneSlices$Variables;)V" } : Jvm.MethodName)) ∈ mtb := mtb_in 718 (by decide +kernel) rfl
theorem mw_658 : (Jvm.Cond.selects "LaneSlices$Variables" ({ cls := "LaneSlices$Variables", name := "copyOf", desc := "(LLaneSlices$Variables;)V" } : Jvm.MethodName) ({ cls := "LaneSlices$Variables", name := "copyOf", desc := "(LLaneSlices$Variables;)V" } : Jvm.MethodName)) ∈ mtb := mtb_in 719 (by decide +kernel) rfl
theorem mw_659 : (Jvm.Cond.code ({ cls := "LaneSlices$Variables", name := "copyOf", desc := "(LLaneSlices$Variables;)V" } : Jvm.MethodName) prog_10_method_3_code (3 : Nat) (Option.none : Option Jvm.ClassFile.FieldType)) ∈ mtb := mtb_in 720 (by decide +kernel) rfl
theorem mw_660 : (Jvm.Cond.methodLink "LaneSlices$Variables" (18 : Nat) ({ cls := "LaneSlices$Slices", name := "copyOf", desc := "(LLaneSlices$Slices;)V" } : Jvm.MethodName)) ∈ mtb := mtb_in 721 (by decide +kernel) rfl
theorem mw_661 : (Jvm.Cond.methodLink "LaneSlices" (233 : Nat) ({ cls := "LaneSlices$Walker", name := "go", desc := "(LLaneSlices$Whole;I)I" } : Jvm.MethodName)) ∈ mtb := mtb_in 722 (by decide +kernel) rfl
theorem mw_662 : (Jvm.Cond.instanceMethod ({ cls := "LaneSlices$Walker", name := "go", desc := "(LLaneSlices$Whole;I)I" } : Jvm.MethodName)) ∈ mtb := mtb_in 723 (by decide +kernel) rfl
theorem mw_663 : (Jvm.Cond.selects "LaneSlices$Walker" ({ cls := "LaneSlices$Walker", name := "go", desc := "(LLaneSlices$Whole;I)I" } : Jvm.MethodName) ({ cls := "LaneSlices$Walker", name := "go", desc := "(LLaneSlices$Whole;I)I" } : Jvm.MethodName)) ∈ mtb := mtb_in 724 (by decide +kernel) rfl
theorem mw_664 : (Jvm.Cond.code ({ cls := "LaneSlices$Walker", name := "go", desc := "(LLaneSlices$Whole;I)I" } : Jvm.MethodName) prog_11_method_2_code (7 : Nat) (Option.some Jvm.ClassFile.FieldType.int)) ∈ mtb := mtb_in 725 (by decide +kernel) rfl
theorem mw_665 : (Jvm.Cond.methodLink "LaneSlices$Walker" (47 : Nat) ({ cls := "LaneSlices$Masks", name := "common", desc := "()J" } : Jvm.MethodName)) ∈ mtb := mtb_in 726 (by decide +kernel) rfl
theorem mw_666 : (Jvm.Cond.methodLink "LaneSlices$Walker" (59 : Nat) ({ cls := "LaneSlices$Walker", name := "walk", desc := "(LLaneSlices$Deed;JI)V" } : Jvm.MethodName)) ∈ mtb := mtb_in 727 (by decide +kernel) rfl
theorem mw_668 : (Jvm.Cond.instanceMethod ({ cls := "LaneSlices$Walker", name := "walk", desc := "(LLaneSlices$Deed;JI)V" } : Jvm.MethodName)) ∈ mtb := mtb_in 729 (by decide +kernel) rfl
theorem mw_669 : (Jvm.Cond.code ({ cls := "LaneSlices$Walker", name := "walk", desc := "(LLaneSlices$Deed;JI)V" } : Jvm.MethodName) prog_11_method_3_code (6 : Nat) (Option.none : Option Jvm.ClassFile.FieldType)) ∈ mtb := mtb_in 730 (by decide +kernel) rfl
theorem mw_670 : (Jvm.Cond.methodLink "LaneSlices$Walker" (71 : Nat) ({ cls := "LaneSlices$Variables", name := "slices", desc := "(I)LLaneSlices$Slices;" } : Jvm.MethodName)) ∈ mtb := mtb_in 731 (by decide +kernel) rfl
theorem mw_671 : (Jvm.Cond.methodLink "LaneSlices$Walker" (79 : Nat) ({ cls := "LaneSlices$Walker", name := "workOut", desc := "(LLaneSlices$Formula;)LLaneSlices$Slices;" } : Jvm.MethodName)) ∈ mtb := mtb_in 732 (by decide +kernel) rfl
theorem mw_673 : (Jvm.Cond.instanceMethod ({ cls := "LaneSlices$Walker", name := "workOut", desc := "(LLaneSlices$Formula;)LLaneSlices$Slices;" } : Jvm.MethodName)) ∈ mtb := mtb_in 734 (by decide +kernel) rfl
theorem mw_674 : (Jvm.Cond.code ({ cls := "LaneSlices$Walker", name := "workOut", desc := "(LLaneSlices$Formula;)LLaneSlices$Slices;" } : Jvm.MethodName) prog_11_method_6_code (8 : Nat) (Option.some (Jvm.ClassFile.FieldType.object "LaneSlices$Slices"))) ∈ mtb := mtb_in 735 (by decide +kernel) rfl
theorem mw_675 : (Jvm.Cond.methodLink "LaneSlices$Walker" (123 : Nat) ({ cls := "LaneSlices$Slices", name := "pair", desc := "(ILLaneSlices$Slices;)V" } : Jvm.MethodName)) ∈ mtb := mtb_in 736 (by decide +kernel) rfl
theorem mw_676 : (Jvm.Cond.methodLink "LaneSlices$Walker" (127 : Nat) ({ cls := "LaneSlices$Slices", name := "invert", desc := "()V" } : Jvm.MethodName)) ∈ mtb := mtb_in 737 (by decide +kernel) rfl
theorem mw_677 : (Jvm.Cond.instanceMethod ({ cls := "LaneSlices$Slices", name := "invert", desc := "()V" } : Jvm.MethodName)) ∈ mtb := mtb_in 738 (by decide +kernel) rfl
theorem mw_678 : (Jvm.Cond.selects "LaneSlices$Slices" ({ cls := "LaneSlices$Slices", name := "invert", desc := "()V" } : Jvm.MethodName) ({ cls := "LaneSlices$Slices", name := "invert", desc := "()V" } : Jvm.MethodName)) ∈ mtb := mtb_in 739 (by decide +kernel) rfl
theorem mw_679 : (Jvm.Cond.code ({ cls := "LaneSlices$Slices", name := "invert", desc := "()V" } : Jvm.MethodName) prog_8_method_18_code (2 : Nat) (Option.none : Option Jvm.ClassFile.FieldType)) ∈ mtb := mtb_in 740 (by decide +kernel) rfl
theorem mw_680 : (Jvm.Cond.methodLink "LaneSlices$Walker" (130 : Nat) ({ cls := "LaneSlices$Walker", name := "hold", desc := "(LLaneSlices$Slices;II)V" } : Jvm.MethodName)) ∈ mtb := mtb_in 741 (by decide +kernel) rfl
theorem mw_682 : (Jvm.Cond.instanceMethod ({ cls := "LaneSlices$Walker", name := "hold", desc := "(LLaneSlices$Slices;II)V" } : Jvm.MethodName)) ∈ mtb := mtb_in 743 (by decide +kernel) rfl
theorem mw_683 : (Jvm.Cond.code ({ cls := "LaneSlices$Walker", name := "hold", desc := "(LLaneSlices$Slices;II)V" } : Jvm.MethodName) prog_11_method_7_code (4 : Nat) (Option.none : Option Jvm.ClassFile.FieldType)) ∈ mtb := mtb_in 744 (by decide +kernel) rfl
theorem mw_684 : (Jvm.Cond.methodLink "LaneSlices$Walker" (136 : Nat) ({ cls := "LaneSlices$Slices", name := "setAll", desc := "(I)V" } : Jvm.MethodName)) ∈ mtb := mtb_in 745 (by decide +kernel) rfl
theorem mw_685 : (Jvm.Cond.methodLink "LaneSlices$Walker" (140 : Nat) ({ cls := "LaneSlices$Slices", name := "copyOf", desc := "(LLaneSlices$Slices;)V" } : Jvm.MethodName)) ∈ mtb := mtb_in 746 (by decide +kernel) rfl
theorem mw_686 : (Jvm.Cond.methodLink "LaneSlices$Walker" (144 : Nat) ({ cls := "LaneSlices$Slices", name := "setLaneNumbers", desc := "()V" } : Jvm.MethodName)) ∈ mtb := mtb_in 747 (by decide +kernel) rfl
theorem mw_687 : (Jvm.Cond.instanceMethod ({ cls := "LaneSlices$Slices", name := "setLaneNumbers", desc := "()V" } : Jvm.MethodName)) ∈ mtb := mtb_in 748 (by decide +kernel) rfl
theorem mw_688 : (Jvm.Cond.selects "LaneSlices$Slices" ({ cls := "LaneSlices$Slices", name := "setLaneNumbers", desc := "()V" } : Jvm.MethodName) ({ cls := "LaneSlices$Slices", name := "setLaneNumbers", desc := "()V" } : Jvm.MethodName)) ∈ mtb := mtb_in 749 (by decide +kernel) rfl
theorem mw_689 : (Jvm.Cond.code ({ cls := "LaneSlices$Slices", name := "setLaneNumbers", desc := "()V" } : Jvm.MethodName) prog_8_method_5_code (1 : Nat) (Option.none : Option Jvm.ClassFile.FieldType)) ∈ mtb := mtb_in 750 (by decide +kernel) rfl
theorem mw_690 : (Jvm.Cond.fieldLinkNest "LaneSlices$Slices" (17 : Nat) "LaneSlices" "LANE_PLANES" "[J" "LaneSlices") ∈ lw_tbl := List.mem_of_getElem? (i := 751) (by decide +kernel)
theorem mw_691 : (Jvm.Cond.laysStatic "LaneSlices" "LANE_PLANES" "[J") ∈ lw_tbl := List.mem_of_getElem? (i := 752) (by decide +kernel)
theorem mw_692 : (Jvm.Cond.methodLink "LaneSlices$Walker" (83 : Nat) ({ cls := "LaneSlices$Slices", name := "becomeIn", desc := "(LLaneSlices$Slices;J)V" } : Jvm.MethodName)) ∈ mtb := mtb_in 753 (by decide +kernel) rfl
theorem mw_693 : (Jvm.Cond.methodLink "LaneSlices$Walker" (93 : Nat) ({ cls := "LaneSlices$Slices", name := "comeFrom", desc := "(LLaneSlices$Slices;II)V" } : Jvm.MethodName)) ∈ mtb := mtb_in 754 (by decide +kernel) rfl
theorem mw_694 : (Jvm.Cond.methodLink "LaneSlices$Walker" (97 : Nat) ({ cls := "LaneSlices$Walker", name := "choose", desc := "(LLaneSlices$Deed;JI)V" } : Jvm.MethodName)) ∈ mtb := mtb_in 755 (by decide +kernel) rfl
theorem mw_696 : (Jvm.Cond.instanceMethod ({ cls := "LaneSlices$Walker", name := "choose", desc := "(LLaneSlices$Deed;JI)V" } : Jvm.MethodName)) ∈ mtb := mtb_in 757 (by decide +kernel) rfl
theorem mw_697 : (Jvm.Cond.code ({ cls := "LaneSlices$Walker", name := "choose", desc := "(LLaneSlices$Deed;JI)V" } : Jvm.MethodName) prog_11_method_4_code (7 : Nat) (Option.none : Option Jvm.ClassFile.FieldType)) ∈ mtb := mtb_in 758 (by decide +kernel) rfl
theorem mw_698 : (Jvm.Cond.methodLink "LaneSlices$Walker" (106 : Nat) ({ cls := "LaneSlices$Slices", name := "notZero", desc := "()J" } : Jvm.MethodName)) ∈ mtb := mtb_in 759 (by decide +kernel) rfl
theorem mw_699 : (Jvm.Cond.constantLong "LaneSlices$Walker" (115 : Nat) (-1 : Int64)) ∈ mtb := mtb_in 760 (by decide +kernel) rfl
theorem mw_700 : (Jvm.Cond.methodLink "LaneSlices$Walker" (100 : Nat) ({ cls := "LaneSlices$Walker", name := "repeat", desc := "(LLaneSlices$Deed;JI)V" } : Jvm.MethodName)) ∈ mtb := mtb_in 761 (by decide +kernel) rfl
theorem mw_702 : (Jvm.Cond.instanceMethod ({ cls := "LaneSlices$Walker", name := "repeat", desc := "(LLaneSlices$Deed;JI)V" } : Jvm.MethodName)) ∈ mtb := mtb_in 763 (by decide +kernel) rfl
theorem mw_703 : (Jvm.Cond.code ({ cls := "LaneSlices$Walker", name := "repeat", desc := "(LLaneSlices$Deed;JI)V" } : Jvm.MethodName) prog_11_method_5_code (8 : Nat) (Option.none : Option Jvm.ClassFile.FieldType)) ∈ mtb := mtb_in 764 (by decide +kernel) rfl
theorem mw_704 : (Jvm.Cond.methodLink "LaneSlicesLaw" (117 : Nat) ({ cls := "LaneSlices", name := "then", desc := "(III)I" } : Jvm.MethodName)) ∈ mtb := mtb_in 765 (by decide +kernel) rfl
theorem mw_705 : (Jvm.Cond.instanceMethod ({ cls := "LaneSlices", name := "then", desc := "(III)I" } : Jvm.MethodName)) ∈ mtb := mtb_in 766 (by decide +kernel) rfl
theorem mw_706 : (Jvm.Cond.selects "LaneSlices" ({ cls := "LaneSlices", name := "then", desc := "(III)I" } : Jvm.MethodName) ({ cls := "LaneSlices", name := "then", desc := "(III)I" } : Jvm.MethodName)) ∈ mtb := mtb_in 767 (by decide +kernel) rfl
theorem mw_707 : (Jvm.Cond.code ({ cls := "LaneSlices", name := "then", desc := "(III)I" } : Jvm.MethodName) prog_1_method_25_code (4 : Nat) (Option.some Jvm.ClassFile.FieldType.int)) ∈ mtb := mtb_in 768 (by decide +kernel) rfl
theorem mw_708 : (Jvm.Cond.methodLink "LaneSlices" (226 : Nat) ({ cls := "LaneSlices", name := "isGoes", desc := "(I)Z" } : Jvm.MethodName)) ∈ mtb := mtb_in 769 (by decide +kernel) rfl
theorem mw_709 : (Jvm.Cond.static ({ cls := "LaneSlices", name := "isGoes", desc := "(I)Z" } : Jvm.MethodName)) ∈ mtb := mtb_in 770 (by decide +kernel) rfl
theorem mw_710 : (Jvm.Cond.code ({ cls := "LaneSlices", name := "isGoes", desc := "(I)Z" } : Jvm.MethodName) prog_1_method_46_code (1 : Nat) (Option.some Jvm.ClassFile.FieldType.boolean)) ∈ mtb := mtb_in 771 (by decide +kernel) rfl
theorem mw_711 : (Jvm.Cond.methodLink "LaneSlicesLaw" (121 : Nat) ({ cls := "LaneSlices", name := "steps", desc := "(I)I" } : Jvm.MethodName)) ∈ mtb := mtb_in 772 (by decide +kernel) rfl
theorem mw_712 : (Jvm.Cond.instanceMethod ({ cls := "LaneSlices", name := "steps", desc := "(I)I" } : Jvm.MethodName)) ∈ mtb := mtb_in 773 (by decide +kernel) rfl
theorem mw_713 : (Jvm.Cond.selects "LaneSlices" ({ cls := "LaneSlices", name := "steps", desc := "(I)I" } : Jvm.MethodName) ({ cls := "LaneSlices", name := "steps", desc := "(I)I" } : Jvm.MethodName)) ∈ mtb := mtb_in 774 (by decide +kernel) rfl
theorem mw_714 : (Jvm.Cond.code ({ cls := "LaneSlices", name := "steps", desc := "(I)I" } : Jvm.MethodName) prog_1_method_26_code (2 : Nat) (Option.some Jvm.ClassFile.FieldType.int)) ∈ mtb := mtb_in 775 (by decide +kernel) rfl
theorem mw_715 : (Jvm.Cond.methodLink "LaneSlicesLaw" (125 : Nat) ({ cls := "LaneSlices", name := "changed", desc := "(I)J" } : Jvm.MethodName)) ∈ mtb := mtb_in 776 (by decide +kernel) rfl
theorem mw_716 : (Jvm.Cond.instanceMethod ({ cls := "LaneSlices", name := "changed", desc := "(I)J" } : Jvm.MethodName)) ∈ mtb := mtb_in 777 (by decide +kernel) rfl
theorem mw_717 : (Jvm.Cond.selects "LaneSlices" ({ cls := "LaneSlices", name := "changed", desc := "(I)J" } : Jvm.MethodName) ({ cls := "LaneSlices", name := "changed", desc := "(I)J" } : Jvm.MethodName)) ∈ mtb := mtb_in 778 (by decide +kernel) rfl
theorem mw_718 : (Jvm.Cond.code ({ cls := "LaneSlices", name := "changed", desc := "(I)J" } : Jvm.MethodName) prog_1_method_27_code (2 : Nat) (Option.some Jvm.ClassFile.FieldType.long)) ∈ mtb := mtb_in 779 (by decide +kernel) rfl
theorem mw_719 : (Jvm.Cond.methodLink "LaneSlices" (229 : Nat) ({ cls := "LaneSlices$Variables", name := "differsFrom", desc := "(LLaneSlices$Variables;)J" } : Jvm.MethodName)) ∈ mtb := mtb_in 780 (by decide +kernel) rfl
theorem mw_720 : (Jvm.Cond.instanceMethod ({ cls := "LaneSlices$Variables", name := "differsFrom", desc := "(LLaneSlices$Variables;)J" } : Jvm.MethodName)) ∈ mtb := mtb_in 781 (by decide +kernel) rfl
theorem mw_721 : (Jvm.Cond.selects "LaneSlices$Variables" ({ cls := "LaneSlices$Variables", name := "differsFrom", desc := "(LLaneSlices$Variables;)J" } : Jvm.MethodName) ({ cls := "LaneSlices$Variables", name := "differsFrom", desc := "(LLaneSlices$Variables;)J" } : Jvm.MethodName)) ∈ mtb := mtb_in 782 (by decide +kernel) rfl
theorem mw_722 : (Jvm.Cond.code ({ cls := "LaneSlices$Variables", name := "differsFrom", desc := "(LLaneSlices$Variables;)J" } : Jvm.MethodName) prog_10_method_4_code (5 : Nat) (Option.some Jvm.ClassFile.FieldType.long)) ∈ mtb := mtb_in 783 (by decide +kernel) rfl
theorem mw_723 : (Jvm.Cond.methodLink "LaneSlices$Variables" (22 : Nat) ({ cls := "LaneSlices$Slices", name := "differsFrom", desc := "(LLaneSlices$Slices;)J" } : Jvm.MethodName)) ∈ mtb := mtb_in 784 (by decide +kernel) rfl
theorem mw_724 : (Jvm.Cond.methodLink "LaneSlicesLaw" (129 : Nat) ({ cls := "LaneSlices", name := "settles", desc := "()I" } : Jvm.MethodName)) ∈ mtb := mtb_in 785 (by decide +kernel) rfl
theorem mw_725 : (Jvm.Cond.instanceMethod ({ cls := "LaneSlices", name := "settles", desc := "()I" } : Jvm.MethodName)) ∈ mtb := mtb_in 786 (by decide +kernel) rfl
theorem mw_726 : (Jvm.Cond.selects "LaneSlices" ({ cls := "LaneSlices", name := "settles", desc := "()I" } : Jvm.MethodName) ({ cls := "LaneSlices", name := "settles", desc := "()I" } : Jvm.MethodName)) ∈ mtb := mtb_in 787 (by decide +kernel) rfl
theorem mw_727 : (Jvm.Cond.code ({ cls := "LaneSlices", name := "settles", desc := "()I" } : Jvm.MethodName) prog_1_method_28_code (2 : Nat) (Option.some Jvm.ClassFile.FieldType.int)) ∈ mtb := mtb_in 788 (by decide +kernel) rfl
theorem mw_728 : (Jvm.Cond.methodLink "LaneSlicesLaw" (133 : Nat) ({ cls := "LaneSlices", name := "first", desc := "(III)I" } : Jvm.MethodName)) ∈ mtb := mtb_in 789 (by decide +kernel) rfl
theorem mw_729 : (Jvm.Cond.instanceMethod ({ cls := "LaneSlices", name := "first", desc := "(III)I" } : Jvm.MethodName)) ∈ mtb := mtb_in 790 (by decide +kernel) rfl
theorem mw_730 : (Jvm.Cond.selects "LaneSlices" ({ cls := "LaneSlices", name := "first", desc := "(III)I" } : Jvm.MethodName) ({ cls := "LaneSlices", name := "first", desc := "(III)I" } : Jvm.MethodName)) ∈ mtb := mtb_in 791 (by decide +kernel) rfl
theorem mw_731 : (Jvm.Cond.code ({ cls := "LaneSlices", name := "first", desc := "(III)I" } : Jvm.MethodName) prog_1_method_29_code (5 : Nat) (Option.some Jvm.ClassFile.FieldType.int)) ∈ mtb := mtb_in 792 (by decide +kernel) rfl
theorem mw_732 : (Jvm.Cond.methodLink "LaneSlicesLaw" (137 : Nat) ({ cls := "LaneSlices", name := "again", desc := "()I" } : Jvm.MethodName)) ∈ mtb := mtb_in 793 (by decide +kernel) rfl
theorem mw_733 : (Jvm.Cond.instanceMethod ({ cls := "LaneSlices", name := "again", desc := "()I" } : Jvm.MethodName)) ∈ mtb := mtb_in 794 (by decide +kernel) rfl
theorem mw_734 : (Jvm.Cond.selects "LaneSlices" ({ cls := "LaneSlices", name := "again", desc := "()I" } : Jvm.MethodName) ({ cls := "LaneSlices", name := "again", desc := "()I" } : Jvm.MethodName)) ∈ mtb := mtb_in 795 (by decide +kernel) rfl
theorem mw_735 : (Jvm.Cond.code ({ cls := "LaneSlices", name := "again", desc := "()I" } : Jvm.MethodName) prog_1_method_30_code (2 : Nat) (Option.some Jvm.ClassFile.FieldType.int)) ∈ mtb := mtb_in 796 (by decide +kernel) rfl
theorem mw_736 : (Jvm.Cond.methodLink "LaneSlicesLaw" (141 : Nat) ({ cls := "LaneSlices", name := "row", desc := "(III)I" } : Jvm.MethodName)) ∈ mtb := mtb_in 797 (by decide +kernel) rfl
theorem mw_737 : (Jvm.Cond.instanceMethod ({ cls := "LaneSlices", name := "row", desc := "(III)I" } : Jvm.MethodName)) ∈ mtb := mtb_in 798 (by decide +kernel) rfl
theorem mw_738 : (Jvm.Cond.selects "LaneSlices" ({ cls := "LaneSlices", name := "row", desc := "(III)I" } : Jvm.MethodName) ({ cls := "LaneSlices", name := "row", desc := "(III)I" } : Jvm.MethodName)) ∈ mtb := mtb_in 799 (by decide +kernel) rfl
theorem mw_739 : (Jvm.Cond.code ({ cls := "LaneSlices", name := "row", desc := "(III)I" } : Jvm.MethodName) prog_1_method_31_code (4 : Nat) (Option.some Jvm.ClassFile.FieldType.int)) ∈ mtb := mtb_in 800 (by decide +kernel) rfl
theorem mw_740 : (Jvm.Cond.methodLink "LaneSlices" (237 : Nat) ({ cls := "LaneSlices", name := "isShelf", desc := "(I)Z" } : Jvm.MethodName)) ∈ mtb := mtb_in 801 (by decide +kernel) rfl
theorem mw_741 : (Jvm.Cond.static ({ cls := "LaneSlices", name := "isShelf", desc := "(I)Z" } : Jvm.MethodName)) ∈ mtb := mtb_in 802 (by decide +kernel) rfl
theorem mw_742 : (Jvm.Cond.code ({ cls := "LaneSlices", name := "isShelf", desc := "(I)Z" } : Jvm.MethodName) prog_1_method_47_code (1 : Nat) (Option.some Jvm.ClassFile.FieldType.boolean)) ∈ mtb := mtb_in 803 (by decide +kernel) rfl
theorem mw_743 : (Jvm.Cond.methodLink "LaneSlices" (240 : Nat) ({ cls := "LaneSlices$Shelf", name := "begin", desc := "(II)V" } : Jvm.MethodName)) ∈ mtb := mtb_in 804 (by decide +kernel) rfl
theorem mw_744 : (Jvm.Cond.instanceMethod ({ cls := "LaneSlices$Shelf", name := "begin", desc := "(II)V" } : Jvm.MethodName)) ∈ mtb := mtb_in 805 (by decide +kernel) rfl
theorem mw_745 : (Jvm.Cond.selects "LaneSlices$Shelf" ({ cls := "LaneSlices$Shelf", name := "begin", desc := "(II)V" } : Jvm.MethodName) ({ cls := "LaneSlices$Shelf", name := "begin", desc := "(II)V" } : Jvm.MethodName)) ∈ mtb := mtb_in 806 (by decide +kernel) rfl
theorem mw_746 : (Jvm.Cond.code ({ cls := "LaneSlices$Shelf", name := "begin", desc := "(II)V" } : Jvm.MethodName) prog_7_method_2_code (3 : Nat) (Option.none : Option Jvm.ClassFile.FieldType)) ∈ mtb := mtb_in 807 (by decide +kernel) rfl
theorem mw_747 : (Jvm.Cond.methodLink "LaneSlices$Shelf" (19 : Nat) ({ cls := "java/lang/Math", name := "min", desc := "(II)I" } : Jvm.MethodName)) ∈ mtb := mtb_in 808 (by decide +kernel) rfl
theorem mw_748 : (Jvm.Cond.methodLink "LaneSlices$Shelf" (25 : Nat) ({ cls := "java/lang/Math", name := "max", desc := "(II)I" } : Jvm.MethodName)) ∈ mtb := mtb_in 809 (by decide +kernel) rfl
theorem mw_749 : (Jvm.Cond.static ({ cls := "java/lang/Math", name := "max", desc := "(II)I" } : Jvm.MethodName)) ∈ mtb := mtb_in 810 (by decide +kernel) rfl
theorem mw_750 : (Jvm.Cond.code ({ cls := "java/lang/Math", name := "max", desc := "(II)I" } : Jvm.MethodName) prog_18_method_65_code (2 : Nat) (Option.some Jvm.ClassFile.FieldType.int)) ∈ mtb := mtb_in 811 (by decide +kernel) rfl
theorem mw_751 : (Jvm.Cond.methodLink "LaneSlices$Shelf" (31 : Nat) ({ cls := "java/util/Arrays", name := "fill", desc := "([JJ)V" } : Jvm.MethodName)) ∈ mtb := mtb_in 812 (by decide +kernel) rfl
theorem mw_752 : (Jvm.Cond.static ({ cls := "java/util/Arrays", name := "fill", desc := "([JJ)V" } : Jvm.MethodName)) ∈ mtb := mtb_in 813 (by decide +kernel) rfl
theorem mw_753 : (Jvm.Cond.code ({ cls := "java/util/Arrays", name := "fill", desc := "([JJ)V" } : Jvm.MethodName) prog_21_method_101_code (5 : Nat) (Option.none : Option Jvm.ClassFile.FieldType)) ∈ mtb := mtb_in 814 (by decide +kernel) rfl
theorem mw_754 : (Jvm.Cond.methodLink "LaneSlicesLaw" (145 : Nat) ({ cls := "LaneSlices", name := "mark", desc := "(IIJ)I" } : Jvm.MethodName)) ∈ mtb := mtb_in 815 (by decide +kernel) rfl
theorem mw_755 : (Jvm.Cond.instanceMethod ({ cls := "LaneSlices", name := "mark", desc := "(IIJ)I" } : Jvm.MethodName)) ∈ mtb := mtb_in 816 (by decide +kernel) rfl
theorem mw_756 : (Jvm.Cond.selects "LaneSlices" ({ cls := "LaneSlices", name := "mark", desc := "(IIJ)I" } : Jvm.MethodName) ({ cls := "LaneSlices", name := "mark", desc := "(IIJ)I" } : Jvm.MethodName)) ∈ mtb := mtb_in 817 (by decide +kernel) rfl
theorem mw_757 : (Jvm.Cond.code ({ cls := "LaneSlices", name := "mark", desc := "(IIJ)I" } : Jvm.MethodName) prog_1_method_32_code (5 : Nat) (Option.some Jvm.ClassFile.FieldType.int)) ∈ mtb := mtb_in 818 (by decide +kernel) rfl
theorem mw_758 : (Jvm.Cond.methodLink "LaneSlices" (243 : Nat) ({ cls := "LaneSlices$Shelf", name := "isMissing", desc := "()Z" } : Jvm.MethodName)) ∈ mtb := mtb_in 819 (by decide +kernel) rfl
theorem mw_759 : (Jvm.Cond.instanceMethod ({ cls := "LaneSlices$Shelf", name := "isMissing", desc := "()Z" } : Jvm.MethodName)) ∈ mtb := mtb_in 820 (by decide +kernel) rfl
theorem mw_760 : (Jvm.Cond.selects "LaneSlices$Shelf" ({ cls := "LaneSlices$Shelf", name := "isMissing", desc := "()Z" } : Jvm.MethodName) ({ cls := "LaneSlices$Shelf", name := "isMissing", desc := "()Z" } : Jvm.MethodName)) ∈ mtb := mtb_in 821 (by decide +kernel) rfl
theorem mw_761 : (Jvm.Cond.code ({ cls := "LaneSlices$Shelf", name := "isMissing", desc := "()Z" } : Jvm.MethodName) prog_7_method_3_code (1 : Nat) (Option.some Jvm.ClassFile.FieldType.boolean)) ∈ mtb := mtb_in 822 (by decide +kernel) rfl
theorem mw_762 : (Jvm.Cond.methodLink "LaneSlices" (246 : Nat) ({ cls := "LaneSlices$Shelf", name := "has", desc := "(I)Z" } : Jvm.MethodName)) ∈ mtb := mtb_in 823 (by decide +kernel) rfl
theorem mw_763 : (Jvm.Cond.instanceMethod ({ cls := "LaneSlices$Shelf", name := "has", desc := "(I)Z" } : Jvm.MethodName)) ∈ mtb := mtb_in 824 (by decide +kernel) rfl
theorem mw_764 : (Jvm.Cond.selects "LaneSlices$Shelf" ({ cls := "LaneSlices$Shelf", name := "has", desc := "(I)Z" } : Jvm.MethodName) ({ cls := "LaneSlices$Shelf", name := "has", desc := "(I)Z" } : Jvm.MethodName)) ∈ mtb := mtb_in 825 (by decide +kernel) rfl
theorem mw_765 : (Jvm.Cond.code ({ cls := "LaneSlices$Shelf", name := "has", desc := "(I)Z" } : Jvm.MethodName) prog_7_method_4_code (2 : Nat) (Option.some Jvm.ClassFile.FieldType.boolean)) ∈ mtb := mtb_in 826 (by decide +kernel) rfl
theorem mw_766 : (Jvm.Cond.methodLink "LaneSlices" (249 : Nat) ({ cls := "LaneSlices$Shelf", name := "set", desc := "(IJ)V" } : Jvm.MethodName)) ∈ mtb := mtb_in 827 (by decide +kernel) rfl
theorem mw_767 : (Jvm.Cond.instanceMethod ({ cls := "LaneSlices$Shelf", name := "set", desc := "(IJ)V" } : Jvm.MethodName)) ∈ mtb := mtb_in 828 (by decide +kernel) rfl
theorem mw_768 : (Jvm.Cond.selects "LaneSlices$Shelf" ({ cls := "LaneSlices$Shelf", name := "set", desc := "(IJ)V" } : Jvm.MethodName) ({ cls := "LaneSlices$Shelf", name := "set", desc := "(IJ)V" } : Jvm.MethodName)) ∈ mtb := mtb_in 829 (by decide +kernel) rfl
theorem mw_769 : (Jvm.Cond.code ({ cls := "LaneSlices$Shelf", name := "set", desc := "(IJ)V" } : Jvm.MethodName) prog_7_method_5_code (4 : Nat) (Option.none : Option Jvm.ClassFile.FieldType)) ∈ mtb := mtb_in 830 (by decide +kernel) rfl
theorem mw_770 : (Jvm.Cond.methodLink "LaneSlices$Shelf" (37 : Nat) ({ cls := "LaneSlices$Shelf", name := "has", desc := "(I)Z" } : Jvm.MethodName)) ∈ mtb := mtb_in 831 (by decide +kernel) rfl
theorem mw_771 : (Jvm.Cond.methodLink "LaneSlices$Shelf" (41 : Nat) ({ cls := "LaneSlices$Shelf", name := "narrow", desc := "(J)J" } : Jvm.MethodName)) ∈ mtb := mtb_in 832 (by decide +kernel) rfl
theorem mw_773 : (Jvm.Cond.instanceMethod ({ cls := "LaneSlices$Shelf", name := "narrow", desc := "(J)J" } : Jvm.MethodName)) ∈ mtb := mtb_in 834 (by decide +kernel) rfl
theorem mw_774 : (Jvm.Cond.code ({ cls := "LaneSlices$Shelf", name := "narrow", desc := "(J)J" } : Jvm.MethodName) prog_7_method_6_code (3 : Nat) (Option.some Jvm.ClassFile.FieldType.long)) ∈ mtb := mtb_in 835 (by decide +kernel) rfl
theorem mw_775 : (Jvm.Cond.methodLink "LaneSlicesLaw" (149 : Nat) ({ cls := "LaneSlices", name := "at", desc := "(II)J" } : Jvm.MethodName)) ∈ mtb := mtb_in 836 (by decide +kernel) rfl
theorem mw_776 : (Jvm.Cond.instanceMethod ({ cls := "LaneSlices", name := "at", desc := "(II)J" } : Jvm.MethodName)) ∈ mtb := mtb_in 837 (by decide +kernel) rfl
theorem mw_777 : (Jvm.Cond.selects "LaneSlices" ({ cls := "LaneSlices", name := "at", desc := "(II)J" } : Jvm.MethodName) ({ cls := "LaneSlices", name := "at", desc := "(II)J" } : Jvm.MethodName)) ∈ mtb := mtb_in 838 (by decide +kernel) rfl
theorem mw_778 : (Jvm.Cond.code ({ cls := "LaneSlices", name := "at", desc := "(II)J" } : Jvm.MethodName) prog_1_method_33_code (3 : Nat) (Option.some Jvm.ClassFile.FieldType.long)) ∈ mtb := mtb_in 839 (by decide +kernel) rfl
theorem mw_779 : (Jvm.Cond.methodLink "LaneSlicesLaw" (153 : Nat) ({ cls := "LaneSlices", name := "load", desc := "(II)I" } : Jvm.MethodName)) ∈ mtb := mtb_in 840 (by decide +kernel) rfl
theorem mw_780 : (Jvm.Cond.instanceMethod ({ cls := "LaneSlices", name := "load", desc := "(II)I" } : Jvm.MethodName)) ∈ mtb := mtb_in 841 (by decide +kernel) rfl
theorem mw_781 : (Jvm.Cond.selects "LaneSlices" ({ cls := "LaneSlices", name := "load", desc := "(II)I" } : Jvm.MethodName) ({ cls := "LaneSlices", name := "load", desc := "(II)I" } : Jvm.MethodName)) ∈ mtb := mtb_in 842 (by decide +kernel) rfl
theorem mw_782 : (Jvm.Cond.code ({ cls := "LaneSlices", name := "load", desc := "(II)I" } : Jvm.MethodName) prog_1_method_34_code (8 : Nat) (Option.some Jvm.ClassFile.FieldType.int)) ∈ mtb := mtb_in 843 (by decide +kernel) rfl
theorem mw_783 : (Jvm.Cond.methodLink "LaneSlicesLaw" (157 : Nat) ({ cls := "LaneSlices", name := "store", desc := "(II)I" } : Jvm.MethodName)) ∈ mtb := mtb_in 844 (by decide +kernel) rfl
theorem mw_784 : (Jvm.Cond.instanceMethod ({ cls := "LaneSlices", name := "store", desc := "(II)I" } : Jvm.MethodName)) ∈ mtb := mtb_in 845 (by decide +kernel) rfl
theorem mw_785 : (Jvm.Cond.selects "LaneSlices" ({ cls := "LaneSlices", name := "store", desc := "(II)I" } : Jvm.MethodName) ({ cls := "LaneSlices", name := "store", desc := "(II)I" } : Jvm.MethodName)) ∈ mtb := mtb_in 846 (by decide +kernel) rfl
theorem mw_786 : (Jvm.Cond.code ({ cls := "LaneSlices", name := "store", desc := "(II)I" } : Jvm.MethodName) prog_1_method_35_code (5 : Nat) (Option.some Jvm.ClassFile.FieldType.int)) ∈ mtb := mtb_in 847 (by decide +kernel) rfl
theorem mw_787 : (Jvm.Cond.methodLink "LaneSlicesLaw" (161 : Nat) ({ cls := "LaneSlices", name := "judge", desc := "(II)I" } : Jvm.MethodName)) ∈ mtb := mtb_in 848 (by decide +kernel) rfl
theorem mw_788 : (Jvm.Cond.instanceMethod ({ cls := "LaneSlices", name := "judge", desc := "(II)I" } : Jvm.MethodName)) ∈ mtb := mtb_in 849 (by decide +kernel) rfl
theorem mw_789 : (Jvm.Cond.selects "LaneSlices" ({ cls := "LaneSlices", name := "judge", desc := "(II)I" } : Jvm.MethodName) ({ cls := "LaneSlices", name := "judge", desc := "(II)I" } : Jvm.MethodName)) ∈ mtb := mtb_in 850 (by decide +kernel) rfl
theorem mw_790 : (Jvm.Cond.code ({ cls := "LaneSlices", name := "judge", desc := "(II)I" } : Jvm.MethodName) prog_1_method_36_code (5 : Nat) (Option.some Jvm.ClassFile.FieldType.int)) ∈ mtb := mtb_in 851 (by decide +kernel) rfl
theorem mw_791 : (Jvm.Cond.methodLink "LaneSlicesLaw" (165 : Nat) ({ cls := "LaneSlices", name := "image", desc := "()I" } : Jvm.MethodName)) ∈ mtb := mtb_in 852 (by decide +kernel) rfl
theorem mw_792 : (Jvm.Cond.instanceMethod ({ cls := "LaneSlices", name := "image", desc := "()I" } : Jvm.MethodName)) ∈ mtb := mtb_in 853 (by decide +kernel) rfl
theorem mw_793 : (Jvm.Cond.selects "LaneSlices" ({ cls := "LaneSlices", name := "image", desc := "()I" } : Jvm.MethodName) ({ cls := "LaneSlices", name := "image", desc := "()I" } : Jvm.MethodName)) ∈ mtb := mtb_in 854 (by decide +kernel) rfl
theorem mw_794 : (Jvm.Cond.code ({ cls := "LaneSlices", name := "image", desc := "()I" } : Jvm.MethodName) prog_1_method_37_code (1 : Nat) (Option.some Jvm.ClassFile.FieldType.int)) ∈ mtb := mtb_in 855 (by decide +kernel) rfl
theorem mw_795 : (Jvm.Cond.methodLink "LaneSlices" (257 : Nat) ({ cls := "LaneSlices$Whole", name := "copyOf", desc := "(LLaneSlices$Whole;)V" } : Jvm.MethodName)) ∈ mtb := mtb_in 856 (by decide +kernel) rfl
theorem mw_796 : (Jvm.Cond.instanceMethod ({ cls := "LaneSlices$Whole", name := "copyOf", desc := "(LLaneSlices$Whole;)V" } : Jvm.MethodName)) ∈ mtb := mtb_in 857 (by decide +kernel) rfl
theorem mw_797 : (Jvm.Cond.selects "LaneSlices$Whole" ({ cls := "LaneSlices$Whole", name := "copyOf", desc := "(LLaneSlices$Whole;)V" } : Jvm.MethodName) ({ cls := "LaneSlices$Whole", name := "copyOf", desc := "(LLaneSlices$Whole;)V" } : Jvm.MethodName)) ∈ mtb := mtb_in 858 (by decide +kernel) rfl
theorem mw_798 : (Jvm.Cond.code ({ cls := "LaneSlices$Whole", name := "copyOf", desc := "(LLaneSlices$Whole;)V" } : Jvm.MethodName) prog_12_method_2_code (2 : Nat) (Option.none : Option Jvm.ClassFile.FieldType)) ∈ mtb := mtb_in 859 (by decide +kernel) rfl
theorem mw_799 : (Jvm.Cond.methodLink "LaneSlices$Whole" (23 : Nat) ({ cls := "LaneSlices$Variables", name := "copyOf", desc := "(LLaneSlices$Variables;)V" } : Jvm.MethodName)) ∈ mtb := mtb_in 860 (by decide +kernel) rfl
theorem mw_800 : (Jvm.Cond.methodLink "LaneSlices$Whole" (27 : Nat) ({ cls := "LaneSlices$Masks", name := "copyOf", desc := "(LLaneSlices$Masks;)V" } : Jvm.MethodName)) ∈ mtb := mtb_in 861 (by decide +kernel) rfl
theorem mw_801 : (Jvm.Cond.instanceMethod ({ cls := "LaneSlices$Masks", name := "copyOf", desc := "(LLaneSlices$Masks;)V" } : Jvm.MethodName)) ∈ mtb := mtb_in 862 (by decide +kernel) rfl
theorem mw_802 : (Jvm.Cond.selects "LaneSlices$Masks" ({ cls := "LaneSlices$Masks", name := "copyOf", desc := "(LLaneSlices$Masks;)V" } : Jvm.MethodName) ({ cls := "LaneSlices$Masks", name := "copyOf", desc := "(LLaneSlices$Masks;)V" } : Jvm.MethodName)) ∈ mtb := mtb_in 863 (by decide +kernel) rfl
theorem mw_803 : (Jvm.Cond.code ({ cls := "LaneSlices$Masks", name := "copyOf", desc := "(LLaneSlices$Masks;)V" } : Jvm.MethodName) prog_4_method_6_code (2 : Nat) (Option.none : Option Jvm.ClassFile.FieldType)) ∈ mtb := mtb_in 864 (by decide +kernel) rfl
theorem mw_804 : (Jvm.Cond.methodLink "LaneSlices$Masks" (21 : Nat) ({ cls := "java/lang/System", name := "arraycopy", desc := "(Ljava/lang/Object;ILjava/lang/Object;II)V" } : Jvm.MethodName)) ∈ mtb := mtb_in 865 (by decide +kernel) rfl
theorem mw_805 : (Jvm.Cond.methodLink "LaneSlicesLaw" (169 : Nat) ({ cls := "LaneSlices", name := "back", desc := "()I" } : Jvm.MethodName)) ∈ mtb := mtb_in 866 (by decide +kernel) rfl
theorem mw_806 : (Jvm.Cond.instanceMethod ({ cls := "LaneSlices", name := "back", desc := "()I" } : Jvm.MethodName)) ∈ mtb := mtb_in 867 (by decide +kernel) rfl
theorem mw_807 : (Jvm.Cond.selects "LaneSlices" ({ cls := "LaneSlices", name := "back", desc := "()I" } : Jvm.MethodName) ({ cls := "LaneSlices", name := "back", desc := "()I" } : Jvm.MethodName)) ∈ mtb := mtb_in 868 (by decide +kernel) rfl
theorem mw_808 : (Jvm.Cond.code ({ cls := "LaneSlices", name := "back", desc := "()I" } : Jvm.MethodName) prog_1_method_38_code (1 : Nat) (Option.some Jvm.ClassFile.FieldType.int)) ∈ mtb := mtb_in 869 (by decide +kernel) rfl
theorem mw_809 : (Jvm.Cond.methodLink "LaneSlicesLaw" (173 : Nat) ({ cls := "LaneSlices", name := "count", desc := "(I)I" } : Jvm.MethodName)) ∈ mtb := mtb_in 870 (by decide +kernel) rfl
theorem mw_810 : (Jvm.Cond.instanceMethod ({ cls := "LaneSlices", name := "count", desc := "(I)I" } : Jvm.MethodName)) ∈ mtb := mtb_in 871 (by decide +kernel) rfl
theorem mw_811 : (Jvm.Cond.selects "LaneSlices" ({ cls := "LaneSlices", name := "count", desc := "(I)I" } : Jvm.MethodName) ({ cls := "LaneSlices", name := "count", desc := "(I)I" } : Jvm.MethodName)) ∈ mtb := mtb_in 872 (by decide +kernel) rfl
theorem mw_812 : (Jvm.Cond.code ({ cls := "LaneSlices", name := "count", desc := "(I)I" } : Jvm.MethodName) prog_1_method_39_code (2 : Nat) (Option.some Jvm.ClassFile.FieldType.int)) ∈ mtb := mtb_in 873 (by decide +kernel) rfl
theorem mw_813 : (Jvm.Cond.methodLink "LaneSlicesLaw" (177 : Nat) ({ cls := "LaneSlices", name := "refused", desc := "(I)I" } : Jvm.MethodName)) ∈ mtb := mtb_in 874 (by decide +kernel) rfl
theorem mw_814 : (Jvm.Cond.instanceMethod ({ cls := "LaneSlices", name := "refused", desc := "(I)I" } : Jvm.MethodName)) ∈ mtb := mtb_in 875 (by decide +kernel) rfl
theorem mw_815 : (Jvm.Cond.selects "LaneSlices" ({ cls := "LaneSlices", name := "refused", desc := "(I)I" } : Jvm.MethodName) ({ cls := "LaneSlices", name := "refused", desc := "(I)I" } : Jvm.MethodName)) ∈ mtb := mtb_in 876 (by decide +kernel) rfl
theorem mw_816 : (Jvm.Cond.code ({ cls := "LaneSlices", name := "refused", desc := "(I)I" } : Jvm.MethodName) prog_1_method_40_code (2 : Nat) (Option.some Jvm.ClassFile.FieldType.int)) ∈ mtb := mtb_in 877 (by decide +kernel) rfl
theorem mw_817 : (Jvm.Cond.classLink "LaneSlicesLaw" (10 : Nat) "LaneSlicesModel") ∈ mtb := mtb_in 878 (by decide +kernel) rfl
theorem mw_818 : (Jvm.Cond.instantiable "LaneSlicesModel" (37 : Nat)) ∈ mtb := mtb_in 879 (by decide +kernel) rfl
theorem mw_819 : (Jvm.Cond.methodLink "LaneSlicesLaw" (12 : Nat) ({ cls := "LaneSlicesModel", name := "<init>", desc := "()V" } : Jvm.MethodName)) ∈ mtb := mtb_in 880 (by decide +kernel) rfl
theorem mw_820 : (Jvm.Cond.instanceMethod ({ cls := "LaneSlicesModel", name := "<init>", desc := "()V" } : Jvm.MethodName)) ∈ mtb := mtb_in 881 (by decide +kernel) rfl
theorem mw_821 : (Jvm.Cond.code ({ cls := "LaneSlicesModel", name := "<init>", desc := "()V" } : Jvm.MethodName) prog_14_method_1_code (1 : Nat) (Option.none : Option Jvm.ClassFile.FieldType)) ∈ mtb := mtb_in 882 (by decide +kernel) rfl
theorem mw_822 : (Jvm.Cond.methodLink "LaneSlicesModel" (1 : Nat) ({ cls := "java/lang/Object", name := "<init>", desc := "()V" } : Jvm.MethodName)) ∈ mtb := mtb_in 883 (by decide +kernel) rfl
theorem mw_823 : (Jvm.Cond.fieldLink "LaneSlicesModel" (7 : Nat) "LaneSlicesModel" "refused" "[I") ∈ mtb := mtb_in 884 (by decide +kernel) rfl
theorem mw_824 : (Jvm.Cond.fieldLink "LaneSlicesModel" (13 : Nat) "LaneSlicesModel" "x" "[I") ∈ mtb := mtb_in 885 (by decide +kernel) rfl
theorem mw_825 : (Jvm.Cond.fieldLink "LaneSlicesModel" (16 : Nat) "LaneSlicesModel" "before" "[I") ∈ mtb := mtb_in 886 (by decide +kernel) rfl
theorem mw_826 : (Jvm.Cond.fieldLink "LaneSlicesModel" (19 : Nat) "LaneSlicesModel" "start" "[I") ∈ mtb := mtb_in 887 (by decide +kernel) rfl
theorem mw_827 : (Jvm.Cond.fieldLink "LaneSlicesModel" (22 : Nat) "LaneSlicesModel" "keptX" "[I") ∈ mtb := mtb_in 888 (by decide +kernel) rfl
theorem mw_828 : (Jvm.Cond.fieldLink "LaneSlicesModel" (25 : Nat) "LaneSlicesModel" "masks" "[J") ∈ mtb := mtb_in 889 (by decide +kernel) rfl
theorem mw_829 : (Jvm.Cond.fieldLink "LaneSlicesModel" (29 : Nat) "LaneSlicesModel" "keptMasks" "[J") ∈ mtb := mtb_in 890 (by decide +kernel) rfl
theorem mw_830 : (Jvm.Cond.fieldLink "LaneSlicesModel" (129 : Nat) "LaneSlicesModel" "maskMany" "I") ∈ mtb := mtb_in 891 (by decide +kernel) rfl
theorem mw_831 : (Jvm.Cond.fieldLink "LaneSlicesModel" (258 : Nat) "LaneSlicesModel" "keptMaskMany" "I") ∈ mtb := mtb_in 892 (by decide +kernel) rfl
theorem mw_832 : (Jvm.Cond.fieldLink "LaneSlicesModel" (114 : Nat) "LaneSlicesModel" "edge" "I") ∈ mtb := mtb_in 893 (by decide +kernel) rfl
theorem mw_833 : (Jvm.Cond.fieldLink "LaneSlicesModel" (261 : Nat) "LaneSlicesModel" "keptEdge" "I") ∈ mtb := mtb_in 894 (by decide +kernel) rfl
theorem mw_834 : (Jvm.Cond.fieldLink "LaneSlicesModel" (99 : Nat) "LaneSlicesModel" "steps" "I") ∈ mtb := mtb_in 895 (by decide +kernel) rfl
theorem mw_835 : (Jvm.Cond.fieldLink "LaneSlicesModel" (264 : Nat) "LaneSlicesModel" "keptSteps" "I") ∈ mtb := mtb_in 896 (by decide +kernel) rfl
theorem mw_836 : (Jvm.Cond.fieldLink "LaneSlicesModel" (273 : Nat) "LaneSlicesModel" "isKept" "Z") ∈ mtb := mtb_in 897 (by decide +kernel) rfl
theorem mw_837 : (Jvm.Cond.fieldLink "LaneSlicesModel" (32 : Nat) "LaneSlicesModel" "node" "[I") ∈ mtb := mtb_in 898 (by decide +kernel) rfl
theorem mw_838 : (Jvm.Cond.fieldLink "LaneSlicesModel" (35 : Nat) "LaneSlicesModel" "keptNode" "[I") ∈ mtb := mtb_in 899 (by decide +kernel) rfl
theorem mw_839 : (Jvm.Cond.fieldLink "LaneSlicesModel" (38 : Nat) "LaneSlicesModel" "fresh" "[I") ∈ mtb := mtb_in 900 (by decide +kernel) rfl
theorem mw_840 : (Jvm.Cond.fieldLink "LaneSlicesModel" (59 : Nat) "LaneSlicesModel" "says" "I") ∈ mtb := mtb_in 901 (by decide +kernel) rfl
theorem mw_841 : (Jvm.Cond.fieldLink "LaneSlicesModel" (267 : Nat) "LaneSlicesModel" "keptSays" "I") ∈ mtb := mtb_in 902 (by decide +kernel) rfl
theorem mw_842 : (Jvm.Cond.fieldLink "LaneSlicesModel" (148 : Nat) "LaneSlicesModel" "freshMany" "I") ∈ mtb := mtb_in 903 (by decide +kernel) rfl
theorem mw_843 : (Jvm.Cond.fieldLink "LaneSlicesModel" (194 : Nat) "LaneSlicesModel" "freshSays" "I") ∈ mtb := mtb_in 904 (by decide +kernel) rfl
theorem mw_844 : (Jvm.Cond.fieldLink "LaneSlicesModel" (41 : Nat) "LaneSlicesModel" "tape" "[I") ∈ mtb := mtb_in 905 (by decide +kernel) rfl
theorem mw_845 : (Jvm.Cond.fieldLink "LaneSlicesModel" (139 : Nat) "LaneSlicesModel" "taped" "I") ∈ mtb := mtb_in 906 (by decide +kernel) rfl
theorem mw_846 : (Jvm.Cond.fieldLink "LaneSlicesModel" (44 : Nat) "LaneSlicesModel" "shelf" "[J") ∈ mtb := mtb_in 907 (by decide +kernel) rfl
theorem mw_847 : (Jvm.Cond.fieldLink "LaneSlicesModel" (47 : Nat) "LaneSlicesModel" "shelfSort" "[I") ∈ mtb := mtb_in 908 (by decide +kernel) rfl
theorem mw_848 : (Jvm.Cond.fieldLink "LaneSlicesModel" (50 : Nat) "LaneSlicesModel" "shelfMany" "[I") ∈ mtb := mtb_in 909 (by decide +kernel) rfl
theorem mw_849 : (Jvm.Cond.fieldLink "LaneSlicesModel" (53 : Nat) "LaneSlicesModel" "comes" "[I") ∈ mtb := mtb_in 910 (by decide +kernel) rfl
theorem mw_850 : (Jvm.Cond.fieldLink "LaneSlicesModel" (142 : Nat) "LaneSlicesModel" "at" "I") ∈ mtb := mtb_in 911 (by decide +kernel) rfl
theorem mw_851 : (Jvm.Cond.fieldLink "LaneSlicesModel" (145 : Nat) "LaneSlicesModel" "ended" "I") ∈ mtb := mtb_in 912 (by decide +kernel) rfl
theorem mw_852 : (Jvm.Cond.fieldLink "LaneSlicesModel" (151 : Nat) "LaneSlicesModel" "wrong" "I") ∈ mtb := mtb_in 913 (by decide +kernel) rfl
theorem mw_853 : (Jvm.Cond.fieldLink "LaneSlicesModel" (197 : Nat) "LaneSlicesModel" "brackets" "I") ∈ mtb := mtb_in 914 (by decide +kernel) rfl
theorem mw_854 : (Jvm.Cond.fieldLink "LaneSlicesModel" (200 : Nat) "LaneSlicesModel" "loops" "I") ∈ mtb := mtb_in 915 (by decide +kernel) rfl
theorem mw_855 : (Jvm.Cond.fieldLink "LaneSlicesModel" (175 : Nat) "LaneSlicesModel" "inner" "I") ∈ mtb := mtb_in 916 (by decide +kernel) rfl
theorem mw_856 : (Jvm.Cond.fieldLink "LaneSlicesModel" (216 : Nat) "LaneSlicesModel" "firstSaid" "I") ∈ mtb := mtb_in 917 (by decide +kernel) rfl
theorem mw_857 : (Jvm.Cond.fieldLink "LaneSlicesModel" (270 : Nat) "LaneSlicesModel" "keptFirst" "I") ∈ mtb := mtb_in 918 (by decide +kernel) rfl
theorem mw_858 : (Jvm.Cond.fieldLink "LaneSlicesModel" (56 : Nat) "LaneSlicesModel" "value" "[I") ∈ mtb := mtb_in 919 (by decide +kernel) rfl
theorem mw_859 : (Jvm.Cond.fieldLink "LaneSlicesModel" (223 : Nat) "LaneSlicesModel" "taken" "I") ∈ mtb := mtb_in 920 (by decide +kernel) rfl
theorem mw_860 : (Jvm.Cond.laysFinal "LaneSlicesModel" "LaneSlicesModel" "refused" "[I") ∈ mtb := mtb_in 921 (by decide +kernel) rfl
theorem mw_861 : (Jvm.Cond.soleField "LaneSlicesModel" "refused") ∈ mtb := mtb_in 922 (by decide +kernel) rfl
theorem mw_862 : (Jvm.Cond.laysFinal "LaneSlicesModel" "LaneSlicesModel" "x" "[I") ∈ mtb := mtb_in 923 (by decide +kernel) rfl
theorem mw_863 : (Jvm.Cond.soleField "LaneSlicesModel" "x") ∈ mtb := mtb_in 924 (by decide +kernel) rfl
theorem mw_864 : (Jvm.Cond.laysFinal "LaneSlicesModel" "LaneSlicesModel" "before" "[I") ∈ mtb := mtb_in 925 (by decide +kernel) rfl
theorem mw_865 : (Jvm.Cond.soleField "LaneSlicesModel" "before") ∈ mtb := mtb_in 926 (by decide +kernel) rfl
theorem mw_866 : (Jvm.Cond.laysFinal "LaneSlicesModel" "LaneSlicesModel" "start" "[I") ∈ mtb := mtb_in 927 (by decide +kernel) rfl
theorem mw_867 : (Jvm.Cond.soleField "LaneSlicesModel" "start") ∈ mtb := mtb_in 928 (by decide +kernel) rfl
theorem mw_868 : (Jvm.Cond.laysFinal "LaneSlicesModel" "LaneSlicesModel" "keptX" "[I") ∈ mtb := mtb_in 929 (by decide +kernel) rfl
theorem mw_869 : (Jvm.Cond.soleField "LaneSlicesModel" "keptX") ∈ mtb := mtb_in 930 (by decide +kernel) rfl
theorem mw_870 : (Jvm.Cond.laysFinal "LaneSlicesModel" "LaneSlicesModel" "masks" "[J") ∈ mtb := mtb_in 931 (by decide +kernel) rfl
theorem mw_871 : (Jvm.Cond.soleField "LaneSlicesModel" "masks") ∈ mtb := mtb_in 932 (by decide +kernel) rfl
theorem mw_872 : (Jvm.Cond.laysFinal "LaneSlicesModel" "LaneSlicesModel" "keptMasks" "[J") ∈ mtb := mtb_in 933 (by decide +kernel) rfl
theorem mw_873 : (Jvm.Cond.soleField "LaneSlicesModel" "keptMasks") ∈ mtb := mtb_in 934 (by decide +kernel) rfl
theorem mw_874 : (Jvm.Cond.lays "LaneSlicesModel" "LaneSlicesModel" "maskMany" "I") ∈ mtb := mtb_in 935 (by decide +kernel) rfl
theorem mw_875 : (Jvm.Cond.soleField "LaneSlicesModel" "maskMany") ∈ mtb := mtb_in 936 (by decide +kernel) rfl
theorem mw_876 : (Jvm.Cond.lays "LaneSlicesModel" "LaneSlicesModel" "keptMaskMany" "I") ∈ mtb := mtb_in 937 (by decide +kernel) rfl
theorem mw_877 : (Jvm.Cond.soleField "LaneSlicesModel" "keptMaskMany") ∈ mtb := mtb_in 938 (by decide +kernel) rfl
theorem mw_878 : (Jvm.Cond.lays "LaneSlicesModel" "LaneSlicesModel" "edge" "I") ∈ mtb := mtb_in 939 (by decide +kernel) rfl
theorem mw_879 : (Jvm.Cond.soleField "LaneSlicesModel" "edge") ∈ mtb := mtb_in 940 (by decide +kernel) rfl
theorem mw_880 : (Jvm.Cond.lays "LaneSlicesModel" "LaneSlicesModel" "keptEdge" "I") ∈ mtb := mtb_in 941 (by decide +kernel) rfl
theorem mw_881 : (Jvm.Cond.soleField "LaneSlicesModel" "keptEdge") ∈ mtb := mtb_in 942 (by decide +kernel) rfl
theorem mw_882 : (Jvm.Cond.lays "LaneSlicesModel" "LaneSlicesModel" "steps" "I") ∈ mtb := mtb_in 943 (by decide +kernel) rfl
theorem mw_883 : (Jvm.Cond.soleField "LaneSlicesModel" "steps") ∈ mtb := mtb_in 944 (by decide +kernel) rfl
theorem mw_884 : (Jvm.Cond.lays "LaneSlicesModel" "LaneSlicesModel" "keptSteps" "I") ∈ mtb := mtb_in 945 (by decide +kernel) rfl
theorem mw_885 : (Jvm.Cond.soleField "LaneSlicesModel" "keptSteps") ∈ mtb := mtb_in 946 (by decide +kernel) rfl
theorem mw_886 : (Jvm.Cond.lays "LaneSlicesModel" "LaneSlicesModel" "isKept" "Z") ∈ mtb := mtb_in 947 (by decide +kernel) rfl
theorem mw_887 : (Jvm.Cond.soleField "LaneSlicesModel" "isKept") ∈ mtb := mtb_in 948 (by decide +kernel) rfl
theorem mw_888 : (Jvm.Cond.laysFinal "LaneSlicesModel" "LaneSlicesModel" "node" "[I") ∈ mtb := mtb_in 949 (by decide +kernel) rfl
theorem mw_889 : (Jvm.Cond.soleField "LaneSlicesModel" "node") ∈ mtb := mtb_in 950 (by decide +kernel) rfl
theorem mw_890 : (Jvm.Cond.laysFinal "LaneSlicesModel" "LaneSlicesModel" "keptNode" "[I") ∈ mtb := mtb_in 951 (by decide +kernel) rfl
theorem mw_891 : (Jvm.Cond.soleField "LaneSlicesModel" "keptNode") ∈ mtb := mtb_in 952 (by decide +kernel) rfl
theorem mw_892 : (Jvm.Cond.laysFinal "LaneSlicesModel" "LaneSlicesModel" "fresh" "[I") ∈ mtb := mtb_in 953 (by decide +kernel) rfl
theorem mw_893 : (Jvm.Cond.soleField "LaneSlicesModel" "fresh") ∈ mtb := mtb_in 954 (by decide +kernel) rfl
theorem mw_894 : (Jvm.Cond.lays "LaneSlicesModel" "LaneSlicesModel" "says" "I") ∈ mtb := mtb_in 955 (by decide +kernel) rfl
theorem mw_895 : (Jvm.Cond.soleField "LaneSlicesModel" "says") ∈ mtb := mtb_in 956 (by decide +kernel) rfl
theorem mw_896 : (Jvm.Cond.lays "LaneSlicesModel" "LaneSlicesModel" "keptSays" "I") ∈ mtb := mtb_in 957 (by decide +kernel) rfl
theorem mw_897 : (Jvm.Cond.soleField "LaneSlicesModel" "keptSays") ∈ mtb := mtb_in 958 (by decide +kernel) rfl
theorem mw_898 : (Jvm.Cond.lays "LaneSlicesModel" "LaneSlicesModel" "freshMany" "I") ∈ mtb := mtb_in 959 (by decide +kernel) rfl
theorem mw_899 : (Jvm.Cond.soleField "LaneSlicesModel" "freshMany") ∈ mtb := mtb_in 960 (by decide +kernel) rfl
theorem mw_900 : (Jvm.Cond.lays "LaneSlicesModel" "LaneSlicesModel" "freshSays" "I") ∈ mtb := mtb_in 961 (by decide +kernel) rfl
theorem mw_901 : (Jvm.Cond.soleField "LaneSlicesModel" "freshSays") ∈ mtb := mtb_in 962 (by decide +kernel) rfl
theorem mw_902 : (Jvm.Cond.laysFinal "LaneSlicesModel" "LaneSlicesModel" "tape" "[I") ∈ mtb := mtb_in 963 (by decide +kernel) rfl
theorem mw_903 : (Jvm.Cond.soleField "LaneSlicesModel" "tape") ∈ mtb := mtb_in 964 (by decide +kernel) rfl
theorem mw_904 : (Jvm.Cond.lays "LaneSlicesModel" "LaneSlicesModel" "taped" "I") ∈ mtb := mtb_in 965 (by decide +kernel) rfl
theorem mw_905 : (Jvm.Cond.soleField "LaneSlicesModel" "taped") ∈ mtb := mtb_in 966 (by decide +kernel) rfl
theorem mw_906 : (Jvm.Cond.laysFinal "LaneSlicesModel" "LaneSlicesModel" "shelf" "[J") ∈ mtb := mtb_in 967 (by decide +kernel) rfl
theorem mw_907 : (Jvm.Cond.soleField "LaneSlicesModel" "shelf") ∈ mtb := mtb_in 968 (by decide +kernel) rfl
theorem mw_908 : (Jvm.Cond.laysFinal "LaneSlicesModel" "LaneSlicesModel" "shelfSort" "[I") ∈ mtb := mtb_in 969 (by decide +kernel) rfl
theorem mw_909 : (Jvm.Cond.soleField "LaneSlicesModel" "shelfSort") ∈ mtb := mtb_in 970 (by decide +kernel) rfl
theorem mw_910 : (Jvm.Cond.laysFinal "LaneSlicesModel" "LaneSlicesModel" "shelfMany" "[I") ∈ mtb := mtb_in 971 (by decide +kernel) rfl
theorem mw_911 : (Jvm.Cond.soleField "LaneSlicesModel" "shelfMany") ∈ mtb := mtb_in 972 (by decide +kernel) rfl
theorem mw_912 : (Jvm.Cond.laysFinal "LaneSlicesModel" "LaneSlicesModel" "comes" "[I") ∈ mtb := mtb_in 973 (by decide +kernel) rfl
theorem mw_913 : (Jvm.Cond.soleField "LaneSlicesModel" "comes") ∈ mtb := mtb_in 974 (by decide +kernel) rfl
theorem mw_914 : (Jvm.Cond.lays "LaneSlicesModel" "LaneSlicesModel" "at" "I") ∈ mtb := mtb_in 975 (by decide +kernel) rfl
theorem mw_915 : (Jvm.Cond.soleField "LaneSlicesModel" "at") ∈ mtb := mtb_in 976 (by decide +kernel) rfl
theorem mw_916 : (Jvm.Cond.lays "LaneSlicesModel" "LaneSlicesModel" "ended" "I") ∈ mtb := mtb_in 977 (by decide +kernel) rfl
theorem mw_917 : (Jvm.Cond.soleField "LaneSlicesModel" "ended") ∈ mtb := mtb_in 978 (by decide +kernel) rfl
theorem mw_918 : (Jvm.Cond.lays "LaneSlicesModel" "LaneSlicesModel" "wrong" "I") ∈ mtb := mtb_in 979 (by decide +kernel) rfl
theorem mw_919 : (Jvm.Cond.soleField "LaneSlicesModel" "wrong") ∈ mtb := mtb_in 980 (by decide +kernel) rfl
theorem mw_920 : (Jvm.Cond.lays "LaneSlicesModel" "LaneSlicesModel" "brackets" "I") ∈ mtb := mtb_in 981 (by decide +kernel) rfl
theorem mw_921 : (Jvm.Cond.soleField "LaneSlicesModel" "brackets") ∈ mtb := mtb_in 982 (by decide +kernel) rfl
theorem mw_922 : (Jvm.Cond.lays "LaneSlicesModel" "LaneSlicesModel" "loops" "I") ∈ mtb := mtb_in 983 (by decide +kernel) rfl
theorem mw_923 : (Jvm.Cond.soleField "LaneSlicesModel" "loops") ∈ mtb := mtb_in 984 (by decide +kernel) rfl
theorem mw_924 : (Jvm.Cond.lays "LaneSlicesModel" "LaneSlicesModel" "inner" "I") ∈ mtb := mtb_in 985 (by decide +kernel) rfl
theorem mw_925 : (Jvm.Cond.soleField "LaneSlicesModel" "inner") ∈ mtb := mtb_in 986 (by decide +kernel) rfl
theorem mw_926 : (Jvm.Cond.lays "LaneSlicesModel" "LaneSlicesModel" "firstSaid" "I") ∈ mtb := mtb_in 987 (by decide +kernel) rfl
theorem mw_927 : (Jvm.Cond.soleField "LaneSlicesModel" "firstSaid") ∈ mtb := mtb_in 988 (by decide +kernel) rfl
theorem mw_928 : (Jvm.Cond.lays "LaneSlicesModel" "LaneSlicesModel" "keptFirst" "I") ∈ mtb := mtb_in 989 (by decide +kernel) rfl
theorem mw_929 : (Jvm.Cond.soleField "LaneSlicesModel" "keptFirst") ∈ mtb := mtb_in 990 (by decide +kernel) rfl
theorem mw_930 : (Jvm.Cond.laysFinal "LaneSlicesModel" "LaneSlicesModel" "value" "[I") ∈ mtb := mtb_in 991 (by decide +kernel) rfl
theorem mw_931 : (Jvm.Cond.soleField "LaneSlicesModel" "value") ∈ mtb := mtb_in 992 (by decide +kernel) rfl
theorem mw_932 : (Jvm.Cond.lays "LaneSlicesModel" "LaneSlicesModel" "taken" "I") ∈ mtb := mtb_in 993 (by decide +kernel) rfl
theorem mw_933 : (Jvm.Cond.soleField "LaneSlicesModel" "taken") ∈ mtb := mtb_in 994 (by decide +kernel) rfl
theorem mw_934 : (Jvm.Cond.superclass "LaneSlicesModel" "java/lang/Object") ∈ mtb := mtb_in 995 (by decide +kernel) rfl
theorem mw_935 : (Jvm.Cond.methodLink "LaneSlicesLaw" (17 : Nat) ({ cls := "LaneSlicesModel", name := "lane", desc := "(II)I" } : Jvm.MethodName)) ∈ mtb := mtb_in 996 (by decide +kernel) rfl
theorem mw_936 : (Jvm.Cond.instanceMethod ({ cls := "LaneSlicesModel", name := "lane", desc := "(II)I" } : Jvm.MethodName)) ∈ mtb := mtb_in 997 (by decide +kernel) rfl
theorem mw_937 : (Jvm.Cond.selects "LaneSlicesModel" ({ cls := "LaneSlicesModel", name := "lane", desc := "(II)I" } : Jvm.MethodName) ({ cls := "LaneSlicesModel", name := "lane", desc := "(II)I" } : Jvm.MethodName)) ∈ mtb := mtb_in 998 (by decide +kernel) rfl
theorem mw_938 : (Jvm.Cond.code ({ cls := "LaneSlicesModel", name := "lane", desc := "(II)I" } : Jvm.MethodName) prog_14_method_9_code (3 : Nat) (Option.some Jvm.ClassFile.FieldType.int)) ∈ mtb := mtb_in 999 (by decide +kernel) rfl
theorem mw_939 : (Jvm.Cond.methodLink "LaneSlicesModel" (67 : Nat) ({ cls := "LaneSlicesModel", name := "isLane", desc := "(I)Z" } : Jvm.MethodName)) ∈ mtb := mtb_in 1000 (by decide +kernel) rfl
theorem mw_940 : (Jvm.Cond.static ({ cls := "LaneSlicesModel", name := "isLane", desc := "(I)Z" } : Jvm.MethodName)) ∈ mtb := mtb_in 1001 (by decide +kernel) rfl
theorem mw_941 : (Jvm.Cond.code ({ cls := "LaneSlicesModel", name := "isLane", desc := "(I)Z" } : Jvm.MethodName) prog_14_method_4_code (1 : Nat) (Option.some Jvm.ClassFile.FieldType.boolean)) ∈ mtb := mtb_in 1002 (by decide +kernel) rfl
theorem mw_942 : (Jvm.Cond.methodLink "LaneSlicesModel" (71 : Nat) ({ cls := "LaneSlicesModel", name := "isVariable", desc := "(I)Z" } : Jvm.MethodName)) ∈ mtb := mtb_in 1003 (by decide +kernel) rfl
theorem mw_943 : (Jvm.Cond.static ({ cls := "LaneSlicesModel", name := "isVariable", desc := "(I)Z" } : Jvm.MethodName)) ∈ mtb := mtb_in 1004 (by decide +kernel) rfl
theorem mw_944 : (Jvm.Cond.code ({ cls := "LaneSlicesModel", name := "isVariable", desc := "(I)Z" } : Jvm.MethodName) prog_14_method_5_code (1 : Nat) (Option.some Jvm.ClassFile.FieldType.boolean)) ∈ mtb := mtb_in 1005 (by decide +kernel) rfl
theorem mw_945 : (Jvm.Cond.methodLink "LaneSlicesModel" (74 : Nat) ({ cls := "LaneSlicesModel", name := "refuse", desc := "(I)I" } : Jvm.MethodName)) ∈ mtb := mtb_in 1006 (by decide +kernel) rfl
theorem mw_947 : (Jvm.Cond.instanceMethod ({ cls := "LaneSlicesModel", name := "refuse", desc := "(I)I" } : Jvm.MethodName)) ∈ mtb := mtb_in 1008 (by decide +kernel) rfl
theorem mw_948 : (Jvm.Cond.code ({ cls := "LaneSlicesModel", name := "refuse", desc := "(I)I" } : Jvm.MethodName) prog_14_method_3_code (2 : Nat) (Option.some Jvm.ClassFile.FieldType.int)) ∈ mtb := mtb_in 1009 (by decide +kernel) rfl
theorem mw_949 : (Jvm.Cond.methodLink "LaneSlicesLaw" (22 : Nat) ({ cls := "LaneSlicesModel", name := "put", desc := "(III)I" } : Jvm.MethodName)) ∈ mtb := mtb_in 1010 (by decide +kernel) rfl
theorem mw_950 : (Jvm.Cond.instanceMethod ({ cls := "LaneSlicesModel", name := "put", desc := "(III)I" } : Jvm.MethodName)) ∈ mtb := mtb_in 1011 (by decide +kernel) rfl
theorem mw_951 : (Jvm.Cond.selects "LaneSlicesModel" ({ cls := "LaneSlicesModel", name := "put", desc := "(III)I" } : Jvm.MethodName) ({ cls := "LaneSlicesModel", name := "put", desc := "(III)I" } : Jvm.MethodName)) ∈ mtb := mtb_in 1012 (by decide +kernel) rfl
theorem mw_952 : (Jvm.Cond.code ({ cls := "LaneSlicesModel", name := "put", desc := "(III)I" } : Jvm.MethodName) prog_14_method_10_code (5 : Nat) (Option.some Jvm.ClassFile.FieldType.int)) ∈ mtb := mtb_in 1013 (by decide +kernel) rfl
theorem mw_953 : (Jvm.Cond.constantLong "LaneSlicesModel" (78 : Nat) (255 : Int64)) ∈ mtb := mtb_in 1014 (by decide +kernel) rfl
theorem mw_954 : (Jvm.Cond.methodLink "LaneSlicesModel" (80 : Nat) ({ cls := "LaneSlicesModel", name := "isIn", desc := "(JJJ)Z" } : Jvm.MethodName)) ∈ mtb := mtb_in 1015 (by decide +kernel) rfl
theorem mw_955 : (Jvm.Cond.static ({ cls := "LaneSlicesModel", name := "isIn", desc := "(JJJ)Z" } : Jvm.MethodName)) ∈ mtb := mtb_in 1016 (by decide +kernel) rfl
theorem mw_956 : (Jvm.Cond.code ({ cls := "LaneSlicesModel", name := "isIn", desc := "(JJJ)Z" } : Jvm.MethodName) prog_14_method_2_code (6 : Nat) (Option.some Jvm.ClassFile.FieldType.boolean)) ∈ mtb := mtb_in 1017 (by decide +kernel) rfl
theorem mw_957 : (Jvm.Cond.methodLink "LaneSlicesLaw" (27 : Nat) ({ cls := "LaneSlicesModel", name := "plane", desc := "(II)J" } : Jvm.MethodName)) ∈ mtb := mtb_in 1018 (by decide +kernel) rfl
theorem mw_958 : (Jvm.Cond.instanceMethod ({ cls := "LaneSlicesModel", name := "plane", desc := "(II)J" } : Jvm.MethodName)) ∈ mtb := mtb_in 1019 (by decide +kernel) rfl
theorem mw_959 : (Jvm.Cond.selects "LaneSlicesModel" ({ cls := "LaneSlicesModel", name := "plane", desc := "(II)J" } : Jvm.MethodName) ({ cls := "LaneSlicesModel", name := "plane", desc := "(II)J" } : Jvm.MethodName)) ∈ mtb := mtb_in 1020 (by decide +kernel) rfl
theorem mw_960 : (Jvm.Cond.code ({ cls := "LaneSlicesModel", name := "plane", desc := "(II)J" } : Jvm.MethodName) prog_14_method_11_code (6 : Nat) (Option.some Jvm.ClassFile.FieldType.long)) ∈ mtb := mtb_in 1021 (by decide +kernel) rfl
theorem mw_961 : (Jvm.Cond.methodLink "LaneSlicesModel" (84 : Nat) ({ cls := "LaneSlicesModel", name := "isBit", desc := "(I)Z" } : Jvm.MethodName)) ∈ mtb := mtb_in 1022 (by decide +kernel) rfl
theorem mw_962 : (Jvm.Cond.static ({ cls := "LaneSlicesModel", name := "isBit", desc := "(I)Z" } : Jvm.MethodName)) ∈ mtb := mtb_in 1023 (by decide +kernel) rfl
theorem mw_963 : (Jvm.Cond.code ({ cls := "LaneSlicesModel", name := "isBit", desc := "(I)Z" } : Jvm.MethodName) prog_14_method_6_code (1 : Nat) (Option.some Jvm.ClassFile.FieldType.boolean)) ∈ mtb := mtb_in 1024 (by decide +kernel) rfl
theorem mw_964 : (Jvm.Cond.methodLink "LaneSlicesLaw" (34 : Nat) ({ cls := "LaneSlicesModel", name := "lay", desc := "(IIJ)I" } : Jvm.MethodName)) ∈ mtb := mtb_in 1025 (by decide +kernel) rfl
theorem mw_965 : (Jvm.Cond.instanceMethod ({ cls := "LaneSlicesModel", name := "lay", desc := "(IIJ)I" } : Jvm.MethodName)) ∈ mtb := mtb_in 1026 (by decide +kernel) rfl
theorem mw_966 : (Jvm.Cond.selects "LaneSlicesModel" ({ cls := "LaneSlicesModel", name := "lay", desc := "(IIJ)I" } : Jvm.MethodName) ({ cls := "LaneSlicesModel", name := "lay", desc := "(IIJ)I" } : Jvm.MethodName)) ∈ mtb := mtb_in 1027 (by decide +kernel) rfl
theorem mw_967 : (Jvm.Cond.code ({ cls := "LaneSlicesModel", name := "lay", desc := "(IIJ)I" } : Jvm.MethodName) prog_14_method_12_code (8 : Nat) (Option.some Jvm.ClassFile.FieldType.int)) ∈ mtb := mtb_in 1028 (by decide +kernel) rfl
theorem mw_968 : (Jvm.Cond.methodLink "LaneSlicesModel" (87 : Nat) ({ cls := "LaneSlicesModel", name := "active", desc := "()J" } : Jvm.MethodName)) ∈ mtb := mtb_in 1029 (by decide +kernel) rfl
theorem mw_969 : (Jvm.Cond.instanceMethod ({ cls := "LaneSlicesModel", name := "active", desc := "()J" } : Jvm.MethodName)) ∈ mtb := mtb_in 1030 (by decide +kernel) rfl
theorem mw_970 : (Jvm.Cond.selects "LaneSlicesModel" ({ cls := "LaneSlicesModel", name := "active", desc := "()J" } : Jvm.MethodName) ({ cls := "LaneSlicesModel", name := "active", desc := "()J" } : Jvm.MethodName)) ∈ mtb := mtb_in 1031 (by decide +kernel) rfl
theorem mw_971 : (Jvm.Cond.code ({ cls := "LaneSlicesModel", name := "active", desc := "()J" } : Jvm.MethodName) prog_14_method_22_code (4 : Nat) (Option.some Jvm.ClassFile.FieldType.long)) ∈ mtb := mtb_in 1032 (by decide +kernel) rfl
theorem mw_972 : (Jvm.Cond.constantLong "LaneSlicesModel" (127 : Nat) (-1 : Int64)) ∈ mtb := mtb_in 1033 (by decide +kernel) rfl
theorem mw_973 : (Jvm.Cond.methodLink "LaneSlicesModel" (63 : Nat) ({ cls := "LaneSlicesModel", name := "has", desc := "(JI)Z" } : Jvm.MethodName)) ∈ mtb := mtb_in 1034 (by decide +kernel) rfl
theorem mw_974 : (Jvm.Cond.static ({ cls := "LaneSlicesModel", name := "has", desc := "(JI)Z" } : Jvm.MethodName)) ∈ mtb := mtb_in 1035 (by decide +kernel) rfl
theorem mw_975 : (Jvm.Cond.code ({ cls := "LaneSlicesModel", name := "has", desc := "(JI)Z" } : Jvm.MethodName) prog_14_method_7_code (3 : Nat) (Option.some Jvm.ClassFile.FieldType.boolean)) ∈ mtb := mtb_in 1036 (by decide +kernel) rfl
theorem mw_976 : (Jvm.Cond.methodLink "LaneSlicesModel" (91 : Nat) ({ cls := "LaneSlicesModel", name := "plane", desc := "(II)J" } : Jvm.MethodName)) ∈ mtb := mtb_in 1037 (by decide +kernel) rfl
theorem mw_977 : (Jvm.Cond.methodLink "LaneSlicesModel" (95 : Nat) ({ cls := "LaneSlicesModel", name := "size", desc := "(J)I" } : Jvm.MethodName)) ∈ mtb := mtb_in 1038 (by decide +kernel) rfl
theorem mw_978 : (Jvm.Cond.static ({ cls := "LaneSlicesModel", name := "size", desc := "(J)I" } : Jvm.MethodName)) ∈ mtb := mtb_in 1039 (by decide +kernel) rfl
theorem mw_979 : (Jvm.Cond.code ({ cls := "LaneSlicesModel", name := "size", desc := "(J)I" } : Jvm.MethodName) prog_14_method_8_code (4 : Nat) (Option.some Jvm.ClassFile.FieldType.int)) ∈ mtb := mtb_in 1040 (by decide +kernel) rfl
theorem mw_980 : (Jvm.Cond.methodLink "LaneSlicesLaw" (38 : Nat) ({ cls := "LaneSlicesModel", name := "fill", desc := "(II)I" } : Jvm.MethodName)) ∈ mtb := mtb_in 1041 (by decide +kernel) rfl
theorem mw_981 : (Jvm.Cond.instanceMethod ({ cls := "LaneSlicesModel", name := "fill", desc := "(II)I" } : Jvm.MethodName)) ∈ mtb := mtb_in 1042 (by decide +kernel) rfl
theorem mw_982 : (Jvm.Cond.selects "LaneSlicesModel" ({ cls := "LaneSlicesModel", name := "fill", desc := "(II)I" } : Jvm.MethodName) ({ cls := "LaneSlicesModel", name := "fill", desc := "(II)I" } : Jvm.MethodName)) ∈ mtb := mtb_in 1043 (by decide +kernel) rfl
theorem mw_983 : (Jvm.Cond.code ({ cls := "LaneSlicesModel", name := "fill", desc := "(II)I" } : Jvm.MethodName) prog_14_method_14_code (6 : Nat) (Option.some Jvm.ClassFile.FieldType.int)) ∈ mtb := mtb_in 1044 (by decide +kernel) rfl
theorem mw_984 : (Jvm.Cond.methodLink "LaneSlicesModel" (102 : Nat) ({ cls := "LaneSlicesModel", name := "takes", desc := "(I)I" } : Jvm.MethodName)) ∈ mtb := mtb_in 1045 (by decide +kernel) rfl
theorem mw_986 : (Jvm.Cond.instanceMethod ({ cls := "LaneSlicesModel", name := "takes", desc := "(I)I" } : Jvm.MethodName)) ∈ mtb := mtb_in 1047 (by decide +kernel) rfl
theorem mw_987 : (Jvm.Cond.code ({ cls := "LaneSlicesModel", name := "takes", desc := "(I)I" } : Jvm.MethodName) prog_14_method_13_code (2 : Nat) (Option.some Jvm.ClassFile.FieldType.int)) ∈ mtb := mtb_in 1048 (by decide +kernel) rfl
theorem mw_988 : (Jvm.Cond.methodLink "LaneSlicesLaw" (43 : Nat) ({ cls := "LaneSlicesModel", name := "does", desc := "(IIII)I" } : Jvm.MethodName)) ∈ mtb := mtb_in 1049 (by decide +kernel) rfl
theorem mw_989 : (Jvm.Cond.instanceMethod ({ cls := "LaneSlicesModel", name := "does", desc := "(IIII)I" } : Jvm.MethodName)) ∈ mtb := mtb_in 1050 (by decide +kernel) rfl
theorem mw_990 : (Jvm.Cond.selects "LaneSlicesModel" ({ cls := "LaneSlicesModel", name := "does", desc := "(IIII)I" } : Jvm.MethodName) ({ cls := "LaneSlicesModel", name := "does", desc := "(IIII)I" } : Jvm.MethodName)) ∈ mtb := mtb_in 1051 (by decide +kernel) rfl
theorem mw_991 : (Jvm.Cond.code ({ cls := "LaneSlicesModel", name := "does", desc := "(IIII)I" } : Jvm.MethodName) prog_14_method_17_code (11 : Nat) (Option.some Jvm.ClassFile.FieldType.int)) ∈ mtb := mtb_in 1052 (by decide +kernel) rfl
theorem mw_992 : (Jvm.Cond.constantLong "LaneSlicesModel" (105 : Nat) (7 : Int64)) ∈ mtb := mtb_in 1053 (by decide +kernel) rfl
theorem mw_993 : (Jvm.Cond.methodLink "LaneSlicesModel" (107 : Nat) ({ cls := "LaneSlicesModel", name := "worked", desc := "(III)I" } : Jvm.MethodName)) ∈ mtb := mtb_in 1054 (by decide +kernel) rfl
theorem mw_994 : (Jvm.Cond.static ({ cls := "LaneSlicesModel", name := "worked", desc := "(III)I" } : Jvm.MethodName)) ∈ mtb := mtb_in 1055 (by decide +kernel) rfl
theorem mw_995 : (Jvm.Cond.code ({ cls := "LaneSlicesModel", name := "worked", desc := "(III)I" } : Jvm.MethodName) prog_14_method_15_code (3 : Nat) (Option.some Jvm.ClassFile.FieldType.int)) ∈ mtb := mtb_in 1056 (by decide +kernel) rfl
theorem mw_996 : (Jvm.Cond.methodLink "LaneSlicesModel" (111 : Nat) ({ cls := "LaneSlicesModel", name := "stepsOf", desc := "(I)I" } : Jvm.MethodName)) ∈ mtb := mtb_in 1057 (by decide +kernel) rfl
theorem mw_997 : (Jvm.Cond.static ({ cls := "LaneSlicesModel", name := "stepsOf", desc := "(I)I" } : Jvm.MethodName)) ∈ mtb := mtb_in 1058 (by decide +kernel) rfl
theorem mw_998 : (Jvm.Cond.code ({ cls := "LaneSlicesModel", name := "stepsOf", desc := "(I)I" } : Jvm.MethodName) prog_14_method_16_code (1 : Nat) (Option.some Jvm.ClassFile.FieldType.int)) ∈ mtb := mtb_in 1059 (by decide +kernel) rfl
theorem mw_999 : (Jvm.Cond.methodLink "LaneSlicesLaw" (47 : Nat) ({ cls := "LaneSlicesModel", name := "route", desc := "(III)I" } : Jvm.MethodName)) ∈ mtb := mtb_in 1060 (by decide +kernel) rfl
theorem mw_1000 : (Jvm.Cond.instanceMethod ({ cls := "LaneSlicesModel", name := "route", desc := "(III)I" } : Jvm.MethodName)) ∈ mtb := mtb_in 1061 (by decide +kernel) rfl
theorem mw_1001 : (Jvm.Cond.selects "LaneSlicesModel" ({ cls := "LaneSlicesModel", name := "route", desc := "(III)I" } : Jvm.MethodName) ({ cls := "LaneSlicesModel", name := "route", desc := "(III)I" } : Jvm.MethodName)) ∈ mtb := mtb_in 1062 (by decide +kernel) rfl
theorem mw_1002 : (Jvm.Cond.code ({ cls := "LaneSlicesModel", name := "route", desc := "(III)I" } : Jvm.MethodName) prog_14_method_20_code (4 : Nat) (Option.some Jvm.ClassFile.FieldType.int)) ∈ mtb := mtb_in 1063 (by decide +kernel) rfl
theorem mw_1003 : (Jvm.Cond.constantLong "LaneSlicesModel" (121 : Nat) (3 : Int64)) ∈ mtb := mtb_in 1064 (by decide +kernel) rfl
theorem mw_1004 : (Jvm.Cond.methodLink "LaneSlicesModel" (123 : Nat) ({ cls := "LaneSlicesModel", name := "routes", desc := "(IIIJ)V" } : Jvm.MethodName)) ∈ mtb := mtb_in 1065 (by decide +kernel) rfl
theorem mw_1006 : (Jvm.Cond.instanceMethod ({ cls := "LaneSlicesModel", name := "routes", desc := "(IIIJ)V" } : Jvm.MethodName)) ∈ mtb := mtb_in 1067 (by decide +kernel) rfl
theorem mw_1007 : (Jvm.Cond.code ({ cls := "LaneSlicesModel", name := "routes", desc := "(IIIJ)V" } : Jvm.MethodName) prog_14_method_19_code (8 : Nat) (Option.none : Option Jvm.ClassFile.FieldType)) ∈ mtb := mtb_in 1068 (by decide +kernel) rfl
theorem mw_1008 : (Jvm.Cond.methodLink "LaneSlicesModel" (117 : Nat) ({ cls := "LaneSlicesModel", name := "beside", desc := "(II)I" } : Jvm.MethodName)) ∈ mtb := mtb_in 1069 (by decide +kernel) rfl
theorem mw_1010 : (Jvm.Cond.instanceMethod ({ cls := "LaneSlicesModel", name := "beside", desc := "(II)I" } : Jvm.MethodName)) ∈ mtb := mtb_in 1071 (by decide +kernel) rfl
theorem mw_1011 : (Jvm.Cond.code ({ cls := "LaneSlicesModel", name := "beside", desc := "(II)I" } : Jvm.MethodName) prog_14_method_18_code (5 : Nat) (Option.some Jvm.ClassFile.FieldType.int)) ∈ mtb := mtb_in 1072 (by decide +kernel) rfl
theorem mw_1012 : (Jvm.Cond.methodLink "LaneSlicesLaw" (52 : Nat) ({ cls := "LaneSlicesModel", name := "edge", desc := "(I)I" } : Jvm.MethodName)) ∈ mtb := mtb_in 1073 (by decide +kernel) rfl
theorem mw_1013 : (Jvm.Cond.instanceMethod ({ cls := "LaneSlicesModel", name := "edge", desc := "(I)I" } : Jvm.MethodName)) ∈ mtb := mtb_in 1074 (by decide +kernel) rfl
theorem mw_1014 : (Jvm.Cond.selects "LaneSlicesModel" ({ cls := "LaneSlicesModel", name := "edge", desc := "(I)I" } : Jvm.MethodName) ({ cls := "LaneSlicesModel", name := "edge", desc := "(I)I" } : Jvm.MethodName)) ∈ mtb := mtb_in 1075 (by decide +kernel) rfl
theorem mw_1015 : (Jvm.Cond.code ({ cls := "LaneSlicesModel", name := "edge", desc := "(I)I" } : Jvm.MethodName) prog_14_method_21_code (3 : Nat) (Option.some Jvm.ClassFile.FieldType.int)) ∈ mtb := mtb_in 1076 (by decide +kernel) rfl
theorem mw_1016 : (Jvm.Cond.methodLink "LaneSlicesLaw" (70 : Nat) ({ cls := "LaneSlicesModel", name := "active", desc := "()J" } : Jvm.MethodName)) ∈ mtb := mtb_in 1077 (by decide +kernel) rfl
theorem mw_1017 : (Jvm.Cond.methodLink "LaneSlicesLaw" (56 : Nat) ({ cls := "LaneSlicesModel", name := "push", desc := "(II)I" } : Jvm.MethodName)) ∈ mtb := mtb_in 1078 (by decide +kernel) rfl
theorem mw_1018 : (Jvm.Cond.instanceMethod ({ cls := "LaneSlicesModel", name := "push", desc := "(II)I" } : Jvm.MethodName)) ∈ mtb := mtb_in 1079 (by decide +kernel) rfl
theorem mw_1019 : (Jvm.Cond.selects "LaneSlicesModel" ({ cls := "LaneSlicesModel", name := "push", desc := "(II)I" } : Jvm.MethodName) ({ cls := "LaneSlicesModel", name := "push", desc := "(II)I" } : Jvm.MethodName)) ∈ mtb := mtb_in 1080 (by decide +kernel) rfl
theorem mw_1020 : (Jvm.Cond.code ({ cls := "LaneSlicesModel", name := "push", desc := "(II)I" } : Jvm.MethodName) prog_14_method_23_code (3 : Nat) (Option.some Jvm.ClassFile.FieldType.int)) ∈ mtb := mtb_in 1081 (by decide +kernel) rfl
theorem mw_1021 : (Jvm.Cond.methodLink "LaneSlicesLaw" (61 : Nat) ({ cls := "LaneSlicesModel", name := "other", desc := "()I" } : Jvm.MethodName)) ∈ mtb := mtb_in 1082 (by decide +kernel) rfl
theorem mw_1022 : (Jvm.Cond.instanceMethod ({ cls := "LaneSlicesModel", name := "other", desc := "()I" } : Jvm.MethodName)) ∈ mtb := mtb_in 1083 (by decide +kernel) rfl
theorem mw_1023 : (Jvm.Cond.selects "LaneSlicesModel" ({ cls := "LaneSlicesModel", name := "other", desc := "()I" } : Jvm.MethodName) ({ cls := "LaneSlicesModel", name := "other", desc := "()I" } : Jvm.MethodName)) ∈ mtb := mtb_in 1084 (by decide +kernel) rfl
theorem mw_1024 : (Jvm.Cond.code ({ cls := "LaneSlicesModel", name := "other", desc := "()I" } : Jvm.MethodName) prog_14_method_24_code (1 : Nat) (Option.some Jvm.ClassFile.FieldType.int)) ∈ mtb := mtb_in 1085 (by decide +kernel) rfl
theorem mw_1025 : (Jvm.Cond.methodLink "LaneSlicesLaw" (65 : Nat) ({ cls := "LaneSlicesModel", name := "pop", desc := "()I" } : Jvm.MethodName)) ∈ mtb := mtb_in 1086 (by decide +kernel) rfl
theorem mw_1026 : (Jvm.Cond.instanceMethod ({ cls := "LaneSlicesModel", name := "pop", desc := "()I" } : Jvm.MethodName)) ∈ mtb := mtb_in 1087 (by decide +kernel) rfl
theorem mw_1027 : (Jvm.Cond.selects "LaneSlicesModel" ({ cls := "LaneSlicesModel", name := "pop", desc := "()I" } : Jvm.MethodName) ({ cls := "LaneSlicesModel", name := "pop", desc := "()I" } : Jvm.MethodName)) ∈ mtb := mtb_in 1088 (by decide +kernel) rfl
theorem mw_1028 : (Jvm.Cond.code ({ cls := "LaneSlicesModel", name := "pop", desc := "()I" } : Jvm.MethodName) prog_14_method_25_code (1 : Nat) (Option.some Jvm.ClassFile.FieldType.int)) ∈ mtb := mtb_in 1089 (by decide +kernel) rfl
theorem mw_1029 : (Jvm.Cond.methodLink "LaneSlicesLaw" (74 : Nat) ({ cls := "LaneSlicesModel", name := "reduce", desc := "(II)I" } : Jvm.MethodName)) ∈ mtb := mtb_in 1090 (by decide +kernel) rfl
theorem mw_1030 : (Jvm.Cond.instanceMethod ({ cls := "LaneSlicesModel", name := "reduce", desc := "(II)I" } : Jvm.MethodName)) ∈ mtb := mtb_in 1091 (by decide +kernel) rfl
theorem mw_1031 : (Jvm.Cond.selects "LaneSlicesModel" ({ cls := "LaneSlicesModel", name := "reduce", desc := "(II)I" } : Jvm.MethodName) ({ cls := "LaneSlicesModel", name := "reduce", desc := "(II)I" } : Jvm.MethodName)) ∈ mtb := mtb_in 1092 (by decide +kernel) rfl
theorem mw_1032 : (Jvm.Cond.code ({ cls := "LaneSlicesModel", name := "reduce", desc := "(II)I" } : Jvm.MethodName) prog_14_method_26_code (14 : Nat) (Option.some Jvm.ClassFile.FieldType.int)) ∈ mtb := mtb_in 1093 (by decide +kernel) rfl
theorem mw_1033 : (Jvm.Cond.constantLong "LaneSlicesModel" (132 : Nat) (6 : Int64)) ∈ mtb := mtb_in 1094 (by decide +kernel) rfl
theorem mw_1034 : (Jvm.Cond.methodLink "LaneSlicesLaw" (78 : Nat) ({ cls := "LaneSlicesModel", name := "part", desc := "(III)I" } : Jvm.MethodName)) ∈ mtb := mtb_in 1095 (by decide +kernel) rfl
theorem mw_1035 : (Jvm.Cond.instanceMethod ({ cls := "LaneSlicesModel", name := "part", desc := "(III)I" } : Jvm.MethodName)) ∈ mtb := mtb_in 1096 (by decide +kernel) rfl
theorem mw_1036 : (Jvm.Cond.selects "LaneSlicesModel" ({ cls := "LaneSlicesModel", name := "part", desc := "(III)I" } : Jvm.MethodName) ({ cls := "LaneSlicesModel", name := "part", desc := "(III)I" } : Jvm.MethodName)) ∈ mtb := mtb_in 1097 (by decide +kernel) rfl
theorem mw_1037 : (Jvm.Cond.code ({ cls := "LaneSlicesModel", name := "part", desc := "(III)I" } : Jvm.MethodName) prog_14_method_27_code (8 : Nat) (Option.some Jvm.ClassFile.FieldType.int)) ∈ mtb := mtb_in 1098 (by decide +kernel) rfl
theorem mw_1038 : (Jvm.Cond.methodLink "LaneSlicesLaw" (82 : Nat) ({ cls := "LaneSlicesModel", name := "rank", desc := "(II)I" } : Jvm.MethodName)) ∈ mtb := mtb_in 1099 (by decide +kernel) rfl
theorem mw_1039 : (Jvm.Cond.instanceMethod ({ cls := "LaneSlicesModel", name := "rank", desc := "(II)I" } : Jvm.MethodName)) ∈ mtb := mtb_in 1100 (by decide +kernel) rfl
theorem mw_1040 : (Jvm.Cond.selects "LaneSlicesModel" ({ cls := "LaneSlicesModel", name := "rank", desc := "(II)I" } : Jvm.MethodName) ({ cls := "LaneSlicesModel", name := "rank", desc := "(II)I" } : Jvm.MethodName)) ∈ mtb := mtb_in 1101 (by decide +kernel) rfl
theorem mw_1041 : (Jvm.Cond.code ({ cls := "LaneSlicesModel", name := "rank", desc := "(II)I" } : Jvm.MethodName) prog_14_method_28_code (7 : Nat) (Option.some Jvm.ClassFile.FieldType.int)) ∈ mtb := mtb_in 1102 (by decide +kernel) rfl
theorem mw_1042 : (Jvm.Cond.methodLink "LaneSlicesLaw" (87 : Nat) ({ cls := "LaneSlicesModel", name := "alike", desc := "(I)J" } : Jvm.MethodName)) ∈ mtb := mtb_in 1103 (by decide +kernel) rfl
theorem mw_1043 : (Jvm.Cond.instanceMethod ({ cls := "LaneSlicesModel", name := "alike", desc := "(I)J" } : Jvm.MethodName)) ∈ mtb := mtb_in 1104 (by decide +kernel) rfl
theorem mw_1044 : (Jvm.Cond.selects "LaneSlicesModel" ({ cls := "LaneSlicesModel", name := "alike", desc := "(I)J" } : Jvm.MethodName) ({ cls := "LaneSlicesModel", name := "alike", desc := "(I)J" } : Jvm.MethodName)) ∈ mtb := mtb_in 1105 (by decide +kernel) rfl
theorem mw_1045 : (Jvm.Cond.code ({ cls := "LaneSlicesModel", name := "alike", desc := "(I)J" } : Jvm.MethodName) prog_14_method_29_code (7 : Nat) (Option.some Jvm.ClassFile.FieldType.long)) ∈ mtb := mtb_in 1106 (by decide +kernel) rfl
theorem mw_1046 : (Jvm.Cond.methodLink "LaneSlicesLaw" (91 : Nat) ({ cls := "LaneSlicesModel", name := "region", desc := "(II)J" } : Jvm.MethodName)) ∈ mtb := mtb_in 1107 (by decide +kernel) rfl
theorem mw_1047 : (Jvm.Cond.instanceMethod ({ cls := "LaneSlicesModel", name := "region", desc := "(II)J" } : Jvm.MethodName)) ∈ mtb := mtb_in 1108 (by decide +kernel) rfl
theorem mw_1048 : (Jvm.Cond.selects "LaneSlicesModel" ({ cls := "LaneSlicesModel", name := "region", desc := "(II)J" } : Jvm.MethodName) ({ cls := "LaneSlicesModel", name := "region", desc := "(II)J" } : Jvm.MethodName)) ∈ mtb := mtb_in 1109 (by decide +kernel) rfl
theorem mw_1049 : (Jvm.Cond.code ({ cls := "LaneSlicesModel", name := "region", desc := "(II)J" } : Jvm.MethodName) prog_14_method_31_code (3 : Nat) (Option.some Jvm.ClassFile.FieldType.long)) ∈ mtb := mtb_in 1110 (by decide +kernel) rfl
theorem mw_1050 : (Jvm.Cond.methodLink "LaneSlicesModel" (134 : Nat) ({ cls := "LaneSlicesModel", name := "regionOf", desc := "(II)J" } : Jvm.MethodName)) ∈ mtb := mtb_in 1111 (by decide +kernel) rfl
theorem mw_1052 : (Jvm.Cond.instanceMethod ({ cls := "LaneSlicesModel", name := "regionOf", desc := "(II)J" } : Jvm.MethodName)) ∈ mtb := mtb_in 1113 (by decide +kernel) rfl
theorem mw_1053 : (Jvm.Cond.code ({ cls := "LaneSlicesModel", name := "regionOf", desc := "(II)J" } : Jvm.MethodName) prog_14_method_30_code (9 : Nat) (Option.some Jvm.ClassFile.FieldType.long)) ∈ mtb := mtb_in 1114 (by decide +kernel) rfl
theorem mw_1054 : (Jvm.Cond.methodLink "LaneSlicesLaw" (95 : Nat) ({ cls := "LaneSlicesModel", name := "regions", desc := "(I)I" } : Jvm.MethodName)) ∈ mtb := mtb_in 1115 (by decide +kernel) rfl
theorem mw_1055 : (Jvm.Cond.instanceMethod ({ cls := "LaneSlicesModel", name := "regions", desc := "(I)I" } : Jvm.MethodName)) ∈ mtb := mtb_in 1116 (by decide +kernel) rfl
theorem mw_1056 : (Jvm.Cond.selects "LaneSlicesModel" ({ cls := "LaneSlicesModel", name := "regions", desc := "(I)I" } : Jvm.MethodName) ({ cls := "LaneSlicesModel", name := "regions", desc := "(I)I" } : Jvm.MethodName)) ∈ mtb := mtb_in 1117 (by decide +kernel) rfl
theorem mw_1057 : (Jvm.Cond.code ({ cls := "LaneSlicesModel", name := "regions", desc := "(I)I" } : Jvm.MethodName) prog_14_method_32_code (6 : Nat) (Option.some Jvm.ClassFile.FieldType.int)) ∈ mtb := mtb_in 1118 (by decide +kernel) rfl
theorem mw_1058 : (Jvm.Cond.methodLink "LaneSlicesLaw" (99 : Nat) ({ cls := "LaneSlicesModel", name := "way", desc := "(III)I" } : Jvm.MethodName)) ∈ mtb := mtb_in 1119 (by decide +kernel) rfl
theorem mw_1059 : (Jvm.Cond.instanceMethod ({ cls := "LaneSlicesModel", name := "way", desc := "(III)I" } : Jvm.MethodName)) ∈ mtb := mtb_in 1120 (by decide +kernel) rfl
theorem mw_1060 : (Jvm.Cond.selects "LaneSlicesModel" ({ cls := "LaneSlicesModel", name := "way", desc := "(III)I" } : Jvm.MethodName) ({ cls := "LaneSlicesModel", name := "way", desc := "(III)I" } : Jvm.MethodName)) ∈ mtb := mtb_in 1121 (by decide +kernel) rfl
theorem mw_1061 : (Jvm.Cond.code ({ cls := "LaneSlicesModel", name := "way", desc := "(III)I" } : Jvm.MethodName) prog_14_method_33_code (12 : Nat) (Option.some Jvm.ClassFile.FieldType.int)) ∈ mtb := mtb_in 1122 (by decide +kernel) rfl
theorem mw_1062 : (Jvm.Cond.methodLink "LaneSlicesLaw" (104 : Nat) ({ cls := "LaneSlicesModel", name := "feed", desc := "(JI)I" } : Jvm.MethodName)) ∈ mtb := mtb_in 1123 (by decide +kernel) rfl
theorem mw_1063 : (Jvm.Cond.instanceMethod ({ cls := "LaneSlicesModel", name := "feed", desc := "(JI)I" } : Jvm.MethodName)) ∈ mtb := mtb_in 1124 (by decide +kernel) rfl
theorem mw_1064 : (Jvm.Cond.selects "LaneSlicesModel" ({ cls := "LaneSlicesModel", name := "feed", desc := "(JI)I" } : Jvm.MethodName) ({ cls := "LaneSlicesModel", name := "feed", desc := "(JI)I" } : Jvm.MethodName)) ∈ mtb := mtb_in 1125 (by decide +kernel) rfl
theorem mw_1065 : (Jvm.Cond.code ({ cls := "LaneSlicesModel", name := "feed", desc := "(JI)I" } : Jvm.MethodName) prog_14_method_34_code (5 : Nat) (Option.some Jvm.ClassFile.FieldType.int)) ∈ mtb := mtb_in 1126 (by decide +kernel) rfl
theorem mw_1066 : (Jvm.Cond.constantLong "LaneSlicesModel" (137 : Nat) (8 : Int64)) ∈ mtb := mtb_in 1127 (by decide +kernel) rfl
theorem mw_1067 : (Jvm.Cond.methodLink "LaneSlicesLaw" (108 : Nat) ({ cls := "LaneSlicesModel", name := "wipe", desc := "()I" } : Jvm.MethodName)) ∈ mtb := mtb_in 1128 (by decide +kernel) rfl
theorem mw_1068 : (Jvm.Cond.instanceMethod ({ cls := "LaneSlicesModel", name := "wipe", desc := "()I" } : Jvm.MethodName)) ∈ mtb := mtb_in 1129 (by decide +kernel) rfl
theorem mw_1069 : (Jvm.Cond.selects "LaneSlicesModel" ({ cls := "LaneSlicesModel", name := "wipe", desc := "()I" } : Jvm.MethodName) ({ cls := "LaneSlicesModel", name := "wipe", desc := "()I" } : Jvm.MethodName)) ∈ mtb := mtb_in 1130 (by decide +kernel) rfl
theorem mw_1070 : (Jvm.Cond.code ({ cls := "LaneSlicesModel", name := "wipe", desc := "()I" } : Jvm.MethodName) prog_14_method_35_code (2 : Nat) (Option.some Jvm.ClassFile.FieldType.int)) ∈ mtb := mtb_in 1131 (by decide +kernel) rfl
theorem mw_1071 : (Jvm.Cond.methodLink "LaneSlicesLaw" (112 : Nat) ({ cls := "LaneSlicesModel", name := "text", desc := "()I" } : Jvm.MethodName)) ∈ mtb := mtb_in 1132 (by decide +kernel) rfl
theorem mw_1072 : (Jvm.Cond.instanceMethod ({ cls := "LaneSlicesModel", name := "text", desc := "()I" } : Jvm.MethodName)) ∈ mtb := mtb_in 1133 (by decide +kernel) rfl
theorem mw_1073 : (Jvm.Cond.selects "LaneSlicesModel" ({ cls := "LaneSlicesModel", name := "text", desc := "()I" } : Jvm.MethodName) ({ cls := "LaneSlicesModel", name := "text", desc := "()I" } : Jvm.MethodName)) ∈ mtb := mtb_in 1134 (by decide +kernel) rfl
theorem mw_1074 : (Jvm.Cond.code ({ cls := "LaneSlicesModel", name := "text", desc := "()I" } : Jvm.MethodName) prog_14_method_50_code (2 : Nat) (Option.some Jvm.ClassFile.FieldType.int)) ∈ mtb := mtb_in 1135 (by decide +kernel) rfl
theorem mw_1075 : (Jvm.Cond.methodLink "LaneSlicesModel" (203 : Nat) ({ cls := "LaneSlicesModel", name := "program", desc := "()I" } : Jvm.MethodName)) ∈ mtb := mtb_in 1136 (by decide +kernel) rfl
theorem mw_1077 : (Jvm.Cond.instanceMethod ({ cls := "LaneSlicesModel", name := "program", desc := "()I" } : Jvm.MethodName)) ∈ mtb := mtb_in 1138 (by decide +kernel) rfl
theorem mw_1078 : (Jvm.Cond.code ({ cls := "LaneSlicesModel", name := "program", desc := "()I" } : Jvm.MethodName) prog_14_method_49_code (4 : Nat) (Option.some Jvm.ClassFile.FieldType.int)) ∈ mtb := mtb_in 1139 (by decide +kernel) rfl
theorem mw_1079 : (Jvm.Cond.methodLink "LaneSlicesModel" (209 : Nat) ({ cls := "LaneSlicesModel", name := "statement", desc := "()I" } : Jvm.MethodName)) ∈ mtb := mtb_in 1140 (by decide +kernel) rfl
theorem mw_1081 : (Jvm.Cond.instanceMethod ({ cls := "LaneSlicesModel", name := "statement", desc := "()I" } : Jvm.MethodName)) ∈ mtb := mtb_in 1142 (by decide +kernel) rfl
theorem mw_1082 : (Jvm.Cond.code ({ cls := "LaneSlicesModel", name := "statement", desc := "()I" } : Jvm.MethodName) prog_14_method_48_code (5 : Nat) (Option.some Jvm.ClassFile.FieldType.int)) ∈ mtb := mtb_in 1143 (by decide +kernel) rfl
theorem mw_1083 : (Jvm.Cond.methodLink "LaneSlicesModel" (154 : Nat) ({ cls := "LaneSlicesModel", name := "byteAt", desc := "()I" } : Jvm.MethodName)) ∈ mtb := mtb_in 1144 (by decide +kernel) rfl
theorem mw_1085 : (Jvm.Cond.instanceMethod ({ cls := "LaneSlicesModel", name := "byteAt", desc := "()I" } : Jvm.MethodName)) ∈ mtb := mtb_in 1146 (by decide +kernel) rfl
theorem mw_1086 : (Jvm.Cond.code ({ cls := "LaneSlicesModel", name := "byteAt", desc := "()I" } : Jvm.MethodName) prog_14_method_36_code (1 : Nat) (Option.some Jvm.ClassFile.FieldType.int)) ∈ mtb := mtb_in 1147 (by decide +kernel) rfl
theorem mw_1087 : (Jvm.Cond.methodLink "LaneSlicesModel" (161 : Nat) ({ cls := "LaneSlicesModel", name := "fails", desc := "(I)I" } : Jvm.MethodName)) ∈ mtb := mtb_in 1148 (by decide +kernel) rfl
theorem mw_1089 : (Jvm.Cond.instanceMethod ({ cls := "LaneSlicesModel", name := "fails", desc := "(I)I" } : Jvm.MethodName)) ∈ mtb := mtb_in 1150 (by decide +kernel) rfl
theorem mw_1090 : (Jvm.Cond.code ({ cls := "LaneSlicesModel", name := "fails", desc := "(I)I" } : Jvm.MethodName) prog_14_method_38_code (2 : Nat) (Option.some Jvm.ClassFile.FieldType.int)) ∈ mtb := mtb_in 1151 (by decide +kernel) rfl
theorem mw_1091 : (Jvm.Cond.methodLink "LaneSlicesModel" (181 : Nat) ({ cls := "LaneSlicesModel", name := "expression", desc := "()I" } : Jvm.MethodName)) ∈ mtb := mtb_in 1152 (by decide +kernel) rfl
theorem mw_1093 : (Jvm.Cond.instanceMethod ({ cls := "LaneSlicesModel", name := "expression", desc := "()I" } : Jvm.MethodName)) ∈ mtb := mtb_in 1154 (by decide +kernel) rfl
theorem mw_1094 : (Jvm.Cond.code ({ cls := "LaneSlicesModel", name := "expression", desc := "()I" } : Jvm.MethodName) prog_14_method_47_code (4 : Nat) (Option.some Jvm.ClassFile.FieldType.int)) ∈ mtb := mtb_in 1155 (by decide +kernel) rfl
theorem mw_1095 : (Jvm.Cond.methodLink "LaneSlicesModel" (191 : Nat) ({ cls := "LaneSlicesModel", name := "sum", desc := "()I" } : Jvm.MethodName)) ∈ mtb := mtb_in 1156 (by decide +kernel) rfl
theorem mw_1097 : (Jvm.Cond.instanceMethod ({ cls := "LaneSlicesModel", name := "sum", desc := "()I" } : Jvm.MethodName)) ∈ mtb := mtb_in 1158 (by decide +kernel) rfl
theorem mw_1098 : (Jvm.Cond.code ({ cls := "LaneSlicesModel", name := "sum", desc := "()I" } : Jvm.MethodName) prog_14_method_46_code (4 : Nat) (Option.some Jvm.ClassFile.FieldType.int)) ∈ mtb := mtb_in 1159 (by decide +kernel) rfl
theorem mw_1099 : (Jvm.Cond.methodLink "LaneSlicesModel" (188 : Nat) ({ cls := "LaneSlicesModel", name := "term", desc := "()I" } : Jvm.MethodName)) ∈ mtb := mtb_in 1160 (by decide +kernel) rfl
theorem mw_1101 : (Jvm.Cond.instanceMethod ({ cls := "LaneSlicesModel", name := "term", desc := "()I" } : Jvm.MethodName)) ∈ mtb := mtb_in 1162 (by decide +kernel) rfl
theorem mw_1102 : (Jvm.Cond.code ({ cls := "LaneSlicesModel", name := "term", desc := "()I" } : Jvm.MethodName) prog_14_method_45_code (4 : Nat) (Option.some Jvm.ClassFile.FieldType.int)) ∈ mtb := mtb_in 1163 (by decide +kernel) rfl
theorem mw_1103 : (Jvm.Cond.methodLink "LaneSlicesModel" (178 : Nat) ({ cls := "LaneSlicesModel", name := "unit", desc := "()I" } : Jvm.MethodName)) ∈ mtb := mtb_in 1164 (by decide +kernel) rfl
theorem mw_1105 : (Jvm.Cond.instanceMethod ({ cls := "LaneSlicesModel", name := "unit", desc := "()I" } : Jvm.MethodName)) ∈ mtb := mtb_in 1166 (by decide +kernel) rfl
theorem mw_1106 : (Jvm.Cond.code ({ cls := "LaneSlicesModel", name := "unit", desc := "()I" } : Jvm.MethodName) prog_14_method_44_code (3 : Nat) (Option.some Jvm.ClassFile.FieldType.int)) ∈ mtb := mtb_in 1167 (by decide +kernel) rfl
theorem mw_1107 : (Jvm.Cond.methodLink "LaneSlicesModel" (164 : Nat) ({ cls := "LaneSlicesModel", name := "isDigit", desc := "()Z" } : Jvm.MethodName)) ∈ mtb := mtb_in 1168 (by decide +kernel) rfl
theorem mw_1109 : (Jvm.Cond.instanceMethod ({ cls := "LaneSlicesModel", name := "isDigit", desc := "()Z" } : Jvm.MethodName)) ∈ mtb := mtb_in 1170 (by decide +kernel) rfl
theorem mw_1110 : (Jvm.Cond.code ({ cls := "LaneSlicesModel", name := "isDigit", desc := "()Z" } : Jvm.MethodName) prog_14_method_41_code (1 : Nat) (Option.some Jvm.ClassFile.FieldType.boolean)) ∈ mtb := mtb_in 1171 (by decide +kernel) rfl
theorem mw_1111 : (Jvm.Cond.methodLink "LaneSlicesModel" (172 : Nat) ({ cls := "LaneSlicesModel", name := "number", desc := "()I" } : Jvm.MethodName)) ∈ mtb := mtb_in 1172 (by decide +kernel) rfl
theorem mw_1113 : (Jvm.Cond.instanceMethod ({ cls := "LaneSlicesModel", name := "number", desc := "()I" } : Jvm.MethodName)) ∈ mtb := mtb_in 1174 (by decide +kernel) rfl
theorem mw_1114 : (Jvm.Cond.code ({ cls := "LaneSlicesModel", name := "number", desc := "()I" } : Jvm.MethodName) prog_14_method_42_code (3 : Nat) (Option.some Jvm.ClassFile.FieldType.int)) ∈ mtb := mtb_in 1175 (by decide +kernel) rfl
theorem mw_1115 : (Jvm.Cond.methodLink "LaneSlicesModel" (168 : Nat) ({ cls := "LaneSlicesModel", name := "made", desc := "(IIII)I" } : Jvm.MethodName)) ∈ mtb := mtb_in 1176 (by decide +kernel) rfl
theorem mw_1117 : (Jvm.Cond.instanceMethod ({ cls := "LaneSlicesModel", name := "made", desc := "(IIII)I" } : Jvm.MethodName)) ∈ mtb := mtb_in 1178 (by decide +kernel) rfl
theorem mw_1118 : (Jvm.Cond.code ({ cls := "LaneSlicesModel", name := "made", desc := "(IIII)I" } : Jvm.MethodName) prog_14_method_37_code (6 : Nat) (Option.some Jvm.ClassFile.FieldType.int)) ∈ mtb := mtb_in 1179 (by decide +kernel) rfl
theorem mw_1119 : (Jvm.Cond.methodLink "LaneSlicesModel" (184 : Nat) ({ cls := "LaneSlicesModel", name := "wants", desc := "(I)V" } : Jvm.MethodName)) ∈ mtb := mtb_in 1180 (by decide +kernel) rfl
theorem mw_1121 : (Jvm.Cond.instanceMethod ({ cls := "LaneSlicesModel", name := "wants", desc := "(I)V" } : Jvm.MethodName)) ∈ mtb := mtb_in 1182 (by decide +kernel) rfl
theorem mw_1122 : (Jvm.Cond.code ({ cls := "LaneSlicesModel", name := "wants", desc := "(I)V" } : Jvm.MethodName) prog_14_method_40_code (2 : Nat) (Option.none : Option Jvm.ClassFile.FieldType)) ∈ mtb := mtb_in 1183 (by decide +kernel) rfl
theorem mw_1123 : (Jvm.Cond.methodLink "LaneSlicesModel" (158 : Nat) ({ cls := "LaneSlicesModel", name := "takesByte", desc := "(I)Z" } : Jvm.MethodName)) ∈ mtb := mtb_in 1184 (by decide +kernel) rfl
theorem mw_1125 : (Jvm.Cond.instanceMethod ({ cls := "LaneSlicesModel", name := "takesByte", desc := "(I)Z" } : Jvm.MethodName)) ∈ mtb := mtb_in 1186 (by decide +kernel) rfl
theorem mw_1126 : (Jvm.Cond.code ({ cls := "LaneSlicesModel", name := "takesByte", desc := "(I)Z" } : Jvm.MethodName) prog_14_method_39_code (2 : Nat) (Option.some Jvm.ClassFile.FieldType.boolean)) ∈ mtb := mtb_in 1187 (by decide +kernel) rfl
theorem mw_1127 : (Jvm.Cond.methodLink "LaneSlicesModel" (206 : Nat) ({ cls := "LaneSlicesModel", name := "variable", desc := "()I" } : Jvm.MethodName)) ∈ mtb := mtb_in 1188 (by decide +kernel) rfl
theorem mw_1129 : (Jvm.Cond.instanceMethod ({ cls := "LaneSlicesModel", name := "variable", desc := "()I" } : Jvm.MethodName)) ∈ mtb := mtb_in 1190 (by decide +kernel) rfl
theorem mw_1130 : (Jvm.Cond.code ({ cls := "LaneSlicesModel", name := "variable", desc := "()I" } : Jvm.MethodName) prog_14_method_43_code (2 : Nat) (Option.some Jvm.ClassFile.FieldType.int)) ∈ mtb := mtb_in 1191 (by decide +kernel) rfl
theorem mw_1131 : (Jvm.Cond.methodLink "LaneSlicesModel" (212 : Nat) ({ cls := "LaneSlicesModel", name := "move", desc := "([I[I)V" } : Jvm.MethodName)) ∈ mtb := mtb_in 1192 (by decide +kernel) rfl
theorem mw_1132 : (Jvm.Cond.static ({ cls := "LaneSlicesModel", name := "move", desc := "([I[I)V" } : Jvm.MethodName)) ∈ mtb := mtb_in 1193 (by decide +kernel) rfl
theorem mw_1133 : (Jvm.Cond.code ({ cls := "LaneSlicesModel", name := "move", desc := "([I[I)V" } : Jvm.MethodName) prog_14_method_55_code (3 : Nat) (Option.none : Option Jvm.ClassFile.FieldType)) ∈ mtb := mtb_in 1194 (by decide +kernel) rfl
theorem mw_1134 : (Jvm.Cond.methodLink "LaneSlicesLaw" (116 : Nat) ({ cls := "LaneSlicesModel", name := "run", desc := "(I)I" } : Jvm.MethodName)) ∈ mtb := mtb_in 1195 (by decide +kernel) rfl
theorem mw_1135 : (Jvm.Cond.instanceMethod ({ cls := "LaneSlicesModel", name := "run", desc := "(I)I" } : Jvm.MethodName)) ∈ mtb := mtb_in 1196 (by decide +kernel) rfl
theorem mw_1136 : (Jvm.Cond.selects "LaneSlicesModel" ({ cls := "LaneSlicesModel", name := "run", desc := "(I)I" } : Jvm.MethodName) ({ cls := "LaneSlicesModel", name := "run", desc := "(I)I" } : Jvm.MethodName)) ∈ mtb := mtb_in 1197 (by decide +kernel) rfl
theorem mw_1137 : (Jvm.Cond.code ({ cls := "LaneSlicesModel", name := "run", desc := "(I)I" } : Jvm.MethodName) prog_14_method_57_code (3 : Nat) (Option.some Jvm.ClassFile.FieldType.int)) ∈ mtb := mtb_in 1198 (by decide +kernel) rfl
theorem mw_1138 : (Jvm.Cond.constantLong "LaneSlicesModel" (236 : Nat) (30 : Int64)) ∈ mtb := mtb_in 1199 (by decide +kernel) rfl
theorem mw_1139 : (Jvm.Cond.methodLink "LaneSlicesModel" (230 : Nat) ({ cls := "LaneSlicesModel", name := "goes", desc := "(IJ)V" } : Jvm.MethodName)) ∈ mtb := mtb_in 1200 (by decide +kernel) rfl
theorem mw_1141 : (Jvm.Cond.instanceMethod ({ cls := "LaneSlicesModel", name := "goes", desc := "(IJ)V" } : Jvm.MethodName)) ∈ mtb := mtb_in 1202 (by decide +kernel) rfl
theorem mw_1142 : (Jvm.Cond.code ({ cls := "LaneSlicesModel", name := "goes", desc := "(IJ)V" } : Jvm.MethodName) prog_14_method_54_code (9 : Nat) (Option.none : Option Jvm.ClassFile.FieldType)) ∈ mtb := mtb_in 1203 (by decide +kernel) rfl
theorem mw_1143 : (Jvm.Cond.methodLink "LaneSlicesModel" (219 : Nat) ({ cls := "LaneSlicesModel", name := "works", desc := "(II)V" } : Jvm.MethodName)) ∈ mtb := mtb_in 1204 (by decide +kernel) rfl
theorem mw_1145 : (Jvm.Cond.instanceMethod ({ cls := "LaneSlicesModel", name := "works", desc := "(II)V" } : Jvm.MethodName)) ∈ mtb := mtb_in 1206 (by decide +kernel) rfl
theorem mw_1146 : (Jvm.Cond.code ({ cls := "LaneSlicesModel", name := "works", desc := "(II)V" } : Jvm.MethodName) prog_14_method_51_code (8 : Nat) (Option.none : Option Jvm.ClassFile.FieldType)) ∈ mtb := mtb_in 1207 (by decide +kernel) rfl
theorem mw_1147 : (Jvm.Cond.methodLink "LaneSlicesModel" (226 : Nat) ({ cls := "LaneSlicesModel", name := "asked", desc := "(IJ)J" } : Jvm.MethodName)) ∈ mtb := mtb_in 1208 (by decide +kernel) rfl
theorem mw_1149 : (Jvm.Cond.instanceMethod ({ cls := "LaneSlicesModel", name := "asked", desc := "(IJ)J" } : Jvm.MethodName)) ∈ mtb := mtb_in 1210 (by decide +kernel) rfl
theorem mw_1150 : (Jvm.Cond.code ({ cls := "LaneSlicesModel", name := "asked", desc := "(IJ)J" } : Jvm.MethodName) prog_14_method_52_code (7 : Nat) (Option.some Jvm.ClassFile.FieldType.long)) ∈ mtb := mtb_in 1211 (by decide +kernel) rfl
theorem mw_1151 : (Jvm.Cond.methodLink "LaneSlicesModel" (234 : Nat) ({ cls := "LaneSlicesModel", name := "loops", desc := "(IJ)V" } : Jvm.MethodName)) ∈ mtb := mtb_in 1212 (by decide +kernel) rfl
theorem mw_1153 : (Jvm.Cond.instanceMethod ({ cls := "LaneSlicesModel", name := "loops", desc := "(IJ)V" } : Jvm.MethodName)) ∈ mtb := mtb_in 1214 (by decide +kernel) rfl
theorem mw_1154 : (Jvm.Cond.code ({ cls := "LaneSlicesModel", name := "loops", desc := "(IJ)V" } : Jvm.MethodName) prog_14_method_53_code (7 : Nat) (Option.none : Option Jvm.ClassFile.FieldType)) ∈ mtb := mtb_in 1215 (by decide +kernel) rfl
theorem mw_1155 : (Jvm.Cond.methodLink "LaneSlicesLaw" (120 : Nat) ({ cls := "LaneSlicesModel", name := "then", desc := "(III)I" } : Jvm.MethodName)) ∈ mtb := mtb_in 1216 (by decide +kernel) rfl
theorem mw_1156 : (Jvm.Cond.instanceMethod ({ cls := "LaneSlicesModel", name := "then", desc := "(III)I" } : Jvm.MethodName)) ∈ mtb := mtb_in 1217 (by decide +kernel) rfl
theorem mw_1157 : (Jvm.Cond.selects "LaneSlicesModel" ({ cls := "LaneSlicesModel", name := "then", desc := "(III)I" } : Jvm.MethodName) ({ cls := "LaneSlicesModel", name := "then", desc := "(III)I" } : Jvm.MethodName)) ∈ mtb := mtb_in 1218 (by decide +kernel) rfl
theorem mw_1158 : (Jvm.Cond.code ({ cls := "LaneSlicesModel", name := "then", desc := "(III)I" } : Jvm.MethodName) prog_14_method_60_code (5 : Nat) (Option.some Jvm.ClassFile.FieldType.int)) ∈ mtb := mtb_in 1219 (by decide +kernel) rfl
theorem mw_1159 : (Jvm.Cond.methodLink "LaneSlicesModel" (238 : Nat) ({ cls := "LaneSlicesModel", name := "thinks", desc := "(I)V" } : Jvm.MethodName)) ∈ mtb := mtb_in 1220 (by decide +kernel) rfl
theorem mw_1161 : (Jvm.Cond.instanceMethod ({ cls := "LaneSlicesModel", name := "thinks", desc := "(I)V" } : Jvm.MethodName)) ∈ mtb := mtb_in 1222 (by decide +kernel) rfl
theorem mw_1162 : (Jvm.Cond.code ({ cls := "LaneSlicesModel", name := "thinks", desc := "(I)V" } : Jvm.MethodName) prog_14_method_58_code (3 : Nat) (Option.none : Option Jvm.ClassFile.FieldType)) ∈ mtb := mtb_in 1223 (by decide +kernel) rfl
theorem mw_1163 : (Jvm.Cond.methodLink "LaneSlicesModel" (241 : Nat) ({ cls := "LaneSlicesModel", name := "returns", desc := "()V" } : Jvm.MethodName)) ∈ mtb := mtb_in 1224 (by decide +kernel) rfl
theorem mw_1165 : (Jvm.Cond.instanceMethod ({ cls := "LaneSlicesModel", name := "returns", desc := "()V" } : Jvm.MethodName)) ∈ mtb := mtb_in 1226 (by decide +kernel) rfl
theorem mw_1166 : (Jvm.Cond.code ({ cls := "LaneSlicesModel", name := "returns", desc := "()V" } : Jvm.MethodName) prog_14_method_59_code (1 : Nat) (Option.none : Option Jvm.ClassFile.FieldType)) ∈ mtb := mtb_in 1227 (by decide +kernel) rfl
theorem mw_1167 : (Jvm.Cond.methodLink "LaneSlicesLaw" (124 : Nat) ({ cls := "LaneSlicesModel", name := "steps", desc := "(I)I" } : Jvm.MethodName)) ∈ mtb := mtb_in 1228 (by decide +kernel) rfl
theorem mw_1168 : (Jvm.Cond.instanceMethod ({ cls := "LaneSlicesModel", name := "steps", desc := "(I)I" } : Jvm.MethodName)) ∈ mtb := mtb_in 1229 (by decide +kernel) rfl
theorem mw_1169 : (Jvm.Cond.selects "LaneSlicesModel" ({ cls := "LaneSlicesModel", name := "steps", desc := "(I)I" } : Jvm.MethodName) ({ cls := "LaneSlicesModel", name := "steps", desc := "(I)I" } : Jvm.MethodName)) ∈ mtb := mtb_in 1230 (by decide +kernel) rfl
theorem mw_1170 : (Jvm.Cond.code ({ cls := "LaneSlicesModel", name := "steps", desc := "(I)I" } : Jvm.MethodName) prog_14_method_61_code (2 : Nat) (Option.some Jvm.ClassFile.FieldType.int)) ∈ mtb := mtb_in 1231 (by decide +kernel) rfl
theorem mw_1171 : (Jvm.Cond.methodLink "LaneSlicesLaw" (128 : Nat) ({ cls := "LaneSlicesModel", name := "changed", desc := "(I)J" } : Jvm.MethodName)) ∈ mtb := mtb_in 1232 (by decide +kernel) rfl
theorem mw_1172 : (Jvm.Cond.instanceMethod ({ cls := "LaneSlicesModel", name := "changed", desc := "(I)J" } : Jvm.MethodName)) ∈ mtb := mtb_in 1233 (by decide +kernel) rfl
theorem mw_1173 : (Jvm.Cond.selects "LaneSlicesModel" ({ cls := "LaneSlicesModel", name := "changed", desc := "(I)J" } : Jvm.MethodName) ({ cls := "LaneSlicesModel", name := "changed", desc := "(I)J" } : Jvm.MethodName)) ∈ mtb := mtb_in 1234 (by decide +kernel) rfl
theorem mw_1174 : (Jvm.Cond.code ({ cls := "LaneSlicesModel", name := "changed", desc := "(I)J" } : Jvm.MethodName) prog_14_method_62_code (5 : Nat) (Option.some Jvm.ClassFile.FieldType.long)) ∈ mtb := mtb_in 1235 (by decide +kernel) rfl
theorem mw_1175 : (Jvm.Cond.methodLink "LaneSlicesLaw" (132 : Nat) ({ cls := "LaneSlicesModel", name := "settles", desc := "()I" } : Jvm.MethodName)) ∈ mtb := mtb_in 1236 (by decide +kernel) rfl
theorem mw_1176 : (Jvm.Cond.instanceMethod ({ cls := "LaneSlicesModel", name := "settles", desc := "()I" } : Jvm.MethodName)) ∈ mtb := mtb_in 1237 (by decide +kernel) rfl
theorem mw_1177 : (Jvm.Cond.selects "LaneSlicesModel" ({ cls := "LaneSlicesModel", name := "settles", desc := "()I" } : Jvm.MethodName) ({ cls := "LaneSlicesModel", name := "settles", desc := "()I" } : Jvm.MethodName)) ∈ mtb := mtb_in 1238 (by decide +kernel) rfl
theorem mw_1178 : (Jvm.Cond.code ({ cls := "LaneSlicesModel", name := "settles", desc := "()I" } : Jvm.MethodName) prog_14_method_63_code (3 : Nat) (Option.some Jvm.ClassFile.FieldType.int)) ∈ mtb := mtb_in 1239 (by decide +kernel) rfl
theorem mw_1179 : (Jvm.Cond.methodLink "LaneSlicesModel" (244 : Nat) ({ cls := "LaneSlicesModel", name := "isSame", desc := "([I[I)Z" } : Jvm.MethodName)) ∈ mtb := mtb_in 1240 (by decide +kernel) rfl
theorem mw_1180 : (Jvm.Cond.static ({ cls := "LaneSlicesModel", name := "isSame", desc := "([I[I)Z" } : Jvm.MethodName)) ∈ mtb := mtb_in 1241 (by decide +kernel) rfl
theorem mw_1181 : (Jvm.Cond.code ({ cls := "LaneSlicesModel", name := "isSame", desc := "([I[I)Z" } : Jvm.MethodName) prog_14_method_56_code (4 : Nat) (Option.some Jvm.ClassFile.FieldType.boolean)) ∈ mtb := mtb_in 1242 (by decide +kernel) rfl
theorem mw_1182 : (Jvm.Cond.methodLink "LaneSlicesLaw" (136 : Nat) ({ cls := "LaneSlicesModel", name := "first", desc := "(III)I" } : Jvm.MethodName)) ∈ mtb := mtb_in 1243 (by decide +kernel) rfl
theorem mw_1183 : (Jvm.Cond.instanceMethod ({ cls := "LaneSlicesModel", name := "first", desc := "(III)I" } : Jvm.MethodName)) ∈ mtb := mtb_in 1244 (by decide +kernel) rfl
theorem mw_1184 : (Jvm.Cond.selects "LaneSlicesModel" ({ cls := "LaneSlicesModel", name := "first", desc := "(III)I" } : Jvm.MethodName) ({ cls := "LaneSlicesModel", name := "first", desc := "(III)I" } : Jvm.MethodName)) ∈ mtb := mtb_in 1245 (by decide +kernel) rfl
theorem mw_1185 : (Jvm.Cond.code ({ cls := "LaneSlicesModel", name := "first", desc := "(III)I" } : Jvm.MethodName) prog_14_method_64_code (6 : Nat) (Option.some Jvm.ClassFile.FieldType.int)) ∈ mtb := mtb_in 1246 (by decide +kernel) rfl
theorem mw_1186 : (Jvm.Cond.methodLink "LaneSlicesLaw" (140 : Nat) ({ cls := "LaneSlicesModel", name := "again", desc := "()I" } : Jvm.MethodName)) ∈ mtb := mtb_in 1247 (by decide +kernel) rfl
theorem mw_1187 : (Jvm.Cond.instanceMethod ({ cls := "LaneSlicesModel", name := "again", desc := "()I" } : Jvm.MethodName)) ∈ mtb := mtb_in 1248 (by decide +kernel) rfl
theorem mw_1188 : (Jvm.Cond.selects "LaneSlicesModel" ({ cls := "LaneSlicesModel", name := "again", desc := "()I" } : Jvm.MethodName) ({ cls := "LaneSlicesModel", name := "again", desc := "()I" } : Jvm.MethodName)) ∈ mtb := mtb_in 1249 (by decide +kernel) rfl
theorem mw_1189 : (Jvm.Cond.code ({ cls := "LaneSlicesModel", name := "again", desc := "()I" } : Jvm.MethodName) prog_14_method_65_code (3 : Nat) (Option.some Jvm.ClassFile.FieldType.int)) ∈ mtb := mtb_in 1250 (by decide +kernel) rfl
theorem mw_1190 : (Jvm.Cond.methodLink "LaneSlicesLaw" (144 : Nat) ({ cls := "LaneSlicesModel", name := "row", desc := "(III)I" } : Jvm.MethodName)) ∈ mtb := mtb_in 1251 (by decide +kernel) rfl
theorem mw_1191 : (Jvm.Cond.instanceMethod ({ cls := "LaneSlicesModel", name := "row", desc := "(III)I" } : Jvm.MethodName)) ∈ mtb := mtb_in 1252 (by decide +kernel) rfl
theorem mw_1192 : (Jvm.Cond.selects "LaneSlicesModel" ({ cls := "LaneSlicesModel", name := "row", desc := "(III)I" } : Jvm.MethodName) ({ cls := "LaneSlicesModel", name := "row", desc := "(III)I" } : Jvm.MethodName)) ∈ mtb := mtb_in 1253 (by decide +kernel) rfl
theorem mw_1193 : (Jvm.Cond.code ({ cls := "LaneSlicesModel", name := "row", desc := "(III)I" } : Jvm.MethodName) prog_14_method_67_code (5 : Nat) (Option.some Jvm.ClassFile.FieldType.int)) ∈ mtb := mtb_in 1254 (by decide +kernel) rfl
theorem mw_1194 : (Jvm.Cond.methodLink "LaneSlicesModel" (248 : Nat) ({ cls := "LaneSlicesModel", name := "isShelf", desc := "(I)Z" } : Jvm.MethodName)) ∈ mtb := mtb_in 1255 (by decide +kernel) rfl
theorem mw_1195 : (Jvm.Cond.static ({ cls := "LaneSlicesModel", name := "isShelf", desc := "(I)Z" } : Jvm.MethodName)) ∈ mtb := mtb_in 1256 (by decide +kernel) rfl
theorem mw_1196 : (Jvm.Cond.code ({ cls := "LaneSlicesModel", name := "isShelf", desc := "(I)Z" } : Jvm.MethodName) prog_14_method_66_code (1 : Nat) (Option.some Jvm.ClassFile.FieldType.boolean)) ∈ mtb := mtb_in 1257 (by decide +kernel) rfl
theorem mw_1197 : (Jvm.Cond.methodLink "LaneSlicesLaw" (148 : Nat) ({ cls := "LaneSlicesModel", name := "mark", desc := "(IIJ)I" } : Jvm.MethodName)) ∈ mtb := mtb_in 1258 (by decide +kernel) rfl
theorem mw_1198 : (Jvm.Cond.instanceMethod ({ cls := "LaneSlicesModel", name := "mark", desc := "(IIJ)I" } : Jvm.MethodName)) ∈ mtb := mtb_in 1259 (by decide +kernel) rfl
theorem mw_1199 : (Jvm.Cond.selects "LaneSlicesModel" ({ cls := "LaneSlicesModel", name := "mark", desc := "(IIJ)I" } : Jvm.MethodName) ({ cls := "LaneSlicesModel", name := "mark", desc := "(IIJ)I" } : Jvm.MethodName)) ∈ mtb := mtb_in 1260 (by decide +kernel) rfl
theorem mw_1200 : (Jvm.Cond.code ({ cls := "LaneSlicesModel", name := "mark", desc := "(IIJ)I" } : Jvm.MethodName) prog_14_method_69_code (5 : Nat) (Option.some Jvm.ClassFile.FieldType.int)) ∈ mtb := mtb_in 1261 (by decide +kernel) rfl
theorem mw_1201 : (Jvm.Cond.methodLink "LaneSlicesModel" (251 : Nat) ({ cls := "LaneSlicesModel", name := "marks", desc := "(IIJ)V" } : Jvm.MethodName)) ∈ mtb := mtb_in 1262 (by decide +kernel) rfl
theorem mw_1203 : (Jvm.Cond.instanceMethod ({ cls := "LaneSlicesModel", name := "marks", desc := "(IIJ)V" } : Jvm.MethodName)) ∈ mtb := mtb_in 1264 (by decide +kernel) rfl
theorem mw_1204 : (Jvm.Cond.code ({ cls := "LaneSlicesModel", name := "marks", desc := "(IIJ)V" } : Jvm.MethodName) prog_14_method_68_code (6 : Nat) (Option.none : Option Jvm.ClassFile.FieldType)) ∈ mtb := mtb_in 1265 (by decide +kernel) rfl
theorem mw_1205 : (Jvm.Cond.methodLink "LaneSlicesLaw" (152 : Nat) ({ cls := "LaneSlicesModel", name := "at", desc := "(II)J" } : Jvm.MethodName)) ∈ mtb := mtb_in 1266 (by decide +kernel) rfl
theorem mw_1206 : (Jvm.Cond.instanceMethod ({ cls := "LaneSlicesModel", name := "at", desc := "(II)J" } : Jvm.MethodName)) ∈ mtb := mtb_in 1267 (by decide +kernel) rfl
theorem mw_1207 : (Jvm.Cond.selects "LaneSlicesModel" ({ cls := "LaneSlicesModel", name := "at", desc := "(II)J" } : Jvm.MethodName) ({ cls := "LaneSlicesModel", name := "at", desc := "(II)J" } : Jvm.MethodName)) ∈ mtb := mtb_in 1268 (by decide +kernel) rfl
theorem mw_1208 : (Jvm.Cond.code ({ cls := "LaneSlicesModel", name := "at", desc := "(II)J" } : Jvm.MethodName) prog_14_method_70_code (3 : Nat) (Option.some Jvm.ClassFile.FieldType.long)) ∈ mtb := mtb_in 1269 (by decide +kernel) rfl
theorem mw_1209 : (Jvm.Cond.methodLink "LaneSlicesLaw" (156 : Nat) ({ cls := "LaneSlicesModel", name := "load", desc := "(II)I" } : Jvm.MethodName)) ∈ mtb := mtb_in 1270 (by decide +kernel) rfl
theorem mw_1210 : (Jvm.Cond.instanceMethod ({ cls := "LaneSlicesModel", name := "load", desc := "(II)I" } : Jvm.MethodName)) ∈ mtb := mtb_in 1271 (by decide +kernel) rfl
theorem mw_1211 : (Jvm.Cond.selects "LaneSlicesModel" ({ cls := "LaneSlicesModel", name := "load", desc := "(II)I" } : Jvm.MethodName) ({ cls := "LaneSlicesModel", name := "load", desc := "(II)I" } : Jvm.MethodName)) ∈ mtb := mtb_in 1272 (by decide +kernel) rfl
theorem mw_1212 : (Jvm.Cond.code ({ cls := "LaneSlicesModel", name := "load", desc := "(II)I" } : Jvm.MethodName) prog_14_method_72_code (7 : Nat) (Option.some Jvm.ClassFile.FieldType.int)) ∈ mtb := mtb_in 1273 (by decide +kernel) rfl
theorem mw_1213 : (Jvm.Cond.methodLink "LaneSlicesModel" (255 : Nat) ({ cls := "LaneSlicesModel", name := "lacks", desc := "(II)I" } : Jvm.MethodName)) ∈ mtb := mtb_in 1274 (by decide +kernel) rfl
theorem mw_1215 : (Jvm.Cond.instanceMethod ({ cls := "LaneSlicesModel", name := "lacks", desc := "(II)I" } : Jvm.MethodName)) ∈ mtb := mtb_in 1276 (by decide +kernel) rfl
theorem mw_1216 : (Jvm.Cond.code ({ cls := "LaneSlicesModel", name := "lacks", desc := "(II)I" } : Jvm.MethodName) prog_14_method_71_code (3 : Nat) (Option.some Jvm.ClassFile.FieldType.int)) ∈ mtb := mtb_in 1277 (by decide +kernel) rfl
theorem mw_1217 : (Jvm.Cond.methodLink "LaneSlicesLaw" (160 : Nat) ({ cls := "LaneSlicesModel", name := "store", desc := "(II)I" } : Jvm.MethodName)) ∈ mtb := mtb_in 1278 (by decide +kernel) rfl
theorem mw_1218 : (Jvm.Cond.instanceMethod ({ cls := "LaneSlicesModel", name := "store", desc := "(II)I" } : Jvm.MethodName)) ∈ mtb := mtb_in 1279 (by decide +kernel) rfl
theorem mw_1219 : (Jvm.Cond.selects "LaneSlicesModel" ({ cls := "LaneSlicesModel", name := "store", desc := "(II)I" } : Jvm.MethodName) ({ cls := "LaneSlicesModel", name := "store", desc := "(II)I" } : Jvm.MethodName)) ∈ mtb := mtb_in 1280 (by decide +kernel) rfl
theorem mw_1220 : (Jvm.Cond.code ({ cls := "LaneSlicesModel", name := "store", desc := "(II)I" } : Jvm.MethodName) prog_14_method_73_code (4 : Nat) (Option.some Jvm.ClassFile.FieldType.int)) ∈ mtb := mtb_in 1281 (by decide +kernel) rfl
theorem mw_1221 : (Jvm.Cond.methodLink "LaneSlicesLaw" (164 : Nat) ({ cls := "LaneSlicesModel", name := "judge", desc := "(II)I" } : Jvm.MethodName)) ∈ mtb := mtb_in 1282 (by decide +kernel) rfl
theorem mw_1222 : (Jvm.Cond.instanceMethod ({ cls := "LaneSlicesModel", name := "judge", desc := "(II)I" } : Jvm.MethodName)) ∈ mtb := mtb_in 1283 (by decide +kernel) rfl
theorem mw_1223 : (Jvm.Cond.selects "LaneSlicesModel" ({ cls := "LaneSlicesModel", name := "judge", desc := "(II)I" } : Jvm.MethodName) ({ cls := "LaneSlicesModel", name := "judge", desc := "(II)I" } : Jvm.MethodName)) ∈ mtb := mtb_in 1284 (by decide +kernel) rfl
theorem mw_1224 : (Jvm.Cond.code ({ cls := "LaneSlicesModel", name := "judge", desc := "(II)I" } : Jvm.MethodName) prog_14_method_74_code (4 : Nat) (Option.some Jvm.ClassFile.FieldType.int)) ∈ mtb := mtb_in 1285 (by decide +kernel) rfl
theorem mw_1225 : (Jvm.Cond.methodLink "LaneSlicesLaw" (168 : Nat) ({ cls := "LaneSlicesModel", name := "image", desc := "()I" } : Jvm.MethodName)) ∈ mtb := mtb_in 1286 (by decide +kernel) rfl
theorem mw_1226 : (Jvm.Cond.instanceMethod ({ cls := "LaneSlicesModel", name := "image", desc := "()I" } : Jvm.MethodName)) ∈ mtb := mtb_in 1287 (by decide +kernel) rfl
theorem mw_1227 : (Jvm.Cond.selects "LaneSlicesModel" ({ cls := "LaneSlicesModel", name := "image", desc := "()I" } : Jvm.MethodName) ({ cls := "LaneSlicesModel", name := "image", desc := "()I" } : Jvm.MethodName)) ∈ mtb := mtb_in 1288 (by decide +kernel) rfl
theorem mw_1228 : (Jvm.Cond.code ({ cls := "LaneSlicesModel", name := "image", desc := "()I" } : Jvm.MethodName) prog_14_method_75_code (2 : Nat) (Option.some Jvm.ClassFile.FieldType.int)) ∈ mtb := mtb_in 1289 (by decide +kernel) rfl
theorem mw_1229 : (Jvm.Cond.methodLink "LaneSlicesLaw" (172 : Nat) ({ cls := "LaneSlicesModel", name := "back", desc := "()I" } : Jvm.MethodName)) ∈ mtb := mtb_in 1290 (by decide +kernel) rfl
theorem mw_1230 : (Jvm.Cond.instanceMethod ({ cls := "LaneSlicesModel", name := "back", desc := "()I" } : Jvm.MethodName)) ∈ mtb := mtb_in 1291 (by decide +kernel) rfl
theorem mw_1231 : (Jvm.Cond.selects "LaneSlicesModel" ({ cls := "LaneSlicesModel", name := "back", desc := "()I" } : Jvm.MethodName) ({ cls := "LaneSlicesModel", name := "back", desc := "()I" } : Jvm.MethodName)) ∈ mtb := mtb_in 1292 (by decide +kernel) rfl
theorem mw_1232 : (Jvm.Cond.code ({ cls := "LaneSlicesModel", name := "back", desc := "()I" } : Jvm.MethodName) prog_14_method_76_code (2 : Nat) (Option.some Jvm.ClassFile.FieldType.int)) ∈ mtb := mtb_in 1293 (by decide +kernel) rfl
theorem mw_1233 : (Jvm.Cond.methodLink "LaneSlicesLaw" (176 : Nat) ({ cls := "LaneSlicesModel", name := "count", desc := "(I)I" } : Jvm.MethodName)) ∈ mtb := mtb_in 1294 (by decide +kernel) rfl
theorem mw_1234 : (Jvm.Cond.instanceMethod ({ cls := "LaneSlicesModel", name := "count", desc := "(I)I" } : Jvm.MethodName)) ∈ mtb := mtb_in 1295 (by decide +kernel) rfl
theorem mw_1235 : (Jvm.Cond.selects "LaneSlicesModel" ({ cls := "LaneSlicesModel", name := "count", desc := "(I)I" } : Jvm.MethodName) ({ cls := "LaneSlicesModel", name := "count", desc := "(I)I" } : Jvm.MethodName)) ∈ mtb := mtb_in 1296 (by decide +kernel) rfl
theorem mw_1236 : (Jvm.Cond.code ({ cls := "LaneSlicesModel", name := "count", desc := "(I)I" } : Jvm.MethodName) prog_14_method_77_code (2 : Nat) (Option.some Jvm.ClassFile.FieldType.int)) ∈ mtb := mtb_in 1297 (by decide +kernel) rfl
theorem mw_1237 : (Jvm.Cond.methodLink "LaneSlicesLaw" (180 : Nat) ({ cls := "LaneSlicesModel", name := "refused", desc := "(I)I" } : Jvm.MethodName)) ∈ mtb := mtb_in 1298 (by decide +kernel) rfl
theorem mw_1238 : (Jvm.Cond.instanceMethod ({ cls := "LaneSlicesModel", name := "refused", desc := "(I)I" } : Jvm.MethodName)) ∈ mtb := mtb_in 1299 (by decide +kernel) rfl
theorem mw_1239 : (Jvm.Cond.selects "LaneSlicesModel" ({ cls := "LaneSlicesModel", name := "refused", desc := "(I)I" } : Jvm.MethodName) ({ cls := "LaneSlicesModel", name := "refused", desc := "(I)I" } : Jvm.MethodName)) ∈ mtb := mtb_in 1300 (by decide +kernel) rfl
theorem mw_1240 : (Jvm.Cond.code ({ cls := "LaneSlicesModel", name := "refused", desc := "(I)I" } : Jvm.MethodName) prog_14_method_78_code (2 : Nat) (Option.some Jvm.ClassFile.FieldType.int)) ∈ mtb := mtb_in 1301 (by decide +kernel) rfl
theorem mw_1241 : (Jvm.Cond.constantLong "LaneSlicesModel" (277 : Nat) (4 : Int64)) ∈ mtb := mtb_in 1302 (by decide +kernel) rfl
theorem mw_1242 : (Jvm.Cond.constantLong "LaneSlicesLaw" (28 : Nat) (4294967295 : Int64)) ∈ mtb := mtb_in 1303 (by decide +kernel) rfl
