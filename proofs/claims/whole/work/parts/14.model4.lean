theorem mW874 : (Jvm.Cond.fieldLink "GlyphPageModel" (300 : Nat) "GlyphPageModel" "touches" "Z") ∈ G := inG (inT4 (List.mem_of_getElem? (i := 154) rfl)) rfl
theorem mW875 : (Jvm.Cond.fieldLink "GlyphPageModel" (47 : Nat) "GlyphPageModel" "first" "[J") ∈ G := inG (inT4 (List.mem_of_getElem? (i := 155) rfl)) rfl
theorem mW876 : (Jvm.Cond.fieldLink "GlyphPageModel" (50 : Nat) "GlyphPageModel" "second" "[J") ∈ G := inG (inT4 (List.mem_of_getElem? (i := 156) rfl)) rfl
theorem mW877 : (Jvm.Cond.fieldLink "GlyphPageModel" (303 : Nat) "GlyphPageModel" "turns" "I") ∈ G := inG (inT4 (List.mem_of_getElem? (i := 157) rfl)) rfl
theorem mW956 : (Jvm.Cond.constantLong "GlyphPageModel" (87 : Nat) (4 : Int64)) ∈ G := inG (inT4 (List.mem_of_getElem? (i := 236) rfl)) rfl
theorem mW1106 : (Jvm.Cond.methodLink "GlyphPageModel" (292 : Nat) ({ cls := "GlyphPageModel", name := "sign", desc := "(J)I" } : Jvm.MethodName)) ∈ G := inG (inT5 (List.mem_of_getElem? (i := 146) rfl)) rfl
theorem mW1107 : (Jvm.Cond.static ({ cls := "GlyphPageModel", name := "sign", desc := "(J)I" } : Jvm.MethodName)) ∈ G := inG (inT5 (List.mem_of_getElem? (i := 147) rfl)) rfl
theorem mW1108 : (Jvm.Cond.code ({ cls := "GlyphPageModel", name := "sign", desc := "(J)I" } : Jvm.MethodName) prog_10_method_37_code (2 : Nat) (Option.some Jvm.ClassFile.FieldType.int)) ∈ G := inG (inT5 (List.mem_of_getElem? (i := 148) rfl)) rfl
theorem mW1109 : (Jvm.Cond.methodLink "GlyphPageModel" (306 : Nat) ({ cls := "GlyphPageModel", name := "cross", desc := "(ZZI)V" } : Jvm.MethodName)) ∈ G := inG (inT5 (List.mem_of_getElem? (i := 149) rfl)) rfl
theorem mW1111 : (Jvm.Cond.instanceMethod ({ cls := "GlyphPageModel", name := "cross", desc := "(ZZI)V" } : Jvm.MethodName)) ∈ G := inG (inT5 (List.mem_of_getElem? (i := 151) rfl)) rfl
theorem mW1112 : (Jvm.Cond.code ({ cls := "GlyphPageModel", name := "cross", desc := "(ZZI)V" } : Jvm.MethodName) prog_10_method_42_code (4 : Nat) (Option.none : Option Jvm.ClassFile.FieldType)) ∈ G := inG (inT5 (List.mem_of_getElem? (i := 152) rfl)) rfl
theorem mW1117 : (Jvm.Cond.methodLink "GlyphPageModel" (310 : Nat) ({ cls := "GlyphPageModel", name := "zero", desc := "(JJJ)Z" } : Jvm.MethodName)) ∈ G := inG (inT5 (List.mem_of_getElem? (i := 157) rfl)) rfl
theorem mW1118 : (Jvm.Cond.static ({ cls := "GlyphPageModel", name := "zero", desc := "(JJJ)Z" } : Jvm.MethodName)) ∈ G := inG (inT5 (List.mem_of_getElem? (i := 158) rfl)) rfl
theorem mW1119 : (Jvm.Cond.code ({ cls := "GlyphPageModel", name := "zero", desc := "(JJJ)Z" } : Jvm.MethodName) prog_10_method_44_code (6 : Nat) (Option.some Jvm.ClassFile.FieldType.boolean)) ∈ G := inG (inT5 (List.mem_of_getElem? (i := 159) rfl)) rfl
theorem mW1120 : (Jvm.Cond.methodLink "GlyphPageModel" (314 : Nat) ({ cls := "GlyphPageModel", name := "through", desc := "(JJJ)Z" } : Jvm.MethodName)) ∈ G := inG (inT5 (List.mem_of_getElem? (i := 160) rfl)) rfl
theorem mW1122 : (Jvm.Cond.instanceMethod ({ cls := "GlyphPageModel", name := "through", desc := "(JJJ)Z" } : Jvm.MethodName)) ∈ G := inG (inT5 (List.mem_of_getElem? (i := 162) rfl)) rfl
theorem mW1123 : (Jvm.Cond.code ({ cls := "GlyphPageModel", name := "through", desc := "(JJJ)Z" } : Jvm.MethodName) prog_10_method_46_code (8 : Nat) (Option.some Jvm.ClassFile.FieldType.boolean)) ∈ G := inG (inT5 (List.mem_of_getElem? (i := 163) rfl)) rfl
theorem mW1124 : (Jvm.Cond.methodLink "GlyphPageModel" (282 : Nat) ({ cls := "GlyphPageModel", name := "product", desc := "([JJJJ)V" } : Jvm.MethodName)) ∈ G := inG (inT5 (List.mem_of_getElem? (i := 164) rfl)) rfl
theorem mW1125 : (Jvm.Cond.static ({ cls := "GlyphPageModel", name := "product", desc := "([JJJJ)V" } : Jvm.MethodName)) ∈ G := inG (inT5 (List.mem_of_getElem? (i := 165) rfl)) rfl
theorem mW1126 : (Jvm.Cond.code ({ cls := "GlyphPageModel", name := "product", desc := "([JJJJ)V" } : Jvm.MethodName) prog_10_method_39_code (8 : Nat) (Option.none : Option Jvm.ClassFile.FieldType)) ∈ G := inG (inT5 (List.mem_of_getElem? (i := 166) rfl)) rfl
theorem mW1127 : (Jvm.Cond.methodLink "GlyphPageModel" (286 : Nat) ({ cls := "GlyphPageModel", name := "times", desc := "([JJ)V" } : Jvm.MethodName)) ∈ G := inG (inT5 (List.mem_of_getElem? (i := 167) rfl)) rfl
theorem mW1128 : (Jvm.Cond.static ({ cls := "GlyphPageModel", name := "times", desc := "([JJ)V" } : Jvm.MethodName)) ∈ G := inG (inT5 (List.mem_of_getElem? (i := 168) rfl)) rfl
theorem mW1129 : (Jvm.Cond.code ({ cls := "GlyphPageModel", name := "times", desc := "([JJ)V" } : Jvm.MethodName) prog_10_method_40_code (20 : Nat) (Option.none : Option Jvm.ClassFile.FieldType)) ∈ G := inG (inT5 (List.mem_of_getElem? (i := 169) rfl)) rfl
theorem mW1130 : (Jvm.Cond.constantLong "GlyphPageModel" (290 : Nat) (4294967295 : Int64)) ∈ G := inG (inT5 (List.mem_of_getElem? (i := 170) rfl)) rfl
theorem mW1131 : (Jvm.Cond.methodLink "GlyphPageModel" (317 : Nat) ({ cls := "GlyphPageModel", name := "side", desc := "(JJJJJJI)I" } : Jvm.MethodName)) ∈ G := inG (inT5 (List.mem_of_getElem? (i := 171) rfl)) rfl
theorem mW1133 : (Jvm.Cond.instanceMethod ({ cls := "GlyphPageModel", name := "side", desc := "(JJJJJJI)I" } : Jvm.MethodName)) ∈ G := inG (inT5 (List.mem_of_getElem? (i := 173) rfl)) rfl
theorem mW1134 : (Jvm.Cond.code ({ cls := "GlyphPageModel", name := "side", desc := "(JJJJJJI)I" } : Jvm.MethodName) prog_10_method_47_code (26 : Nat) (Option.some Jvm.ClassFile.FieldType.int)) ∈ G := inG (inT5 (List.mem_of_getElem? (i := 174) rfl)) rfl
theorem mW1135 : (Jvm.Cond.methodLink "GlyphPageModel" (321 : Nat) ({ cls := "GlyphPageModel", name := "signOf", desc := "(JJJ)I" } : Jvm.MethodName)) ∈ G := inG (inT5 (List.mem_of_getElem? (i := 175) rfl)) rfl
theorem mW1137 : (Jvm.Cond.instanceMethod ({ cls := "GlyphPageModel", name := "signOf", desc := "(JJJ)I" } : Jvm.MethodName)) ∈ G := inG (inT5 (List.mem_of_getElem? (i := 177) rfl)) rfl
theorem mW1138 : (Jvm.Cond.code ({ cls := "GlyphPageModel", name := "signOf", desc := "(JJJ)I" } : Jvm.MethodName) prog_10_method_41_code (10 : Nat) (Option.some Jvm.ClassFile.FieldType.int)) ∈ G := inG (inT5 (List.mem_of_getElem? (i := 178) rfl)) rfl
theorem mW1139 : (Jvm.Cond.methodLink "GlyphPageModel" (296 : Nat) ({ cls := "GlyphPageModel", name := "compare", desc := "(JJJ)I" } : Jvm.MethodName)) ∈ G := inG (inT5 (List.mem_of_getElem? (i := 179) rfl)) rfl
theorem mW1141 : (Jvm.Cond.instanceMethod ({ cls := "GlyphPageModel", name := "compare", desc := "(JJJ)I" } : Jvm.MethodName)) ∈ G := inG (inT5 (List.mem_of_getElem? (i := 181) rfl)) rfl
theorem mW1142 : (Jvm.Cond.code ({ cls := "GlyphPageModel", name := "compare", desc := "(JJJ)I" } : Jvm.MethodName) prog_10_method_38_code (8 : Nat) (Option.some Jvm.ClassFile.FieldType.int)) ∈ G := inG (inT5 (List.mem_of_getElem? (i := 182) rfl)) rfl
theorem mS_Mo_compare : Cond.selects "GlyphPageModel" ⟨"GlyphPageModel", "compare", "(JJJ)I"⟩ ⟨"GlyphPageModel", "compare", "(JJJ)I"⟩ ∈ G := inGp (q := (⟨"GlyphPageModel", "compare", "(JJJ)I"⟩, 22)) (List.mem_append_right _ (List.mem_append_right _ (List.mem_append_right _ (List.mem_of_getElem? (i := 11) rfl)))) rfl
theorem mS_Mo_cross : Cond.selects "GlyphPageModel" ⟨"GlyphPageModel", "cross", "(ZZI)V"⟩ ⟨"GlyphPageModel", "cross", "(ZZI)V"⟩ ∈ G := inGp (q := (⟨"GlyphPageModel", "cross", "(ZZI)V"⟩, 22)) (List.mem_append_right _ (List.mem_append_right _ (List.mem_append_right _ (List.mem_of_getElem? (i := 6) rfl)))) rfl
theorem mS_Mo_side : Cond.selects "GlyphPageModel" ⟨"GlyphPageModel", "side", "(JJJJJJI)I"⟩ ⟨"GlyphPageModel", "side", "(JJJJJJI)I"⟩ ∈ G := inGp (q := (⟨"GlyphPageModel", "side", "(JJJJJJI)I"⟩, 22)) (List.mem_append_right _ (List.mem_append_right _ (List.mem_append_right _ (List.mem_of_getElem? (i := 9) rfl)))) rfl
theorem mS_Mo_signOf : Cond.selects "GlyphPageModel" ⟨"GlyphPageModel", "signOf", "(JJJ)I"⟩ ⟨"GlyphPageModel", "signOf", "(JJJ)I"⟩ ∈ G := inGp (q := (⟨"GlyphPageModel", "signOf", "(JJJ)I"⟩, 22)) (List.mem_append_right _ (List.mem_append_right _ (List.mem_append_right _ (List.mem_of_getElem? (i := 10) rfl)))) rfl
theorem mS_Mo_through : Cond.selects "GlyphPageModel" ⟨"GlyphPageModel", "through", "(JJJ)Z"⟩ ⟨"GlyphPageModel", "through", "(JJJ)Z"⟩ ∈ G := inGp (q := (⟨"GlyphPageModel", "through", "(JJJ)Z"⟩, 22)) (List.mem_append_right _ (List.mem_append_right _ (List.mem_append_right _ (List.mem_of_getElem? (i := 8) rfl)))) rfl
abbrev b_Mo_times : ByteArray := prog_10_method_40_code
def y_Mo_times : MethodName := ⟨"GlyphPageModel", "times", "([JJ)V"⟩
theorem d_Mo_times_0 : decode b_Mo_times 0 = .ok (.lload_n 1, 1) := by decide +kernel
theorem d_Mo_times_1 : decode b_Mo_times 1 = .ok (.ldc2_w 290, 3) := by decide +kernel
theorem d_Mo_times_4 : decode b_Mo_times 4 = .ok (.land, 1) := by decide +kernel
theorem d_Mo_times_5 : decode b_Mo_times 5 = .ok (.lstore_n 3, 1) := by decide +kernel
theorem d_Mo_times_6 : decode b_Mo_times 6 = .ok (.lload_n 1, 1) := by decide +kernel
theorem d_Mo_times_7 : decode b_Mo_times 7 = .ok (.bipush 32, 2) := by decide +kernel
theorem d_Mo_times_9 : decode b_Mo_times 9 = .ok (.lushr, 1) := by decide +kernel
theorem d_Mo_times_10 : decode b_Mo_times 10 = .ok (.lstore 5, 2) := by decide +kernel
theorem d_Mo_times_12 : decode b_Mo_times 12 = .ok (.lconst 0, 1) := by decide +kernel
theorem d_Mo_times_13 : decode b_Mo_times 13 = .ok (.lstore 7, 2) := by decide +kernel
theorem d_Mo_times_15 : decode b_Mo_times 15 = .ok (.lconst 0, 1) := by decide +kernel
theorem d_Mo_times_16 : decode b_Mo_times 16 = .ok (.lstore 9, 2) := by decide +kernel
theorem d_Mo_times_18 : decode b_Mo_times 18 = .ok (.iconst 0, 1) := by decide +kernel
theorem d_Mo_times_19 : decode b_Mo_times 19 = .ok (.istore 11, 2) := by decide +kernel
theorem d_Mo_times_21 : decode b_Mo_times 21 = .ok (.iload 11, 2) := by decide +kernel
theorem d_Mo_times_23 : decode b_Mo_times 23 = .ok (.bipush 6, 2) := by decide +kernel
theorem d_Mo_times_25 : decode b_Mo_times 25 = .ok (.if_icmp .ge 91, 3) := by decide +kernel
theorem d_Mo_times_28 : decode b_Mo_times 28 = .ok (.aload_n 0, 1) := by decide +kernel
theorem d_Mo_times_29 : decode b_Mo_times 29 = .ok (.iload 11, 2) := by decide +kernel
theorem d_Mo_times_31 : decode b_Mo_times 31 = .ok (.laload, 1) := by decide +kernel
theorem d_Mo_times_32 : decode b_Mo_times 32 = .ok (.lload_n 3, 1) := by decide +kernel
theorem d_Mo_times_33 : decode b_Mo_times 33 = .ok (.lmul, 1) := by decide +kernel
theorem d_Mo_times_34 : decode b_Mo_times 34 = .ok (.lstore 12, 2) := by decide +kernel
theorem d_Mo_times_36 : decode b_Mo_times 36 = .ok (.lload 9, 2) := by decide +kernel
theorem d_Mo_times_38 : decode b_Mo_times 38 = .ok (.lload 5, 2) := by decide +kernel
theorem d_Mo_times_40 : decode b_Mo_times 40 = .ok (.lmul, 1) := by decide +kernel
theorem d_Mo_times_41 : decode b_Mo_times 41 = .ok (.lstore 14, 2) := by decide +kernel
theorem d_Mo_times_43 : decode b_Mo_times 43 = .ok (.lload 12, 2) := by decide +kernel
theorem d_Mo_times_45 : decode b_Mo_times 45 = .ok (.ldc2_w 290, 3) := by decide +kernel
theorem d_Mo_times_48 : decode b_Mo_times 48 = .ok (.land, 1) := by decide +kernel
theorem d_Mo_times_49 : decode b_Mo_times 49 = .ok (.lload 14, 2) := by decide +kernel
theorem d_Mo_times_51 : decode b_Mo_times 51 = .ok (.ldc2_w 290, 3) := by decide +kernel
theorem d_Mo_times_54 : decode b_Mo_times 54 = .ok (.land, 1) := by decide +kernel
theorem d_Mo_times_55 : decode b_Mo_times 55 = .ok (.ladd, 1) := by decide +kernel
theorem d_Mo_times_56 : decode b_Mo_times 56 = .ok (.lload 7, 2) := by decide +kernel
theorem d_Mo_times_58 : decode b_Mo_times 58 = .ok (.ldc2_w 290, 3) := by decide +kernel
theorem d_Mo_times_61 : decode b_Mo_times 61 = .ok (.land, 1) := by decide +kernel
theorem d_Mo_times_62 : decode b_Mo_times 62 = .ok (.ladd, 1) := by decide +kernel
theorem d_Mo_times_63 : decode b_Mo_times 63 = .ok (.lstore 16, 2) := by decide +kernel
theorem d_Mo_times_65 : decode b_Mo_times 65 = .ok (.lload 12, 2) := by decide +kernel
theorem d_Mo_times_67 : decode b_Mo_times 67 = .ok (.bipush 32, 2) := by decide +kernel
theorem d_Mo_times_69 : decode b_Mo_times 69 = .ok (.lushr, 1) := by decide +kernel
theorem d_Mo_times_70 : decode b_Mo_times 70 = .ok (.lload 14, 2) := by decide +kernel
theorem d_Mo_times_72 : decode b_Mo_times 72 = .ok (.bipush 32, 2) := by decide +kernel
theorem d_Mo_times_74 : decode b_Mo_times 74 = .ok (.lushr, 1) := by decide +kernel
theorem d_Mo_times_75 : decode b_Mo_times 75 = .ok (.ladd, 1) := by decide +kernel
theorem d_Mo_times_76 : decode b_Mo_times 76 = .ok (.lload 7, 2) := by decide +kernel
theorem d_Mo_times_78 : decode b_Mo_times 78 = .ok (.bipush 32, 2) := by decide +kernel
theorem d_Mo_times_80 : decode b_Mo_times 80 = .ok (.lushr, 1) := by decide +kernel
theorem d_Mo_times_81 : decode b_Mo_times 81 = .ok (.ladd, 1) := by decide +kernel
theorem d_Mo_times_82 : decode b_Mo_times 82 = .ok (.lload 16, 2) := by decide +kernel
theorem d_Mo_times_84 : decode b_Mo_times 84 = .ok (.bipush 32, 2) := by decide +kernel
theorem d_Mo_times_86 : decode b_Mo_times 86 = .ok (.lushr, 1) := by decide +kernel
theorem d_Mo_times_87 : decode b_Mo_times 87 = .ok (.ladd, 1) := by decide +kernel
theorem d_Mo_times_88 : decode b_Mo_times 88 = .ok (.lstore 18, 2) := by decide +kernel
theorem d_Mo_times_90 : decode b_Mo_times 90 = .ok (.aload_n 0, 1) := by decide +kernel
theorem d_Mo_times_91 : decode b_Mo_times 91 = .ok (.iload 11, 2) := by decide +kernel
theorem d_Mo_times_93 : decode b_Mo_times 93 = .ok (.laload, 1) := by decide +kernel
theorem d_Mo_times_94 : decode b_Mo_times 94 = .ok (.lstore 9, 2) := by decide +kernel
theorem d_Mo_times_96 : decode b_Mo_times 96 = .ok (.aload_n 0, 1) := by decide +kernel
theorem d_Mo_times_97 : decode b_Mo_times 97 = .ok (.iload 11, 2) := by decide +kernel
theorem d_Mo_times_99 : decode b_Mo_times 99 = .ok (.lload 16, 2) := by decide +kernel
theorem d_Mo_times_101 : decode b_Mo_times 101 = .ok (.ldc2_w 290, 3) := by decide +kernel
theorem d_Mo_times_104 : decode b_Mo_times 104 = .ok (.land, 1) := by decide +kernel
theorem d_Mo_times_105 : decode b_Mo_times 105 = .ok (.lastore, 1) := by decide +kernel
theorem d_Mo_times_106 : decode b_Mo_times 106 = .ok (.lload 18, 2) := by decide +kernel
theorem d_Mo_times_108 : decode b_Mo_times 108 = .ok (.lstore 7, 2) := by decide +kernel
theorem d_Mo_times_110 : decode b_Mo_times 110 = .ok (.iinc 11 1, 3) := by decide +kernel
theorem d_Mo_times_113 : decode b_Mo_times 113 = .ok (.goto (-92), 3) := by decide +kernel
theorem d_Mo_times_116 : decode b_Mo_times 116 = .ok (.return_, 1) := by decide +kernel
abbrev b_Mo_product : ByteArray := prog_10_method_39_code
def y_Mo_product : MethodName := ⟨"GlyphPageModel", "product", "([JJJJ)V"⟩
theorem d_Mo_product_0 : decode b_Mo_product 0 = .ok (.iconst 0, 1) := by decide +kernel
theorem d_Mo_product_1 : decode b_Mo_product 1 = .ok (.istore 7, 2) := by decide +kernel
theorem d_Mo_product_3 : decode b_Mo_product 3 = .ok (.iload 7, 2) := by decide +kernel
theorem d_Mo_product_5 : decode b_Mo_product 5 = .ok (.bipush 6, 2) := by decide +kernel
theorem d_Mo_product_7 : decode b_Mo_product 7 = .ok (.if_icmp .ge 23, 3) := by decide +kernel
theorem d_Mo_product_10 : decode b_Mo_product 10 = .ok (.aload_n 0, 1) := by decide +kernel
theorem d_Mo_product_11 : decode b_Mo_product 11 = .ok (.iload 7, 2) := by decide +kernel
theorem d_Mo_product_13 : decode b_Mo_product 13 = .ok (.iload 7, 2) := by decide +kernel
theorem d_Mo_product_15 : decode b_Mo_product 15 = .ok (.ifCond .ne 7, 3) := by decide +kernel
theorem d_Mo_product_18 : decode b_Mo_product 18 = .ok (.lconst 1, 1) := by decide +kernel
theorem d_Mo_product_19 : decode b_Mo_product 19 = .ok (.goto 4, 3) := by decide +kernel
theorem d_Mo_product_22 : decode b_Mo_product 22 = .ok (.lconst 0, 1) := by decide +kernel
theorem d_Mo_product_23 : decode b_Mo_product 23 = .ok (.lastore, 1) := by decide +kernel
theorem d_Mo_product_24 : decode b_Mo_product 24 = .ok (.iinc 7 1, 3) := by decide +kernel
theorem d_Mo_product_27 : decode b_Mo_product 27 = .ok (.goto (-24), 3) := by decide +kernel
theorem d_Mo_product_30 : decode b_Mo_product 30 = .ok (.aload_n 0, 1) := by decide +kernel
theorem d_Mo_product_31 : decode b_Mo_product 31 = .ok (.lload_n 1, 1) := by decide +kernel
theorem d_Mo_product_32 : decode b_Mo_product 32 = .ok (.invokestatic 286, 3) := by decide +kernel
theorem d_Mo_product_35 : decode b_Mo_product 35 = .ok (.aload_n 0, 1) := by decide +kernel
theorem d_Mo_product_36 : decode b_Mo_product 36 = .ok (.lload_n 3, 1) := by decide +kernel
theorem d_Mo_product_37 : decode b_Mo_product 37 = .ok (.invokestatic 286, 3) := by decide +kernel
theorem d_Mo_product_40 : decode b_Mo_product 40 = .ok (.aload_n 0, 1) := by decide +kernel
theorem d_Mo_product_41 : decode b_Mo_product 41 = .ok (.lload 5, 2) := by decide +kernel
theorem d_Mo_product_43 : decode b_Mo_product 43 = .ok (.invokestatic 286, 3) := by decide +kernel
theorem d_Mo_product_46 : decode b_Mo_product 46 = .ok (.return_, 1) := by decide +kernel
abbrev b_Mo_compare : ByteArray := prog_10_method_38_code
def y_Mo_compare : MethodName := ⟨"GlyphPageModel", "compare", "(JJJ)I"⟩
theorem d_Mo_compare_0 : decode b_Mo_compare 0 = .ok (.aload_n 0, 1) := by decide +kernel
theorem d_Mo_compare_1 : decode b_Mo_compare 1 = .ok (.getfield 47, 3) := by decide +kernel
theorem d_Mo_compare_4 : decode b_Mo_compare 4 = .ok (.lload_n 1, 1) := by decide +kernel
theorem d_Mo_compare_5 : decode b_Mo_compare 5 = .ok (.lload_n 1, 1) := by decide +kernel
theorem d_Mo_compare_6 : decode b_Mo_compare 6 = .ok (.lconst 1, 1) := by decide +kernel
theorem d_Mo_compare_7 : decode b_Mo_compare 7 = .ok (.invokestatic 282, 3) := by decide +kernel
theorem d_Mo_compare_10 : decode b_Mo_compare 10 = .ok (.aload_n 0, 1) := by decide +kernel
theorem d_Mo_compare_11 : decode b_Mo_compare 11 = .ok (.getfield 50, 3) := by decide +kernel
theorem d_Mo_compare_14 : decode b_Mo_compare 14 = .ok (.lload_n 3, 1) := by decide +kernel
theorem d_Mo_compare_15 : decode b_Mo_compare 15 = .ok (.lload_n 3, 1) := by decide +kernel
theorem d_Mo_compare_16 : decode b_Mo_compare 16 = .ok (.lload 5, 2) := by decide +kernel
theorem d_Mo_compare_18 : decode b_Mo_compare 18 = .ok (.invokestatic 282, 3) := by decide +kernel
theorem d_Mo_compare_21 : decode b_Mo_compare 21 = .ok (.iconst 5, 1) := by decide +kernel
theorem d_Mo_compare_22 : decode b_Mo_compare 22 = .ok (.istore 7, 2) := by decide +kernel
theorem d_Mo_compare_24 : decode b_Mo_compare 24 = .ok (.iload 7, 2) := by decide +kernel
theorem d_Mo_compare_26 : decode b_Mo_compare 26 = .ok (.ifCond .lt 51, 3) := by decide +kernel
theorem d_Mo_compare_29 : decode b_Mo_compare 29 = .ok (.aload_n 0, 1) := by decide +kernel
theorem d_Mo_compare_30 : decode b_Mo_compare 30 = .ok (.getfield 47, 3) := by decide +kernel
theorem d_Mo_compare_33 : decode b_Mo_compare 33 = .ok (.iload 7, 2) := by decide +kernel
theorem d_Mo_compare_35 : decode b_Mo_compare 35 = .ok (.laload, 1) := by decide +kernel
theorem d_Mo_compare_36 : decode b_Mo_compare 36 = .ok (.aload_n 0, 1) := by decide +kernel
theorem d_Mo_compare_37 : decode b_Mo_compare 37 = .ok (.getfield 50, 3) := by decide +kernel
theorem d_Mo_compare_40 : decode b_Mo_compare 40 = .ok (.iload 7, 2) := by decide +kernel
theorem d_Mo_compare_42 : decode b_Mo_compare 42 = .ok (.laload, 1) := by decide +kernel
theorem d_Mo_compare_43 : decode b_Mo_compare 43 = .ok (.lcmp, 1) := by decide +kernel
theorem d_Mo_compare_44 : decode b_Mo_compare 44 = .ok (.ifCond .eq 27, 3) := by decide +kernel
theorem d_Mo_compare_47 : decode b_Mo_compare 47 = .ok (.aload_n 0, 1) := by decide +kernel
theorem d_Mo_compare_48 : decode b_Mo_compare 48 = .ok (.getfield 47, 3) := by decide +kernel
theorem d_Mo_compare_51 : decode b_Mo_compare 51 = .ok (.iload 7, 2) := by decide +kernel
theorem d_Mo_compare_53 : decode b_Mo_compare 53 = .ok (.laload, 1) := by decide +kernel
theorem d_Mo_compare_54 : decode b_Mo_compare 54 = .ok (.aload_n 0, 1) := by decide +kernel
theorem d_Mo_compare_55 : decode b_Mo_compare 55 = .ok (.getfield 50, 3) := by decide +kernel
theorem d_Mo_compare_58 : decode b_Mo_compare 58 = .ok (.iload 7, 2) := by decide +kernel
theorem d_Mo_compare_60 : decode b_Mo_compare 60 = .ok (.laload, 1) := by decide +kernel
theorem d_Mo_compare_61 : decode b_Mo_compare 61 = .ok (.lcmp, 1) := by decide +kernel
theorem d_Mo_compare_62 : decode b_Mo_compare 62 = .ok (.ifCond .ge 7, 3) := by decide +kernel
theorem d_Mo_compare_65 : decode b_Mo_compare 65 = .ok (.iconst (-1), 1) := by decide +kernel
theorem d_Mo_compare_66 : decode b_Mo_compare 66 = .ok (.goto 4, 3) := by decide +kernel
theorem d_Mo_compare_69 : decode b_Mo_compare 69 = .ok (.iconst 1, 1) := by decide +kernel
theorem d_Mo_compare_70 : decode b_Mo_compare 70 = .ok (.ireturn, 1) := by decide +kernel
theorem d_Mo_compare_71 : decode b_Mo_compare 71 = .ok (.iinc 7 (-1), 3) := by decide +kernel
theorem d_Mo_compare_74 : decode b_Mo_compare 74 = .ok (.goto (-50), 3) := by decide +kernel
theorem d_Mo_compare_77 : decode b_Mo_compare 77 = .ok (.iconst 0, 1) := by decide +kernel
theorem d_Mo_compare_78 : decode b_Mo_compare 78 = .ok (.ireturn, 1) := by decide +kernel
abbrev b_Mo_signOf : ByteArray := prog_10_method_41_code
def y_Mo_signOf : MethodName := ⟨"GlyphPageModel", "signOf", "(JJJ)I"⟩
theorem d_Mo_signOf_0 : decode b_Mo_signOf 0 = .ok (.lload_n 1, 1) := by decide +kernel
theorem d_Mo_signOf_1 : decode b_Mo_signOf 1 = .ok (.invokestatic 292, 3) := by decide +kernel
theorem d_Mo_signOf_4 : decode b_Mo_signOf 4 = .ok (.istore 7, 2) := by decide +kernel
theorem d_Mo_signOf_6 : decode b_Mo_signOf 6 = .ok (.lload 5, 2) := by decide +kernel
theorem d_Mo_signOf_8 : decode b_Mo_signOf 8 = .ok (.lconst 0, 1) := by decide +kernel
theorem d_Mo_signOf_9 : decode b_Mo_signOf 9 = .ok (.lcmp, 1) := by decide +kernel
theorem d_Mo_signOf_10 : decode b_Mo_signOf 10 = .ok (.ifCond .ne 7, 3) := by decide +kernel
theorem d_Mo_signOf_13 : decode b_Mo_signOf 13 = .ok (.iconst 0, 1) := by decide +kernel
theorem d_Mo_signOf_14 : decode b_Mo_signOf 14 = .ok (.goto 7, 3) := by decide +kernel
theorem d_Mo_signOf_17 : decode b_Mo_signOf 17 = .ok (.lload_n 3, 1) := by decide +kernel
theorem d_Mo_signOf_18 : decode b_Mo_signOf 18 = .ok (.invokestatic 292, 3) := by decide +kernel
theorem d_Mo_signOf_21 : decode b_Mo_signOf 21 = .ok (.istore 8, 2) := by decide +kernel
theorem d_Mo_signOf_23 : decode b_Mo_signOf 23 = .ok (.iload 7, 2) := by decide +kernel
theorem d_Mo_signOf_25 : decode b_Mo_signOf 25 = .ok (.iload 8, 2) := by decide +kernel
theorem d_Mo_signOf_27 : decode b_Mo_signOf 27 = .ok (.if_icmp .eq 8, 3) := by decide +kernel
theorem d_Mo_signOf_30 : decode b_Mo_signOf 30 = .ok (.iload 8, 2) := by decide +kernel
theorem d_Mo_signOf_32 : decode b_Mo_signOf 32 = .ok (.ifCond .ne 6, 3) := by decide +kernel
theorem d_Mo_signOf_35 : decode b_Mo_signOf 35 = .ok (.iload 7, 2) := by decide +kernel
theorem d_Mo_signOf_37 : decode b_Mo_signOf 37 = .ok (.ireturn, 1) := by decide +kernel
theorem d_Mo_signOf_38 : decode b_Mo_signOf 38 = .ok (.iload 7, 2) := by decide +kernel
theorem d_Mo_signOf_40 : decode b_Mo_signOf 40 = .ok (.ifCond .ne 6, 3) := by decide +kernel
theorem d_Mo_signOf_43 : decode b_Mo_signOf 43 = .ok (.iload 8, 2) := by decide +kernel
theorem d_Mo_signOf_45 : decode b_Mo_signOf 45 = .ok (.ireturn, 1) := by decide +kernel
theorem d_Mo_signOf_46 : decode b_Mo_signOf 46 = .ok (.aload_n 0, 1) := by decide +kernel
theorem d_Mo_signOf_47 : decode b_Mo_signOf 47 = .ok (.lload_n 1, 1) := by decide +kernel
theorem d_Mo_signOf_48 : decode b_Mo_signOf 48 = .ok (.lconst 0, 1) := by decide +kernel
theorem d_Mo_signOf_49 : decode b_Mo_signOf 49 = .ok (.lcmp, 1) := by decide +kernel
theorem d_Mo_signOf_50 : decode b_Mo_signOf 50 = .ok (.ifCond .ge 8, 3) := by decide +kernel
theorem d_Mo_signOf_53 : decode b_Mo_signOf 53 = .ok (.lload_n 1, 1) := by decide +kernel
theorem d_Mo_signOf_54 : decode b_Mo_signOf 54 = .ok (.lneg, 1) := by decide +kernel
theorem d_Mo_signOf_55 : decode b_Mo_signOf 55 = .ok (.goto 4, 3) := by decide +kernel
theorem d_Mo_signOf_58 : decode b_Mo_signOf 58 = .ok (.lload_n 1, 1) := by decide +kernel
theorem d_Mo_signOf_59 : decode b_Mo_signOf 59 = .ok (.lload_n 3, 1) := by decide +kernel
theorem d_Mo_signOf_60 : decode b_Mo_signOf 60 = .ok (.lconst 0, 1) := by decide +kernel
theorem d_Mo_signOf_61 : decode b_Mo_signOf 61 = .ok (.lcmp, 1) := by decide +kernel
theorem d_Mo_signOf_62 : decode b_Mo_signOf 62 = .ok (.ifCond .ge 8, 3) := by decide +kernel
theorem d_Mo_signOf_65 : decode b_Mo_signOf 65 = .ok (.lload_n 3, 1) := by decide +kernel
theorem d_Mo_signOf_66 : decode b_Mo_signOf 66 = .ok (.lneg, 1) := by decide +kernel
theorem d_Mo_signOf_67 : decode b_Mo_signOf 67 = .ok (.goto 4, 3) := by decide +kernel
theorem d_Mo_signOf_70 : decode b_Mo_signOf 70 = .ok (.lload_n 3, 1) := by decide +kernel
theorem d_Mo_signOf_71 : decode b_Mo_signOf 71 = .ok (.lload 5, 2) := by decide +kernel
theorem d_Mo_signOf_73 : decode b_Mo_signOf 73 = .ok (.invokevirtual 296, 3) := by decide +kernel
theorem d_Mo_signOf_76 : decode b_Mo_signOf 76 = .ok (.istore 9, 2) := by decide +kernel
theorem d_Mo_signOf_78 : decode b_Mo_signOf 78 = .ok (.iload 9, 2) := by decide +kernel
theorem d_Mo_signOf_80 : decode b_Mo_signOf 80 = .ok (.ifCond .ne 7, 3) := by decide +kernel
theorem d_Mo_signOf_83 : decode b_Mo_signOf 83 = .ok (.iconst 0, 1) := by decide +kernel
theorem d_Mo_signOf_84 : decode b_Mo_signOf 84 = .ok (.goto 15, 3) := by decide +kernel
theorem d_Mo_signOf_87 : decode b_Mo_signOf 87 = .ok (.iload 9, 2) := by decide +kernel
theorem d_Mo_signOf_89 : decode b_Mo_signOf 89 = .ok (.ifCond .le 8, 3) := by decide +kernel
theorem d_Mo_signOf_92 : decode b_Mo_signOf 92 = .ok (.iload 7, 2) := by decide +kernel
theorem d_Mo_signOf_94 : decode b_Mo_signOf 94 = .ok (.goto 5, 3) := by decide +kernel
theorem d_Mo_signOf_97 : decode b_Mo_signOf 97 = .ok (.iload 8, 2) := by decide +kernel
theorem d_Mo_signOf_99 : decode b_Mo_signOf 99 = .ok (.ireturn, 1) := by decide +kernel
abbrev b_Mo_cross : ByteArray := prog_10_method_42_code
def y_Mo_cross : MethodName := ⟨"GlyphPageModel", "cross", "(ZZI)V"⟩
theorem d_Mo_cross_0 : decode b_Mo_cross 0 = .ok (.iload_n 3, 1) := by decide +kernel
theorem d_Mo_cross_1 : decode b_Mo_cross 1 = .ok (.ifCond .ne 8, 3) := by decide +kernel
theorem d_Mo_cross_4 : decode b_Mo_cross 4 = .ok (.aload_n 0, 1) := by decide +kernel
theorem d_Mo_cross_5 : decode b_Mo_cross 5 = .ok (.iconst 1, 1) := by decide +kernel
theorem d_Mo_cross_6 : decode b_Mo_cross 6 = .ok (.putfield 300, 3) := by decide +kernel
theorem d_Mo_cross_9 : decode b_Mo_cross 9 = .ok (.iload_n 3, 1) := by decide +kernel
theorem d_Mo_cross_10 : decode b_Mo_cross 10 = .ok (.ifCond .le 37, 3) := by decide +kernel
theorem d_Mo_cross_13 : decode b_Mo_cross 13 = .ok (.aload_n 0, 1) := by decide +kernel
theorem d_Mo_cross_14 : decode b_Mo_cross 14 = .ok (.dup, 1) := by decide +kernel
theorem d_Mo_cross_15 : decode b_Mo_cross 15 = .ok (.getfield 303, 3) := by decide +kernel
theorem d_Mo_cross_18 : decode b_Mo_cross 18 = .ok (.iload_n 2, 1) := by decide +kernel
theorem d_Mo_cross_19 : decode b_Mo_cross 19 = .ok (.ifCond .eq 11, 3) := by decide +kernel
theorem d_Mo_cross_22 : decode b_Mo_cross 22 = .ok (.iload_n 1, 1) := by decide +kernel
theorem d_Mo_cross_23 : decode b_Mo_cross 23 = .ok (.ifCond .ne 7, 3) := by decide +kernel
theorem d_Mo_cross_26 : decode b_Mo_cross 26 = .ok (.iconst 1, 1) := by decide +kernel
theorem d_Mo_cross_27 : decode b_Mo_cross 27 = .ok (.goto 16, 3) := by decide +kernel
theorem d_Mo_cross_30 : decode b_Mo_cross 30 = .ok (.iload_n 1, 1) := by decide +kernel
theorem d_Mo_cross_31 : decode b_Mo_cross 31 = .ok (.ifCond .eq 11, 3) := by decide +kernel
theorem d_Mo_cross_34 : decode b_Mo_cross 34 = .ok (.iload_n 2, 1) := by decide +kernel
theorem d_Mo_cross_35 : decode b_Mo_cross 35 = .ok (.ifCond .ne 7, 3) := by decide +kernel
theorem d_Mo_cross_38 : decode b_Mo_cross 38 = .ok (.iconst (-1), 1) := by decide +kernel
theorem d_Mo_cross_39 : decode b_Mo_cross 39 = .ok (.goto 4, 3) := by decide +kernel
theorem d_Mo_cross_42 : decode b_Mo_cross 42 = .ok (.iconst 0, 1) := by decide +kernel
theorem d_Mo_cross_43 : decode b_Mo_cross 43 = .ok (.iadd, 1) := by decide +kernel
theorem d_Mo_cross_44 : decode b_Mo_cross 44 = .ok (.putfield 303, 3) := by decide +kernel
theorem d_Mo_cross_47 : decode b_Mo_cross 47 = .ok (.return_, 1) := by decide +kernel
abbrev b_Mo_line_JJJJV : ByteArray := prog_10_method_43_code
def y_Mo_line_JJJJV : MethodName := ⟨"GlyphPageModel", "line", "(JJJJ)V"⟩
theorem d_Mo_line_JJJJV_0 : decode b_Mo_line_JJJJV 0 = .ok (.lload_n 1, 1) := by decide +kernel
theorem d_Mo_line_JJJJV_1 : decode b_Mo_line_JJJJV 1 = .ok (.lload 7, 2) := by decide +kernel
theorem d_Mo_line_JJJJV_3 : decode b_Mo_line_JJJJV 3 = .ok (.lmul, 1) := by decide +kernel
theorem d_Mo_line_JJJJV_4 : decode b_Mo_line_JJJJV 4 = .ok (.lload 5, 2) := by decide +kernel
theorem d_Mo_line_JJJJV_6 : decode b_Mo_line_JJJJV 6 = .ok (.lload_n 3, 1) := by decide +kernel
theorem d_Mo_line_JJJJV_7 : decode b_Mo_line_JJJJV 7 = .ok (.lmul, 1) := by decide +kernel
theorem d_Mo_line_JJJJV_8 : decode b_Mo_line_JJJJV 8 = .ok (.lsub, 1) := by decide +kernel
theorem d_Mo_line_JJJJV_9 : decode b_Mo_line_JJJJV 9 = .ok (.lstore 9, 2) := by decide +kernel
theorem d_Mo_line_JJJJV_11 : decode b_Mo_line_JJJJV 11 = .ok (.lload 9, 2) := by decide +kernel
theorem d_Mo_line_JJJJV_13 : decode b_Mo_line_JJJJV 13 = .ok (.lconst 0, 1) := by decide +kernel
theorem d_Mo_line_JJJJV_14 : decode b_Mo_line_JJJJV 14 = .ok (.lcmp, 1) := by decide +kernel
theorem d_Mo_line_JJJJV_15 : decode b_Mo_line_JJJJV 15 = .ok (.ifCond .ne 22, 3) := by decide +kernel
theorem d_Mo_line_JJJJV_18 : decode b_Mo_line_JJJJV 18 = .ok (.lload_n 1, 1) := by decide +kernel
theorem d_Mo_line_JJJJV_19 : decode b_Mo_line_JJJJV 19 = .ok (.lload 5, 2) := by decide +kernel
theorem d_Mo_line_JJJJV_21 : decode b_Mo_line_JJJJV 21 = .ok (.lmul, 1) := by decide +kernel
theorem d_Mo_line_JJJJV_22 : decode b_Mo_line_JJJJV 22 = .ok (.lload_n 3, 1) := by decide +kernel
theorem d_Mo_line_JJJJV_23 : decode b_Mo_line_JJJJV 23 = .ok (.lload 7, 2) := by decide +kernel
theorem d_Mo_line_JJJJV_25 : decode b_Mo_line_JJJJV 25 = .ok (.lmul, 1) := by decide +kernel
theorem d_Mo_line_JJJJV_26 : decode b_Mo_line_JJJJV 26 = .ok (.ladd, 1) := by decide +kernel
theorem d_Mo_line_JJJJV_27 : decode b_Mo_line_JJJJV 27 = .ok (.lconst 0, 1) := by decide +kernel
theorem d_Mo_line_JJJJV_28 : decode b_Mo_line_JJJJV 28 = .ok (.lcmp, 1) := by decide +kernel
theorem d_Mo_line_JJJJV_29 : decode b_Mo_line_JJJJV 29 = .ok (.ifCond .gt 8, 3) := by decide +kernel
theorem d_Mo_line_JJJJV_32 : decode b_Mo_line_JJJJV 32 = .ok (.aload_n 0, 1) := by decide +kernel
theorem d_Mo_line_JJJJV_33 : decode b_Mo_line_JJJJV 33 = .ok (.iconst 1, 1) := by decide +kernel
theorem d_Mo_line_JJJJV_34 : decode b_Mo_line_JJJJV 34 = .ok (.putfield 300, 3) := by decide +kernel
theorem d_Mo_line_JJJJV_37 : decode b_Mo_line_JJJJV 37 = .ok (.lload_n 3, 1) := by decide +kernel
theorem d_Mo_line_JJJJV_38 : decode b_Mo_line_JJJJV 38 = .ok (.lconst 0, 1) := by decide +kernel
theorem d_Mo_line_JJJJV_39 : decode b_Mo_line_JJJJV 39 = .ok (.lcmp, 1) := by decide +kernel
theorem d_Mo_line_JJJJV_40 : decode b_Mo_line_JJJJV 40 = .ok (.ifCond .lt 7, 3) := by decide +kernel
theorem d_Mo_line_JJJJV_43 : decode b_Mo_line_JJJJV 43 = .ok (.iconst 1, 1) := by decide +kernel
theorem d_Mo_line_JJJJV_44 : decode b_Mo_line_JJJJV 44 = .ok (.goto 4, 3) := by decide +kernel
theorem d_Mo_line_JJJJV_47 : decode b_Mo_line_JJJJV 47 = .ok (.iconst 0, 1) := by decide +kernel
theorem d_Mo_line_JJJJV_48 : decode b_Mo_line_JJJJV 48 = .ok (.lload 7, 2) := by decide +kernel
theorem d_Mo_line_JJJJV_50 : decode b_Mo_line_JJJJV 50 = .ok (.lconst 0, 1) := by decide +kernel
theorem d_Mo_line_JJJJV_51 : decode b_Mo_line_JJJJV 51 = .ok (.lcmp, 1) := by decide +kernel
theorem d_Mo_line_JJJJV_52 : decode b_Mo_line_JJJJV 52 = .ok (.ifCond .lt 7, 3) := by decide +kernel
theorem d_Mo_line_JJJJV_55 : decode b_Mo_line_JJJJV 55 = .ok (.iconst 1, 1) := by decide +kernel
theorem d_Mo_line_JJJJV_56 : decode b_Mo_line_JJJJV 56 = .ok (.goto 4, 3) := by decide +kernel
theorem d_Mo_line_JJJJV_59 : decode b_Mo_line_JJJJV 59 = .ok (.iconst 0, 1) := by decide +kernel
theorem d_Mo_line_JJJJV_60 : decode b_Mo_line_JJJJV 60 = .ok (.if_icmp .eq 43, 3) := by decide +kernel
theorem d_Mo_line_JJJJV_63 : decode b_Mo_line_JJJJV 63 = .ok (.aload_n 0, 1) := by decide +kernel
theorem d_Mo_line_JJJJV_64 : decode b_Mo_line_JJJJV 64 = .ok (.lload_n 3, 1) := by decide +kernel
theorem d_Mo_line_JJJJV_65 : decode b_Mo_line_JJJJV 65 = .ok (.lconst 0, 1) := by decide +kernel
theorem d_Mo_line_JJJJV_66 : decode b_Mo_line_JJJJV 66 = .ok (.lcmp, 1) := by decide +kernel
theorem d_Mo_line_JJJJV_67 : decode b_Mo_line_JJJJV 67 = .ok (.ifCond .lt 7, 3) := by decide +kernel
theorem d_Mo_line_JJJJV_70 : decode b_Mo_line_JJJJV 70 = .ok (.iconst 1, 1) := by decide +kernel
theorem d_Mo_line_JJJJV_71 : decode b_Mo_line_JJJJV 71 = .ok (.goto 4, 3) := by decide +kernel
theorem d_Mo_line_JJJJV_74 : decode b_Mo_line_JJJJV 74 = .ok (.iconst 0, 1) := by decide +kernel
theorem d_Mo_line_JJJJV_75 : decode b_Mo_line_JJJJV 75 = .ok (.lload 7, 2) := by decide +kernel
theorem d_Mo_line_JJJJV_77 : decode b_Mo_line_JJJJV 77 = .ok (.lconst 0, 1) := by decide +kernel
theorem d_Mo_line_JJJJV_78 : decode b_Mo_line_JJJJV 78 = .ok (.lcmp, 1) := by decide +kernel
theorem d_Mo_line_JJJJV_79 : decode b_Mo_line_JJJJV 79 = .ok (.ifCond .lt 7, 3) := by decide +kernel
theorem d_Mo_line_JJJJV_82 : decode b_Mo_line_JJJJV 82 = .ok (.iconst 1, 1) := by decide +kernel
theorem d_Mo_line_JJJJV_83 : decode b_Mo_line_JJJJV 83 = .ok (.goto 4, 3) := by decide +kernel
theorem d_Mo_line_JJJJV_86 : decode b_Mo_line_JJJJV 86 = .ok (.iconst 0, 1) := by decide +kernel
theorem d_Mo_line_JJJJV_87 : decode b_Mo_line_JJJJV 87 = .ok (.lload 9, 2) := by decide +kernel
theorem d_Mo_line_JJJJV_89 : decode b_Mo_line_JJJJV 89 = .ok (.invokestatic 292, 3) := by decide +kernel
theorem d_Mo_line_JJJJV_92 : decode b_Mo_line_JJJJV 92 = .ok (.lload 7, 2) := by decide +kernel
theorem d_Mo_line_JJJJV_94 : decode b_Mo_line_JJJJV 94 = .ok (.lload_n 3, 1) := by decide +kernel
theorem d_Mo_line_JJJJV_95 : decode b_Mo_line_JJJJV 95 = .ok (.lsub, 1) := by decide +kernel
theorem d_Mo_line_JJJJV_96 : decode b_Mo_line_JJJJV 96 = .ok (.invokestatic 292, 3) := by decide +kernel
theorem d_Mo_line_JJJJV_99 : decode b_Mo_line_JJJJV 99 = .ok (.imul, 1) := by decide +kernel
theorem d_Mo_line_JJJJV_100 : decode b_Mo_line_JJJJV 100 = .ok (.invokevirtual 306, 3) := by decide +kernel
theorem d_Mo_line_JJJJV_103 : decode b_Mo_line_JJJJV 103 = .ok (.return_, 1) := by decide +kernel
abbrev b_Mo_through : ByteArray := prog_10_method_46_code
def y_Mo_through : MethodName := ⟨"GlyphPageModel", "through", "(JJJ)Z"⟩
theorem d_Mo_through_0 : decode b_Mo_through 0 = .ok (.aload_n 0, 1) := by decide +kernel
theorem d_Mo_through_1 : decode b_Mo_through 1 = .ok (.getfield 47, 3) := by decide +kernel
theorem d_Mo_through_4 : decode b_Mo_through 4 = .ok (.lload_n 3, 1) := by decide +kernel
theorem d_Mo_through_5 : decode b_Mo_through 5 = .ok (.lload_n 3, 1) := by decide +kernel
theorem d_Mo_through_6 : decode b_Mo_through 6 = .ok (.lconst 1, 1) := by decide +kernel
theorem d_Mo_through_7 : decode b_Mo_through 7 = .ok (.invokestatic 282, 3) := by decide +kernel
theorem d_Mo_through_10 : decode b_Mo_through 10 = .ok (.aload_n 0, 1) := by decide +kernel
theorem d_Mo_through_11 : decode b_Mo_through 11 = .ok (.getfield 50, 3) := by decide +kernel
theorem d_Mo_through_14 : decode b_Mo_through 14 = .ok (.lload_n 1, 1) := by decide +kernel
theorem d_Mo_through_15 : decode b_Mo_through 15 = .ok (.lload 5, 2) := by decide +kernel
theorem d_Mo_through_17 : decode b_Mo_through 17 = .ok (.ldc2_w 87, 3) := by decide +kernel
theorem d_Mo_through_20 : decode b_Mo_through 20 = .ok (.invokestatic 282, 3) := by decide +kernel
theorem d_Mo_through_23 : decode b_Mo_through 23 = .ok (.iconst 0, 1) := by decide +kernel
theorem d_Mo_through_24 : decode b_Mo_through 24 = .ok (.istore 7, 2) := by decide +kernel
theorem d_Mo_through_26 : decode b_Mo_through 26 = .ok (.iload 7, 2) := by decide +kernel
theorem d_Mo_through_28 : decode b_Mo_through 28 = .ok (.bipush 6, 2) := by decide +kernel
theorem d_Mo_through_30 : decode b_Mo_through 30 = .ok (.if_icmp .ge 29, 3) := by decide +kernel
theorem d_Mo_through_33 : decode b_Mo_through 33 = .ok (.aload_n 0, 1) := by decide +kernel
theorem d_Mo_through_34 : decode b_Mo_through 34 = .ok (.getfield 47, 3) := by decide +kernel
theorem d_Mo_through_37 : decode b_Mo_through 37 = .ok (.iload 7, 2) := by decide +kernel
theorem d_Mo_through_39 : decode b_Mo_through 39 = .ok (.laload, 1) := by decide +kernel
theorem d_Mo_through_40 : decode b_Mo_through 40 = .ok (.aload_n 0, 1) := by decide +kernel
theorem d_Mo_through_41 : decode b_Mo_through 41 = .ok (.getfield 50, 3) := by decide +kernel
theorem d_Mo_through_44 : decode b_Mo_through 44 = .ok (.iload 7, 2) := by decide +kernel
theorem d_Mo_through_46 : decode b_Mo_through 46 = .ok (.laload, 1) := by decide +kernel
theorem d_Mo_through_47 : decode b_Mo_through 47 = .ok (.lcmp, 1) := by decide +kernel
theorem d_Mo_through_48 : decode b_Mo_through 48 = .ok (.ifCond .eq 5, 3) := by decide +kernel
theorem d_Mo_through_51 : decode b_Mo_through 51 = .ok (.iconst 0, 1) := by decide +kernel
theorem d_Mo_through_52 : decode b_Mo_through 52 = .ok (.ireturn, 1) := by decide +kernel
theorem d_Mo_through_53 : decode b_Mo_through 53 = .ok (.iinc 7 1, 3) := by decide +kernel
theorem d_Mo_through_56 : decode b_Mo_through 56 = .ok (.goto (-30), 3) := by decide +kernel
theorem d_Mo_through_59 : decode b_Mo_through 59 = .ok (.iconst 1, 1) := by decide +kernel
theorem d_Mo_through_60 : decode b_Mo_through 60 = .ok (.ireturn, 1) := by decide +kernel
abbrev b_Mo_side : ByteArray := prog_10_method_47_code
def y_Mo_side : MethodName := ⟨"GlyphPageModel", "side", "(JJJJJJI)I"⟩
theorem d_Mo_side_0 : decode b_Mo_side 0 = .ok (.lload_n 1, 1) := by decide +kernel
theorem d_Mo_side_1 : decode b_Mo_side 1 = .ok (.ldc2_w 129, 3) := by decide +kernel
theorem d_Mo_side_4 : decode b_Mo_side 4 = .ok (.lload 5, 2) := by decide +kernel
theorem d_Mo_side_6 : decode b_Mo_side 6 = .ok (.lmul, 1) := by decide +kernel
theorem d_Mo_side_7 : decode b_Mo_side 7 = .ok (.lsub, 1) := by decide +kernel
theorem d_Mo_side_8 : decode b_Mo_side 8 = .ok (.lload 9, 2) := by decide +kernel
theorem d_Mo_side_10 : decode b_Mo_side 10 = .ok (.ladd, 1) := by decide +kernel
theorem d_Mo_side_11 : decode b_Mo_side 11 = .ok (.lstore 14, 2) := by decide +kernel
theorem d_Mo_side_13 : decode b_Mo_side 13 = .ok (.ldc2_w 129, 3) := by decide +kernel
theorem d_Mo_side_16 : decode b_Mo_side 16 = .ok (.lload 5, 2) := by decide +kernel
theorem d_Mo_side_18 : decode b_Mo_side 18 = .ok (.lload_n 1, 1) := by decide +kernel
theorem d_Mo_side_19 : decode b_Mo_side 19 = .ok (.lsub, 1) := by decide +kernel
theorem d_Mo_side_20 : decode b_Mo_side 20 = .ok (.lmul, 1) := by decide +kernel
theorem d_Mo_side_21 : decode b_Mo_side 21 = .ok (.lstore 16, 2) := by decide +kernel
theorem d_Mo_side_23 : decode b_Mo_side 23 = .ok (.lload_n 3, 1) := by decide +kernel
theorem d_Mo_side_24 : decode b_Mo_side 24 = .ok (.ldc2_w 129, 3) := by decide +kernel
theorem d_Mo_side_27 : decode b_Mo_side 27 = .ok (.lload 7, 2) := by decide +kernel
theorem d_Mo_side_29 : decode b_Mo_side 29 = .ok (.lmul, 1) := by decide +kernel
theorem d_Mo_side_30 : decode b_Mo_side 30 = .ok (.lsub, 1) := by decide +kernel
theorem d_Mo_side_31 : decode b_Mo_side 31 = .ok (.lload 11, 2) := by decide +kernel
theorem d_Mo_side_33 : decode b_Mo_side 33 = .ok (.ladd, 1) := by decide +kernel
theorem d_Mo_side_34 : decode b_Mo_side 34 = .ok (.lstore 18, 2) := by decide +kernel
theorem d_Mo_side_36 : decode b_Mo_side 36 = .ok (.ldc2_w 129, 3) := by decide +kernel
theorem d_Mo_side_39 : decode b_Mo_side 39 = .ok (.lload 7, 2) := by decide +kernel
theorem d_Mo_side_41 : decode b_Mo_side 41 = .ok (.lload_n 3, 1) := by decide +kernel
theorem d_Mo_side_42 : decode b_Mo_side 42 = .ok (.lsub, 1) := by decide +kernel
theorem d_Mo_side_43 : decode b_Mo_side 43 = .ok (.lmul, 1) := by decide +kernel
theorem d_Mo_side_44 : decode b_Mo_side 44 = .ok (.lstore 20, 2) := by decide +kernel
theorem d_Mo_side_46 : decode b_Mo_side 46 = .ok (.lload 18, 2) := by decide +kernel
theorem d_Mo_side_48 : decode b_Mo_side 48 = .ok (.lconst 0, 1) := by decide +kernel
theorem d_Mo_side_49 : decode b_Mo_side 49 = .ok (.lcmp, 1) := by decide +kernel
theorem d_Mo_side_50 : decode b_Mo_side 50 = .ok (.ifCond .ne 29, 3) := by decide +kernel
theorem d_Mo_side_53 : decode b_Mo_side 53 = .ok (.lload 14, 2) := by decide +kernel
theorem d_Mo_side_55 : decode b_Mo_side 55 = .ok (.lload_n 3, 1) := by decide +kernel
theorem d_Mo_side_56 : decode b_Mo_side 56 = .ok (.lmul, 1) := by decide +kernel
theorem d_Mo_side_57 : decode b_Mo_side 57 = .ok (.lload_n 3, 1) := by decide +kernel
theorem d_Mo_side_58 : decode b_Mo_side 58 = .ok (.lmul, 1) := by decide +kernel
theorem d_Mo_side_59 : decode b_Mo_side 59 = .ok (.lload 16, 2) := by decide +kernel
theorem d_Mo_side_61 : decode b_Mo_side 61 = .ok (.lload 20, 2) := by decide +kernel
theorem d_Mo_side_63 : decode b_Mo_side 63 = .ok (.lmul, 1) := by decide +kernel
theorem d_Mo_side_64 : decode b_Mo_side 64 = .ok (.lload_n 3, 1) := by decide +kernel
theorem d_Mo_side_65 : decode b_Mo_side 65 = .ok (.lmul, 1) := by decide +kernel
theorem d_Mo_side_66 : decode b_Mo_side 66 = .ok (.lsub, 1) := by decide +kernel
theorem d_Mo_side_67 : decode b_Mo_side 67 = .ok (.lload_n 1, 1) := by decide +kernel
theorem d_Mo_side_68 : decode b_Mo_side 68 = .ok (.lload 20, 2) := by decide +kernel
theorem d_Mo_side_70 : decode b_Mo_side 70 = .ok (.lmul, 1) := by decide +kernel
theorem d_Mo_side_71 : decode b_Mo_side 71 = .ok (.lload 20, 2) := by decide +kernel
theorem d_Mo_side_73 : decode b_Mo_side 73 = .ok (.lmul, 1) := by decide +kernel
theorem d_Mo_side_74 : decode b_Mo_side 74 = .ok (.ladd, 1) := by decide +kernel
theorem d_Mo_side_75 : decode b_Mo_side 75 = .ok (.invokestatic 292, 3) := by decide +kernel
theorem d_Mo_side_78 : decode b_Mo_side 78 = .ok (.ireturn, 1) := by decide +kernel
theorem d_Mo_side_79 : decode b_Mo_side 79 = .ok (.lload 18, 2) := by decide +kernel
theorem d_Mo_side_81 : decode b_Mo_side 81 = .ok (.lload 16, 2) := by decide +kernel
theorem d_Mo_side_83 : decode b_Mo_side 83 = .ok (.lmul, 1) := by decide +kernel
theorem d_Mo_side_84 : decode b_Mo_side 84 = .ok (.lload 14, 2) := by decide +kernel
theorem d_Mo_side_86 : decode b_Mo_side 86 = .ok (.lload 20, 2) := by decide +kernel
theorem d_Mo_side_88 : decode b_Mo_side 88 = .ok (.lmul, 1) := by decide +kernel
theorem d_Mo_side_89 : decode b_Mo_side 89 = .ok (.lsub, 1) := by decide +kernel
theorem d_Mo_side_90 : decode b_Mo_side 90 = .ok (.lstore 22, 2) := by decide +kernel
theorem d_Mo_side_92 : decode b_Mo_side 92 = .ok (.lload 18, 2) := by decide +kernel
theorem d_Mo_side_94 : decode b_Mo_side 94 = .ok (.lload_n 1, 1) := by decide +kernel
theorem d_Mo_side_95 : decode b_Mo_side 95 = .ok (.lmul, 1) := by decide +kernel
theorem d_Mo_side_96 : decode b_Mo_side 96 = .ok (.lload 14, 2) := by decide +kernel
theorem d_Mo_side_98 : decode b_Mo_side 98 = .ok (.lload_n 3, 1) := by decide +kernel
theorem d_Mo_side_99 : decode b_Mo_side 99 = .ok (.lmul, 1) := by decide +kernel
theorem d_Mo_side_100 : decode b_Mo_side 100 = .ok (.lsub, 1) := by decide +kernel
theorem d_Mo_side_101 : decode b_Mo_side 101 = .ok (.lstore 24, 2) := by decide +kernel
theorem d_Mo_side_103 : decode b_Mo_side 103 = .ok (.aload_n 0, 1) := by decide +kernel
theorem d_Mo_side_104 : decode b_Mo_side 104 = .ok (.ldc2_w 129, 3) := by decide +kernel
theorem d_Mo_side_107 : decode b_Mo_side 107 = .ok (.lload 18, 2) := by decide +kernel
theorem d_Mo_side_109 : decode b_Mo_side 109 = .ok (.lmul, 1) := by decide +kernel
theorem d_Mo_side_110 : decode b_Mo_side 110 = .ok (.lload 24, 2) := by decide +kernel
theorem d_Mo_side_112 : decode b_Mo_side 112 = .ok (.lmul, 1) := by decide +kernel
theorem d_Mo_side_113 : decode b_Mo_side 113 = .ok (.lload 22, 2) := by decide +kernel
theorem d_Mo_side_115 : decode b_Mo_side 115 = .ok (.lload 20, 2) := by decide +kernel
theorem d_Mo_side_117 : decode b_Mo_side 117 = .ok (.lmul, 1) := by decide +kernel
theorem d_Mo_side_118 : decode b_Mo_side 118 = .ok (.lsub, 1) := by decide +kernel
theorem d_Mo_side_119 : decode b_Mo_side 119 = .ok (.iload 13, 2) := by decide +kernel
theorem d_Mo_side_121 : decode b_Mo_side 121 = .ok (.i2l, 1) := by decide +kernel
theorem d_Mo_side_122 : decode b_Mo_side 122 = .ok (.lload 22, 2) := by decide +kernel
theorem d_Mo_side_124 : decode b_Mo_side 124 = .ok (.lmul, 1) := by decide +kernel
theorem d_Mo_side_125 : decode b_Mo_side 125 = .ok (.lload 20, 2) := by decide +kernel
theorem d_Mo_side_127 : decode b_Mo_side 127 = .ok (.lload 20, 2) := by decide +kernel
theorem d_Mo_side_129 : decode b_Mo_side 129 = .ok (.lmul, 1) := by decide +kernel
theorem d_Mo_side_130 : decode b_Mo_side 130 = .ok (.ldc2_w 87, 3) := by decide +kernel
theorem d_Mo_side_133 : decode b_Mo_side 133 = .ok (.lload 18, 2) := by decide +kernel
theorem d_Mo_side_135 : decode b_Mo_side 135 = .ok (.lmul, 1) := by decide +kernel
theorem d_Mo_side_136 : decode b_Mo_side 136 = .ok (.lload_n 3, 1) := by decide +kernel
theorem d_Mo_side_137 : decode b_Mo_side 137 = .ok (.lmul, 1) := by decide +kernel
theorem d_Mo_side_138 : decode b_Mo_side 138 = .ok (.lsub, 1) := by decide +kernel
theorem d_Mo_side_139 : decode b_Mo_side 139 = .ok (.invokevirtual 321, 3) := by decide +kernel
theorem d_Mo_side_142 : decode b_Mo_side 142 = .ok (.ireturn, 1) := by decide +kernel
abbrev b_Mo_curve : ByteArray := prog_10_method_45_code
def y_Mo_curve : MethodName := ⟨"GlyphPageModel", "curve", "(JJJJJJ)V"⟩
theorem d_Mo_curve_0 : decode b_Mo_curve 0 = .ok (.lload 5, 2) := by decide +kernel
theorem d_Mo_curve_2 : decode b_Mo_curve 2 = .ok (.lload 11, 2) := by decide +kernel
theorem d_Mo_curve_4 : decode b_Mo_curve 4 = .ok (.lmul, 1) := by decide +kernel
theorem d_Mo_curve_5 : decode b_Mo_curve 5 = .ok (.lload 9, 2) := by decide +kernel
theorem d_Mo_curve_7 : decode b_Mo_curve 7 = .ok (.lload 7, 2) := by decide +kernel
theorem d_Mo_curve_9 : decode b_Mo_curve 9 = .ok (.lmul, 1) := by decide +kernel
theorem d_Mo_curve_10 : decode b_Mo_curve 10 = .ok (.lsub, 1) := by decide +kernel
theorem d_Mo_curve_11 : decode b_Mo_curve 11 = .ok (.lstore 13, 2) := by decide +kernel
theorem d_Mo_curve_13 : decode b_Mo_curve 13 = .ok (.lload 9, 2) := by decide +kernel
theorem d_Mo_curve_15 : decode b_Mo_curve 15 = .ok (.lload_n 3, 1) := by decide +kernel
theorem d_Mo_curve_16 : decode b_Mo_curve 16 = .ok (.lmul, 1) := by decide +kernel
theorem d_Mo_curve_17 : decode b_Mo_curve 17 = .ok (.lload_n 1, 1) := by decide +kernel
theorem d_Mo_curve_18 : decode b_Mo_curve 18 = .ok (.lload 11, 2) := by decide +kernel
theorem d_Mo_curve_20 : decode b_Mo_curve 20 = .ok (.lmul, 1) := by decide +kernel
theorem d_Mo_curve_21 : decode b_Mo_curve 21 = .ok (.lsub, 1) := by decide +kernel
theorem d_Mo_curve_22 : decode b_Mo_curve 22 = .ok (.lstore 15, 2) := by decide +kernel
theorem d_Mo_curve_24 : decode b_Mo_curve 24 = .ok (.lload_n 1, 1) := by decide +kernel
theorem d_Mo_curve_25 : decode b_Mo_curve 25 = .ok (.lload 7, 2) := by decide +kernel
theorem d_Mo_curve_27 : decode b_Mo_curve 27 = .ok (.lmul, 1) := by decide +kernel
theorem d_Mo_curve_28 : decode b_Mo_curve 28 = .ok (.lload 5, 2) := by decide +kernel
theorem d_Mo_curve_30 : decode b_Mo_curve 30 = .ok (.lload_n 3, 1) := by decide +kernel
theorem d_Mo_curve_31 : decode b_Mo_curve 31 = .ok (.lmul, 1) := by decide +kernel
theorem d_Mo_curve_32 : decode b_Mo_curve 32 = .ok (.lsub, 1) := by decide +kernel
theorem d_Mo_curve_33 : decode b_Mo_curve 33 = .ok (.lstore 17, 2) := by decide +kernel
theorem d_Mo_curve_35 : decode b_Mo_curve 35 = .ok (.lload 13, 2) := by decide +kernel
theorem d_Mo_curve_37 : decode b_Mo_curve 37 = .ok (.lload 15, 2) := by decide +kernel
theorem d_Mo_curve_39 : decode b_Mo_curve 39 = .ok (.ladd, 1) := by decide +kernel
theorem d_Mo_curve_40 : decode b_Mo_curve 40 = .ok (.lload 17, 2) := by decide +kernel
theorem d_Mo_curve_42 : decode b_Mo_curve 42 = .ok (.ladd, 1) := by decide +kernel
theorem d_Mo_curve_43 : decode b_Mo_curve 43 = .ok (.lstore 19, 2) := by decide +kernel
theorem d_Mo_curve_45 : decode b_Mo_curve 45 = .ok (.lload 19, 2) := by decide +kernel
theorem d_Mo_curve_47 : decode b_Mo_curve 47 = .ok (.lconst 0, 1) := by decide +kernel
theorem d_Mo_curve_48 : decode b_Mo_curve 48 = .ok (.lcmp, 1) := by decide +kernel
theorem d_Mo_curve_49 : decode b_Mo_curve 49 = .ok (.ifCond .ne 136, 3) := by decide +kernel
theorem d_Mo_curve_52 : decode b_Mo_curve 52 = .ok (.lload_n 1, 1) := by decide +kernel
theorem d_Mo_curve_53 : decode b_Mo_curve 53 = .ok (.lload 5, 2) := by decide +kernel
theorem d_Mo_curve_55 : decode b_Mo_curve 55 = .ok (.lcmp, 1) := by decide +kernel
theorem d_Mo_curve_56 : decode b_Mo_curve 56 = .ok (.ifCond .ne 11, 3) := by decide +kernel
theorem d_Mo_curve_59 : decode b_Mo_curve 59 = .ok (.lload 5, 2) := by decide +kernel
theorem d_Mo_curve_61 : decode b_Mo_curve 61 = .ok (.lload 9, 2) := by decide +kernel
theorem d_Mo_curve_63 : decode b_Mo_curve 63 = .ok (.lcmp, 1) := by decide +kernel
theorem d_Mo_curve_64 : decode b_Mo_curve 64 = .ok (.ifCond .eq 7, 3) := by decide +kernel
theorem d_Mo_curve_67 : decode b_Mo_curve 67 = .ok (.iconst 1, 1) := by decide +kernel
theorem d_Mo_curve_68 : decode b_Mo_curve 68 = .ok (.goto 4, 3) := by decide +kernel
theorem d_Mo_curve_71 : decode b_Mo_curve 71 = .ok (.iconst 0, 1) := by decide +kernel
theorem d_Mo_curve_72 : decode b_Mo_curve 72 = .ok (.istore 21, 2) := by decide +kernel
theorem d_Mo_curve_74 : decode b_Mo_curve 74 = .ok (.lload 13, 2) := by decide +kernel
theorem d_Mo_curve_76 : decode b_Mo_curve 76 = .ok (.lconst 0, 1) := by decide +kernel
theorem d_Mo_curve_77 : decode b_Mo_curve 77 = .ok (.lcmp, 1) := by decide +kernel
theorem d_Mo_curve_78 : decode b_Mo_curve 78 = .ok (.ifCond .ne 21, 3) := by decide +kernel
theorem d_Mo_curve_81 : decode b_Mo_curve 81 = .ok (.lload 15, 2) := by decide +kernel
theorem d_Mo_curve_83 : decode b_Mo_curve 83 = .ok (.lconst 0, 1) := by decide +kernel
theorem d_Mo_curve_84 : decode b_Mo_curve 84 = .ok (.lcmp, 1) := by decide +kernel
theorem d_Mo_curve_85 : decode b_Mo_curve 85 = .ok (.ifCond .ne 14, 3) := by decide +kernel
theorem d_Mo_curve_88 : decode b_Mo_curve 88 = .ok (.lload 17, 2) := by decide +kernel
theorem d_Mo_curve_90 : decode b_Mo_curve 90 = .ok (.lconst 0, 1) := by decide +kernel
theorem d_Mo_curve_91 : decode b_Mo_curve 91 = .ok (.lcmp, 1) := by decide +kernel
theorem d_Mo_curve_92 : decode b_Mo_curve 92 = .ok (.ifCond .ne 7, 3) := by decide +kernel
theorem d_Mo_curve_95 : decode b_Mo_curve 95 = .ok (.iconst 1, 1) := by decide +kernel
theorem d_Mo_curve_96 : decode b_Mo_curve 96 = .ok (.goto 4, 3) := by decide +kernel
theorem d_Mo_curve_99 : decode b_Mo_curve 99 = .ok (.iconst 0, 1) := by decide +kernel
theorem d_Mo_curve_100 : decode b_Mo_curve 100 = .ok (.istore 22, 2) := by decide +kernel
theorem d_Mo_curve_102 : decode b_Mo_curve 102 = .ok (.iload 21, 2) := by decide +kernel
theorem d_Mo_curve_104 : decode b_Mo_curve 104 = .ok (.ifCond .ne 38, 3) := by decide +kernel
theorem d_Mo_curve_107 : decode b_Mo_curve 107 = .ok (.lload_n 3, 1) := by decide +kernel
theorem d_Mo_curve_108 : decode b_Mo_curve 108 = .ok (.lload 7, 2) := by decide +kernel
theorem d_Mo_curve_110 : decode b_Mo_curve 110 = .ok (.lcmp, 1) := by decide +kernel
theorem d_Mo_curve_111 : decode b_Mo_curve 111 = .ok (.ifCond .ne 31, 3) := by decide +kernel
theorem d_Mo_curve_114 : decode b_Mo_curve 114 = .ok (.lload 7, 2) := by decide +kernel
theorem d_Mo_curve_116 : decode b_Mo_curve 116 = .ok (.lload 11, 2) := by decide +kernel
theorem d_Mo_curve_118 : decode b_Mo_curve 118 = .ok (.lcmp, 1) := by decide +kernel
theorem d_Mo_curve_119 : decode b_Mo_curve 119 = .ok (.ifCond .ne 23, 3) := by decide +kernel
theorem d_Mo_curve_122 : decode b_Mo_curve 122 = .ok (.lload_n 1, 1) := by decide +kernel
theorem d_Mo_curve_123 : decode b_Mo_curve 123 = .ok (.lconst 0, 1) := by decide +kernel
theorem d_Mo_curve_124 : decode b_Mo_curve 124 = .ok (.lcmp, 1) := by decide +kernel
theorem d_Mo_curve_125 : decode b_Mo_curve 125 = .ok (.ifCond .ne 57, 3) := by decide +kernel
theorem d_Mo_curve_128 : decode b_Mo_curve 128 = .ok (.lload_n 3, 1) := by decide +kernel
theorem d_Mo_curve_129 : decode b_Mo_curve 129 = .ok (.lconst 0, 1) := by decide +kernel
theorem d_Mo_curve_130 : decode b_Mo_curve 130 = .ok (.lcmp, 1) := by decide +kernel
theorem d_Mo_curve_131 : decode b_Mo_curve 131 = .ok (.ifCond .ne 51, 3) := by decide +kernel
theorem d_Mo_curve_134 : decode b_Mo_curve 134 = .ok (.aload_n 0, 1) := by decide +kernel
theorem d_Mo_curve_135 : decode b_Mo_curve 135 = .ok (.iconst 1, 1) := by decide +kernel
theorem d_Mo_curve_136 : decode b_Mo_curve 136 = .ok (.putfield 300, 3) := by decide +kernel
theorem d_Mo_curve_139 : decode b_Mo_curve 139 = .ok (.goto 43, 3) := by decide +kernel
theorem d_Mo_curve_142 : decode b_Mo_curve 142 = .ok (.iload 22, 2) := by decide +kernel
theorem d_Mo_curve_144 : decode b_Mo_curve 144 = .ok (.ifCond .eq 38, 3) := by decide +kernel
theorem d_Mo_curve_147 : decode b_Mo_curve 147 = .ok (.iload 21, 2) := by decide +kernel
theorem d_Mo_curve_149 : decode b_Mo_curve 149 = .ok (.ifCond .eq 17, 3) := by decide +kernel
theorem d_Mo_curve_152 : decode b_Mo_curve 152 = .ok (.lload_n 1, 1) := by decide +kernel
theorem d_Mo_curve_153 : decode b_Mo_curve 153 = .ok (.lload 5, 2) := by decide +kernel
theorem d_Mo_curve_155 : decode b_Mo_curve 155 = .ok (.lload 9, 2) := by decide +kernel
theorem d_Mo_curve_157 : decode b_Mo_curve 157 = .ok (.invokestatic 310, 3) := by decide +kernel
theorem d_Mo_curve_160 : decode b_Mo_curve 160 = .ok (.ifCond .eq 22, 3) := by decide +kernel
theorem d_Mo_curve_163 : decode b_Mo_curve 163 = .ok (.goto 14, 3) := by decide +kernel
theorem d_Mo_curve_166 : decode b_Mo_curve 166 = .ok (.lload_n 3, 1) := by decide +kernel
theorem d_Mo_curve_167 : decode b_Mo_curve 167 = .ok (.lload 7, 2) := by decide +kernel
theorem d_Mo_curve_169 : decode b_Mo_curve 169 = .ok (.lload 11, 2) := by decide +kernel
theorem d_Mo_curve_171 : decode b_Mo_curve 171 = .ok (.invokestatic 310, 3) := by decide +kernel
theorem d_Mo_curve_174 : decode b_Mo_curve 174 = .ok (.ifCond .eq 8, 3) := by decide +kernel
theorem d_Mo_curve_177 : decode b_Mo_curve 177 = .ok (.aload_n 0, 1) := by decide +kernel
theorem d_Mo_curve_178 : decode b_Mo_curve 178 = .ok (.iconst 1, 1) := by decide +kernel
theorem d_Mo_curve_179 : decode b_Mo_curve 179 = .ok (.putfield 300, 3) := by decide +kernel
theorem d_Mo_curve_182 : decode b_Mo_curve 182 = .ok (.goto 73, 3) := by decide +kernel
theorem d_Mo_curve_185 : decode b_Mo_curve 185 = .ok (.lload 19, 2) := by decide +kernel
theorem d_Mo_curve_187 : decode b_Mo_curve 187 = .ok (.invokestatic 292, 3) := by decide +kernel
theorem d_Mo_curve_190 : decode b_Mo_curve 190 = .ok (.istore 21, 2) := by decide +kernel
theorem d_Mo_curve_192 : decode b_Mo_curve 192 = .ok (.iload 21, 2) := by decide +kernel
theorem d_Mo_curve_194 : decode b_Mo_curve 194 = .ok (.i2l, 1) := by decide +kernel
theorem d_Mo_curve_195 : decode b_Mo_curve 195 = .ok (.lload 13, 2) := by decide +kernel
theorem d_Mo_curve_197 : decode b_Mo_curve 197 = .ok (.lmul, 1) := by decide +kernel
theorem d_Mo_curve_198 : decode b_Mo_curve 198 = .ok (.lconst 0, 1) := by decide +kernel
theorem d_Mo_curve_199 : decode b_Mo_curve 199 = .ok (.lcmp, 1) := by decide +kernel
theorem d_Mo_curve_200 : decode b_Mo_curve 200 = .ok (.ifCond .lt 55, 3) := by decide +kernel
theorem d_Mo_curve_203 : decode b_Mo_curve 203 = .ok (.iload 21, 2) := by decide +kernel
theorem d_Mo_curve_205 : decode b_Mo_curve 205 = .ok (.i2l, 1) := by decide +kernel
theorem d_Mo_curve_206 : decode b_Mo_curve 206 = .ok (.lload 15, 2) := by decide +kernel
theorem d_Mo_curve_208 : decode b_Mo_curve 208 = .ok (.lmul, 1) := by decide +kernel
theorem d_Mo_curve_209 : decode b_Mo_curve 209 = .ok (.lconst 0, 1) := by decide +kernel
theorem d_Mo_curve_210 : decode b_Mo_curve 210 = .ok (.lcmp, 1) := by decide +kernel
theorem d_Mo_curve_211 : decode b_Mo_curve 211 = .ok (.ifCond .lt 44, 3) := by decide +kernel
theorem d_Mo_curve_214 : decode b_Mo_curve 214 = .ok (.iload 21, 2) := by decide +kernel
theorem d_Mo_curve_216 : decode b_Mo_curve 216 = .ok (.i2l, 1) := by decide +kernel
theorem d_Mo_curve_217 : decode b_Mo_curve 217 = .ok (.lload 17, 2) := by decide +kernel
theorem d_Mo_curve_219 : decode b_Mo_curve 219 = .ok (.lmul, 1) := by decide +kernel
theorem d_Mo_curve_220 : decode b_Mo_curve 220 = .ok (.lconst 0, 1) := by decide +kernel
theorem d_Mo_curve_221 : decode b_Mo_curve 221 = .ok (.lcmp, 1) := by decide +kernel
theorem d_Mo_curve_222 : decode b_Mo_curve 222 = .ok (.ifCond .lt 33, 3) := by decide +kernel
theorem d_Mo_curve_225 : decode b_Mo_curve 225 = .ok (.aload_n 0, 1) := by decide +kernel
theorem d_Mo_curve_226 : decode b_Mo_curve 226 = .ok (.iload 21, 2) := by decide +kernel
theorem d_Mo_curve_228 : decode b_Mo_curve 228 = .ok (.i2l, 1) := by decide +kernel
theorem d_Mo_curve_229 : decode b_Mo_curve 229 = .ok (.lload 13, 2) := by decide +kernel
theorem d_Mo_curve_231 : decode b_Mo_curve 231 = .ok (.lmul, 1) := by decide +kernel
theorem d_Mo_curve_232 : decode b_Mo_curve 232 = .ok (.iload 21, 2) := by decide +kernel
theorem d_Mo_curve_234 : decode b_Mo_curve 234 = .ok (.i2l, 1) := by decide +kernel
theorem d_Mo_curve_235 : decode b_Mo_curve 235 = .ok (.lload 15, 2) := by decide +kernel
theorem d_Mo_curve_237 : decode b_Mo_curve 237 = .ok (.lmul, 1) := by decide +kernel
theorem d_Mo_curve_238 : decode b_Mo_curve 238 = .ok (.iload 21, 2) := by decide +kernel
theorem d_Mo_curve_240 : decode b_Mo_curve 240 = .ok (.i2l, 1) := by decide +kernel
theorem d_Mo_curve_241 : decode b_Mo_curve 241 = .ok (.lload 17, 2) := by decide +kernel
theorem d_Mo_curve_243 : decode b_Mo_curve 243 = .ok (.lmul, 1) := by decide +kernel
theorem d_Mo_curve_244 : decode b_Mo_curve 244 = .ok (.invokevirtual 314, 3) := by decide +kernel
theorem d_Mo_curve_247 : decode b_Mo_curve 247 = .ok (.ifCond .eq 8, 3) := by decide +kernel
theorem d_Mo_curve_250 : decode b_Mo_curve 250 = .ok (.aload_n 0, 1) := by decide +kernel
theorem d_Mo_curve_251 : decode b_Mo_curve 251 = .ok (.iconst 1, 1) := by decide +kernel
theorem d_Mo_curve_252 : decode b_Mo_curve 252 = .ok (.putfield 300, 3) := by decide +kernel
theorem d_Mo_curve_255 : decode b_Mo_curve 255 = .ok (.aload_n 0, 1) := by decide +kernel
theorem d_Mo_curve_256 : decode b_Mo_curve 256 = .ok (.getfield 300, 3) := by decide +kernel
theorem d_Mo_curve_259 : decode b_Mo_curve 259 = .ok (.ifCond .eq 4, 3) := by decide +kernel
theorem d_Mo_curve_262 : decode b_Mo_curve 262 = .ok (.return_, 1) := by decide +kernel
theorem d_Mo_curve_263 : decode b_Mo_curve 263 = .ok (.lload_n 3, 1) := by decide +kernel
theorem d_Mo_curve_264 : decode b_Mo_curve 264 = .ok (.lconst 0, 1) := by decide +kernel
theorem d_Mo_curve_265 : decode b_Mo_curve 265 = .ok (.lcmp, 1) := by decide +kernel
theorem d_Mo_curve_266 : decode b_Mo_curve 266 = .ok (.ifCond .lt 7, 3) := by decide +kernel
theorem d_Mo_curve_269 : decode b_Mo_curve 269 = .ok (.iconst 1, 1) := by decide +kernel
theorem d_Mo_curve_270 : decode b_Mo_curve 270 = .ok (.goto 4, 3) := by decide +kernel
theorem d_Mo_curve_273 : decode b_Mo_curve 273 = .ok (.iconst 0, 1) := by decide +kernel
theorem d_Mo_curve_274 : decode b_Mo_curve 274 = .ok (.istore 21, 2) := by decide +kernel
theorem d_Mo_curve_276 : decode b_Mo_curve 276 = .ok (.lload 11, 2) := by decide +kernel
theorem d_Mo_curve_278 : decode b_Mo_curve 278 = .ok (.lconst 0, 1) := by decide +kernel
theorem d_Mo_curve_279 : decode b_Mo_curve 279 = .ok (.lcmp, 1) := by decide +kernel
theorem d_Mo_curve_280 : decode b_Mo_curve 280 = .ok (.ifCond .lt 7, 3) := by decide +kernel
theorem d_Mo_curve_283 : decode b_Mo_curve 283 = .ok (.iconst 1, 1) := by decide +kernel
theorem d_Mo_curve_284 : decode b_Mo_curve 284 = .ok (.goto 4, 3) := by decide +kernel
theorem d_Mo_curve_287 : decode b_Mo_curve 287 = .ok (.iconst 0, 1) := by decide +kernel
theorem d_Mo_curve_288 : decode b_Mo_curve 288 = .ok (.istore 22, 2) := by decide +kernel
theorem d_Mo_curve_290 : decode b_Mo_curve 290 = .ok (.iload 21, 2) := by decide +kernel
theorem d_Mo_curve_292 : decode b_Mo_curve 292 = .ok (.iload 22, 2) := by decide +kernel
theorem d_Mo_curve_294 : decode b_Mo_curve 294 = .ok (.if_icmp .eq 38, 3) := by decide +kernel
theorem d_Mo_curve_297 : decode b_Mo_curve 297 = .ok (.aload_n 0, 1) := by decide +kernel
theorem d_Mo_curve_298 : decode b_Mo_curve 298 = .ok (.iload 21, 2) := by decide +kernel
theorem d_Mo_curve_300 : decode b_Mo_curve 300 = .ok (.iload 22, 2) := by decide +kernel
theorem d_Mo_curve_302 : decode b_Mo_curve 302 = .ok (.aload_n 0, 1) := by decide +kernel
theorem d_Mo_curve_303 : decode b_Mo_curve 303 = .ok (.lload_n 1, 1) := by decide +kernel
theorem d_Mo_curve_304 : decode b_Mo_curve 304 = .ok (.lload_n 3, 1) := by decide +kernel
theorem d_Mo_curve_305 : decode b_Mo_curve 305 = .ok (.lload 5, 2) := by decide +kernel
theorem d_Mo_curve_307 : decode b_Mo_curve 307 = .ok (.lload 7, 2) := by decide +kernel
theorem d_Mo_curve_309 : decode b_Mo_curve 309 = .ok (.lload 9, 2) := by decide +kernel
theorem d_Mo_curve_311 : decode b_Mo_curve 311 = .ok (.lload 11, 2) := by decide +kernel
theorem d_Mo_curve_313 : decode b_Mo_curve 313 = .ok (.iload 22, 2) := by decide +kernel
theorem d_Mo_curve_315 : decode b_Mo_curve 315 = .ok (.ifCond .eq 7, 3) := by decide +kernel
theorem d_Mo_curve_318 : decode b_Mo_curve 318 = .ok (.iconst 1, 1) := by decide +kernel
theorem d_Mo_curve_319 : decode b_Mo_curve 319 = .ok (.goto 4, 3) := by decide +kernel
theorem d_Mo_curve_322 : decode b_Mo_curve 322 = .ok (.iconst (-1), 1) := by decide +kernel
theorem d_Mo_curve_323 : decode b_Mo_curve 323 = .ok (.invokevirtual 317, 3) := by decide +kernel
theorem d_Mo_curve_326 : decode b_Mo_curve 326 = .ok (.invokevirtual 306, 3) := by decide +kernel
theorem d_Mo_curve_329 : decode b_Mo_curve 329 = .ok (.goto 118, 3) := by decide +kernel
theorem d_Mo_curve_332 : decode b_Mo_curve 332 = .ok (.iload 21, 2) := by decide +kernel
theorem d_Mo_curve_334 : decode b_Mo_curve 334 = .ok (.ifCond .eq 13, 3) := by decide +kernel
theorem d_Mo_curve_337 : decode b_Mo_curve 337 = .ok (.lload 7, 2) := by decide +kernel
theorem d_Mo_curve_339 : decode b_Mo_curve 339 = .ok (.lconst 0, 1) := by decide +kernel
theorem d_Mo_curve_340 : decode b_Mo_curve 340 = .ok (.lcmp, 1) := by decide +kernel
theorem d_Mo_curve_341 : decode b_Mo_curve 341 = .ok (.ifCond .ge 106, 3) := by decide +kernel
theorem d_Mo_curve_344 : decode b_Mo_curve 344 = .ok (.goto 10, 3) := by decide +kernel
theorem d_Mo_curve_347 : decode b_Mo_curve 347 = .ok (.lload 7, 2) := by decide +kernel
theorem d_Mo_curve_349 : decode b_Mo_curve 349 = .ok (.lconst 0, 1) := by decide +kernel
theorem d_Mo_curve_350 : decode b_Mo_curve 350 = .ok (.lcmp, 1) := by decide +kernel
theorem d_Mo_curve_351 : decode b_Mo_curve 351 = .ok (.ifCond .le 96, 3) := by decide +kernel
theorem d_Mo_curve_354 : decode b_Mo_curve 354 = .ok (.lload 7, 2) := by decide +kernel
theorem d_Mo_curve_356 : decode b_Mo_curve 356 = .ok (.lload 7, 2) := by decide +kernel
theorem d_Mo_curve_358 : decode b_Mo_curve 358 = .ok (.lmul, 1) := by decide +kernel
theorem d_Mo_curve_359 : decode b_Mo_curve 359 = .ok (.lload_n 3, 1) := by decide +kernel
theorem d_Mo_curve_360 : decode b_Mo_curve 360 = .ok (.lload 11, 2) := by decide +kernel
theorem d_Mo_curve_362 : decode b_Mo_curve 362 = .ok (.lmul, 1) := by decide +kernel
theorem d_Mo_curve_363 : decode b_Mo_curve 363 = .ok (.lcmp, 1) := by decide +kernel
theorem d_Mo_curve_364 : decode b_Mo_curve 364 = .ok (.ifCond .le 83, 3) := by decide +kernel
theorem d_Mo_curve_367 : decode b_Mo_curve 367 = .ok (.aload_n 0, 1) := by decide +kernel
theorem d_Mo_curve_368 : decode b_Mo_curve 368 = .ok (.iload 21, 2) := by decide +kernel
theorem d_Mo_curve_370 : decode b_Mo_curve 370 = .ok (.iload 21, 2) := by decide +kernel
theorem d_Mo_curve_372 : decode b_Mo_curve 372 = .ok (.ifCond .ne 7, 3) := by decide +kernel
theorem d_Mo_curve_375 : decode b_Mo_curve 375 = .ok (.iconst 1, 1) := by decide +kernel
theorem d_Mo_curve_376 : decode b_Mo_curve 376 = .ok (.goto 4, 3) := by decide +kernel
theorem d_Mo_curve_379 : decode b_Mo_curve 379 = .ok (.iconst 0, 1) := by decide +kernel
theorem d_Mo_curve_380 : decode b_Mo_curve 380 = .ok (.aload_n 0, 1) := by decide +kernel
theorem d_Mo_curve_381 : decode b_Mo_curve 381 = .ok (.lload_n 1, 1) := by decide +kernel
theorem d_Mo_curve_382 : decode b_Mo_curve 382 = .ok (.lload_n 3, 1) := by decide +kernel
theorem d_Mo_curve_383 : decode b_Mo_curve 383 = .ok (.lload 5, 2) := by decide +kernel
theorem d_Mo_curve_385 : decode b_Mo_curve 385 = .ok (.lload 7, 2) := by decide +kernel
theorem d_Mo_curve_387 : decode b_Mo_curve 387 = .ok (.lload 9, 2) := by decide +kernel
theorem d_Mo_curve_389 : decode b_Mo_curve 389 = .ok (.lload 11, 2) := by decide +kernel
theorem d_Mo_curve_391 : decode b_Mo_curve 391 = .ok (.iload 21, 2) := by decide +kernel
theorem d_Mo_curve_393 : decode b_Mo_curve 393 = .ok (.ifCond .eq 7, 3) := by decide +kernel
theorem d_Mo_curve_396 : decode b_Mo_curve 396 = .ok (.iconst (-1), 1) := by decide +kernel
theorem d_Mo_curve_397 : decode b_Mo_curve 397 = .ok (.goto 4, 3) := by decide +kernel
theorem d_Mo_curve_400 : decode b_Mo_curve 400 = .ok (.iconst 1, 1) := by decide +kernel
theorem d_Mo_curve_401 : decode b_Mo_curve 401 = .ok (.invokevirtual 317, 3) := by decide +kernel
theorem d_Mo_curve_404 : decode b_Mo_curve 404 = .ok (.invokevirtual 306, 3) := by decide +kernel
theorem d_Mo_curve_407 : decode b_Mo_curve 407 = .ok (.aload_n 0, 1) := by decide +kernel
theorem d_Mo_curve_408 : decode b_Mo_curve 408 = .ok (.iload 21, 2) := by decide +kernel
theorem d_Mo_curve_410 : decode b_Mo_curve 410 = .ok (.ifCond .ne 7, 3) := by decide +kernel
theorem d_Mo_curve_413 : decode b_Mo_curve 413 = .ok (.iconst 1, 1) := by decide +kernel
theorem d_Mo_curve_414 : decode b_Mo_curve 414 = .ok (.goto 4, 3) := by decide +kernel
theorem d_Mo_curve_417 : decode b_Mo_curve 417 = .ok (.iconst 0, 1) := by decide +kernel
theorem d_Mo_curve_418 : decode b_Mo_curve 418 = .ok (.iload 21, 2) := by decide +kernel
theorem d_Mo_curve_420 : decode b_Mo_curve 420 = .ok (.aload_n 0, 1) := by decide +kernel
theorem d_Mo_curve_421 : decode b_Mo_curve 421 = .ok (.lload_n 1, 1) := by decide +kernel
theorem d_Mo_curve_422 : decode b_Mo_curve 422 = .ok (.lload_n 3, 1) := by decide +kernel
theorem d_Mo_curve_423 : decode b_Mo_curve 423 = .ok (.lload 5, 2) := by decide +kernel
theorem d_Mo_curve_425 : decode b_Mo_curve 425 = .ok (.lload 7, 2) := by decide +kernel
theorem d_Mo_curve_427 : decode b_Mo_curve 427 = .ok (.lload 9, 2) := by decide +kernel
theorem d_Mo_curve_429 : decode b_Mo_curve 429 = .ok (.lload 11, 2) := by decide +kernel
theorem d_Mo_curve_431 : decode b_Mo_curve 431 = .ok (.iload 21, 2) := by decide +kernel
theorem d_Mo_curve_433 : decode b_Mo_curve 433 = .ok (.ifCond .eq 7, 3) := by decide +kernel
theorem d_Mo_curve_436 : decode b_Mo_curve 436 = .ok (.iconst 1, 1) := by decide +kernel
theorem d_Mo_curve_437 : decode b_Mo_curve 437 = .ok (.goto 4, 3) := by decide +kernel
theorem d_Mo_curve_440 : decode b_Mo_curve 440 = .ok (.iconst (-1), 1) := by decide +kernel
theorem d_Mo_curve_441 : decode b_Mo_curve 441 = .ok (.invokevirtual 317, 3) := by decide +kernel
theorem d_Mo_curve_444 : decode b_Mo_curve 444 = .ok (.invokevirtual 306, 3) := by decide +kernel
theorem d_Mo_curve_447 : decode b_Mo_curve 447 = .ok (.return_, 1) := by decide +kernel
section
variable {p : Program} {l : Launch} {e : Env} {s : State} {m : MethodId} {args : Array Value} {below : List Frame} {meth : Method} {c : Code} {A : Nat → Prop} {dC : Nat → ClassId} {dI : Nat → Nat → Nat} {cy : Nat → ClassId}
def P_Mo_times_90  (z21 : Int64 × Int64 × Int64 × Int64 × Int32 × (Nat → Int64) → Option ((Nat → Int64))) (x3 : Int64) (x5 : Int64) (x11 : Int32) (x16 : Int64) (x18 : Int64) (a1_f : Nat → Int64) : Option ((Nat → Int64)) :=
  bd x11 6 <| bd x11 6 <| z21 (x3, x5, x18, (a1_f x11.toNatClampNeg), (x11 + (1 : Int32)), (vp_updL a1_f x11.toNatClampNeg (x16 &&& (4294967295 : Int64))))
set_option maxHeartbeats 4000000 in
set_option maxRecDepth 100000 in
theorem w_Mo_times_90 (C0 : Cx p s m args meth c A dC dI cy b_Mo_times 20 none "GlyphPageModel") (a1 : Nat) (a2 : Int64) (uu : (Nat → Int64)) (z21 : Int64 × Int64 × Int64 × Int64 × Int32 × (Nat → Int64) → Option ((Nat → Int64))) (hz21 : ∀ (x3 : Int64) (x5 : Int64) (x7 : Int64) (x9 : Int64) (x11 : Int32) (a1_f : Nat → Int64) (H : Heap) (locs : List Loc) (ls : Array Slot), z21 (x3, x5, x7, x9, x11, a1_f) = some uu → va_P (dC, dI) classes [(a1, .inl (cy 3, 6, .inr (.inl a1_f)))] H → va_D A [(a1, .inl (cy 3, 6, .inr (.inl a1_f)))] → va_S A s.heap H locs → lv_has ls 20 [(0, .ref a1), (3, .long x3), (5, .long x5), (7, .long x7), (9, .long x9), (11, .int x11)] → W p l e ({ frames := 0, cells := 0, slots := 0, locals := 0 } : Room) s m args below meth c H locs 0 0 (MQ below (va_Qv (fun _ : Unit => True) (fun _ t => va_P (dC, dI) classes [(a1, .inl (cy 3, 6, .inr (.inl uu)))] t.heap ∧ va_K (dC, dI) classes (TY cy) t ∧ va_D A [(a1, .inl (cy 3, 6, .inr (.inl uu)))]) A) args s 0 0 A) (F0 m 21 ls [])) (x3 : Int64) (x5 : Int64) (x11 : Int32) (x16 : Int64) (x18 : Int64) (a1_f : Nat → Int64) {H : Heap} {locs : List Loc} {ls : Array Slot} (h : P_Mo_times_90 z21 x3 x5 x11 x16 x18 a1_f = some uu) : va_P (dC, dI) classes [(a1, .inl (cy 3, 6, .inr (.inl a1_f)))] H → va_D A [(a1, .inl (cy 3, 6, .inr (.inl a1_f)))] → va_S A s.heap H locs → lv_has ls 20 [(0, .ref a1), (3, .long x3), (5, .long x5), (11, .int x11), (16, .long x16), (18, .long x18)] → W p l e ({ frames := 0, cells := 0, slots := 0, locals := 0 } : Room) s m args below meth c H locs 0 0 (MQ below (va_Qv (fun _ : Unit => True) (fun _ t => va_P (dC, dI) classes [(a1, .inl (cy 3, 6, .inr (.inl uu)))] t.heap ∧ va_K (dC, dI) classes (TY cy) t ∧ va_D A [(a1, .inl (cy 3, 6, .inr (.inl uu)))]) A) args s 0 0 A) (F0 m 90 ls []) := by
  intro hP hD hS hl
  obtain ⟨hx, hb, hr, hlocks, hml, hown, htsG, hA, hK⟩ := id C0
  unfold P_Mo_times_90 at h
  refine lv_aload_n hx hb d_Mo_times_90 rfl (lv_at hl 0 rfl) ?_
  refine lv_iload hx hb d_Mo_times_91 (lv_at hl 3 rfl) ?_
  obtain ⟨hin_1, h⟩ := bd_some h
  refine va_lald hx hb hK hP 0 3 rfl rfl hin_1 d_Mo_times_93 ?_
  refine lv_lstore (lv' := [(9, .long (a1_f x11.toNatClampNeg)), (0, .ref a1), (3, .long x3), (5, .long x5), (11, .int x11), (16, .long x16), (18, .long x18)]) hx hb d_Mo_times_94 hl (by decide) rfl (fun ls hl => ?_)
  refine lv_aload_n hx hb d_Mo_times_96 rfl (lv_at hl 1 rfl) ?_
  refine lv_iload hx hb d_Mo_times_97 (lv_at hl 4 rfl) ?_
  refine lv_lload hx hb d_Mo_times_99 (lv_at hl 5 rfl) ?_
  refine lv_ldc2 hx hb hown (htsG _ mW1130) d_Mo_times_101 ?_
  refine lv_land hx hb d_Mo_times_104 ?_
  obtain ⟨hin_2, h⟩ := bd_some h
  refine va_last hx hb hK hP hD hS 0 3 rfl rfl hin_2 d_Mo_times_105 (fun H locs hP hD hS => ?_)
  have hP : va_P (dC, dI) classes [(a1, .inl (cy 3, 6, .inr (.inl (vp_updL a1_f x11.toNatClampNeg (x16 &&& (4294967295 : Int64))))))] H := hP
  have hD : va_D A [(a1, .inl (cy 3, 6, .inr (.inl (vp_updL a1_f x11.toNatClampNeg (x16 &&& (4294967295 : Int64))))))] := hD
  refine lv_lload hx hb d_Mo_times_106 (lv_at hl 6 rfl) ?_
  refine lv_lstore (lv' := [(7, .long x18), (9, .long (a1_f x11.toNatClampNeg)), (0, .ref a1), (3, .long x3), (5, .long x5), (11, .int x11), (16, .long x16), (18, .long x18)]) hx hb d_Mo_times_108 hl (by decide) rfl (fun ls hl => ?_)
  refine lv_iinc (v := (x11 + (1 : Int32))) (lv' := [(11, .int (x11 + (1 : Int32))), (7, .long x18), (9, .long (a1_f x11.toNatClampNeg)), (0, .ref a1), (3, .long x3), (5, .long x5), (16, .long x16), (18, .long x18)]) hx hb d_Mo_times_110 hl (k := 5) rfl rfl (by decide) rfl (fun ls hl => ?_)
  refine lv_goto (tgt := 21) hx hb d_Mo_times_113 (by decide) ?_
  exact hz21 x3 x5 x18 (a1_f x11.toNatClampNeg) (x11 + (1 : Int32)) (vp_updL a1_f x11.toNatClampNeg (x16 &&& (4294967295 : Int64))) _ _ _ h hP hD hS (lv_sub hl [3, 4, 5, 1, 2, 0] rfl)
def P_Mo_times_65  (z21 : Int64 × Int64 × Int64 × Int64 × Int32 × (Nat → Int64) → Option ((Nat → Int64))) (x3 : Int64) (x5 : Int64) (x7 : Int64) (x11 : Int32) (x12 : Int64) (x14 : Int64) (x16 : Int64) (a1_f : Nat → Int64) : Option ((Nat → Int64)) :=
  P_Mo_times_90 z21 x3 x5 x11 x16 (((((x12.toUInt64 >>> ((32 : Int32).toInt64.toUInt64 &&& Int64.toUInt64 63)).toInt64) + ((x14.toUInt64 >>> ((32 : Int32).toInt64.toUInt64 &&& Int64.toUInt64 63)).toInt64)) + ((x7.toUInt64 >>> ((32 : Int32).toInt64.toUInt64 &&& Int64.toUInt64 63)).toInt64)) + ((x16.toUInt64 >>> ((32 : Int32).toInt64.toUInt64 &&& Int64.toUInt64 63)).toInt64)) a1_f
set_option maxHeartbeats 4000000 in
set_option maxRecDepth 100000 in
theorem w_Mo_times_65 (C0 : Cx p s m args meth c A dC dI cy b_Mo_times 20 none "GlyphPageModel") (a1 : Nat) (a2 : Int64) (uu : (Nat → Int64)) (z21 : Int64 × Int64 × Int64 × Int64 × Int32 × (Nat → Int64) → Option ((Nat → Int64))) (hz21 : ∀ (x3 : Int64) (x5 : Int64) (x7 : Int64) (x9 : Int64) (x11 : Int32) (a1_f : Nat → Int64) (H : Heap) (locs : List Loc) (ls : Array Slot), z21 (x3, x5, x7, x9, x11, a1_f) = some uu → va_P (dC, dI) classes [(a1, .inl (cy 3, 6, .inr (.inl a1_f)))] H → va_D A [(a1, .inl (cy 3, 6, .inr (.inl a1_f)))] → va_S A s.heap H locs → lv_has ls 20 [(0, .ref a1), (3, .long x3), (5, .long x5), (7, .long x7), (9, .long x9), (11, .int x11)] → W p l e ({ frames := 0, cells := 0, slots := 0, locals := 0 } : Room) s m args below meth c H locs 0 0 (MQ below (va_Qv (fun _ : Unit => True) (fun _ t => va_P (dC, dI) classes [(a1, .inl (cy 3, 6, .inr (.inl uu)))] t.heap ∧ va_K (dC, dI) classes (TY cy) t ∧ va_D A [(a1, .inl (cy 3, 6, .inr (.inl uu)))]) A) args s 0 0 A) (F0 m 21 ls [])) (x3 : Int64) (x5 : Int64) (x7 : Int64) (x11 : Int32) (x12 : Int64) (x14 : Int64) (x16 : Int64) (a1_f : Nat → Int64) {H : Heap} {locs : List Loc} {ls : Array Slot} (h : P_Mo_times_65 z21 x3 x5 x7 x11 x12 x14 x16 a1_f = some uu) : va_P (dC, dI) classes [(a1, .inl (cy 3, 6, .inr (.inl a1_f)))] H → va_D A [(a1, .inl (cy 3, 6, .inr (.inl a1_f)))] → va_S A s.heap H locs → lv_has ls 20 [(0, .ref a1), (3, .long x3), (5, .long x5), (7, .long x7), (11, .int x11), (12, .long x12), (14, .long x14), (16, .long x16)] → W p l e ({ frames := 0, cells := 0, slots := 0, locals := 0 } : Room) s m args below meth c H locs 0 0 (MQ below (va_Qv (fun _ : Unit => True) (fun _ t => va_P (dC, dI) classes [(a1, .inl (cy 3, 6, .inr (.inl uu)))] t.heap ∧ va_K (dC, dI) classes (TY cy) t ∧ va_D A [(a1, .inl (cy 3, 6, .inr (.inl uu)))]) A) args s 0 0 A) (F0 m 65 ls []) := by
  intro hP hD hS hl
  obtain ⟨hx, hb, hr, hlocks, hml, hown, htsG, hA, hK⟩ := id C0
  unfold P_Mo_times_65 at h
  refine lv_lload hx hb d_Mo_times_65 (lv_at hl 5 rfl) ?_
  refine lv_bipush (v := (32 : Int32)) hx hb d_Mo_times_67 (by decide) ?_
  refine lv_lushr hx hb d_Mo_times_69 rfl ?_
  refine lv_lload hx hb d_Mo_times_70 (lv_at hl 6 rfl) ?_
  refine lv_bipush (v := (32 : Int32)) hx hb d_Mo_times_72 (by decide) ?_
  refine lv_lushr hx hb d_Mo_times_74 rfl ?_
  refine lv_ladd hx hb d_Mo_times_75 ?_
  refine lv_lload hx hb d_Mo_times_76 (lv_at hl 3 rfl) ?_
  refine lv_bipush (v := (32 : Int32)) hx hb d_Mo_times_78 (by decide) ?_
  refine lv_lushr hx hb d_Mo_times_80 rfl ?_
  refine lv_ladd hx hb d_Mo_times_81 ?_
  refine lv_lload hx hb d_Mo_times_82 (lv_at hl 7 rfl) ?_
  refine lv_bipush (v := (32 : Int32)) hx hb d_Mo_times_84 (by decide) ?_
  refine lv_lushr hx hb d_Mo_times_86 rfl ?_
  refine lv_ladd hx hb d_Mo_times_87 ?_
  refine lv_lstore (lv' := [(18, .long (((((x12.toUInt64 >>> ((32 : Int32).toInt64.toUInt64 &&& Int64.toUInt64 63)).toInt64) + ((x14.toUInt64 >>> ((32 : Int32).toInt64.toUInt64 &&& Int64.toUInt64 63)).toInt64)) + ((x7.toUInt64 >>> ((32 : Int32).toInt64.toUInt64 &&& Int64.toUInt64 63)).toInt64)) + ((x16.toUInt64 >>> ((32 : Int32).toInt64.toUInt64 &&& Int64.toUInt64 63)).toInt64))), (0, .ref a1), (3, .long x3), (5, .long x5), (7, .long x7), (11, .int x11), (12, .long x12), (14, .long x14), (16, .long x16)]) hx hb d_Mo_times_88 hl (by decide) rfl (fun ls hl => ?_)
  exact w_Mo_times_90 C0 a1 a2 uu z21 hz21 x3 x5 x11 x16 (((((x12.toUInt64 >>> ((32 : Int32).toInt64.toUInt64 &&& Int64.toUInt64 63)).toInt64) + ((x14.toUInt64 >>> ((32 : Int32).toInt64.toUInt64 &&& Int64.toUInt64 63)).toInt64)) + ((x7.toUInt64 >>> ((32 : Int32).toInt64.toUInt64 &&& Int64.toUInt64 63)).toInt64)) + ((x16.toUInt64 >>> ((32 : Int32).toInt64.toUInt64 &&& Int64.toUInt64 63)).toInt64)) a1_f h hP hD hS (lv_sub hl [1, 2, 3, 5, 8, 0] rfl)
def P_Mo_times_21b   (z21 : Int64 × Int64 × Int64 × Int64 × Int32 × (Nat → Int64) → Option ((Nat → Int64))) (x3 : Int64) (x5 : Int64) (x7 : Int64) (x9 : Int64) (x11 : Int32) (a1_f : Nat → Int64) : Option ((Nat → Int64)) :=
  if (6 : Int32) ≤ x11 then (some a1_f) else (bd x11 6 <| P_Mo_times_65 z21 x3 x5 x7 x11 ((a1_f x11.toNatClampNeg) * x3) (x9 * x5) (((((a1_f x11.toNatClampNeg) * x3) &&& (4294967295 : Int64)) + ((x9 * x5) &&& (4294967295 : Int64))) + (x7 &&& (4294967295 : Int64))) a1_f)
def L_Mo_times_21   : (Int64 × Int64 × Int64 × Int64 × Int32 × (Nat → Int64) → Option ((Nat → Int64))) → (Int64 × Int64 × Int64 × Int64 × Int32 × (Nat → Int64)) → Option ((Nat → Int64)) :=
  fun z => unp fun x3 => unp fun x5 => unp fun x7 => unp fun x9 => unp fun x11 a1_f => P_Mo_times_21b  z x3 x5 x7 x9 x11 a1_f
def P_Mo_times_21   (x3 : Int64) (x5 : Int64) (x7 : Int64) (x9 : Int64) (x11 : Int32) (a1_f : Nat → Int64) : Option ((Nat → Int64)) :=
  lp (L_Mo_times_21 ) fuel (x3, x5, x7, x9, x11, a1_f)
theorem e_Mo_times_21   (n : Nat) (x3 : Int64) (x5 : Int64) (x7 : Int64) (x9 : Int64) (x11 : Int32) (a1_f : Nat → Int64) : lp (L_Mo_times_21 ) (n + 1) (x3, x5, x7, x9, x11, a1_f) = P_Mo_times_21b  (lp (L_Mo_times_21 ) n) x3 x5 x7 x9 x11 a1_f := rfl
set_option maxHeartbeats 4000000 in
set_option maxRecDepth 100000 in
theorem w_Mo_times_21b (C0 : Cx p s m args meth c A dC dI cy b_Mo_times 20 none "GlyphPageModel") (a1 : Nat) (a2 : Int64) (uu : (Nat → Int64))  (z21 : Int64 × Int64 × Int64 × Int64 × Int32 × (Nat → Int64) → Option ((Nat → Int64))) (hz21 : ∀ (x3 : Int64) (x5 : Int64) (x7 : Int64) (x9 : Int64) (x11 : Int32) (a1_f : Nat → Int64) (H : Heap) (locs : List Loc) (ls : Array Slot), z21 (x3, x5, x7, x9, x11, a1_f) = some uu → va_P (dC, dI) classes [(a1, .inl (cy 3, 6, .inr (.inl a1_f)))] H → va_D A [(a1, .inl (cy 3, 6, .inr (.inl a1_f)))] → va_S A s.heap H locs → lv_has ls 20 [(0, .ref a1), (3, .long x3), (5, .long x5), (7, .long x7), (9, .long x9), (11, .int x11)] → W p l e ({ frames := 0, cells := 0, slots := 0, locals := 0 } : Room) s m args below meth c H locs 0 0 (MQ below (va_Qv (fun _ : Unit => True) (fun _ t => va_P (dC, dI) classes [(a1, .inl (cy 3, 6, .inr (.inl uu)))] t.heap ∧ va_K (dC, dI) classes (TY cy) t ∧ va_D A [(a1, .inl (cy 3, 6, .inr (.inl uu)))]) A) args s 0 0 A) (F0 m 21 ls [])) (x3 : Int64) (x5 : Int64) (x7 : Int64) (x9 : Int64) (x11 : Int32) (a1_f : Nat → Int64) {H : Heap} {locs : List Loc} {ls : Array Slot} (h : P_Mo_times_21b z21 x3 x5 x7 x9 x11 a1_f = some uu) : va_P (dC, dI) classes [(a1, .inl (cy 3, 6, .inr (.inl a1_f)))] H → va_D A [(a1, .inl (cy 3, 6, .inr (.inl a1_f)))] → va_S A s.heap H locs → lv_has ls 20 [(0, .ref a1), (3, .long x3), (5, .long x5), (7, .long x7), (9, .long x9), (11, .int x11)] → W p l e ({ frames := 0, cells := 0, slots := 0, locals := 0 } : Room) s m args below meth c H locs 0 0 (MQ below (va_Qv (fun _ : Unit => True) (fun _ t => va_P (dC, dI) classes [(a1, .inl (cy 3, 6, .inr (.inl uu)))] t.heap ∧ va_K (dC, dI) classes (TY cy) t ∧ va_D A [(a1, .inl (cy 3, 6, .inr (.inl uu)))]) A) args s 0 0 A) (F0 m 21 ls []) := by
  intro hP hD hS hl
  obtain ⟨hx, hb, hr, hlocks, hml, hown, htsG, hA, hK⟩ := id C0
  unfold P_Mo_times_21b at h
  refine lv_iload hx hb d_Mo_times_21 (lv_at hl 5 rfl) ?_
  refine lv_bipush (v := (6 : Int32)) hx hb d_Mo_times_23 (by decide) ?_
  refine lv_icmp_ge (tgt := 116) hx hb d_Mo_times_25 (by decide) (fun c_1 => ?_) (fun c_1 => ?_)
  · replace h := (if_pos c_1).symm.trans h
    cases h
    exact W.vret hx hb hr (fun t ht hW => ⟨⟨(), rfl, trivial, by rw [ht]; exact hP, va_K.moved hW.alike hK, hD⟩, hS.F ht⟩) hS.2.2 d_Mo_times_116 hlocks
  · replace h := (if_neg c_1).symm.trans h
    refine lv_aload_n hx hb d_Mo_times_28 rfl (lv_at hl 0 rfl) ?_
    refine lv_iload hx hb d_Mo_times_29 (lv_at hl 5 rfl) ?_
    obtain ⟨hin_2, h⟩ := bd_some h
    refine va_lald hx hb hK hP 0 3 rfl rfl hin_2 d_Mo_times_31 ?_
    refine lv_lload_n hx hb d_Mo_times_32 rfl (lv_at hl 1 rfl) ?_
    refine lv_lmul hx hb d_Mo_times_33 ?_
    refine lv_lstore (lv' := [(12, .long ((a1_f x11.toNatClampNeg) * x3)), (0, .ref a1), (3, .long x3), (5, .long x5), (7, .long x7), (9, .long x9), (11, .int x11)]) hx hb d_Mo_times_34 hl (by decide) rfl (fun ls hl => ?_)
    refine lv_lload hx hb d_Mo_times_36 (lv_at hl 5 rfl) ?_
    refine lv_lload hx hb d_Mo_times_38 (lv_at hl 3 rfl) ?_
    refine lv_lmul hx hb d_Mo_times_40 ?_
    refine lv_lstore (lv' := [(14, .long (x9 * x5)), (12, .long ((a1_f x11.toNatClampNeg) * x3)), (0, .ref a1), (3, .long x3), (5, .long x5), (7, .long x7), (9, .long x9), (11, .int x11)]) hx hb d_Mo_times_41 hl (by decide) rfl (fun ls hl => ?_)
    refine lv_lload hx hb d_Mo_times_43 (lv_at hl 1 rfl) ?_
    refine lv_ldc2 hx hb hown (htsG _ mW1130) d_Mo_times_45 ?_
    refine lv_land hx hb d_Mo_times_48 ?_
    refine lv_lload hx hb d_Mo_times_49 (lv_at hl 0 rfl) ?_
    refine lv_ldc2 hx hb hown (htsG _ mW1130) d_Mo_times_51 ?_
    refine lv_land hx hb d_Mo_times_54 ?_
    refine lv_ladd hx hb d_Mo_times_55 ?_
    refine lv_lload hx hb d_Mo_times_56 (lv_at hl 5 rfl) ?_
    refine lv_ldc2 hx hb hown (htsG _ mW1130) d_Mo_times_58 ?_
    refine lv_land hx hb d_Mo_times_61 ?_
    refine lv_ladd hx hb d_Mo_times_62 ?_
    refine lv_lstore (lv' := [(16, .long (((((a1_f x11.toNatClampNeg) * x3) &&& (4294967295 : Int64)) + ((x9 * x5) &&& (4294967295 : Int64))) + (x7 &&& (4294967295 : Int64)))), (14, .long (x9 * x5)), (12, .long ((a1_f x11.toNatClampNeg) * x3)), (0, .ref a1), (3, .long x3), (5, .long x5), (7, .long x7), (9, .long x9), (11, .int x11)]) hx hb d_Mo_times_63 hl (by decide) rfl (fun ls hl => ?_)
    exact w_Mo_times_65 C0 a1 a2 uu z21 hz21 x3 x5 x7 x11 ((a1_f x11.toNatClampNeg) * x3) (x9 * x5) (((((a1_f x11.toNatClampNeg) * x3) &&& (4294967295 : Int64)) + ((x9 * x5) &&& (4294967295 : Int64))) + (x7 &&& (4294967295 : Int64))) a1_f h hP hD hS (lv_sub hl [3, 4, 5, 6, 8, 2, 1, 0] rfl)
theorem w_Mo_times_21 (C0 : Cx p s m args meth c A dC dI cy b_Mo_times 20 none "GlyphPageModel") (a1 : Nat) (a2 : Int64) (uu : (Nat → Int64))  (x3 : Int64) (x5 : Int64) (x7 : Int64) (x9 : Int64) (x11 : Int32) (a1_f : Nat → Int64) {H : Heap} {locs : List Loc} {ls : Array Slot} (h : P_Mo_times_21 x3 x5 x7 x9 x11 a1_f = some uu) : va_P (dC, dI) classes [(a1, .inl (cy 3, 6, .inr (.inl a1_f)))] H → va_D A [(a1, .inl (cy 3, 6, .inr (.inl a1_f)))] → va_S A s.heap H locs → lv_has ls 20 [(0, .ref a1), (3, .long x3), (5, .long x5), (7, .long x7), (9, .long x9), (11, .int x11)] → W p l e ({ frames := 0, cells := 0, slots := 0, locals := 0 } : Room) s m args below meth c H locs 0 0 (MQ below (va_Qv (fun _ : Unit => True) (fun _ t => va_P (dC, dI) classes [(a1, .inl (cy 3, 6, .inr (.inl uu)))] t.heap ∧ va_K (dC, dI) classes (TY cy) t ∧ va_D A [(a1, .inl (cy 3, 6, .inr (.inl uu)))]) A) args s 0 0 A) (F0 m 21 ls []) := by
  have key : ∀ (n : Nat) (x3 : Int64) (x5 : Int64) (x7 : Int64) (x9 : Int64) (x11 : Int32) (a1_f : Nat → Int64) (H : Heap) (locs : List Loc) (ls : Array Slot), lp (L_Mo_times_21 ) n (x3, x5, x7, x9, x11, a1_f) = some uu → va_P (dC, dI) classes [(a1, .inl (cy 3, 6, .inr (.inl a1_f)))] H → va_D A [(a1, .inl (cy 3, 6, .inr (.inl a1_f)))] → va_S A s.heap H locs → lv_has ls 20 [(0, .ref a1), (3, .long x3), (5, .long x5), (7, .long x7), (9, .long x9), (11, .int x11)] → W p l e ({ frames := 0, cells := 0, slots := 0, locals := 0 } : Room) s m args below meth c H locs 0 0 (MQ below (va_Qv (fun _ : Unit => True) (fun _ t => va_P (dC, dI) classes [(a1, .inl (cy 3, 6, .inr (.inl uu)))] t.heap ∧ va_K (dC, dI) classes (TY cy) t ∧ va_D A [(a1, .inl (cy 3, 6, .inr (.inl uu)))]) A) args s 0 0 A) (F0 m 21 ls []) := by
    intro n
    induction n with
    | zero => intro x3 x5 x7 x9 x11 a1_f H locs ls h; cases h
    | succ n ih => intro x3 x5 x7 x9 x11 a1_f H locs ls h; exact w_Mo_times_21b C0 a1 a2 uu  (lp (L_Mo_times_21 ) n) ih x3 x5 x7 x9 x11 a1_f ((e_Mo_times_21  n x3 x5 x7 x9 x11 a1_f).symm.trans h)
  exact key fuel x3 x5 x7 x9 x11 a1_f H locs ls h
def P_Mo_times (a1_f : Nat → Int64) (a2 : Int64) : Option ((Nat → Int64)) :=
  P_Mo_times_21 (a2 &&& (4294967295 : Int64)) ((a2.toUInt64 >>> ((32 : Int32).toInt64.toUInt64 &&& Int64.toUInt64 63)).toInt64) (0 : Int64) (0 : Int64) (0 : Int32) a1_f
set_option maxHeartbeats 4000000 in
set_option maxRecDepth 100000 in
theorem c_Mo_times (l : Launch) (dC : Nat → ClassId) (dI : Nat → Nat → Nat) (cy : Nat → ClassId) (sz : Nat) (a1 : Nat) (a1_f : Nat → Int64) (a2 : Int64) (uu : (Nat → Int64)) (h : P_Mo_times a1_f a2 = some uu) : Met l y_Mo_times (Cond.code y_Mo_times b_Mo_times 20 none :: G) ({ frames := 0, cells := 0, slots := 0, locals := 0 } : Room) (va_Pc [.ref a1, .long a2] (fun U => U.heap.size = sz ∧ va_P (dC, dI) classes [(a1, .inl (cy 3, 6, .inr (.inl a1_f)))] U.heap ∧ va_K (dC, dI) classes (TY cy) U ∧ va_D (fun _ => True) [(a1, .inl (cy 3, 6, .inr (.inl a1_f)))])) (va_Qv (fun _ : Unit => True) (fun _ t => va_P (dC, dI) classes [(a1, .inl (cy 3, 6, .inr (.inl uu)))] t.heap ∧ va_K (dC, dI) classes (TY cy) t ∧ va_D (va_A [(a1, .inl (cy 3, 6, .inr (.inl a1_f)))] sz) [(a1, .inl (cy 3, 6, .inr (.inl uu)))]) (va_A [(a1, .inl (cy 3, 6, .inr (.inl a1_f)))] sz)) 0 0 (va_A [(a1, .inl (cy 3, 6, .inr (.inl a1_f)))] sz) := by
  refine Met.ofW (cc := b_Mo_times) (maxL := 20) (ret := none) (by decide) rfl ?_
  intro p e s m args below meth c s₁ B hml hv
  obtain ⟨rfl, hsz, hP, hK, hD0⟩ := hv
  have hx := B.exec
  have hb := B.bytes
  have hr := B.returns
  have hts := atoms_spec (ws := Cond.code y_Mo_times b_Mo_times 20 none :: G) B.pre
  have htsG : ∀ w ∈ G, w.before _ s = true := fun w hw => hts w (List.mem_cons_of_mem _ hw)
  have hown : s.vm.findClass "GlyphPageModel" = some m.cls := findClass_of_methodNamed B.named
  have hlocks := B.notSynchronized
  subst hsz
  have hD := hD0.self (sz := s.heap.size)
  generalize hAe : va_A [(a1, .inl (cy 3, 6, .inr (.inl a1_f)))] s.heap.size = A at hD ⊢
  have hA : ∀ q : Nat, s.heap.size ≤ q → A q := fun q h => by rw [← hAe]; exact Or.inr h
  have hS : va_S A s.heap s.heap [] := va_S.rf
  have hl := lv_entry ([.ref a1, .long a2]) (n := 20) (Nat.le_of_ble_eq_true rfl)
  rw [lg_entry_eq]
  generalize (lg_sl ([.ref a1, .long a2]) ++ List.replicate (20 - (lg_sl ([.ref a1, .long a2])).length) Slot.unset).toArray = ls at hl ⊢
  have hl : lv_has ls 20 [(0, .ref a1), (1, .long a2)] := hl
  have C0 : Cx p s m _ meth c A dC dI cy b_Mo_times 20 none "GlyphPageModel" := ⟨hx, hb, hr, hlocks, hml, hown, htsG, hA, hK⟩
  unfold P_Mo_times at h
  refine lv_lload_n hx hb d_Mo_times_0 rfl (lv_at hl 1 rfl) ?_
  refine lv_ldc2 hx hb hown (htsG _ mW1130) d_Mo_times_1 ?_
  refine lv_land hx hb d_Mo_times_4 ?_
  refine lv_lstore_n (lv' := [(3, .long (a2 &&& (4294967295 : Int64))), (0, .ref a1), (1, .long a2)]) hx hb d_Mo_times_5 rfl hl (by decide) rfl (fun ls hl => ?_)
  refine lv_lload_n hx hb d_Mo_times_6 rfl (lv_at hl 2 rfl) ?_
  refine lv_bipush (v := (32 : Int32)) hx hb d_Mo_times_7 (by decide) ?_
  refine lv_lushr hx hb d_Mo_times_9 rfl ?_
  refine lv_lstore (lv' := [(5, .long ((a2.toUInt64 >>> ((32 : Int32).toInt64.toUInt64 &&& Int64.toUInt64 63)).toInt64)), (3, .long (a2 &&& (4294967295 : Int64))), (0, .ref a1), (1, .long a2)]) hx hb d_Mo_times_10 hl (by decide) rfl (fun ls hl => ?_)
  refine lv_lconst (v := (0 : Int64)) hx hb d_Mo_times_12 (by decide) ?_
  refine lv_lstore (lv' := [(7, .long (0 : Int64)), (5, .long ((a2.toUInt64 >>> ((32 : Int32).toInt64.toUInt64 &&& Int64.toUInt64 63)).toInt64)), (3, .long (a2 &&& (4294967295 : Int64))), (0, .ref a1), (1, .long a2)]) hx hb d_Mo_times_13 hl (by decide) rfl (fun ls hl => ?_)
  refine lv_lconst (v := (0 : Int64)) hx hb d_Mo_times_15 (by decide) ?_
  refine lv_lstore (lv' := [(9, .long (0 : Int64)), (7, .long (0 : Int64)), (5, .long ((a2.toUInt64 >>> ((32 : Int32).toInt64.toUInt64 &&& Int64.toUInt64 63)).toInt64)), (3, .long (a2 &&& (4294967295 : Int64))), (0, .ref a1), (1, .long a2)]) hx hb d_Mo_times_16 hl (by decide) rfl (fun ls hl => ?_)
  refine lv_iconst (v := (0 : Int32)) hx hb d_Mo_times_18 (by decide) ?_
  refine lv_istore (lv' := [(11, .int (0 : Int32)), (9, .long (0 : Int64)), (7, .long (0 : Int64)), (5, .long ((a2.toUInt64 >>> ((32 : Int32).toInt64.toUInt64 &&& Int64.toUInt64 63)).toInt64)), (3, .long (a2 &&& (4294967295 : Int64))), (0, .ref a1), (1, .long a2)]) hx hb d_Mo_times_19 hl (by decide) rfl (fun ls hl => ?_)
  exact w_Mo_times_21 C0 a1 a2 uu  (a2 &&& (4294967295 : Int64)) ((a2.toUInt64 >>> ((32 : Int32).toInt64.toUInt64 &&& Int64.toUInt64 63)).toInt64) (0 : Int64) (0 : Int64) (0 : Int32) a1_f h hP hD hS (lv_sub hl [5, 4, 3, 2, 1, 0] rfl)
def P_Mo_product_23  (z3 : Int64 × Int64 × Int64 × Int32 × (Nat → Int64) → Option ((Nat → Int64))) (x1 : Int64) (x3 : Int64) (x5 : Int64) (x7 : Int32) (k0 : Int64) (k1 : Int32) (a1_f : Nat → Int64) : Option ((Nat → Int64)) :=
  bd k1 6 <| z3 (x1, x3, x5, (x7 + (1 : Int32)), (vp_updL a1_f k1.toNatClampNeg k0))
set_option maxHeartbeats 4000000 in
set_option maxRecDepth 100000 in
theorem w_Mo_product_23 (C0 : Cx p s m args meth c A dC dI cy b_Mo_product 8 none "GlyphPageModel") (a1 : Nat) (a2 : Int64) (a3 : Int64) (a4 : Int64) (uu : (Nat → Int64)) (z3 : Int64 × Int64 × Int64 × Int32 × (Nat → Int64) → Option ((Nat → Int64))) (hz3 : ∀ (x1 : Int64) (x3 : Int64) (x5 : Int64) (x7 : Int32) (a1_f : Nat → Int64) (H : Heap) (locs : List Loc) (ls : Array Slot), z3 (x1, x3, x5, x7, a1_f) = some uu → va_P (dC, dI) classes [(a1, .inl (cy 3, 6, .inr (.inl a1_f)))] H → va_D A [(a1, .inl (cy 3, 6, .inr (.inl a1_f)))] → va_S A s.heap H locs → lv_has ls 8 [(0, .ref a1), (1, .long x1), (3, .long x3), (5, .long x5), (7, .int x7)] → W p l e ({ frames := 1, cells := 0, slots := 0, locals := 39 } : Room) s m args below meth c H locs 0 0 (MQ below (va_Qv (fun _ : Unit => True) (fun _ t => va_P (dC, dI) classes [(a1, .inl (cy 3, 6, .inr (.inl uu)))] t.heap ∧ va_K (dC, dI) classes (TY cy) t ∧ va_D A [(a1, .inl (cy 3, 6, .inr (.inl uu)))]) A) args s 0 0 A) (F0 m 3 ls [])) (x1 : Int64) (x3 : Int64) (x5 : Int64) (x7 : Int32) (k0 : Int64) (k1 : Int32) (a1_f : Nat → Int64) {H : Heap} {locs : List Loc} {ls : Array Slot} (h : P_Mo_product_23 z3 x1 x3 x5 x7 k0 k1 a1_f = some uu) : va_P (dC, dI) classes [(a1, .inl (cy 3, 6, .inr (.inl a1_f)))] H → va_D A [(a1, .inl (cy 3, 6, .inr (.inl a1_f)))] → va_S A s.heap H locs → lv_has ls 8 [(0, .ref a1), (1, .long x1), (3, .long x3), (5, .long x5), (7, .int x7)] → W p l e ({ frames := 1, cells := 0, slots := 0, locals := 39 } : Room) s m args below meth c H locs 0 0 (MQ below (va_Qv (fun _ : Unit => True) (fun _ t => va_P (dC, dI) classes [(a1, .inl (cy 3, 6, .inr (.inl uu)))] t.heap ∧ va_K (dC, dI) classes (TY cy) t ∧ va_D A [(a1, .inl (cy 3, 6, .inr (.inl uu)))]) A) args s 0 0 A) (F0 m 23 ls [.long k0, .int k1, .ref a1]) := by
  intro hP hD hS hl
  obtain ⟨hx, hb, hr, hlocks, hml, hown, htsG, hA, hK⟩ := id C0
  unfold P_Mo_product_23 at h
  obtain ⟨hin_1, h⟩ := bd_some h
  refine va_last hx hb hK hP hD hS 0 3 rfl rfl hin_1 d_Mo_product_23 (fun H locs hP hD hS => ?_)
  have hP : va_P (dC, dI) classes [(a1, .inl (cy 3, 6, .inr (.inl (vp_updL a1_f k1.toNatClampNeg k0))))] H := hP
  have hD : va_D A [(a1, .inl (cy 3, 6, .inr (.inl (vp_updL a1_f k1.toNatClampNeg k0))))] := hD
  refine lv_iinc (v := (x7 + (1 : Int32))) (lv' := [(7, .int (x7 + (1 : Int32))), (0, .ref a1), (1, .long x1), (3, .long x3), (5, .long x5)]) hx hb d_Mo_product_24 hl (k := 4) rfl rfl (by decide) rfl (fun ls hl => ?_)
  refine lv_goto (tgt := 3) hx hb d_Mo_product_27 (by decide) ?_
  exact hz3 x1 x3 x5 (x7 + (1 : Int32)) (vp_updL a1_f k1.toNatClampNeg k0) _ _ _ h hP hD hS (lv_sub hl [1, 2, 3, 4, 0] rfl)
def P_Mo_product_3b   (z3 : Int64 × Int64 × Int64 × Int32 × (Nat → Int64) → Option ((Nat → Int64))) (x1 : Int64) (x3 : Int64) (x5 : Int64) (x7 : Int32) (a1_f : Nat → Int64) : Option ((Nat → Int64)) :=
  if (6 : Int32) ≤ x7 then ((P_Mo_times a1_f x1).bind fun n_2 => (P_Mo_times n_2 x3).bind fun n_3 => (P_Mo_times n_3 x5).bind fun n_4 => some n_4) else (if x7 = 0 then (P_Mo_product_23 z3 x1 x3 x5 x7 (1 : Int64) x7 a1_f) else (P_Mo_product_23 z3 x1 x3 x5 x7 (0 : Int64) x7 a1_f))
def L_Mo_product_3   : (Int64 × Int64 × Int64 × Int32 × (Nat → Int64) → Option ((Nat → Int64))) → (Int64 × Int64 × Int64 × Int32 × (Nat → Int64)) → Option ((Nat → Int64)) :=
  fun z => unp fun x1 => unp fun x3 => unp fun x5 => unp fun x7 a1_f => P_Mo_product_3b  z x1 x3 x5 x7 a1_f
def P_Mo_product_3   (x1 : Int64) (x3 : Int64) (x5 : Int64) (x7 : Int32) (a1_f : Nat → Int64) : Option ((Nat → Int64)) :=
  lp (L_Mo_product_3 ) fuel (x1, x3, x5, x7, a1_f)
theorem e_Mo_product_3   (n : Nat) (x1 : Int64) (x3 : Int64) (x5 : Int64) (x7 : Int32) (a1_f : Nat → Int64) : lp (L_Mo_product_3 ) (n + 1) (x1, x3, x5, x7, a1_f) = P_Mo_product_3b  (lp (L_Mo_product_3 ) n) x1 x3 x5 x7 a1_f := rfl
set_option maxHeartbeats 4000000 in
set_option maxRecDepth 100000 in
theorem w_Mo_product_3b (C0 : Cx p s m args meth c A dC dI cy b_Mo_product 8 none "GlyphPageModel") (a1 : Nat) (a2 : Int64) (a3 : Int64) (a4 : Int64) (uu : (Nat → Int64))  (z3 : Int64 × Int64 × Int64 × Int32 × (Nat → Int64) → Option ((Nat → Int64))) (hz3 : ∀ (x1 : Int64) (x3 : Int64) (x5 : Int64) (x7 : Int32) (a1_f : Nat → Int64) (H : Heap) (locs : List Loc) (ls : Array Slot), z3 (x1, x3, x5, x7, a1_f) = some uu → va_P (dC, dI) classes [(a1, .inl (cy 3, 6, .inr (.inl a1_f)))] H → va_D A [(a1, .inl (cy 3, 6, .inr (.inl a1_f)))] → va_S A s.heap H locs → lv_has ls 8 [(0, .ref a1), (1, .long x1), (3, .long x3), (5, .long x5), (7, .int x7)] → W p l e ({ frames := 1, cells := 0, slots := 0, locals := 39 } : Room) s m args below meth c H locs 0 0 (MQ below (va_Qv (fun _ : Unit => True) (fun _ t => va_P (dC, dI) classes [(a1, .inl (cy 3, 6, .inr (.inl uu)))] t.heap ∧ va_K (dC, dI) classes (TY cy) t ∧ va_D A [(a1, .inl (cy 3, 6, .inr (.inl uu)))]) A) args s 0 0 A) (F0 m 3 ls [])) (x1 : Int64) (x3 : Int64) (x5 : Int64) (x7 : Int32) (a1_f : Nat → Int64) {H : Heap} {locs : List Loc} {ls : Array Slot} (h : P_Mo_product_3b z3 x1 x3 x5 x7 a1_f = some uu) : va_P (dC, dI) classes [(a1, .inl (cy 3, 6, .inr (.inl a1_f)))] H → va_D A [(a1, .inl (cy 3, 6, .inr (.inl a1_f)))] → va_S A s.heap H locs → lv_has ls 8 [(0, .ref a1), (1, .long x1), (3, .long x3), (5, .long x5), (7, .int x7)] → W p l e ({ frames := 1, cells := 0, slots := 0, locals := 39 } : Room) s m args below meth c H locs 0 0 (MQ below (va_Qv (fun _ : Unit => True) (fun _ t => va_P (dC, dI) classes [(a1, .inl (cy 3, 6, .inr (.inl uu)))] t.heap ∧ va_K (dC, dI) classes (TY cy) t ∧ va_D A [(a1, .inl (cy 3, 6, .inr (.inl uu)))]) A) args s 0 0 A) (F0 m 3 ls []) := by
  intro hP hD hS hl
  obtain ⟨hx, hb, hr, hlocks, hml, hown, htsG, hA, hK⟩ := id C0
  unfold P_Mo_product_3b at h
  refine lv_iload hx hb d_Mo_product_3 (lv_at hl 4 rfl) ?_
  refine lv_bipush (v := (6 : Int32)) hx hb d_Mo_product_5 (by decide) ?_
  refine lv_icmp_ge (tgt := 30) hx hb d_Mo_product_7 (by decide) (fun c_1 => ?_) (fun c_1 => ?_)
  · replace h := (if_pos c_1).symm.trans h
    refine lv_aload_n hx hb d_Mo_product_30 rfl (lv_at hl 0 rfl) ?_
    refine lv_lload_n hx hb d_Mo_product_31 rfl (lv_at hl 1 rfl) ?_
    obtain ⟨n_2, hq, h⟩ := Option.bind_eq_some_iff.mp h
    try dsimp only at h
    have hPc := hP.sub (ws' := [(a1, .inl (cy 3, 6, .inr (.inl a1_f)))]) [0] rfl
    have hDc := hD.sub (ws' := [(a1, .inl (cy 3, 6, .inr (.inl a1_f)))]) [0] (by decide) rfl
    have hFc := va_free (wc := [(a1, .inl (cy 3, 6, .inr (.inl a1_f)))]) hD hS hA [0] rfl
    refine va_callv (va_runS (As := [.ref a1, .long x1]) (rest := []) ⟨hx, hb, hml, hown, htsG⟩ (c_Mo_times l dC dI cy H.size a1 a1_f x1 n_2 hq) (va_cwS 2 htsG (gS mW1127 mW1128 mW9 mW1129) rfl rfl rfl (by decide +kernel) ⟨Nat.le_of_ble_eq_true rfl, Nat.le_of_ble_eq_true rfl⟩) ⟨fun a U g mk q => by obtain ⟨q0, q1, qP, qK, qD⟩ := q; exact ⟨q0, q1, qP, va_K.moved (u := U) (U := U.calling g mk a) (Vm.Alike.refl U.vm) qK, qD⟩, fun U hU hW => ⟨rfl, by rw [hU], by rw [hU]; exact hPc, va_K.moved hW.alike hK, hDc.weaken (fun _ _ _ _ => trivial)⟩⟩ rfl rfl hl.1 rfl (lv_room (Nat.le_of_ble_eq_true rfl)) d_Mo_product_32 ⟨Nat.le_of_ble_eq_true rfl, Nat.le_of_ble_eq_true rfl⟩) hS (fun q _ h => hFc q h) hFc (fun u t H1 locs ht hvm hw hB hz1 hk1 hS => ?_)
    obtain ⟨hP1, hK1, hD1⟩ := hB
    rw [ht] at hP1
    obtain ⟨hP, hD⟩ := va_join (wr := []) (w1 := [(a1, .inl (cy 3, 6, .inr (.inl n_2)))]) hP hD [0] [] rfl rfl (by decide) (by decide) hk1 hFc hP1 hD1
    generalize H1 = H at hP hS ⊢
    have hP := hP.sub (ws' := [(a1, .inl (cy 3, 6, .inr (.inl n_2)))]) [0] rfl
    have hD := hD.sub (ws' := [(a1, .inl (cy 3, 6, .inr (.inl n_2)))]) [0] (by decide) rfl
    refine W.widen (k := 0) (n := 0) (by decide) (by decide) ?_
    refine lv_aload_n hx hb d_Mo_product_35 rfl (lv_at hl 0 rfl) ?_
    refine lv_lload_n hx hb d_Mo_product_36 rfl (lv_at hl 2 rfl) ?_
    obtain ⟨n_3, hq, h⟩ := Option.bind_eq_some_iff.mp h
    try dsimp only at h
    have hPc := hP.sub (ws' := [(a1, .inl (cy 3, 6, .inr (.inl n_2)))]) [0] rfl
    have hDc := hD.sub (ws' := [(a1, .inl (cy 3, 6, .inr (.inl n_2)))]) [0] (by decide) rfl
    have hFc := va_free (wc := [(a1, .inl (cy 3, 6, .inr (.inl n_2)))]) hD hS hA [0] rfl
    refine va_callv (va_runS (As := [.ref a1, .long x3]) (rest := []) ⟨hx, hb, hml, hown, htsG⟩ (c_Mo_times l dC dI cy H.size a1 n_2 x3 n_3 hq) (va_cwS 2 htsG (gS mW1127 mW1128 mW9 mW1129) rfl rfl rfl (by decide +kernel) ⟨Nat.le_of_ble_eq_true rfl, Nat.le_of_ble_eq_true rfl⟩) ⟨fun a U g mk q => by obtain ⟨q0, q1, qP, qK, qD⟩ := q; exact ⟨q0, q1, qP, va_K.moved (u := U) (U := U.calling g mk a) (Vm.Alike.refl U.vm) qK, qD⟩, fun U hU hW => ⟨rfl, by rw [hU], by rw [hU]; exact hPc, va_K.moved hW.alike hK, hDc.weaken (fun _ _ _ _ => trivial)⟩⟩ rfl rfl hl.1 rfl (lv_room (Nat.le_of_ble_eq_true rfl)) d_Mo_product_37 ⟨Nat.le_of_ble_eq_true rfl, Nat.le_of_ble_eq_true rfl⟩) hS (fun q _ h => hFc q h) hFc (fun u t H1 locs ht hvm hw hB hz1 hk1 hS => ?_)
    obtain ⟨hP1, hK1, hD1⟩ := hB
    rw [ht] at hP1
    obtain ⟨hP, hD⟩ := va_join (wr := []) (w1 := [(a1, .inl (cy 3, 6, .inr (.inl n_3)))]) hP hD [0] [] rfl rfl (by decide) (by decide) hk1 hFc hP1 hD1
    generalize H1 = H at hP hS ⊢
    have hP := hP.sub (ws' := [(a1, .inl (cy 3, 6, .inr (.inl n_3)))]) [0] rfl
    have hD := hD.sub (ws' := [(a1, .inl (cy 3, 6, .inr (.inl n_3)))]) [0] (by decide) rfl
    refine W.widen (k := 0) (n := 0) (by decide) (by decide) ?_
    refine lv_aload_n hx hb d_Mo_product_40 rfl (lv_at hl 0 rfl) ?_
    refine lv_lload hx hb d_Mo_product_41 (lv_at hl 3 rfl) ?_
    obtain ⟨n_4, hq, h⟩ := Option.bind_eq_some_iff.mp h
    try dsimp only at h
    have hPc := hP.sub (ws' := [(a1, .inl (cy 3, 6, .inr (.inl n_3)))]) [0] rfl
    have hDc := hD.sub (ws' := [(a1, .inl (cy 3, 6, .inr (.inl n_3)))]) [0] (by decide) rfl
    have hFc := va_free (wc := [(a1, .inl (cy 3, 6, .inr (.inl n_3)))]) hD hS hA [0] rfl
    refine va_callv (va_runS (As := [.ref a1, .long x5]) (rest := []) ⟨hx, hb, hml, hown, htsG⟩ (c_Mo_times l dC dI cy H.size a1 n_3 x5 n_4 hq) (va_cwS 2 htsG (gS mW1127 mW1128 mW9 mW1129) rfl rfl rfl (by decide +kernel) ⟨Nat.le_of_ble_eq_true rfl, Nat.le_of_ble_eq_true rfl⟩) ⟨fun a U g mk q => by obtain ⟨q0, q1, qP, qK, qD⟩ := q; exact ⟨q0, q1, qP, va_K.moved (u := U) (U := U.calling g mk a) (Vm.Alike.refl U.vm) qK, qD⟩, fun U hU hW => ⟨rfl, by rw [hU], by rw [hU]; exact hPc, va_K.moved hW.alike hK, hDc.weaken (fun _ _ _ _ => trivial)⟩⟩ rfl rfl hl.1 rfl (lv_room (Nat.le_of_ble_eq_true rfl)) d_Mo_product_43 ⟨Nat.le_of_ble_eq_true rfl, Nat.le_of_ble_eq_true rfl⟩) hS (fun q _ h => hFc q h) hFc (fun u t H1 locs ht hvm hw hB hz1 hk1 hS => ?_)
    obtain ⟨hP1, hK1, hD1⟩ := hB
    rw [ht] at hP1
    obtain ⟨hP, hD⟩ := va_join (wr := []) (w1 := [(a1, .inl (cy 3, 6, .inr (.inl n_4)))]) hP hD [0] [] rfl rfl (by decide) (by decide) hk1 hFc hP1 hD1
    generalize H1 = H at hP hS ⊢
    have hP := hP.sub (ws' := [(a1, .inl (cy 3, 6, .inr (.inl n_4)))]) [0] rfl
    have hD := hD.sub (ws' := [(a1, .inl (cy 3, 6, .inr (.inl n_4)))]) [0] (by decide) rfl
    refine W.widen (k := 0) (n := 0) (by decide) (by decide) ?_
    cases h
    exact W.vret hx hb hr (fun t ht hW => ⟨⟨(), rfl, trivial, by rw [ht]; exact hP, va_K.moved hW.alike hK, hD⟩, hS.F ht⟩) hS.2.2 d_Mo_product_46 hlocks
  · replace h := (if_neg c_1).symm.trans h
    refine lv_aload_n hx hb d_Mo_product_10 rfl (lv_at hl 0 rfl) ?_
    refine lv_iload hx hb d_Mo_product_11 (lv_at hl 4 rfl) ?_
    refine lv_iload hx hb d_Mo_product_13 (lv_at hl 4 rfl) ?_
    refine lv_if_ne (tgt := 22) hx hb d_Mo_product_15 (by decide) (fun c_5 => ?_) (fun c_5 => ?_)
    · replace h := (if_neg c_5).symm.trans h
      refine lv_lconst (v := (0 : Int64)) hx hb d_Mo_product_22 (by decide) ?_
      exact w_Mo_product_23 C0 a1 a2 a3 a4 uu z3 hz3 x1 x3 x5 x7 (0 : Int64) x7 a1_f h hP hD hS (lv_sub hl [0, 1, 2, 3, 4] rfl)
    · replace h := (if_pos c_5).symm.trans h
      refine lv_lconst (v := (1 : Int64)) hx hb d_Mo_product_18 (by decide) ?_
      refine lv_goto (tgt := 23) hx hb d_Mo_product_19 (by decide) ?_
      exact w_Mo_product_23 C0 a1 a2 a3 a4 uu z3 hz3 x1 x3 x5 x7 (1 : Int64) x7 a1_f h hP hD hS (lv_sub hl [0, 1, 2, 3, 4] rfl)
theorem w_Mo_product_3 (C0 : Cx p s m args meth c A dC dI cy b_Mo_product 8 none "GlyphPageModel") (a1 : Nat) (a2 : Int64) (a3 : Int64) (a4 : Int64) (uu : (Nat → Int64))  (x1 : Int64) (x3 : Int64) (x5 : Int64) (x7 : Int32) (a1_f : Nat → Int64) {H : Heap} {locs : List Loc} {ls : Array Slot} (h : P_Mo_product_3 x1 x3 x5 x7 a1_f = some uu) : va_P (dC, dI) classes [(a1, .inl (cy 3, 6, .inr (.inl a1_f)))] H → va_D A [(a1, .inl (cy 3, 6, .inr (.inl a1_f)))] → va_S A s.heap H locs → lv_has ls 8 [(0, .ref a1), (1, .long x1), (3, .long x3), (5, .long x5), (7, .int x7)] → W p l e ({ frames := 1, cells := 0, slots := 0, locals := 39 } : Room) s m args below meth c H locs 0 0 (MQ below (va_Qv (fun _ : Unit => True) (fun _ t => va_P (dC, dI) classes [(a1, .inl (cy 3, 6, .inr (.inl uu)))] t.heap ∧ va_K (dC, dI) classes (TY cy) t ∧ va_D A [(a1, .inl (cy 3, 6, .inr (.inl uu)))]) A) args s 0 0 A) (F0 m 3 ls []) := by
  have key : ∀ (n : Nat) (x1 : Int64) (x3 : Int64) (x5 : Int64) (x7 : Int32) (a1_f : Nat → Int64) (H : Heap) (locs : List Loc) (ls : Array Slot), lp (L_Mo_product_3 ) n (x1, x3, x5, x7, a1_f) = some uu → va_P (dC, dI) classes [(a1, .inl (cy 3, 6, .inr (.inl a1_f)))] H → va_D A [(a1, .inl (cy 3, 6, .inr (.inl a1_f)))] → va_S A s.heap H locs → lv_has ls 8 [(0, .ref a1), (1, .long x1), (3, .long x3), (5, .long x5), (7, .int x7)] → W p l e ({ frames := 1, cells := 0, slots := 0, locals := 39 } : Room) s m args below meth c H locs 0 0 (MQ below (va_Qv (fun _ : Unit => True) (fun _ t => va_P (dC, dI) classes [(a1, .inl (cy 3, 6, .inr (.inl uu)))] t.heap ∧ va_K (dC, dI) classes (TY cy) t ∧ va_D A [(a1, .inl (cy 3, 6, .inr (.inl uu)))]) A) args s 0 0 A) (F0 m 3 ls []) := by
    intro n
    induction n with
    | zero => intro x1 x3 x5 x7 a1_f H locs ls h; cases h
    | succ n ih => intro x1 x3 x5 x7 a1_f H locs ls h; exact w_Mo_product_3b C0 a1 a2 a3 a4 uu  (lp (L_Mo_product_3 ) n) ih x1 x3 x5 x7 a1_f ((e_Mo_product_3  n x1 x3 x5 x7 a1_f).symm.trans h)
  exact key fuel x1 x3 x5 x7 a1_f H locs ls h
def P_Mo_product (a1_f : Nat → Int64) (a2 : Int64) (a3 : Int64) (a4 : Int64) : Option ((Nat → Int64)) :=
  P_Mo_product_3 a2 a3 a4 (0 : Int32) a1_f
set_option maxHeartbeats 4000000 in
set_option maxRecDepth 100000 in
theorem c_Mo_product (l : Launch) (dC : Nat → ClassId) (dI : Nat → Nat → Nat) (cy : Nat → ClassId) (sz : Nat) (a1 : Nat) (a1_f : Nat → Int64) (a2 : Int64) (a3 : Int64) (a4 : Int64) (uu : (Nat → Int64)) (h : P_Mo_product a1_f a2 a3 a4 = some uu) : Met l y_Mo_product (Cond.code y_Mo_product b_Mo_product 8 none :: G) ({ frames := 1, cells := 0, slots := 0, locals := 39 } : Room) (va_Pc [.ref a1, .long a2, .long a3, .long a4] (fun U => U.heap.size = sz ∧ va_P (dC, dI) classes [(a1, .inl (cy 3, 6, .inr (.inl a1_f)))] U.heap ∧ va_K (dC, dI) classes (TY cy) U ∧ va_D (fun _ => True) [(a1, .inl (cy 3, 6, .inr (.inl a1_f)))])) (va_Qv (fun _ : Unit => True) (fun _ t => va_P (dC, dI) classes [(a1, .inl (cy 3, 6, .inr (.inl uu)))] t.heap ∧ va_K (dC, dI) classes (TY cy) t ∧ va_D (va_A [(a1, .inl (cy 3, 6, .inr (.inl a1_f)))] sz) [(a1, .inl (cy 3, 6, .inr (.inl uu)))]) (va_A [(a1, .inl (cy 3, 6, .inr (.inl a1_f)))] sz)) 0 0 (va_A [(a1, .inl (cy 3, 6, .inr (.inl a1_f)))] sz) := by
  refine Met.ofW (cc := b_Mo_product) (maxL := 8) (ret := none) (by decide) rfl ?_
  intro p e s m args below meth c s₁ B hml hv
  obtain ⟨rfl, hsz, hP, hK, hD0⟩ := hv
  have hx := B.exec
  have hb := B.bytes
  have hr := B.returns
  have hts := atoms_spec (ws := Cond.code y_Mo_product b_Mo_product 8 none :: G) B.pre
  have htsG : ∀ w ∈ G, w.before _ s = true := fun w hw => hts w (List.mem_cons_of_mem _ hw)
  have hown : s.vm.findClass "GlyphPageModel" = some m.cls := findClass_of_methodNamed B.named
  have hlocks := B.notSynchronized
  subst hsz
  have hD := hD0.self (sz := s.heap.size)
  generalize hAe : va_A [(a1, .inl (cy 3, 6, .inr (.inl a1_f)))] s.heap.size = A at hD ⊢
  have hA : ∀ q : Nat, s.heap.size ≤ q → A q := fun q h => by rw [← hAe]; exact Or.inr h
  have hS : va_S A s.heap s.heap [] := va_S.rf
  have hl := lv_entry ([.ref a1, .long a2, .long a3, .long a4]) (n := 8) (Nat.le_of_ble_eq_true rfl)
  rw [lg_entry_eq]
  generalize (lg_sl ([.ref a1, .long a2, .long a3, .long a4]) ++ List.replicate (8 - (lg_sl ([.ref a1, .long a2, .long a3, .long a4])).length) Slot.unset).toArray = ls at hl ⊢
  have hl : lv_has ls 8 [(0, .ref a1), (1, .long a2), (3, .long a3), (5, .long a4)] := hl
  have C0 : Cx p s m _ meth c A dC dI cy b_Mo_product 8 none "GlyphPageModel" := ⟨hx, hb, hr, hlocks, hml, hown, htsG, hA, hK⟩
  unfold P_Mo_product at h
  refine lv_iconst (v := (0 : Int32)) hx hb d_Mo_product_0 (by decide) ?_
  refine lv_istore (lv' := [(7, .int (0 : Int32)), (0, .ref a1), (1, .long a2), (3, .long a3), (5, .long a4)]) hx hb d_Mo_product_1 hl (by decide) rfl (fun ls hl => ?_)
  exact w_Mo_product_3 C0 a1 a2 a3 a4 uu  a2 a3 a4 (0 : Int32) a1_f h hP hD hS (lv_sub hl [1, 2, 3, 4, 0] rfl)
def P_Mo_compare_24b   (z24 : Int32 × (Nat → Int64) × (Nat → Int64) → Option (Int32 × (Nat → Int64) × (Nat → Int64))) (x7 : Int32) (o_first_f : Nat → Int64) (o_second_f : Nat → Int64) : Option (Int32 × (Nat → Int64) × (Nat → Int64)) :=
  if x7 < 0 then (some ((0 : Int32), o_first_f, o_second_f)) else (bd x7 6 <| bd x7 6 <| if (lg_cmp (o_first_f x7.toNatClampNeg) (o_second_f x7.toNatClampNeg)) = 0 then (z24 ((x7 + (-1 : Int32)), o_first_f, o_second_f)) else (bd x7 6 <| bd x7 6 <| if 0 ≤ (lg_cmp (o_first_f x7.toNatClampNeg) (o_second_f x7.toNatClampNeg)) then (some ((1 : Int32), o_first_f, o_second_f)) else (some ((-1 : Int32), o_first_f, o_second_f))))
def L_Mo_compare_24   : (Int32 × (Nat → Int64) × (Nat → Int64) → Option (Int32 × (Nat → Int64) × (Nat → Int64))) → (Int32 × (Nat → Int64) × (Nat → Int64)) → Option (Int32 × (Nat → Int64) × (Nat → Int64)) :=
  fun z => unp fun x7 => unp fun o_first_f o_second_f => P_Mo_compare_24b  z x7 o_first_f o_second_f
def P_Mo_compare_24   (x7 : Int32) (o_first_f : Nat → Int64) (o_second_f : Nat → Int64) : Option (Int32 × (Nat → Int64) × (Nat → Int64)) :=
  lp (L_Mo_compare_24 ) fuel (x7, o_first_f, o_second_f)
theorem e_Mo_compare_24   (n : Nat) (x7 : Int32) (o_first_f : Nat → Int64) (o_second_f : Nat → Int64) : lp (L_Mo_compare_24 ) (n + 1) (x7, o_first_f, o_second_f) = P_Mo_compare_24b  (lp (L_Mo_compare_24 ) n) x7 o_first_f o_second_f := rfl
set_option maxHeartbeats 4000000 in
set_option maxRecDepth 100000 in
theorem w_Mo_compare_24b (C0 : Cx p s m args meth c A dC dI cy b_Mo_compare 8 (some .int) "GlyphPageModel") (o : Nat) (o_page : Nat) (o_tape : Nat) (o_spare : Nat) (o_lineFrom : Nat) (o_lineTo : Nat) (o_lineWidth : Nat) (o_flag : Nat) (o_px : Nat) (o_py : Nat) (o_first : Nat) (o_second : Nat) (o_width : Int32) (o_height : Int32) (o_tapeLength : Int32) (o_font : Option Nat) (o_scale : Int32) (o_lines : Int32) (o_at : Int32) (o_end : Int32) (o_good : Int32) (o_touches : Int32) (o_turns : Int32) (a1 : Int64) (a2 : Int64) (a3 : Int64) (uu : Int32 × (Nat → Int64) × (Nat → Int64))  (z24 : Int32 × (Nat → Int64) × (Nat → Int64) → Option (Int32 × (Nat → Int64) × (Nat → Int64))) (hz24 : ∀ (x7 : Int32) (o_first_f : Nat → Int64) (o_second_f : Nat → Int64) (H : Heap) (locs : List Loc) (ls : Array Slot), z24 (x7, o_first_f, o_second_f) = some uu → va_P (dC, dI) classes [(o, .inr (9, [.int o_width, .int o_height, .ref o_page, .ref o_tape, .int o_tapeLength, va_rf o_font, .ref o_spare, .int o_scale, .ref o_lineFrom, .ref o_lineTo, .ref o_lineWidth, .int o_lines, .int o_at, .int o_end, .int o_good, .ref o_flag, .ref o_px, .ref o_py, .int o_touches, .ref o_first, .ref o_second, .int o_turns])), (o_first, .inl (cy 3, 6, .inr (.inl o_first_f))), (o_second, .inl (cy 3, 6, .inr (.inl o_second_f)))] H → va_D A [(o, .inr (9, [.int o_width, .int o_height, .ref o_page, .ref o_tape, .int o_tapeLength, va_rf o_font, .ref o_spare, .int o_scale, .ref o_lineFrom, .ref o_lineTo, .ref o_lineWidth, .int o_lines, .int o_at, .int o_end, .int o_good, .ref o_flag, .ref o_px, .ref o_py, .int o_touches, .ref o_first, .ref o_second, .int o_turns])), (o_first, .inl (cy 3, 6, .inr (.inl o_first_f))), (o_second, .inl (cy 3, 6, .inr (.inl o_second_f)))] → va_S A s.heap H locs → lv_has ls 8 [(0, .ref o), (7, .int x7)] → W p l e ({ frames := 2, cells := 0, slots := 0, locals := 66 } : Room) s m args below meth c H locs 0 0 (MQ below (va_Qi (fun r (_ : Unit) => r = uu.1) (fun _ t => va_P (dC, dI) classes [(o, .inr (9, [.int o_width, .int o_height, .ref o_page, .ref o_tape, .int o_tapeLength, va_rf o_font, .ref o_spare, .int o_scale, .ref o_lineFrom, .ref o_lineTo, .ref o_lineWidth, .int o_lines, .int o_at, .int o_end, .int o_good, .ref o_flag, .ref o_px, .ref o_py, .int o_touches, .ref o_first, .ref o_second, .int o_turns])), (o_first, .inl (cy 3, 6, .inr (.inl uu.2.1))), (o_second, .inl (cy 3, 6, .inr (.inl uu.2.2)))] t.heap ∧ va_K (dC, dI) classes (TY cy) t ∧ va_D A [(o, .inr (9, [.int o_width, .int o_height, .ref o_page, .ref o_tape, .int o_tapeLength, va_rf o_font, .ref o_spare, .int o_scale, .ref o_lineFrom, .ref o_lineTo, .ref o_lineWidth, .int o_lines, .int o_at, .int o_end, .int o_good, .ref o_flag, .ref o_px, .ref o_py, .int o_touches, .ref o_first, .ref o_second, .int o_turns])), (o_first, .inl (cy 3, 6, .inr (.inl uu.2.1))), (o_second, .inl (cy 3, 6, .inr (.inl uu.2.2)))]) A) args s 0 0 A) (F0 m 24 ls [])) (x7 : Int32) (o_first_f : Nat → Int64) (o_second_f : Nat → Int64) {H : Heap} {locs : List Loc} {ls : Array Slot} (h : P_Mo_compare_24b z24 x7 o_first_f o_second_f = some uu) : va_P (dC, dI) classes [(o, .inr (9, [.int o_width, .int o_height, .ref o_page, .ref o_tape, .int o_tapeLength, va_rf o_font, .ref o_spare, .int o_scale, .ref o_lineFrom, .ref o_lineTo, .ref o_lineWidth, .int o_lines, .int o_at, .int o_end, .int o_good, .ref o_flag, .ref o_px, .ref o_py, .int o_touches, .ref o_first, .ref o_second, .int o_turns])), (o_first, .inl (cy 3, 6, .inr (.inl o_first_f))), (o_second, .inl (cy 3, 6, .inr (.inl o_second_f)))] H → va_D A [(o, .inr (9, [.int o_width, .int o_height, .ref o_page, .ref o_tape, .int o_tapeLength, va_rf o_font, .ref o_spare, .int o_scale, .ref o_lineFrom, .ref o_lineTo, .ref o_lineWidth, .int o_lines, .int o_at, .int o_end, .int o_good, .ref o_flag, .ref o_px, .ref o_py, .int o_touches, .ref o_first, .ref o_second, .int o_turns])), (o_first, .inl (cy 3, 6, .inr (.inl o_first_f))), (o_second, .inl (cy 3, 6, .inr (.inl o_second_f)))] → va_S A s.heap H locs → lv_has ls 8 [(0, .ref o), (7, .int x7)] → W p l e ({ frames := 2, cells := 0, slots := 0, locals := 66 } : Room) s m args below meth c H locs 0 0 (MQ below (va_Qi (fun r (_ : Unit) => r = uu.1) (fun _ t => va_P (dC, dI) classes [(o, .inr (9, [.int o_width, .int o_height, .ref o_page, .ref o_tape, .int o_tapeLength, va_rf o_font, .ref o_spare, .int o_scale, .ref o_lineFrom, .ref o_lineTo, .ref o_lineWidth, .int o_lines, .int o_at, .int o_end, .int o_good, .ref o_flag, .ref o_px, .ref o_py, .int o_touches, .ref o_first, .ref o_second, .int o_turns])), (o_first, .inl (cy 3, 6, .inr (.inl uu.2.1))), (o_second, .inl (cy 3, 6, .inr (.inl uu.2.2)))] t.heap ∧ va_K (dC, dI) classes (TY cy) t ∧ va_D A [(o, .inr (9, [.int o_width, .int o_height, .ref o_page, .ref o_tape, .int o_tapeLength, va_rf o_font, .ref o_spare, .int o_scale, .ref o_lineFrom, .ref o_lineTo, .ref o_lineWidth, .int o_lines, .int o_at, .int o_end, .int o_good, .ref o_flag, .ref o_px, .ref o_py, .int o_touches, .ref o_first, .ref o_second, .int o_turns])), (o_first, .inl (cy 3, 6, .inr (.inl uu.2.1))), (o_second, .inl (cy 3, 6, .inr (.inl uu.2.2)))]) A) args s 0 0 A) (F0 m 24 ls []) := by
  intro hP hD hS hl
  obtain ⟨hx, hb, hr, hlocks, hml, hown, htsG, hA, hK⟩ := id C0
  unfold P_Mo_compare_24b at h
  refine lv_iload hx hb d_Mo_compare_24 (lv_at hl 1 rfl) ?_
  refine lv_if_lt (tgt := 77) hx hb d_Mo_compare_26 (by decide) (fun c_1 => ?_) (fun c_1 => ?_)
  · replace h := (if_pos c_1).symm.trans h
    refine lv_iconst (v := (0 : Int32)) hx hb d_Mo_compare_77 (by decide) ?_
    cases h
    exact W.iret hx hb hr (fun t ht hW => ⟨⟨_, (), rfl, rfl, by rw [ht]; exact hP, va_K.moved hW.alike hK, hD⟩, hS.F ht⟩) hS.2.2 d_Mo_compare_78 hlocks
  · replace h := (if_neg c_1).symm.trans h
    refine lv_aload_n hx hb d_Mo_compare_29 rfl (lv_at hl 0 rfl) ?_
    refine va_get (D := (dC, dI)) (ci := 9) (v := .ref o_first) (C := "GlyphPageModel") (T := F_Mo) (N := 22) hx hb htsG iG_Mo hown hK hP 0 rfl rfl 19 (by decide) (htsG _ mW875) (fun _ h9 => h9) rfl d_Mo_compare_30 ?_
    refine lv_iload hx hb d_Mo_compare_33 (lv_at hl 1 rfl) ?_
    obtain ⟨hin_2, h⟩ := bd_some h
    refine va_lald hx hb hK hP 1 3 rfl rfl hin_2 d_Mo_compare_35 ?_
    refine lv_aload_n hx hb d_Mo_compare_36 rfl (lv_at hl 0 rfl) ?_
    refine va_get (D := (dC, dI)) (ci := 9) (v := .ref o_second) (C := "GlyphPageModel") (T := F_Mo) (N := 22) hx hb htsG iG_Mo hown hK hP 0 rfl rfl 20 (by decide) (htsG _ mW876) (fun _ h9 => h9) rfl d_Mo_compare_37 ?_
    refine lv_iload hx hb d_Mo_compare_40 (lv_at hl 1 rfl) ?_
    obtain ⟨hin_3, h⟩ := bd_some h
    refine va_lald hx hb hK hP 2 3 rfl rfl hin_3 d_Mo_compare_42 ?_
    refine W.lcmp hx hb d_Mo_compare_43 ?_
    refine lv_if_eq (tgt := 71) hx hb d_Mo_compare_44 (by decide) (fun c_4 => ?_) (fun c_4 => ?_)
    · replace h := (if_pos c_4).symm.trans h
      refine lv_iinc (v := (x7 + (-1 : Int32))) (lv' := [(7, .int (x7 + (-1 : Int32))), (0, .ref o)]) hx hb d_Mo_compare_71 hl (k := 1) rfl rfl (by decide) rfl (fun ls hl => ?_)
      refine lv_goto (tgt := 24) hx hb d_Mo_compare_74 (by decide) ?_
      exact hz24 (x7 + (-1 : Int32)) o_first_f o_second_f _ _ _ h hP hD hS (lv_sub hl [1, 0] rfl)
    · replace h := (if_neg c_4).symm.trans h
      refine lv_aload_n hx hb d_Mo_compare_47 rfl (lv_at hl 0 rfl) ?_
      refine va_get (D := (dC, dI)) (ci := 9) (v := .ref o_first) (C := "GlyphPageModel") (T := F_Mo) (N := 22) hx hb htsG iG_Mo hown hK hP 0 rfl rfl 19 (by decide) (htsG _ mW875) (fun _ h9 => h9) rfl d_Mo_compare_48 ?_
      refine lv_iload hx hb d_Mo_compare_51 (lv_at hl 1 rfl) ?_
      obtain ⟨hin_5, h⟩ := bd_some h
      refine va_lald hx hb hK hP 1 3 rfl rfl hin_5 d_Mo_compare_53 ?_
      refine lv_aload_n hx hb d_Mo_compare_54 rfl (lv_at hl 0 rfl) ?_
      refine va_get (D := (dC, dI)) (ci := 9) (v := .ref o_second) (C := "GlyphPageModel") (T := F_Mo) (N := 22) hx hb htsG iG_Mo hown hK hP 0 rfl rfl 20 (by decide) (htsG _ mW876) (fun _ h9 => h9) rfl d_Mo_compare_55 ?_
      refine lv_iload hx hb d_Mo_compare_58 (lv_at hl 1 rfl) ?_
      obtain ⟨hin_6, h⟩ := bd_some h
      refine va_lald hx hb hK hP 2 3 rfl rfl hin_6 d_Mo_compare_60 ?_
      refine W.lcmp hx hb d_Mo_compare_61 ?_
      refine lv_if_ge (tgt := 69) hx hb d_Mo_compare_62 (by decide) (fun c_7 => ?_) (fun c_7 => ?_)
      · replace h := (if_pos c_7).symm.trans h
        refine lv_iconst (v := (1 : Int32)) hx hb d_Mo_compare_69 (by decide) ?_
        cases h
        exact W.iret hx hb hr (fun t ht hW => ⟨⟨_, (), rfl, rfl, by rw [ht]; exact hP, va_K.moved hW.alike hK, hD⟩, hS.F ht⟩) hS.2.2 d_Mo_compare_70 hlocks
      · replace h := (if_neg c_7).symm.trans h
        refine lv_iconst (v := (-1 : Int32)) hx hb d_Mo_compare_65 (by decide) ?_
        refine lv_goto (tgt := 70) hx hb d_Mo_compare_66 (by decide) ?_
        cases h
        exact W.iret hx hb hr (fun t ht hW => ⟨⟨_, (), rfl, rfl, by rw [ht]; exact hP, va_K.moved hW.alike hK, hD⟩, hS.F ht⟩) hS.2.2 d_Mo_compare_70 hlocks
theorem w_Mo_compare_24 (C0 : Cx p s m args meth c A dC dI cy b_Mo_compare 8 (some .int) "GlyphPageModel") (o : Nat) (o_page : Nat) (o_tape : Nat) (o_spare : Nat) (o_lineFrom : Nat) (o_lineTo : Nat) (o_lineWidth : Nat) (o_flag : Nat) (o_px : Nat) (o_py : Nat) (o_first : Nat) (o_second : Nat) (o_width : Int32) (o_height : Int32) (o_tapeLength : Int32) (o_font : Option Nat) (o_scale : Int32) (o_lines : Int32) (o_at : Int32) (o_end : Int32) (o_good : Int32) (o_touches : Int32) (o_turns : Int32) (a1 : Int64) (a2 : Int64) (a3 : Int64) (uu : Int32 × (Nat → Int64) × (Nat → Int64))  (x7 : Int32) (o_first_f : Nat → Int64) (o_second_f : Nat → Int64) {H : Heap} {locs : List Loc} {ls : Array Slot} (h : P_Mo_compare_24 x7 o_first_f o_second_f = some uu) : va_P (dC, dI) classes [(o, .inr (9, [.int o_width, .int o_height, .ref o_page, .ref o_tape, .int o_tapeLength, va_rf o_font, .ref o_spare, .int o_scale, .ref o_lineFrom, .ref o_lineTo, .ref o_lineWidth, .int o_lines, .int o_at, .int o_end, .int o_good, .ref o_flag, .ref o_px, .ref o_py, .int o_touches, .ref o_first, .ref o_second, .int o_turns])), (o_first, .inl (cy 3, 6, .inr (.inl o_first_f))), (o_second, .inl (cy 3, 6, .inr (.inl o_second_f)))] H → va_D A [(o, .inr (9, [.int o_width, .int o_height, .ref o_page, .ref o_tape, .int o_tapeLength, va_rf o_font, .ref o_spare, .int o_scale, .ref o_lineFrom, .ref o_lineTo, .ref o_lineWidth, .int o_lines, .int o_at, .int o_end, .int o_good, .ref o_flag, .ref o_px, .ref o_py, .int o_touches, .ref o_first, .ref o_second, .int o_turns])), (o_first, .inl (cy 3, 6, .inr (.inl o_first_f))), (o_second, .inl (cy 3, 6, .inr (.inl o_second_f)))] → va_S A s.heap H locs → lv_has ls 8 [(0, .ref o), (7, .int x7)] → W p l e ({ frames := 2, cells := 0, slots := 0, locals := 66 } : Room) s m args below meth c H locs 0 0 (MQ below (va_Qi (fun r (_ : Unit) => r = uu.1) (fun _ t => va_P (dC, dI) classes [(o, .inr (9, [.int o_width, .int o_height, .ref o_page, .ref o_tape, .int o_tapeLength, va_rf o_font, .ref o_spare, .int o_scale, .ref o_lineFrom, .ref o_lineTo, .ref o_lineWidth, .int o_lines, .int o_at, .int o_end, .int o_good, .ref o_flag, .ref o_px, .ref o_py, .int o_touches, .ref o_first, .ref o_second, .int o_turns])), (o_first, .inl (cy 3, 6, .inr (.inl uu.2.1))), (o_second, .inl (cy 3, 6, .inr (.inl uu.2.2)))] t.heap ∧ va_K (dC, dI) classes (TY cy) t ∧ va_D A [(o, .inr (9, [.int o_width, .int o_height, .ref o_page, .ref o_tape, .int o_tapeLength, va_rf o_font, .ref o_spare, .int o_scale, .ref o_lineFrom, .ref o_lineTo, .ref o_lineWidth, .int o_lines, .int o_at, .int o_end, .int o_good, .ref o_flag, .ref o_px, .ref o_py, .int o_touches, .ref o_first, .ref o_second, .int o_turns])), (o_first, .inl (cy 3, 6, .inr (.inl uu.2.1))), (o_second, .inl (cy 3, 6, .inr (.inl uu.2.2)))]) A) args s 0 0 A) (F0 m 24 ls []) := by
  have key : ∀ (n : Nat) (x7 : Int32) (o_first_f : Nat → Int64) (o_second_f : Nat → Int64) (H : Heap) (locs : List Loc) (ls : Array Slot), lp (L_Mo_compare_24 ) n (x7, o_first_f, o_second_f) = some uu → va_P (dC, dI) classes [(o, .inr (9, [.int o_width, .int o_height, .ref o_page, .ref o_tape, .int o_tapeLength, va_rf o_font, .ref o_spare, .int o_scale, .ref o_lineFrom, .ref o_lineTo, .ref o_lineWidth, .int o_lines, .int o_at, .int o_end, .int o_good, .ref o_flag, .ref o_px, .ref o_py, .int o_touches, .ref o_first, .ref o_second, .int o_turns])), (o_first, .inl (cy 3, 6, .inr (.inl o_first_f))), (o_second, .inl (cy 3, 6, .inr (.inl o_second_f)))] H → va_D A [(o, .inr (9, [.int o_width, .int o_height, .ref o_page, .ref o_tape, .int o_tapeLength, va_rf o_font, .ref o_spare, .int o_scale, .ref o_lineFrom, .ref o_lineTo, .ref o_lineWidth, .int o_lines, .int o_at, .int o_end, .int o_good, .ref o_flag, .ref o_px, .ref o_py, .int o_touches, .ref o_first, .ref o_second, .int o_turns])), (o_first, .inl (cy 3, 6, .inr (.inl o_first_f))), (o_second, .inl (cy 3, 6, .inr (.inl o_second_f)))] → va_S A s.heap H locs → lv_has ls 8 [(0, .ref o), (7, .int x7)] → W p l e ({ frames := 2, cells := 0, slots := 0, locals := 66 } : Room) s m args below meth c H locs 0 0 (MQ below (va_Qi (fun r (_ : Unit) => r = uu.1) (fun _ t => va_P (dC, dI) classes [(o, .inr (9, [.int o_width, .int o_height, .ref o_page, .ref o_tape, .int o_tapeLength, va_rf o_font, .ref o_spare, .int o_scale, .ref o_lineFrom, .ref o_lineTo, .ref o_lineWidth, .int o_lines, .int o_at, .int o_end, .int o_good, .ref o_flag, .ref o_px, .ref o_py, .int o_touches, .ref o_first, .ref o_second, .int o_turns])), (o_first, .inl (cy 3, 6, .inr (.inl uu.2.1))), (o_second, .inl (cy 3, 6, .inr (.inl uu.2.2)))] t.heap ∧ va_K (dC, dI) classes (TY cy) t ∧ va_D A [(o, .inr (9, [.int o_width, .int o_height, .ref o_page, .ref o_tape, .int o_tapeLength, va_rf o_font, .ref o_spare, .int o_scale, .ref o_lineFrom, .ref o_lineTo, .ref o_lineWidth, .int o_lines, .int o_at, .int o_end, .int o_good, .ref o_flag, .ref o_px, .ref o_py, .int o_touches, .ref o_first, .ref o_second, .int o_turns])), (o_first, .inl (cy 3, 6, .inr (.inl uu.2.1))), (o_second, .inl (cy 3, 6, .inr (.inl uu.2.2)))]) A) args s 0 0 A) (F0 m 24 ls []) := by
    intro n
    induction n with
    | zero => intro x7 o_first_f o_second_f H locs ls h; cases h
    | succ n ih => intro x7 o_first_f o_second_f H locs ls h; exact w_Mo_compare_24b C0 o o_page o_tape o_spare o_lineFrom o_lineTo o_lineWidth o_flag o_px o_py o_first o_second o_width o_height o_tapeLength o_font o_scale o_lines o_at o_end o_good o_touches o_turns a1 a2 a3 uu  (lp (L_Mo_compare_24 ) n) ih x7 o_first_f o_second_f ((e_Mo_compare_24  n x7 o_first_f o_second_f).symm.trans h)
  exact key fuel x7 o_first_f o_second_f H locs ls h
def P_Mo_compare (o_first_f : Nat → Int64) (o_second_f : Nat → Int64) (a1 : Int64) (a2 : Int64) (a3 : Int64) : Option (Int32 × (Nat → Int64) × (Nat → Int64)) :=
  (P_Mo_product o_first_f a1 a1 (1 : Int64)).bind fun n_1 => (P_Mo_product o_second_f a2 a2 a3).bind fun n_2 => P_Mo_compare_24 (5 : Int32) n_1 n_2
set_option maxHeartbeats 4000000 in
set_option maxRecDepth 100000 in
theorem c_Mo_compare (l : Launch) (dC : Nat → ClassId) (dI : Nat → Nat → Nat) (cy : Nat → ClassId) (sz : Nat) (o : Nat) (o_page : Nat) (o_tape : Nat) (o_spare : Nat) (o_lineFrom : Nat) (o_lineTo : Nat) (o_lineWidth : Nat) (o_flag : Nat) (o_px : Nat) (o_py : Nat) (o_first : Nat) (o_second : Nat) (o_width : Int32) (o_height : Int32) (o_tapeLength : Int32) (o_font : Option Nat) (o_scale : Int32) (o_lines : Int32) (o_at : Int32) (o_end : Int32) (o_good : Int32) (o_touches : Int32) (o_turns : Int32) (o_first_f : Nat → Int64) (o_second_f : Nat → Int64) (a1 : Int64) (a2 : Int64) (a3 : Int64) (uu : Int32 × (Nat → Int64) × (Nat → Int64)) (h : P_Mo_compare o_first_f o_second_f a1 a2 a3 = some uu) : Met l y_Mo_compare (Cond.code y_Mo_compare b_Mo_compare 8 (some .int) :: G) ({ frames := 2, cells := 0, slots := 0, locals := 66 } : Room) (va_Pc [.ref o, .long a1, .long a2, .long a3] (fun U => U.heap.size = sz ∧ va_P (dC, dI) classes [(o, .inr (9, [.int o_width, .int o_height, .ref o_page, .ref o_tape, .int o_tapeLength, va_rf o_font, .ref o_spare, .int o_scale, .ref o_lineFrom, .ref o_lineTo, .ref o_lineWidth, .int o_lines, .int o_at, .int o_end, .int o_good, .ref o_flag, .ref o_px, .ref o_py, .int o_touches, .ref o_first, .ref o_second, .int o_turns])), (o_first, .inl (cy 3, 6, .inr (.inl o_first_f))), (o_second, .inl (cy 3, 6, .inr (.inl o_second_f)))] U.heap ∧ va_K (dC, dI) classes (TY cy) U ∧ va_D (fun _ => True) [(o, .inr (9, [.int o_width, .int o_height, .ref o_page, .ref o_tape, .int o_tapeLength, va_rf o_font, .ref o_spare, .int o_scale, .ref o_lineFrom, .ref o_lineTo, .ref o_lineWidth, .int o_lines, .int o_at, .int o_end, .int o_good, .ref o_flag, .ref o_px, .ref o_py, .int o_touches, .ref o_first, .ref o_second, .int o_turns])), (o_first, .inl (cy 3, 6, .inr (.inl o_first_f))), (o_second, .inl (cy 3, 6, .inr (.inl o_second_f)))])) (va_Qi (fun r (_ : Unit) => r = uu.1) (fun _ t => va_P (dC, dI) classes [(o, .inr (9, [.int o_width, .int o_height, .ref o_page, .ref o_tape, .int o_tapeLength, va_rf o_font, .ref o_spare, .int o_scale, .ref o_lineFrom, .ref o_lineTo, .ref o_lineWidth, .int o_lines, .int o_at, .int o_end, .int o_good, .ref o_flag, .ref o_px, .ref o_py, .int o_touches, .ref o_first, .ref o_second, .int o_turns])), (o_first, .inl (cy 3, 6, .inr (.inl uu.2.1))), (o_second, .inl (cy 3, 6, .inr (.inl uu.2.2)))] t.heap ∧ va_K (dC, dI) classes (TY cy) t ∧ va_D (va_A [(o, .inr (9, [.int o_width, .int o_height, .ref o_page, .ref o_tape, .int o_tapeLength, va_rf o_font, .ref o_spare, .int o_scale, .ref o_lineFrom, .ref o_lineTo, .ref o_lineWidth, .int o_lines, .int o_at, .int o_end, .int o_good, .ref o_flag, .ref o_px, .ref o_py, .int o_touches, .ref o_first, .ref o_second, .int o_turns])), (o_first, .inl (cy 3, 6, .inr (.inl o_first_f))), (o_second, .inl (cy 3, 6, .inr (.inl o_second_f)))] sz) [(o, .inr (9, [.int o_width, .int o_height, .ref o_page, .ref o_tape, .int o_tapeLength, va_rf o_font, .ref o_spare, .int o_scale, .ref o_lineFrom, .ref o_lineTo, .ref o_lineWidth, .int o_lines, .int o_at, .int o_end, .int o_good, .ref o_flag, .ref o_px, .ref o_py, .int o_touches, .ref o_first, .ref o_second, .int o_turns])), (o_first, .inl (cy 3, 6, .inr (.inl uu.2.1))), (o_second, .inl (cy 3, 6, .inr (.inl uu.2.2)))]) (va_A [(o, .inr (9, [.int o_width, .int o_height, .ref o_page, .ref o_tape, .int o_tapeLength, va_rf o_font, .ref o_spare, .int o_scale, .ref o_lineFrom, .ref o_lineTo, .ref o_lineWidth, .int o_lines, .int o_at, .int o_end, .int o_good, .ref o_flag, .ref o_px, .ref o_py, .int o_touches, .ref o_first, .ref o_second, .int o_turns])), (o_first, .inl (cy 3, 6, .inr (.inl o_first_f))), (o_second, .inl (cy 3, 6, .inr (.inl o_second_f)))] sz)) 0 0 (va_A [(o, .inr (9, [.int o_width, .int o_height, .ref o_page, .ref o_tape, .int o_tapeLength, va_rf o_font, .ref o_spare, .int o_scale, .ref o_lineFrom, .ref o_lineTo, .ref o_lineWidth, .int o_lines, .int o_at, .int o_end, .int o_good, .ref o_flag, .ref o_px, .ref o_py, .int o_touches, .ref o_first, .ref o_second, .int o_turns])), (o_first, .inl (cy 3, 6, .inr (.inl o_first_f))), (o_second, .inl (cy 3, 6, .inr (.inl o_second_f)))] sz) := by
  refine Met.ofW (cc := b_Mo_compare) (maxL := 8) (ret := (some .int)) (by decide) rfl ?_
  intro p e s m args below meth c s₁ B hml hv
  obtain ⟨rfl, hsz, hP, hK, hD0⟩ := hv
  have hx := B.exec
  have hb := B.bytes
  have hr := B.returns
  have hts := atoms_spec (ws := Cond.code y_Mo_compare b_Mo_compare 8 (some .int) :: G) B.pre
  have htsG : ∀ w ∈ G, w.before _ s = true := fun w hw => hts w (List.mem_cons_of_mem _ hw)
  have hown : s.vm.findClass "GlyphPageModel" = some m.cls := findClass_of_methodNamed B.named
  have hlocks := B.notSynchronized
  subst hsz
  have hD := hD0.self (sz := s.heap.size)
  generalize hAe : va_A [(o, .inr (9, [.int o_width, .int o_height, .ref o_page, .ref o_tape, .int o_tapeLength, va_rf o_font, .ref o_spare, .int o_scale, .ref o_lineFrom, .ref o_lineTo, .ref o_lineWidth, .int o_lines, .int o_at, .int o_end, .int o_good, .ref o_flag, .ref o_px, .ref o_py, .int o_touches, .ref o_first, .ref o_second, .int o_turns])), (o_first, .inl (cy 3, 6, .inr (.inl o_first_f))), (o_second, .inl (cy 3, 6, .inr (.inl o_second_f)))] s.heap.size = A at hD ⊢
  have hA : ∀ q : Nat, s.heap.size ≤ q → A q := fun q h => by rw [← hAe]; exact Or.inr h
  have hS : va_S A s.heap s.heap [] := va_S.rf
  have hl := lv_entry ([.ref o, .long a1, .long a2, .long a3]) (n := 8) (Nat.le_of_ble_eq_true rfl)
  rw [lg_entry_eq]
  generalize (lg_sl ([.ref o, .long a1, .long a2, .long a3]) ++ List.replicate (8 - (lg_sl ([.ref o, .long a1, .long a2, .long a3])).length) Slot.unset).toArray = ls at hl ⊢
  have hl : lv_has ls 8 [(0, .ref o), (1, .long a1), (3, .long a2), (5, .long a3)] := hl
  have C0 : Cx p s m _ meth c A dC dI cy b_Mo_compare 8 (some .int) "GlyphPageModel" := ⟨hx, hb, hr, hlocks, hml, hown, htsG, hA, hK⟩
  unfold P_Mo_compare at h
  refine lv_aload_n hx hb d_Mo_compare_0 rfl (lv_at hl 0 rfl) ?_
  refine va_get (D := (dC, dI)) (ci := 9) (v := .ref o_first) (C := "GlyphPageModel") (T := F_Mo) (N := 22) hx hb htsG iG_Mo hown hK hP 0 rfl rfl 19 (by decide) (htsG _ mW875) (fun _ h9 => h9) rfl d_Mo_compare_1 ?_
  refine lv_lload_n hx hb d_Mo_compare_4 rfl (lv_at hl 1 rfl) ?_
  refine lv_lload_n hx hb d_Mo_compare_5 rfl (lv_at hl 1 rfl) ?_
  refine lv_lconst (v := (1 : Int64)) hx hb d_Mo_compare_6 (by decide) ?_
  obtain ⟨n_1, hq, h⟩ := Option.bind_eq_some_iff.mp h
  try dsimp only at h
  have hPc := hP.sub (ws' := [(o_first, .inl (cy 3, 6, .inr (.inl o_first_f)))]) [1] rfl
  have hDc := hD.sub (ws' := [(o_first, .inl (cy 3, 6, .inr (.inl o_first_f)))]) [1] (by decide) rfl
  have hFc := va_free (wc := [(o_first, .inl (cy 3, 6, .inr (.inl o_first_f)))]) hD hS hA [1] rfl
  refine va_callv (va_runS (As := [.ref o_first, .long a1, .long a1, .long (1 : Int64)]) (rest := []) ⟨hx, hb, hml, hown, htsG⟩ (c_Mo_product l dC dI cy s.heap.size o_first o_first_f a1 a1 (1 : Int64) n_1 hq) (va_cwS 4 htsG (gS mW1124 mW1125 mW9 mW1126) rfl rfl rfl (by decide +kernel) ⟨Nat.le_of_ble_eq_true rfl, Nat.le_of_ble_eq_true rfl⟩) ⟨fun a U g mk q => by obtain ⟨q0, q1, qP, qK, qD⟩ := q; exact ⟨q0, q1, qP, va_K.moved (u := U) (U := U.calling g mk a) (Vm.Alike.refl U.vm) qK, qD⟩, fun U hU hW => ⟨rfl, by rw [hU], by rw [hU]; exact hPc, va_K.moved hW.alike hK, hDc.weaken (fun _ _ _ _ => trivial)⟩⟩ rfl rfl hl.1 rfl (lv_room (Nat.le_of_ble_eq_true rfl)) d_Mo_compare_7 ⟨Nat.le_of_ble_eq_true rfl, Nat.le_of_ble_eq_true rfl⟩) hS (fun q _ h => hFc q h) hFc (fun u t H1 locs ht hvm hw hB hz1 hk1 hS => ?_)
  obtain ⟨hP1, hK1, hD1⟩ := hB
  rw [ht] at hP1
  obtain ⟨hP, hD⟩ := va_join (wr := [(o, .inr (9, [.int o_width, .int o_height, .ref o_page, .ref o_tape, .int o_tapeLength, va_rf o_font, .ref o_spare, .int o_scale, .ref o_lineFrom, .ref o_lineTo, .ref o_lineWidth, .int o_lines, .int o_at, .int o_end, .int o_good, .ref o_flag, .ref o_px, .ref o_py, .int o_touches, .ref o_first, .ref o_second, .int o_turns])), (o_second, .inl (cy 3, 6, .inr (.inl o_second_f)))]) (w1 := [(o_first, .inl (cy 3, 6, .inr (.inl n_1)))]) hP hD [1] [0, 2] rfl rfl (by decide) (by decide) hk1 hFc hP1 hD1
  generalize H1 = H at hP hS ⊢
  have hP := hP.sub (ws' := [(o, .inr (9, [.int o_width, .int o_height, .ref o_page, .ref o_tape, .int o_tapeLength, va_rf o_font, .ref o_spare, .int o_scale, .ref o_lineFrom, .ref o_lineTo, .ref o_lineWidth, .int o_lines, .int o_at, .int o_end, .int o_good, .ref o_flag, .ref o_px, .ref o_py, .int o_touches, .ref o_first, .ref o_second, .int o_turns])), (o_first, .inl (cy 3, 6, .inr (.inl n_1))), (o_second, .inl (cy 3, 6, .inr (.inl o_second_f)))]) [0, 2, 1] rfl
  have hD := hD.sub (ws' := [(o, .inr (9, [.int o_width, .int o_height, .ref o_page, .ref o_tape, .int o_tapeLength, va_rf o_font, .ref o_spare, .int o_scale, .ref o_lineFrom, .ref o_lineTo, .ref o_lineWidth, .int o_lines, .int o_at, .int o_end, .int o_good, .ref o_flag, .ref o_px, .ref o_py, .int o_touches, .ref o_first, .ref o_second, .int o_turns])), (o_first, .inl (cy 3, 6, .inr (.inl n_1))), (o_second, .inl (cy 3, 6, .inr (.inl o_second_f)))]) [0, 2, 1] (by decide) rfl
  refine W.widen (k := 0) (n := 0) (by decide) (by decide) ?_
  refine lv_aload_n hx hb d_Mo_compare_10 rfl (lv_at hl 0 rfl) ?_
  refine va_get (D := (dC, dI)) (ci := 9) (v := .ref o_second) (C := "GlyphPageModel") (T := F_Mo) (N := 22) hx hb htsG iG_Mo hown hK hP 0 rfl rfl 20 (by decide) (htsG _ mW876) (fun _ h9 => h9) rfl d_Mo_compare_11 ?_
  refine lv_lload_n hx hb d_Mo_compare_14 rfl (lv_at hl 2 rfl) ?_
  refine lv_lload_n hx hb d_Mo_compare_15 rfl (lv_at hl 2 rfl) ?_
  refine lv_lload hx hb d_Mo_compare_16 (lv_at hl 3 rfl) ?_
  obtain ⟨n_2, hq, h⟩ := Option.bind_eq_some_iff.mp h
  try dsimp only at h
  have hPc := hP.sub (ws' := [(o_second, .inl (cy 3, 6, .inr (.inl o_second_f)))]) [2] rfl
  have hDc := hD.sub (ws' := [(o_second, .inl (cy 3, 6, .inr (.inl o_second_f)))]) [2] (by decide) rfl
  have hFc := va_free (wc := [(o_second, .inl (cy 3, 6, .inr (.inl o_second_f)))]) hD hS hA [2] rfl
  refine va_callv (va_runS (As := [.ref o_second, .long a2, .long a2, .long a3]) (rest := []) ⟨hx, hb, hml, hown, htsG⟩ (c_Mo_product l dC dI cy H.size o_second o_second_f a2 a2 a3 n_2 hq) (va_cwS 4 htsG (gS mW1124 mW1125 mW9 mW1126) rfl rfl rfl (by decide +kernel) ⟨Nat.le_of_ble_eq_true rfl, Nat.le_of_ble_eq_true rfl⟩) ⟨fun a U g mk q => by obtain ⟨q0, q1, qP, qK, qD⟩ := q; exact ⟨q0, q1, qP, va_K.moved (u := U) (U := U.calling g mk a) (Vm.Alike.refl U.vm) qK, qD⟩, fun U hU hW => ⟨rfl, by rw [hU], by rw [hU]; exact hPc, va_K.moved hW.alike hK, hDc.weaken (fun _ _ _ _ => trivial)⟩⟩ rfl rfl hl.1 rfl (lv_room (Nat.le_of_ble_eq_true rfl)) d_Mo_compare_18 ⟨Nat.le_of_ble_eq_true rfl, Nat.le_of_ble_eq_true rfl⟩) hS (fun q _ h => hFc q h) hFc (fun u t H1 locs ht hvm hw hB hz1 hk1 hS => ?_)
  obtain ⟨hP1, hK1, hD1⟩ := hB
  rw [ht] at hP1
  obtain ⟨hP, hD⟩ := va_join (wr := [(o, .inr (9, [.int o_width, .int o_height, .ref o_page, .ref o_tape, .int o_tapeLength, va_rf o_font, .ref o_spare, .int o_scale, .ref o_lineFrom, .ref o_lineTo, .ref o_lineWidth, .int o_lines, .int o_at, .int o_end, .int o_good, .ref o_flag, .ref o_px, .ref o_py, .int o_touches, .ref o_first, .ref o_second, .int o_turns])), (o_first, .inl (cy 3, 6, .inr (.inl n_1)))]) (w1 := [(o_second, .inl (cy 3, 6, .inr (.inl n_2)))]) hP hD [2] [0, 1] rfl rfl (by decide) (by decide) hk1 hFc hP1 hD1
  generalize H1 = H at hP hS ⊢
  have hP := hP.sub (ws' := [(o, .inr (9, [.int o_width, .int o_height, .ref o_page, .ref o_tape, .int o_tapeLength, va_rf o_font, .ref o_spare, .int o_scale, .ref o_lineFrom, .ref o_lineTo, .ref o_lineWidth, .int o_lines, .int o_at, .int o_end, .int o_good, .ref o_flag, .ref o_px, .ref o_py, .int o_touches, .ref o_first, .ref o_second, .int o_turns])), (o_first, .inl (cy 3, 6, .inr (.inl n_1))), (o_second, .inl (cy 3, 6, .inr (.inl n_2)))]) [0, 1, 2] rfl
  have hD := hD.sub (ws' := [(o, .inr (9, [.int o_width, .int o_height, .ref o_page, .ref o_tape, .int o_tapeLength, va_rf o_font, .ref o_spare, .int o_scale, .ref o_lineFrom, .ref o_lineTo, .ref o_lineWidth, .int o_lines, .int o_at, .int o_end, .int o_good, .ref o_flag, .ref o_px, .ref o_py, .int o_touches, .ref o_first, .ref o_second, .int o_turns])), (o_first, .inl (cy 3, 6, .inr (.inl n_1))), (o_second, .inl (cy 3, 6, .inr (.inl n_2)))]) [0, 1, 2] (by decide) rfl
  refine W.widen (k := 0) (n := 0) (by decide) (by decide) ?_
  refine lv_iconst (v := (5 : Int32)) hx hb d_Mo_compare_21 (by decide) ?_
  refine lv_istore (lv' := [(7, .int (5 : Int32)), (0, .ref o), (1, .long a1), (3, .long a2), (5, .long a3)]) hx hb d_Mo_compare_22 hl (by decide) rfl (fun ls hl => ?_)
  exact w_Mo_compare_24 C0 o o_page o_tape o_spare o_lineFrom o_lineTo o_lineWidth o_flag o_px o_py o_first o_second o_width o_height o_tapeLength o_font o_scale o_lines o_at o_end o_good o_touches o_turns a1 a2 a3 uu  (5 : Int32) n_1 n_2 h hP hD hS (lv_sub hl [1, 0] rfl)
def P_Mo_signOf_71   (x5 : Int64) (x7 : Int32) (x8 : Int32) (k0 : Int64) (k1 : Int64) (o_first_f : Nat → Int64) (o_second_f : Nat → Int64) : Option (Int32 × (Nat → Int64) × (Nat → Int64)) :=
  (P_Mo_compare o_first_f o_second_f k1 k0 x5).bind <| unp fun r_1 => unp fun n_2 n_3 => if r_1 = 0 then (some ((0 : Int32), n_2, n_3)) else (if r_1 ≤ 0 then (some (x8, n_2, n_3)) else (some (x7, n_2, n_3)))
set_option maxHeartbeats 4000000 in
set_option maxRecDepth 100000 in
theorem w_Mo_signOf_71 (C0 : Cx p s m args meth c A dC dI cy b_Mo_signOf 10 (some .int) "GlyphPageModel") (o : Nat) (o_page : Nat) (o_tape : Nat) (o_spare : Nat) (o_lineFrom : Nat) (o_lineTo : Nat) (o_lineWidth : Nat) (o_flag : Nat) (o_px : Nat) (o_py : Nat) (o_first : Nat) (o_second : Nat) (o_width : Int32) (o_height : Int32) (o_tapeLength : Int32) (o_font : Option Nat) (o_scale : Int32) (o_lines : Int32) (o_at : Int32) (o_end : Int32) (o_good : Int32) (o_touches : Int32) (o_turns : Int32) (a1 : Int64) (a2 : Int64) (a3 : Int64) (uu : Int32 × (Nat → Int64) × (Nat → Int64))  (x5 : Int64) (x7 : Int32) (x8 : Int32) (k0 : Int64) (k1 : Int64) (o_first_f : Nat → Int64) (o_second_f : Nat → Int64) {H : Heap} {locs : List Loc} {ls : Array Slot} (h : P_Mo_signOf_71 x5 x7 x8 k0 k1 o_first_f o_second_f = some uu) : va_P (dC, dI) classes [(o, .inr (9, [.int o_width, .int o_height, .ref o_page, .ref o_tape, .int o_tapeLength, va_rf o_font, .ref o_spare, .int o_scale, .ref o_lineFrom, .ref o_lineTo, .ref o_lineWidth, .int o_lines, .int o_at, .int o_end, .int o_good, .ref o_flag, .ref o_px, .ref o_py, .int o_touches, .ref o_first, .ref o_second, .int o_turns])), (o_first, .inl (cy 3, 6, .inr (.inl o_first_f))), (o_second, .inl (cy 3, 6, .inr (.inl o_second_f)))] H → va_D A [(o, .inr (9, [.int o_width, .int o_height, .ref o_page, .ref o_tape, .int o_tapeLength, va_rf o_font, .ref o_spare, .int o_scale, .ref o_lineFrom, .ref o_lineTo, .ref o_lineWidth, .int o_lines, .int o_at, .int o_end, .int o_good, .ref o_flag, .ref o_px, .ref o_py, .int o_touches, .ref o_first, .ref o_second, .int o_turns])), (o_first, .inl (cy 3, 6, .inr (.inl o_first_f))), (o_second, .inl (cy 3, 6, .inr (.inl o_second_f)))] → va_S A s.heap H locs → lv_has ls 10 [(5, .long x5), (7, .int x7), (8, .int x8)] → W p l e ({ frames := 3, cells := 0, slots := 0, locals := 93 } : Room) s m args below meth c H locs 0 0 (MQ below (va_Qi (fun r (_ : Unit) => r = uu.1) (fun _ t => va_P (dC, dI) classes [(o, .inr (9, [.int o_width, .int o_height, .ref o_page, .ref o_tape, .int o_tapeLength, va_rf o_font, .ref o_spare, .int o_scale, .ref o_lineFrom, .ref o_lineTo, .ref o_lineWidth, .int o_lines, .int o_at, .int o_end, .int o_good, .ref o_flag, .ref o_px, .ref o_py, .int o_touches, .ref o_first, .ref o_second, .int o_turns])), (o_first, .inl (cy 3, 6, .inr (.inl uu.2.1))), (o_second, .inl (cy 3, 6, .inr (.inl uu.2.2)))] t.heap ∧ va_K (dC, dI) classes (TY cy) t ∧ va_D A [(o, .inr (9, [.int o_width, .int o_height, .ref o_page, .ref o_tape, .int o_tapeLength, va_rf o_font, .ref o_spare, .int o_scale, .ref o_lineFrom, .ref o_lineTo, .ref o_lineWidth, .int o_lines, .int o_at, .int o_end, .int o_good, .ref o_flag, .ref o_px, .ref o_py, .int o_touches, .ref o_first, .ref o_second, .int o_turns])), (o_first, .inl (cy 3, 6, .inr (.inl uu.2.1))), (o_second, .inl (cy 3, 6, .inr (.inl uu.2.2)))]) A) args s 0 0 A) (F0 m 71 ls [.long k0, .long k1, .ref o]) := by
  intro hP hD hS hl
  obtain ⟨hx, hb, hr, hlocks, hml, hown, htsG, hA, hK⟩ := id C0
  unfold P_Mo_signOf_71 at h
  refine lv_lload hx hb d_Mo_signOf_71 (lv_at hl 0 rfl) ?_
  obtain ⟨⟨r_1, n_2, n_3⟩, hq, h⟩ := Option.bind_eq_some_iff.mp h
  dsimp only [unp] at h
  have hPc := hP.sub (ws' := [(o, .inr (9, [.int o_width, .int o_height, .ref o_page, .ref o_tape, .int o_tapeLength, va_rf o_font, .ref o_spare, .int o_scale, .ref o_lineFrom, .ref o_lineTo, .ref o_lineWidth, .int o_lines, .int o_at, .int o_end, .int o_good, .ref o_flag, .ref o_px, .ref o_py, .int o_touches, .ref o_first, .ref o_second, .int o_turns])), (o_first, .inl (cy 3, 6, .inr (.inl o_first_f))), (o_second, .inl (cy 3, 6, .inr (.inl o_second_f)))]) [0, 1, 2] rfl
  have hDc := hD.sub (ws' := [(o, .inr (9, [.int o_width, .int o_height, .ref o_page, .ref o_tape, .int o_tapeLength, va_rf o_font, .ref o_spare, .int o_scale, .ref o_lineFrom, .ref o_lineTo, .ref o_lineWidth, .int o_lines, .int o_at, .int o_end, .int o_good, .ref o_flag, .ref o_px, .ref o_py, .int o_touches, .ref o_first, .ref o_second, .int o_turns])), (o_first, .inl (cy 3, 6, .inr (.inl o_first_f))), (o_second, .inl (cy 3, 6, .inr (.inl o_second_f)))]) [0, 1, 2] (by decide) rfl
  have hFc := va_free (wc := [(o, .inr (9, [.int o_width, .int o_height, .ref o_page, .ref o_tape, .int o_tapeLength, va_rf o_font, .ref o_spare, .int o_scale, .ref o_lineFrom, .ref o_lineTo, .ref o_lineWidth, .int o_lines, .int o_at, .int o_end, .int o_good, .ref o_flag, .ref o_px, .ref o_py, .int o_touches, .ref o_first, .ref o_second, .int o_turns])), (o_first, .inl (cy 3, 6, .inr (.inl o_first_f))), (o_second, .inl (cy 3, 6, .inr (.inl o_second_f)))]) hD hS hA [0, 1, 2] rfl
  refine va_calli (va_runV (As := [.long k1, .long k0, .long x5]) (rest := []) ⟨hx, hb, hml, hown, htsG⟩ (c_Mo_compare l dC dI cy H.size o o_page o_tape o_spare o_lineFrom o_lineTo o_lineWidth o_flag o_px o_py o_first o_second o_width o_height o_tapeLength o_font o_scale o_lines o_at o_end o_good o_touches o_turns o_first_f o_second_f k1 k0 x5 (r_1, n_2, n_3) hq) (cwV 3 htsG (gV mW1139 mW1141 mS_Mo_compare mW9 mW1142) rfl rfl rfl (by decide +kernel) ⟨Nat.le_of_ble_eq_true rfl, Nat.le_of_ble_eq_true rfl⟩) ⟨fun a U g mk q => by obtain ⟨q0, q1, qP, qK, qD⟩ := q; exact ⟨q0, q1, qP, va_K.moved (u := U) (U := U.calling g mk a) (Vm.Alike.refl U.vm) qK, qD⟩, va_recv hK hPc (ci := 9) (q0 := 0) rfl rfl, fun U hU hW => ⟨rfl, by rw [hU], by rw [hU]; exact hPc, va_K.moved hW.alike hK, hDc.weaken (fun _ _ _ _ => trivial)⟩⟩ rfl rfl hl.1 rfl (lv_room (Nat.le_of_ble_eq_true rfl)) d_Mo_signOf_73 ⟨Nat.le_of_ble_eq_true rfl, Nat.le_of_ble_eq_true rfl⟩) hS (fun q _ h => hFc q h) hFc (fun rr u t H1 locs ht hvm hw hB hz1 hk1 hS => ?_)
  obtain ⟨hP1, hK1, hD1⟩ := hB
  rw [ht] at hP1
  replace hw : r_1 = rr := hw.symm
  subst hw
  obtain ⟨hP, hD⟩ := va_join (wr := []) (w1 := [(o, .inr (9, [.int o_width, .int o_height, .ref o_page, .ref o_tape, .int o_tapeLength, va_rf o_font, .ref o_spare, .int o_scale, .ref o_lineFrom, .ref o_lineTo, .ref o_lineWidth, .int o_lines, .int o_at, .int o_end, .int o_good, .ref o_flag, .ref o_px, .ref o_py, .int o_touches, .ref o_first, .ref o_second, .int o_turns])), (o_first, .inl (cy 3, 6, .inr (.inl n_2))), (o_second, .inl (cy 3, 6, .inr (.inl n_3)))]) hP hD [0, 1, 2] [] rfl rfl (by decide) (by decide) hk1 hFc hP1 hD1
  generalize H1 = H at hP hS ⊢
  have hP := hP.sub (ws' := [(o, .inr (9, [.int o_width, .int o_height, .ref o_page, .ref o_tape, .int o_tapeLength, va_rf o_font, .ref o_spare, .int o_scale, .ref o_lineFrom, .ref o_lineTo, .ref o_lineWidth, .int o_lines, .int o_at, .int o_end, .int o_good, .ref o_flag, .ref o_px, .ref o_py, .int o_touches, .ref o_first, .ref o_second, .int o_turns])), (o_first, .inl (cy 3, 6, .inr (.inl n_2))), (o_second, .inl (cy 3, 6, .inr (.inl n_3)))]) [0, 1, 2] rfl
  have hD := hD.sub (ws' := [(o, .inr (9, [.int o_width, .int o_height, .ref o_page, .ref o_tape, .int o_tapeLength, va_rf o_font, .ref o_spare, .int o_scale, .ref o_lineFrom, .ref o_lineTo, .ref o_lineWidth, .int o_lines, .int o_at, .int o_end, .int o_good, .ref o_flag, .ref o_px, .ref o_py, .int o_touches, .ref o_first, .ref o_second, .int o_turns])), (o_first, .inl (cy 3, 6, .inr (.inl n_2))), (o_second, .inl (cy 3, 6, .inr (.inl n_3)))]) [0, 1, 2] (by decide) rfl
  refine W.widen (k := 0) (n := 0) (by decide) (by decide) ?_
  refine lv_istore (lv' := [(9, .int r_1), (5, .long x5), (7, .int x7), (8, .int x8)]) hx hb d_Mo_signOf_76 hl (by decide) rfl (fun ls hl => ?_)
  refine lv_iload hx hb d_Mo_signOf_78 (lv_at hl 0 rfl) ?_
  refine lv_if_ne (tgt := 87) hx hb d_Mo_signOf_80 (by decide) (fun c_4 => ?_) (fun c_4 => ?_)
  · replace h := (if_neg c_4).symm.trans h
    refine lv_iload hx hb d_Mo_signOf_87 (lv_at hl 0 rfl) ?_
    refine lv_if_le (tgt := 97) hx hb d_Mo_signOf_89 (by decide) (fun c_5 => ?_) (fun c_5 => ?_)
    · replace h := (if_pos c_5).symm.trans h
      refine lv_iload hx hb d_Mo_signOf_97 (lv_at hl 3 rfl) ?_
      cases h
      exact W.iret hx hb hr (fun t ht hW => ⟨⟨_, (), rfl, rfl, by rw [ht]; exact hP, va_K.moved hW.alike hK, hD⟩, hS.F ht⟩) hS.2.2 d_Mo_signOf_99 hlocks
    · replace h := (if_neg c_5).symm.trans h
      refine lv_iload hx hb d_Mo_signOf_92 (lv_at hl 2 rfl) ?_
      refine lv_goto (tgt := 99) hx hb d_Mo_signOf_94 (by decide) ?_
      cases h
      exact W.iret hx hb hr (fun t ht hW => ⟨⟨_, (), rfl, rfl, by rw [ht]; exact hP, va_K.moved hW.alike hK, hD⟩, hS.F ht⟩) hS.2.2 d_Mo_signOf_99 hlocks
  · replace h := (if_pos c_4).symm.trans h
    refine lv_iconst (v := (0 : Int32)) hx hb d_Mo_signOf_83 (by decide) ?_
    refine lv_goto (tgt := 99) hx hb d_Mo_signOf_84 (by decide) ?_
    cases h
    exact W.iret hx hb hr (fun t ht hW => ⟨⟨_, (), rfl, rfl, by rw [ht]; exact hP, va_K.moved hW.alike hK, hD⟩, hS.F ht⟩) hS.2.2 d_Mo_signOf_99 hlocks
def P_Mo_signOf_59   (x3 : Int64) (x5 : Int64) (x7 : Int32) (x8 : Int32) (k0 : Int64) (o_first_f : Nat → Int64) (o_second_f : Nat → Int64) : Option (Int32 × (Nat → Int64) × (Nat → Int64)) :=
  if 0 ≤ (lg_cmp x3 (0 : Int64)) then (P_Mo_signOf_71 x5 x7 x8 x3 k0 o_first_f o_second_f) else (P_Mo_signOf_71 x5 x7 x8 (-x3) k0 o_first_f o_second_f)
set_option maxHeartbeats 4000000 in
set_option maxRecDepth 100000 in
theorem w_Mo_signOf_59 (C0 : Cx p s m args meth c A dC dI cy b_Mo_signOf 10 (some .int) "GlyphPageModel") (o : Nat) (o_page : Nat) (o_tape : Nat) (o_spare : Nat) (o_lineFrom : Nat) (o_lineTo : Nat) (o_lineWidth : Nat) (o_flag : Nat) (o_px : Nat) (o_py : Nat) (o_first : Nat) (o_second : Nat) (o_width : Int32) (o_height : Int32) (o_tapeLength : Int32) (o_font : Option Nat) (o_scale : Int32) (o_lines : Int32) (o_at : Int32) (o_end : Int32) (o_good : Int32) (o_touches : Int32) (o_turns : Int32) (a1 : Int64) (a2 : Int64) (a3 : Int64) (uu : Int32 × (Nat → Int64) × (Nat → Int64))  (x3 : Int64) (x5 : Int64) (x7 : Int32) (x8 : Int32) (k0 : Int64) (o_first_f : Nat → Int64) (o_second_f : Nat → Int64) {H : Heap} {locs : List Loc} {ls : Array Slot} (h : P_Mo_signOf_59 x3 x5 x7 x8 k0 o_first_f o_second_f = some uu) : va_P (dC, dI) classes [(o, .inr (9, [.int o_width, .int o_height, .ref o_page, .ref o_tape, .int o_tapeLength, va_rf o_font, .ref o_spare, .int o_scale, .ref o_lineFrom, .ref o_lineTo, .ref o_lineWidth, .int o_lines, .int o_at, .int o_end, .int o_good, .ref o_flag, .ref o_px, .ref o_py, .int o_touches, .ref o_first, .ref o_second, .int o_turns])), (o_first, .inl (cy 3, 6, .inr (.inl o_first_f))), (o_second, .inl (cy 3, 6, .inr (.inl o_second_f)))] H → va_D A [(o, .inr (9, [.int o_width, .int o_height, .ref o_page, .ref o_tape, .int o_tapeLength, va_rf o_font, .ref o_spare, .int o_scale, .ref o_lineFrom, .ref o_lineTo, .ref o_lineWidth, .int o_lines, .int o_at, .int o_end, .int o_good, .ref o_flag, .ref o_px, .ref o_py, .int o_touches, .ref o_first, .ref o_second, .int o_turns])), (o_first, .inl (cy 3, 6, .inr (.inl o_first_f))), (o_second, .inl (cy 3, 6, .inr (.inl o_second_f)))] → va_S A s.heap H locs → lv_has ls 10 [(3, .long x3), (5, .long x5), (7, .int x7), (8, .int x8)] → W p l e ({ frames := 3, cells := 0, slots := 0, locals := 93 } : Room) s m args below meth c H locs 0 0 (MQ below (va_Qi (fun r (_ : Unit) => r = uu.1) (fun _ t => va_P (dC, dI) classes [(o, .inr (9, [.int o_width, .int o_height, .ref o_page, .ref o_tape, .int o_tapeLength, va_rf o_font, .ref o_spare, .int o_scale, .ref o_lineFrom, .ref o_lineTo, .ref o_lineWidth, .int o_lines, .int o_at, .int o_end, .int o_good, .ref o_flag, .ref o_px, .ref o_py, .int o_touches, .ref o_first, .ref o_second, .int o_turns])), (o_first, .inl (cy 3, 6, .inr (.inl uu.2.1))), (o_second, .inl (cy 3, 6, .inr (.inl uu.2.2)))] t.heap ∧ va_K (dC, dI) classes (TY cy) t ∧ va_D A [(o, .inr (9, [.int o_width, .int o_height, .ref o_page, .ref o_tape, .int o_tapeLength, va_rf o_font, .ref o_spare, .int o_scale, .ref o_lineFrom, .ref o_lineTo, .ref o_lineWidth, .int o_lines, .int o_at, .int o_end, .int o_good, .ref o_flag, .ref o_px, .ref o_py, .int o_touches, .ref o_first, .ref o_second, .int o_turns])), (o_first, .inl (cy 3, 6, .inr (.inl uu.2.1))), (o_second, .inl (cy 3, 6, .inr (.inl uu.2.2)))]) A) args s 0 0 A) (F0 m 59 ls [.long k0, .ref o]) := by
  intro hP hD hS hl
  obtain ⟨hx, hb, hr, hlocks, hml, hown, htsG, hA, hK⟩ := id C0
  unfold P_Mo_signOf_59 at h
  refine lv_lload_n hx hb d_Mo_signOf_59 rfl (lv_at hl 0 rfl) ?_
  refine lv_lconst (v := (0 : Int64)) hx hb d_Mo_signOf_60 (by decide) ?_
  refine W.lcmp hx hb d_Mo_signOf_61 ?_
  refine lv_if_ge (tgt := 70) hx hb d_Mo_signOf_62 (by decide) (fun c_1 => ?_) (fun c_1 => ?_)
  · replace h := (if_pos c_1).symm.trans h
    refine lv_lload_n hx hb d_Mo_signOf_70 rfl (lv_at hl 0 rfl) ?_
    exact w_Mo_signOf_71 C0 o o_page o_tape o_spare o_lineFrom o_lineTo o_lineWidth o_flag o_px o_py o_first o_second o_width o_height o_tapeLength o_font o_scale o_lines o_at o_end o_good o_touches o_turns a1 a2 a3 uu  x5 x7 x8 x3 k0 o_first_f o_second_f h hP hD hS (lv_sub hl [1, 2, 3] rfl)
  · replace h := (if_neg c_1).symm.trans h
    refine lv_lload_n hx hb d_Mo_signOf_65 rfl (lv_at hl 0 rfl) ?_
    refine lv_lneg hx hb d_Mo_signOf_66 ?_
    refine lv_goto (tgt := 71) hx hb d_Mo_signOf_67 (by decide) ?_
    exact w_Mo_signOf_71 C0 o o_page o_tape o_spare o_lineFrom o_lineTo o_lineWidth o_flag o_px o_py o_first o_second o_width o_height o_tapeLength o_font o_scale o_lines o_at o_end o_good o_touches o_turns a1 a2 a3 uu  x5 x7 x8 (-x3) k0 o_first_f o_second_f h hP hD hS (lv_sub hl [1, 2, 3] rfl)
def P_Mo_signOf_21   (x1 : Int64) (x3 : Int64) (x5 : Int64) (x7 : Int32) (k0 : Int32) (o_first_f : Nat → Int64) (o_second_f : Nat → Int64) : Option (Int32 × (Nat → Int64) × (Nat → Int64)) :=
  if x7 = k0 then (some (x7, o_first_f, o_second_f)) else (if k0 = 0 then (some (x7, o_first_f, o_second_f)) else (if x7 = 0 then (some (k0, o_first_f, o_second_f)) else (if 0 ≤ (lg_cmp x1 (0 : Int64)) then (P_Mo_signOf_59 x3 x5 x7 k0 x1 o_first_f o_second_f) else (P_Mo_signOf_59 x3 x5 x7 k0 (-x1) o_first_f o_second_f))))
set_option maxHeartbeats 4000000 in
set_option maxRecDepth 100000 in
theorem w_Mo_signOf_21 (C0 : Cx p s m args meth c A dC dI cy b_Mo_signOf 10 (some .int) "GlyphPageModel") (o : Nat) (o_page : Nat) (o_tape : Nat) (o_spare : Nat) (o_lineFrom : Nat) (o_lineTo : Nat) (o_lineWidth : Nat) (o_flag : Nat) (o_px : Nat) (o_py : Nat) (o_first : Nat) (o_second : Nat) (o_width : Int32) (o_height : Int32) (o_tapeLength : Int32) (o_font : Option Nat) (o_scale : Int32) (o_lines : Int32) (o_at : Int32) (o_end : Int32) (o_good : Int32) (o_touches : Int32) (o_turns : Int32) (a1 : Int64) (a2 : Int64) (a3 : Int64) (uu : Int32 × (Nat → Int64) × (Nat → Int64))  (x1 : Int64) (x3 : Int64) (x5 : Int64) (x7 : Int32) (k0 : Int32) (o_first_f : Nat → Int64) (o_second_f : Nat → Int64) {H : Heap} {locs : List Loc} {ls : Array Slot} (h : P_Mo_signOf_21 x1 x3 x5 x7 k0 o_first_f o_second_f = some uu) : va_P (dC, dI) classes [(o, .inr (9, [.int o_width, .int o_height, .ref o_page, .ref o_tape, .int o_tapeLength, va_rf o_font, .ref o_spare, .int o_scale, .ref o_lineFrom, .ref o_lineTo, .ref o_lineWidth, .int o_lines, .int o_at, .int o_end, .int o_good, .ref o_flag, .ref o_px, .ref o_py, .int o_touches, .ref o_first, .ref o_second, .int o_turns])), (o_first, .inl (cy 3, 6, .inr (.inl o_first_f))), (o_second, .inl (cy 3, 6, .inr (.inl o_second_f)))] H → va_D A [(o, .inr (9, [.int o_width, .int o_height, .ref o_page, .ref o_tape, .int o_tapeLength, va_rf o_font, .ref o_spare, .int o_scale, .ref o_lineFrom, .ref o_lineTo, .ref o_lineWidth, .int o_lines, .int o_at, .int o_end, .int o_good, .ref o_flag, .ref o_px, .ref o_py, .int o_touches, .ref o_first, .ref o_second, .int o_turns])), (o_first, .inl (cy 3, 6, .inr (.inl o_first_f))), (o_second, .inl (cy 3, 6, .inr (.inl o_second_f)))] → va_S A s.heap H locs → lv_has ls 10 [(0, .ref o), (1, .long x1), (3, .long x3), (5, .long x5), (7, .int x7)] → W p l e ({ frames := 3, cells := 0, slots := 0, locals := 93 } : Room) s m args below meth c H locs 0 0 (MQ below (va_Qi (fun r (_ : Unit) => r = uu.1) (fun _ t => va_P (dC, dI) classes [(o, .inr (9, [.int o_width, .int o_height, .ref o_page, .ref o_tape, .int o_tapeLength, va_rf o_font, .ref o_spare, .int o_scale, .ref o_lineFrom, .ref o_lineTo, .ref o_lineWidth, .int o_lines, .int o_at, .int o_end, .int o_good, .ref o_flag, .ref o_px, .ref o_py, .int o_touches, .ref o_first, .ref o_second, .int o_turns])), (o_first, .inl (cy 3, 6, .inr (.inl uu.2.1))), (o_second, .inl (cy 3, 6, .inr (.inl uu.2.2)))] t.heap ∧ va_K (dC, dI) classes (TY cy) t ∧ va_D A [(o, .inr (9, [.int o_width, .int o_height, .ref o_page, .ref o_tape, .int o_tapeLength, va_rf o_font, .ref o_spare, .int o_scale, .ref o_lineFrom, .ref o_lineTo, .ref o_lineWidth, .int o_lines, .int o_at, .int o_end, .int o_good, .ref o_flag, .ref o_px, .ref o_py, .int o_touches, .ref o_first, .ref o_second, .int o_turns])), (o_first, .inl (cy 3, 6, .inr (.inl uu.2.1))), (o_second, .inl (cy 3, 6, .inr (.inl uu.2.2)))]) A) args s 0 0 A) (F0 m 21 ls [.int k0]) := by
  intro hP hD hS hl
  obtain ⟨hx, hb, hr, hlocks, hml, hown, htsG, hA, hK⟩ := id C0
  unfold P_Mo_signOf_21 at h
  refine lv_istore (lv' := [(8, .int k0), (0, .ref o), (1, .long x1), (3, .long x3), (5, .long x5), (7, .int x7)]) hx hb d_Mo_signOf_21 hl (by decide) rfl (fun ls hl => ?_)
  refine lv_iload hx hb d_Mo_signOf_23 (lv_at hl 5 rfl) ?_
  refine lv_iload hx hb d_Mo_signOf_25 (lv_at hl 0 rfl) ?_
  refine lv_icmp_eq (tgt := 35) hx hb d_Mo_signOf_27 (by decide) (fun c_1 => ?_) (fun c_1 => ?_)
  · replace h := (if_pos c_1).symm.trans h
    refine lv_iload hx hb d_Mo_signOf_35 (lv_at hl 5 rfl) ?_
    cases h
    exact W.iret hx hb hr (fun t ht hW => ⟨⟨_, (), rfl, rfl, by rw [ht]; exact hP, va_K.moved hW.alike hK, hD⟩, hS.F ht⟩) hS.2.2 d_Mo_signOf_37 hlocks
  · replace h := (if_neg c_1).symm.trans h
    refine lv_iload hx hb d_Mo_signOf_30 (lv_at hl 0 rfl) ?_
    refine lv_if_ne (tgt := 38) hx hb d_Mo_signOf_32 (by decide) (fun c_2 => ?_) (fun c_2 => ?_)
    · replace h := (if_neg c_2).symm.trans h
      refine lv_iload hx hb d_Mo_signOf_38 (lv_at hl 5 rfl) ?_
      refine lv_if_ne (tgt := 46) hx hb d_Mo_signOf_40 (by decide) (fun c_3 => ?_) (fun c_3 => ?_)
      · replace h := (if_neg c_3).symm.trans h
        refine lv_aload_n hx hb d_Mo_signOf_46 rfl (lv_at hl 1 rfl) ?_
        refine lv_lload_n hx hb d_Mo_signOf_47 rfl (lv_at hl 2 rfl) ?_
        refine lv_lconst (v := (0 : Int64)) hx hb d_Mo_signOf_48 (by decide) ?_
        refine W.lcmp hx hb d_Mo_signOf_49 ?_
        refine lv_if_ge (tgt := 58) hx hb d_Mo_signOf_50 (by decide) (fun c_4 => ?_) (fun c_4 => ?_)
        · replace h := (if_pos c_4).symm.trans h
          refine lv_lload_n hx hb d_Mo_signOf_58 rfl (lv_at hl 2 rfl) ?_
          exact w_Mo_signOf_59 C0 o o_page o_tape o_spare o_lineFrom o_lineTo o_lineWidth o_flag o_px o_py o_first o_second o_width o_height o_tapeLength o_font o_scale o_lines o_at o_end o_good o_touches o_turns a1 a2 a3 uu  x3 x5 x7 k0 x1 o_first_f o_second_f h hP hD hS (lv_sub hl [3, 4, 5, 0] rfl)
        · replace h := (if_neg c_4).symm.trans h
          refine lv_lload_n hx hb d_Mo_signOf_53 rfl (lv_at hl 2 rfl) ?_
          refine lv_lneg hx hb d_Mo_signOf_54 ?_
          refine lv_goto (tgt := 59) hx hb d_Mo_signOf_55 (by decide) ?_
          exact w_Mo_signOf_59 C0 o o_page o_tape o_spare o_lineFrom o_lineTo o_lineWidth o_flag o_px o_py o_first o_second o_width o_height o_tapeLength o_font o_scale o_lines o_at o_end o_good o_touches o_turns a1 a2 a3 uu  x3 x5 x7 k0 (-x1) o_first_f o_second_f h hP hD hS (lv_sub hl [3, 4, 5, 0] rfl)
      · replace h := (if_pos c_3).symm.trans h
        refine lv_iload hx hb d_Mo_signOf_43 (lv_at hl 0 rfl) ?_
        cases h
        exact W.iret hx hb hr (fun t ht hW => ⟨⟨_, (), rfl, rfl, by rw [ht]; exact hP, va_K.moved hW.alike hK, hD⟩, hS.F ht⟩) hS.2.2 d_Mo_signOf_45 hlocks
    · replace h := (if_pos c_2).symm.trans h
      refine lv_iload hx hb d_Mo_signOf_35 (lv_at hl 5 rfl) ?_
      cases h
      exact W.iret hx hb hr (fun t ht hW => ⟨⟨_, (), rfl, rfl, by rw [ht]; exact hP, va_K.moved hW.alike hK, hD⟩, hS.F ht⟩) hS.2.2 d_Mo_signOf_37 hlocks
def P_Mo_signOf (o_first_f : Nat → Int64) (o_second_f : Nat → Int64) (a1 : Int64) (a2 : Int64) (a3 : Int64) : Option (Int32 × (Nat → Int64) × (Nat → Int64)) :=
  (P_Mo_sign a1).bind fun r_1 => if (lg_cmp a3 (0 : Int64)) = 0 then (P_Mo_signOf_21 a1 a2 a3 r_1 (0 : Int32) o_first_f o_second_f) else ((P_Mo_sign a2).bind fun r_3 => P_Mo_signOf_21 a1 a2 a3 r_1 r_3 o_first_f o_second_f)
set_option maxHeartbeats 4000000 in
set_option maxRecDepth 100000 in
theorem c_Mo_signOf (l : Launch) (dC : Nat → ClassId) (dI : Nat → Nat → Nat) (cy : Nat → ClassId) (sz : Nat) (o : Nat) (o_page : Nat) (o_tape : Nat) (o_spare : Nat) (o_lineFrom : Nat) (o_lineTo : Nat) (o_lineWidth : Nat) (o_flag : Nat) (o_px : Nat) (o_py : Nat) (o_first : Nat) (o_second : Nat) (o_width : Int32) (o_height : Int32) (o_tapeLength : Int32) (o_font : Option Nat) (o_scale : Int32) (o_lines : Int32) (o_at : Int32) (o_end : Int32) (o_good : Int32) (o_touches : Int32) (o_turns : Int32) (o_first_f : Nat → Int64) (o_second_f : Nat → Int64) (a1 : Int64) (a2 : Int64) (a3 : Int64) (uu : Int32 × (Nat → Int64) × (Nat → Int64)) (h : P_Mo_signOf o_first_f o_second_f a1 a2 a3 = some uu) : Met l y_Mo_signOf (Cond.code y_Mo_signOf b_Mo_signOf 10 (some .int) :: G) ({ frames := 3, cells := 0, slots := 0, locals := 93 } : Room) (va_Pc [.ref o, .long a1, .long a2, .long a3] (fun U => U.heap.size = sz ∧ va_P (dC, dI) classes [(o, .inr (9, [.int o_width, .int o_height, .ref o_page, .ref o_tape, .int o_tapeLength, va_rf o_font, .ref o_spare, .int o_scale, .ref o_lineFrom, .ref o_lineTo, .ref o_lineWidth, .int o_lines, .int o_at, .int o_end, .int o_good, .ref o_flag, .ref o_px, .ref o_py, .int o_touches, .ref o_first, .ref o_second, .int o_turns])), (o_first, .inl (cy 3, 6, .inr (.inl o_first_f))), (o_second, .inl (cy 3, 6, .inr (.inl o_second_f)))] U.heap ∧ va_K (dC, dI) classes (TY cy) U ∧ va_D (fun _ => True) [(o, .inr (9, [.int o_width, .int o_height, .ref o_page, .ref o_tape, .int o_tapeLength, va_rf o_font, .ref o_spare, .int o_scale, .ref o_lineFrom, .ref o_lineTo, .ref o_lineWidth, .int o_lines, .int o_at, .int o_end, .int o_good, .ref o_flag, .ref o_px, .ref o_py, .int o_touches, .ref o_first, .ref o_second, .int o_turns])), (o_first, .inl (cy 3, 6, .inr (.inl o_first_f))), (o_second, .inl (cy 3, 6, .inr (.inl o_second_f)))])) (va_Qi (fun r (_ : Unit) => r = uu.1) (fun _ t => va_P (dC, dI) classes [(o, .inr (9, [.int o_width, .int o_height, .ref o_page, .ref o_tape, .int o_tapeLength, va_rf o_font, .ref o_spare, .int o_scale, .ref o_lineFrom, .ref o_lineTo, .ref o_lineWidth, .int o_lines, .int o_at, .int o_end, .int o_good, .ref o_flag, .ref o_px, .ref o_py, .int o_touches, .ref o_first, .ref o_second, .int o_turns])), (o_first, .inl (cy 3, 6, .inr (.inl uu.2.1))), (o_second, .inl (cy 3, 6, .inr (.inl uu.2.2)))] t.heap ∧ va_K (dC, dI) classes (TY cy) t ∧ va_D (va_A [(o, .inr (9, [.int o_width, .int o_height, .ref o_page, .ref o_tape, .int o_tapeLength, va_rf o_font, .ref o_spare, .int o_scale, .ref o_lineFrom, .ref o_lineTo, .ref o_lineWidth, .int o_lines, .int o_at, .int o_end, .int o_good, .ref o_flag, .ref o_px, .ref o_py, .int o_touches, .ref o_first, .ref o_second, .int o_turns])), (o_first, .inl (cy 3, 6, .inr (.inl o_first_f))), (o_second, .inl (cy 3, 6, .inr (.inl o_second_f)))] sz) [(o, .inr (9, [.int o_width, .int o_height, .ref o_page, .ref o_tape, .int o_tapeLength, va_rf o_font, .ref o_spare, .int o_scale, .ref o_lineFrom, .ref o_lineTo, .ref o_lineWidth, .int o_lines, .int o_at, .int o_end, .int o_good, .ref o_flag, .ref o_px, .ref o_py, .int o_touches, .ref o_first, .ref o_second, .int o_turns])), (o_first, .inl (cy 3, 6, .inr (.inl uu.2.1))), (o_second, .inl (cy 3, 6, .inr (.inl uu.2.2)))]) (va_A [(o, .inr (9, [.int o_width, .int o_height, .ref o_page, .ref o_tape, .int o_tapeLength, va_rf o_font, .ref o_spare, .int o_scale, .ref o_lineFrom, .ref o_lineTo, .ref o_lineWidth, .int o_lines, .int o_at, .int o_end, .int o_good, .ref o_flag, .ref o_px, .ref o_py, .int o_touches, .ref o_first, .ref o_second, .int o_turns])), (o_first, .inl (cy 3, 6, .inr (.inl o_first_f))), (o_second, .inl (cy 3, 6, .inr (.inl o_second_f)))] sz)) 0 0 (va_A [(o, .inr (9, [.int o_width, .int o_height, .ref o_page, .ref o_tape, .int o_tapeLength, va_rf o_font, .ref o_spare, .int o_scale, .ref o_lineFrom, .ref o_lineTo, .ref o_lineWidth, .int o_lines, .int o_at, .int o_end, .int o_good, .ref o_flag, .ref o_px, .ref o_py, .int o_touches, .ref o_first, .ref o_second, .int o_turns])), (o_first, .inl (cy 3, 6, .inr (.inl o_first_f))), (o_second, .inl (cy 3, 6, .inr (.inl o_second_f)))] sz) := by
  refine Met.ofW (cc := b_Mo_signOf) (maxL := 10) (ret := (some .int)) (by decide) rfl ?_
  intro p e s m args below meth c s₁ B hml hv
  obtain ⟨rfl, hsz, hP, hK, hD0⟩ := hv
  have hx := B.exec
  have hb := B.bytes
  have hr := B.returns
  have hts := atoms_spec (ws := Cond.code y_Mo_signOf b_Mo_signOf 10 (some .int) :: G) B.pre
  have htsG : ∀ w ∈ G, w.before _ s = true := fun w hw => hts w (List.mem_cons_of_mem _ hw)
  have hown : s.vm.findClass "GlyphPageModel" = some m.cls := findClass_of_methodNamed B.named
  have hlocks := B.notSynchronized
  subst hsz
  have hD := hD0.self (sz := s.heap.size)
  generalize hAe : va_A [(o, .inr (9, [.int o_width, .int o_height, .ref o_page, .ref o_tape, .int o_tapeLength, va_rf o_font, .ref o_spare, .int o_scale, .ref o_lineFrom, .ref o_lineTo, .ref o_lineWidth, .int o_lines, .int o_at, .int o_end, .int o_good, .ref o_flag, .ref o_px, .ref o_py, .int o_touches, .ref o_first, .ref o_second, .int o_turns])), (o_first, .inl (cy 3, 6, .inr (.inl o_first_f))), (o_second, .inl (cy 3, 6, .inr (.inl o_second_f)))] s.heap.size = A at hD ⊢
  have hA : ∀ q : Nat, s.heap.size ≤ q → A q := fun q h => by rw [← hAe]; exact Or.inr h
  have hS : va_S A s.heap s.heap [] := va_S.rf
  have hl := lv_entry ([.ref o, .long a1, .long a2, .long a3]) (n := 10) (Nat.le_of_ble_eq_true rfl)
  rw [lg_entry_eq]
  generalize (lg_sl ([.ref o, .long a1, .long a2, .long a3]) ++ List.replicate (10 - (lg_sl ([.ref o, .long a1, .long a2, .long a3])).length) Slot.unset).toArray = ls at hl ⊢
  have hl : lv_has ls 10 [(0, .ref o), (1, .long a1), (3, .long a2), (5, .long a3)] := hl
  have C0 : Cx p s m _ meth c A dC dI cy b_Mo_signOf 10 (some .int) "GlyphPageModel" := ⟨hx, hb, hr, hlocks, hml, hown, htsG, hA, hK⟩
  unfold P_Mo_signOf at h
  refine lv_lload_n hx hb d_Mo_signOf_0 rfl (lv_at hl 1 rfl) ?_
  obtain ⟨r_1, hq, h⟩ := Option.bind_eq_some_iff.mp h
  try dsimp only at h
  have hPc := hP.sub (ws' := []) [] rfl
  have hDc := hD.sub (ws' := []) [] (by decide) rfl
  have hFc := va_free (wc := []) hD hS hA [] rfl
  refine va_calli (va_runS (As := [.long a1]) (rest := []) ⟨hx, hb, hml, hown, htsG⟩ (c_Mo_sign l dC dI cy s.heap.size a1 r_1 hq) (va_cwS 1 htsG (gS mW1106 mW1107 mW9 mW1108) rfl rfl rfl (by decide +kernel) ⟨Nat.le_of_ble_eq_true rfl, Nat.le_of_ble_eq_true rfl⟩) ⟨fun a U g mk q => by obtain ⟨q0, q1, qP, qK, qD⟩ := q; exact ⟨q0, q1, qP, va_K.moved (u := U) (U := U.calling g mk a) (Vm.Alike.refl U.vm) qK, qD⟩, fun U hU hW => ⟨rfl, by rw [hU], by rw [hU]; exact hPc, va_K.moved hW.alike hK, hDc.weaken (fun _ _ _ _ => trivial)⟩⟩ rfl rfl hl.1 rfl (lv_room (Nat.le_of_ble_eq_true rfl)) d_Mo_signOf_1 ⟨Nat.le_of_ble_eq_true rfl, Nat.le_of_ble_eq_true rfl⟩) hS (fun q _ h => hFc q h) hFc (fun rr u t H1 locs ht hvm hw hB hz1 hk1 hS => ?_)
  obtain ⟨hP1, hK1, hD1⟩ := hB
  rw [ht] at hP1
  replace hw : r_1 = rr := hw.symm
  subst hw
  obtain ⟨hP, hD⟩ := va_join (wr := [(o, .inr (9, [.int o_width, .int o_height, .ref o_page, .ref o_tape, .int o_tapeLength, va_rf o_font, .ref o_spare, .int o_scale, .ref o_lineFrom, .ref o_lineTo, .ref o_lineWidth, .int o_lines, .int o_at, .int o_end, .int o_good, .ref o_flag, .ref o_px, .ref o_py, .int o_touches, .ref o_first, .ref o_second, .int o_turns])), (o_first, .inl (cy 3, 6, .inr (.inl o_first_f))), (o_second, .inl (cy 3, 6, .inr (.inl o_second_f)))]) (w1 := []) hP hD [] [0, 1, 2] rfl rfl (by decide) (by decide) hk1 hFc hP1 hD1
  generalize H1 = H at hP hS ⊢
  have hP := hP.sub (ws' := [(o, .inr (9, [.int o_width, .int o_height, .ref o_page, .ref o_tape, .int o_tapeLength, va_rf o_font, .ref o_spare, .int o_scale, .ref o_lineFrom, .ref o_lineTo, .ref o_lineWidth, .int o_lines, .int o_at, .int o_end, .int o_good, .ref o_flag, .ref o_px, .ref o_py, .int o_touches, .ref o_first, .ref o_second, .int o_turns])), (o_first, .inl (cy 3, 6, .inr (.inl o_first_f))), (o_second, .inl (cy 3, 6, .inr (.inl o_second_f)))]) [0, 1, 2] rfl
  have hD := hD.sub (ws' := [(o, .inr (9, [.int o_width, .int o_height, .ref o_page, .ref o_tape, .int o_tapeLength, va_rf o_font, .ref o_spare, .int o_scale, .ref o_lineFrom, .ref o_lineTo, .ref o_lineWidth, .int o_lines, .int o_at, .int o_end, .int o_good, .ref o_flag, .ref o_px, .ref o_py, .int o_touches, .ref o_first, .ref o_second, .int o_turns])), (o_first, .inl (cy 3, 6, .inr (.inl o_first_f))), (o_second, .inl (cy 3, 6, .inr (.inl o_second_f)))]) [0, 1, 2] (by decide) rfl
  refine W.widen (k := 0) (n := 0) (by decide) (by decide) ?_
  refine lv_istore (lv' := [(7, .int r_1), (0, .ref o), (1, .long a1), (3, .long a2), (5, .long a3)]) hx hb d_Mo_signOf_4 hl (by decide) rfl (fun ls hl => ?_)
  refine lv_lload hx hb d_Mo_signOf_6 (lv_at hl 4 rfl) ?_
  refine lv_lconst (v := (0 : Int64)) hx hb d_Mo_signOf_8 (by decide) ?_
  refine W.lcmp hx hb d_Mo_signOf_9 ?_
  refine lv_if_ne (tgt := 17) hx hb d_Mo_signOf_10 (by decide) (fun c_2 => ?_) (fun c_2 => ?_)
  · replace h := (if_neg c_2).symm.trans h
    refine lv_lload_n hx hb d_Mo_signOf_17 rfl (lv_at hl 3 rfl) ?_
    obtain ⟨r_3, hq, h⟩ := Option.bind_eq_some_iff.mp h
    try dsimp only at h
    have hPc := hP.sub (ws' := []) [] rfl
    have hDc := hD.sub (ws' := []) [] (by decide) rfl
    have hFc := va_free (wc := []) hD hS hA [] rfl
    refine va_calli (va_runS (As := [.long a2]) (rest := []) ⟨hx, hb, hml, hown, htsG⟩ (c_Mo_sign l dC dI cy H.size a2 r_3 hq) (va_cwS 1 htsG (gS mW1106 mW1107 mW9 mW1108) rfl rfl rfl (by decide +kernel) ⟨Nat.le_of_ble_eq_true rfl, Nat.le_of_ble_eq_true rfl⟩) ⟨fun a U g mk q => by obtain ⟨q0, q1, qP, qK, qD⟩ := q; exact ⟨q0, q1, qP, va_K.moved (u := U) (U := U.calling g mk a) (Vm.Alike.refl U.vm) qK, qD⟩, fun U hU hW => ⟨rfl, by rw [hU], by rw [hU]; exact hPc, va_K.moved hW.alike hK, hDc.weaken (fun _ _ _ _ => trivial)⟩⟩ rfl rfl hl.1 rfl (lv_room (Nat.le_of_ble_eq_true rfl)) d_Mo_signOf_18 ⟨Nat.le_of_ble_eq_true rfl, Nat.le_of_ble_eq_true rfl⟩) hS (fun q _ h => hFc q h) hFc (fun rr u t H1 locs ht hvm hw hB hz1 hk1 hS => ?_)
    obtain ⟨hP1, hK1, hD1⟩ := hB
    rw [ht] at hP1
    replace hw : r_3 = rr := hw.symm
    subst hw
    obtain ⟨hP, hD⟩ := va_join (wr := [(o, .inr (9, [.int o_width, .int o_height, .ref o_page, .ref o_tape, .int o_tapeLength, va_rf o_font, .ref o_spare, .int o_scale, .ref o_lineFrom, .ref o_lineTo, .ref o_lineWidth, .int o_lines, .int o_at, .int o_end, .int o_good, .ref o_flag, .ref o_px, .ref o_py, .int o_touches, .ref o_first, .ref o_second, .int o_turns])), (o_first, .inl (cy 3, 6, .inr (.inl o_first_f))), (o_second, .inl (cy 3, 6, .inr (.inl o_second_f)))]) (w1 := []) hP hD [] [0, 1, 2] rfl rfl (by decide) (by decide) hk1 hFc hP1 hD1
    generalize H1 = H at hP hS ⊢
    have hP := hP.sub (ws' := [(o, .inr (9, [.int o_width, .int o_height, .ref o_page, .ref o_tape, .int o_tapeLength, va_rf o_font, .ref o_spare, .int o_scale, .ref o_lineFrom, .ref o_lineTo, .ref o_lineWidth, .int o_lines, .int o_at, .int o_end, .int o_good, .ref o_flag, .ref o_px, .ref o_py, .int o_touches, .ref o_first, .ref o_second, .int o_turns])), (o_first, .inl (cy 3, 6, .inr (.inl o_first_f))), (o_second, .inl (cy 3, 6, .inr (.inl o_second_f)))]) [0, 1, 2] rfl
    have hD := hD.sub (ws' := [(o, .inr (9, [.int o_width, .int o_height, .ref o_page, .ref o_tape, .int o_tapeLength, va_rf o_font, .ref o_spare, .int o_scale, .ref o_lineFrom, .ref o_lineTo, .ref o_lineWidth, .int o_lines, .int o_at, .int o_end, .int o_good, .ref o_flag, .ref o_px, .ref o_py, .int o_touches, .ref o_first, .ref o_second, .int o_turns])), (o_first, .inl (cy 3, 6, .inr (.inl o_first_f))), (o_second, .inl (cy 3, 6, .inr (.inl o_second_f)))]) [0, 1, 2] (by decide) rfl
    refine W.widen (k := 0) (n := 0) (by decide) (by decide) ?_
    exact w_Mo_signOf_21 C0 o o_page o_tape o_spare o_lineFrom o_lineTo o_lineWidth o_flag o_px o_py o_first o_second o_width o_height o_tapeLength o_font o_scale o_lines o_at o_end o_good o_touches o_turns a1 a2 a3 uu  a1 a2 a3 r_1 r_3 o_first_f o_second_f h hP hD hS (lv_sub hl [1, 2, 3, 4, 0] rfl)
  · replace h := (if_pos c_2).symm.trans h
    refine lv_iconst (v := (0 : Int32)) hx hb d_Mo_signOf_13 (by decide) ?_
    refine lv_goto (tgt := 21) hx hb d_Mo_signOf_14 (by decide) ?_
    exact w_Mo_signOf_21 C0 o o_page o_tape o_spare o_lineFrom o_lineTo o_lineWidth o_flag o_px o_py o_first o_second o_width o_height o_tapeLength o_font o_scale o_lines o_at o_end o_good o_touches o_turns a1 a2 a3 uu  a1 a2 a3 r_1 (0 : Int32) o_first_f o_second_f h hP hD hS (lv_sub hl [1, 2, 3, 4, 0] rfl)
def P_Mo_cross_30   (x1 : Int32) (x2 : Int32) (k0 : Int32) (o_touches : Int32) (o_turns : Int32) : Option (Int32 × Int32) :=
  if x1 = 0 then (some (o_touches, (k0 + (0 : Int32)))) else (if x2 = 0 then (some (o_touches, (k0 + (-1 : Int32)))) else (some (o_touches, (k0 + (0 : Int32)))))
set_option maxHeartbeats 4000000 in
set_option maxRecDepth 100000 in
theorem w_Mo_cross_30 (C0 : Cx p s m args meth c A dC dI cy b_Mo_cross 4 none "GlyphPageModel") (o : Nat) (o_page : Nat) (o_tape : Nat) (o_spare : Nat) (o_lineFrom : Nat) (o_lineTo : Nat) (o_lineWidth : Nat) (o_flag : Nat) (o_px : Nat) (o_py : Nat) (o_first : Nat) (o_second : Nat) (o_width : Int32) (o_height : Int32) (o_tapeLength : Int32) (o_font : Option Nat) (o_scale : Int32) (o_lines : Int32) (o_at : Int32) (o_end : Int32) (o_good : Int32) (a1 : Int32) (a2 : Int32) (a3 : Int32) (uu : Int32 × Int32)  (x1 : Int32) (x2 : Int32) (k0 : Int32) (o_touches : Int32) (o_turns : Int32) {H : Heap} {locs : List Loc} {ls : Array Slot} (h : P_Mo_cross_30 x1 x2 k0 o_touches o_turns = some uu) : va_P (dC, dI) classes [(o, .inr (9, [.int o_width, .int o_height, .ref o_page, .ref o_tape, .int o_tapeLength, va_rf o_font, .ref o_spare, .int o_scale, .ref o_lineFrom, .ref o_lineTo, .ref o_lineWidth, .int o_lines, .int o_at, .int o_end, .int o_good, .ref o_flag, .ref o_px, .ref o_py, .int o_touches, .ref o_first, .ref o_second, .int o_turns]))] H → va_D A [(o, .inr (9, [.int o_width, .int o_height, .ref o_page, .ref o_tape, .int o_tapeLength, va_rf o_font, .ref o_spare, .int o_scale, .ref o_lineFrom, .ref o_lineTo, .ref o_lineWidth, .int o_lines, .int o_at, .int o_end, .int o_good, .ref o_flag, .ref o_px, .ref o_py, .int o_touches, .ref o_first, .ref o_second, .int o_turns]))] → va_S A s.heap H locs → lv_has ls 4 [(1, .int x1), (2, .int x2)] → W p l e ({ frames := 0, cells := 0, slots := 0, locals := 0 } : Room) s m args below meth c H locs 0 0 (MQ below (va_Qv (fun _ : Unit => True) (fun _ t => va_P (dC, dI) classes [(o, .inr (9, [.int o_width, .int o_height, .ref o_page, .ref o_tape, .int o_tapeLength, va_rf o_font, .ref o_spare, .int o_scale, .ref o_lineFrom, .ref o_lineTo, .ref o_lineWidth, .int o_lines, .int o_at, .int o_end, .int o_good, .ref o_flag, .ref o_px, .ref o_py, .int uu.1, .ref o_first, .ref o_second, .int uu.2]))] t.heap ∧ va_K (dC, dI) classes (TY cy) t ∧ va_D A [(o, .inr (9, [.int o_width, .int o_height, .ref o_page, .ref o_tape, .int o_tapeLength, va_rf o_font, .ref o_spare, .int o_scale, .ref o_lineFrom, .ref o_lineTo, .ref o_lineWidth, .int o_lines, .int o_at, .int o_end, .int o_good, .ref o_flag, .ref o_px, .ref o_py, .int uu.1, .ref o_first, .ref o_second, .int uu.2]))]) A) args s 0 0 A) (F0 m 30 ls [.int k0, .ref o]) := by
  intro hP hD hS hl
  obtain ⟨hx, hb, hr, hlocks, hml, hown, htsG, hA, hK⟩ := id C0
  unfold P_Mo_cross_30 at h
  refine lv_iload_n hx hb d_Mo_cross_30 rfl (lv_at hl 0 rfl) ?_
  refine lv_if_eq (tgt := 42) hx hb d_Mo_cross_31 (by decide) (fun c_1 => ?_) (fun c_1 => ?_)
  · replace h := (if_pos c_1).symm.trans h
    refine lv_iconst (v := (0 : Int32)) hx hb d_Mo_cross_42 (by decide) ?_
    refine lv_iadd hx hb d_Mo_cross_43 ?_
    refine va_put (D := (dC, dI)) (ci := 9) (v := .int (k0 + (0 : Int32))) (ty := .int) (C := "GlyphPageModel") (T := F_Mo) (N := 22) hx hb htsG iG_Mo t_Mo t_Mo_ok n_Mo hown hK hP hD hS 0 rfl rfl 21 (by decide) (htsG _ mW877) (fun _ h9 => h9) rfl (by decide +kernel) rfl rfl (Nat.le_of_ble_eq_true rfl) d_Mo_cross_44 (fun H locs hP hD hS => ?_)
    have hP : va_P (dC, dI) classes [(o, .inr (9, [.int o_width, .int o_height, .ref o_page, .ref o_tape, .int o_tapeLength, va_rf o_font, .ref o_spare, .int o_scale, .ref o_lineFrom, .ref o_lineTo, .ref o_lineWidth, .int o_lines, .int o_at, .int o_end, .int o_good, .ref o_flag, .ref o_px, .ref o_py, .int o_touches, .ref o_first, .ref o_second, .int (k0 + (0 : Int32))]))] H := hP
    have hD : va_D A [(o, .inr (9, [.int o_width, .int o_height, .ref o_page, .ref o_tape, .int o_tapeLength, va_rf o_font, .ref o_spare, .int o_scale, .ref o_lineFrom, .ref o_lineTo, .ref o_lineWidth, .int o_lines, .int o_at, .int o_end, .int o_good, .ref o_flag, .ref o_px, .ref o_py, .int o_touches, .ref o_first, .ref o_second, .int (k0 + (0 : Int32))]))] := hD
    cases h
    exact W.vret hx hb hr (fun t ht hW => ⟨⟨(), rfl, trivial, by rw [ht]; exact hP, va_K.moved hW.alike hK, hD⟩, hS.F ht⟩) hS.2.2 d_Mo_cross_47 hlocks
  · replace h := (if_neg c_1).symm.trans h
    refine lv_iload_n hx hb d_Mo_cross_34 rfl (lv_at hl 1 rfl) ?_
    refine lv_if_ne (tgt := 42) hx hb d_Mo_cross_35 (by decide) (fun c_2 => ?_) (fun c_2 => ?_)
    · replace h := (if_neg c_2).symm.trans h
      refine lv_iconst (v := (0 : Int32)) hx hb d_Mo_cross_42 (by decide) ?_
      refine lv_iadd hx hb d_Mo_cross_43 ?_
      refine va_put (D := (dC, dI)) (ci := 9) (v := .int (k0 + (0 : Int32))) (ty := .int) (C := "GlyphPageModel") (T := F_Mo) (N := 22) hx hb htsG iG_Mo t_Mo t_Mo_ok n_Mo hown hK hP hD hS 0 rfl rfl 21 (by decide) (htsG _ mW877) (fun _ h9 => h9) rfl (by decide +kernel) rfl rfl (Nat.le_of_ble_eq_true rfl) d_Mo_cross_44 (fun H locs hP hD hS => ?_)
      have hP : va_P (dC, dI) classes [(o, .inr (9, [.int o_width, .int o_height, .ref o_page, .ref o_tape, .int o_tapeLength, va_rf o_font, .ref o_spare, .int o_scale, .ref o_lineFrom, .ref o_lineTo, .ref o_lineWidth, .int o_lines, .int o_at, .int o_end, .int o_good, .ref o_flag, .ref o_px, .ref o_py, .int o_touches, .ref o_first, .ref o_second, .int (k0 + (0 : Int32))]))] H := hP
      have hD : va_D A [(o, .inr (9, [.int o_width, .int o_height, .ref o_page, .ref o_tape, .int o_tapeLength, va_rf o_font, .ref o_spare, .int o_scale, .ref o_lineFrom, .ref o_lineTo, .ref o_lineWidth, .int o_lines, .int o_at, .int o_end, .int o_good, .ref o_flag, .ref o_px, .ref o_py, .int o_touches, .ref o_first, .ref o_second, .int (k0 + (0 : Int32))]))] := hD
      cases h
      exact W.vret hx hb hr (fun t ht hW => ⟨⟨(), rfl, trivial, by rw [ht]; exact hP, va_K.moved hW.alike hK, hD⟩, hS.F ht⟩) hS.2.2 d_Mo_cross_47 hlocks
    · replace h := (if_pos c_2).symm.trans h
      refine lv_iconst (v := (-1 : Int32)) hx hb d_Mo_cross_38 (by decide) ?_
      refine lv_goto (tgt := 43) hx hb d_Mo_cross_39 (by decide) ?_
      refine lv_iadd hx hb d_Mo_cross_43 ?_
      refine va_put (D := (dC, dI)) (ci := 9) (v := .int (k0 + (-1 : Int32))) (ty := .int) (C := "GlyphPageModel") (T := F_Mo) (N := 22) hx hb htsG iG_Mo t_Mo t_Mo_ok n_Mo hown hK hP hD hS 0 rfl rfl 21 (by decide) (htsG _ mW877) (fun _ h9 => h9) rfl (by decide +kernel) rfl rfl (Nat.le_of_ble_eq_true rfl) d_Mo_cross_44 (fun H locs hP hD hS => ?_)
      have hP : va_P (dC, dI) classes [(o, .inr (9, [.int o_width, .int o_height, .ref o_page, .ref o_tape, .int o_tapeLength, va_rf o_font, .ref o_spare, .int o_scale, .ref o_lineFrom, .ref o_lineTo, .ref o_lineWidth, .int o_lines, .int o_at, .int o_end, .int o_good, .ref o_flag, .ref o_px, .ref o_py, .int o_touches, .ref o_first, .ref o_second, .int (k0 + (-1 : Int32))]))] H := hP
      have hD : va_D A [(o, .inr (9, [.int o_width, .int o_height, .ref o_page, .ref o_tape, .int o_tapeLength, va_rf o_font, .ref o_spare, .int o_scale, .ref o_lineFrom, .ref o_lineTo, .ref o_lineWidth, .int o_lines, .int o_at, .int o_end, .int o_good, .ref o_flag, .ref o_px, .ref o_py, .int o_touches, .ref o_first, .ref o_second, .int (k0 + (-1 : Int32))]))] := hD
      cases h
      exact W.vret hx hb hr (fun t ht hW => ⟨⟨(), rfl, trivial, by rw [ht]; exact hP, va_K.moved hW.alike hK, hD⟩, hS.F ht⟩) hS.2.2 d_Mo_cross_47 hlocks
def P_Mo_cross_9   (x1 : Int32) (x2 : Int32) (x3 : Int32) (o_touches : Int32) (o_turns : Int32) : Option (Int32 × Int32) :=
  if x3 ≤ 0 then (some (o_touches, o_turns)) else (if x2 = 0 then (P_Mo_cross_30 x1 x2 o_turns o_touches o_turns) else (if x1 = 0 then (some (o_touches, (o_turns + (1 : Int32)))) else (P_Mo_cross_30 x1 x2 o_turns o_touches o_turns)))
set_option maxHeartbeats 4000000 in
set_option maxRecDepth 100000 in
theorem w_Mo_cross_9 (C0 : Cx p s m args meth c A dC dI cy b_Mo_cross 4 none "GlyphPageModel") (o : Nat) (o_page : Nat) (o_tape : Nat) (o_spare : Nat) (o_lineFrom : Nat) (o_lineTo : Nat) (o_lineWidth : Nat) (o_flag : Nat) (o_px : Nat) (o_py : Nat) (o_first : Nat) (o_second : Nat) (o_width : Int32) (o_height : Int32) (o_tapeLength : Int32) (o_font : Option Nat) (o_scale : Int32) (o_lines : Int32) (o_at : Int32) (o_end : Int32) (o_good : Int32) (a1 : Int32) (a2 : Int32) (a3 : Int32) (uu : Int32 × Int32)  (x1 : Int32) (x2 : Int32) (x3 : Int32) (o_touches : Int32) (o_turns : Int32) {H : Heap} {locs : List Loc} {ls : Array Slot} (h : P_Mo_cross_9 x1 x2 x3 o_touches o_turns = some uu) : va_P (dC, dI) classes [(o, .inr (9, [.int o_width, .int o_height, .ref o_page, .ref o_tape, .int o_tapeLength, va_rf o_font, .ref o_spare, .int o_scale, .ref o_lineFrom, .ref o_lineTo, .ref o_lineWidth, .int o_lines, .int o_at, .int o_end, .int o_good, .ref o_flag, .ref o_px, .ref o_py, .int o_touches, .ref o_first, .ref o_second, .int o_turns]))] H → va_D A [(o, .inr (9, [.int o_width, .int o_height, .ref o_page, .ref o_tape, .int o_tapeLength, va_rf o_font, .ref o_spare, .int o_scale, .ref o_lineFrom, .ref o_lineTo, .ref o_lineWidth, .int o_lines, .int o_at, .int o_end, .int o_good, .ref o_flag, .ref o_px, .ref o_py, .int o_touches, .ref o_first, .ref o_second, .int o_turns]))] → va_S A s.heap H locs → lv_has ls 4 [(0, .ref o), (1, .int x1), (2, .int x2), (3, .int x3)] → W p l e ({ frames := 0, cells := 0, slots := 0, locals := 0 } : Room) s m args below meth c H locs 0 0 (MQ below (va_Qv (fun _ : Unit => True) (fun _ t => va_P (dC, dI) classes [(o, .inr (9, [.int o_width, .int o_height, .ref o_page, .ref o_tape, .int o_tapeLength, va_rf o_font, .ref o_spare, .int o_scale, .ref o_lineFrom, .ref o_lineTo, .ref o_lineWidth, .int o_lines, .int o_at, .int o_end, .int o_good, .ref o_flag, .ref o_px, .ref o_py, .int uu.1, .ref o_first, .ref o_second, .int uu.2]))] t.heap ∧ va_K (dC, dI) classes (TY cy) t ∧ va_D A [(o, .inr (9, [.int o_width, .int o_height, .ref o_page, .ref o_tape, .int o_tapeLength, va_rf o_font, .ref o_spare, .int o_scale, .ref o_lineFrom, .ref o_lineTo, .ref o_lineWidth, .int o_lines, .int o_at, .int o_end, .int o_good, .ref o_flag, .ref o_px, .ref o_py, .int uu.1, .ref o_first, .ref o_second, .int uu.2]))]) A) args s 0 0 A) (F0 m 9 ls []) := by
  intro hP hD hS hl
  obtain ⟨hx, hb, hr, hlocks, hml, hown, htsG, hA, hK⟩ := id C0
  unfold P_Mo_cross_9 at h
  refine lv_iload_n hx hb d_Mo_cross_9 rfl (lv_at hl 3 rfl) ?_
  refine lv_if_le (tgt := 47) hx hb d_Mo_cross_10 (by decide) (fun c_1 => ?_) (fun c_1 => ?_)
  · replace h := (if_pos c_1).symm.trans h
    cases h
    exact W.vret hx hb hr (fun t ht hW => ⟨⟨(), rfl, trivial, by rw [ht]; exact hP, va_K.moved hW.alike hK, hD⟩, hS.F ht⟩) hS.2.2 d_Mo_cross_47 hlocks
  · replace h := (if_neg c_1).symm.trans h
    refine lv_aload_n hx hb d_Mo_cross_13 rfl (lv_at hl 0 rfl) ?_
    refine lv_dup hx hb d_Mo_cross_14 rfl ?_
    refine va_get (D := (dC, dI)) (ci := 9) (v := .int o_turns) (C := "GlyphPageModel") (T := F_Mo) (N := 22) hx hb htsG iG_Mo hown hK hP 0 rfl rfl 21 (by decide) (htsG _ mW877) (fun _ h9 => h9) rfl d_Mo_cross_15 ?_
    refine lv_iload_n hx hb d_Mo_cross_18 rfl (lv_at hl 2 rfl) ?_
    refine lv_if_eq (tgt := 30) hx hb d_Mo_cross_19 (by decide) (fun c_2 => ?_) (fun c_2 => ?_)
    · replace h := (if_pos c_2).symm.trans h
      exact w_Mo_cross_30 C0 o o_page o_tape o_spare o_lineFrom o_lineTo o_lineWidth o_flag o_px o_py o_first o_second o_width o_height o_tapeLength o_font o_scale o_lines o_at o_end o_good a1 a2 a3 uu  x1 x2 o_turns o_touches o_turns h hP hD hS (lv_sub hl [1, 2] rfl)
    · replace h := (if_neg c_2).symm.trans h
      refine lv_iload_n hx hb d_Mo_cross_22 rfl (lv_at hl 1 rfl) ?_
      refine lv_if_ne (tgt := 30) hx hb d_Mo_cross_23 (by decide) (fun c_3 => ?_) (fun c_3 => ?_)
      · replace h := (if_neg c_3).symm.trans h
        exact w_Mo_cross_30 C0 o o_page o_tape o_spare o_lineFrom o_lineTo o_lineWidth o_flag o_px o_py o_first o_second o_width o_height o_tapeLength o_font o_scale o_lines o_at o_end o_good a1 a2 a3 uu  x1 x2 o_turns o_touches o_turns h hP hD hS (lv_sub hl [1, 2] rfl)
      · replace h := (if_pos c_3).symm.trans h
        refine lv_iconst (v := (1 : Int32)) hx hb d_Mo_cross_26 (by decide) ?_
        refine lv_goto (tgt := 43) hx hb d_Mo_cross_27 (by decide) ?_
        refine lv_iadd hx hb d_Mo_cross_43 ?_
        refine va_put (D := (dC, dI)) (ci := 9) (v := .int (o_turns + (1 : Int32))) (ty := .int) (C := "GlyphPageModel") (T := F_Mo) (N := 22) hx hb htsG iG_Mo t_Mo t_Mo_ok n_Mo hown hK hP hD hS 0 rfl rfl 21 (by decide) (htsG _ mW877) (fun _ h9 => h9) rfl (by decide +kernel) rfl rfl (Nat.le_of_ble_eq_true rfl) d_Mo_cross_44 (fun H locs hP hD hS => ?_)
        have hP : va_P (dC, dI) classes [(o, .inr (9, [.int o_width, .int o_height, .ref o_page, .ref o_tape, .int o_tapeLength, va_rf o_font, .ref o_spare, .int o_scale, .ref o_lineFrom, .ref o_lineTo, .ref o_lineWidth, .int o_lines, .int o_at, .int o_end, .int o_good, .ref o_flag, .ref o_px, .ref o_py, .int o_touches, .ref o_first, .ref o_second, .int (o_turns + (1 : Int32))]))] H := hP
        have hD : va_D A [(o, .inr (9, [.int o_width, .int o_height, .ref o_page, .ref o_tape, .int o_tapeLength, va_rf o_font, .ref o_spare, .int o_scale, .ref o_lineFrom, .ref o_lineTo, .ref o_lineWidth, .int o_lines, .int o_at, .int o_end, .int o_good, .ref o_flag, .ref o_px, .ref o_py, .int o_touches, .ref o_first, .ref o_second, .int (o_turns + (1 : Int32))]))] := hD
        cases h
        exact W.vret hx hb hr (fun t ht hW => ⟨⟨(), rfl, trivial, by rw [ht]; exact hP, va_K.moved hW.alike hK, hD⟩, hS.F ht⟩) hS.2.2 d_Mo_cross_47 hlocks
def P_Mo_cross (o_touches : Int32) (o_turns : Int32) (a1 : Int32) (a2 : Int32) (a3 : Int32) : Option (Int32 × Int32) :=
  if a3 = 0 then (P_Mo_cross_9 a1 a2 a3 (1 : Int32) o_turns) else (P_Mo_cross_9 a1 a2 a3 o_touches o_turns)
set_option maxHeartbeats 4000000 in
set_option maxRecDepth 100000 in
theorem c_Mo_cross (l : Launch) (dC : Nat → ClassId) (dI : Nat → Nat → Nat) (cy : Nat → ClassId) (sz : Nat) (o : Nat) (o_page : Nat) (o_tape : Nat) (o_spare : Nat) (o_lineFrom : Nat) (o_lineTo : Nat) (o_lineWidth : Nat) (o_flag : Nat) (o_px : Nat) (o_py : Nat) (o_first : Nat) (o_second : Nat) (o_width : Int32) (o_height : Int32) (o_tapeLength : Int32) (o_font : Option Nat) (o_scale : Int32) (o_lines : Int32) (o_at : Int32) (o_end : Int32) (o_good : Int32) (o_touches : Int32) (o_turns : Int32) (a1 : Int32) (a2 : Int32) (a3 : Int32) (uu : Int32 × Int32) (h : P_Mo_cross o_touches o_turns a1 a2 a3 = some uu) : Met l y_Mo_cross (Cond.code y_Mo_cross b_Mo_cross 4 none :: G) ({ frames := 0, cells := 0, slots := 0, locals := 0 } : Room) (va_Pc [.ref o, .int a1, .int a2, .int a3] (fun U => U.heap.size = sz ∧ va_P (dC, dI) classes [(o, .inr (9, [.int o_width, .int o_height, .ref o_page, .ref o_tape, .int o_tapeLength, va_rf o_font, .ref o_spare, .int o_scale, .ref o_lineFrom, .ref o_lineTo, .ref o_lineWidth, .int o_lines, .int o_at, .int o_end, .int o_good, .ref o_flag, .ref o_px, .ref o_py, .int o_touches, .ref o_first, .ref o_second, .int o_turns]))] U.heap ∧ va_K (dC, dI) classes (TY cy) U ∧ va_D (fun _ => True) [(o, .inr (9, [.int o_width, .int o_height, .ref o_page, .ref o_tape, .int o_tapeLength, va_rf o_font, .ref o_spare, .int o_scale, .ref o_lineFrom, .ref o_lineTo, .ref o_lineWidth, .int o_lines, .int o_at, .int o_end, .int o_good, .ref o_flag, .ref o_px, .ref o_py, .int o_touches, .ref o_first, .ref o_second, .int o_turns]))])) (va_Qv (fun _ : Unit => True) (fun _ t => va_P (dC, dI) classes [(o, .inr (9, [.int o_width, .int o_height, .ref o_page, .ref o_tape, .int o_tapeLength, va_rf o_font, .ref o_spare, .int o_scale, .ref o_lineFrom, .ref o_lineTo, .ref o_lineWidth, .int o_lines, .int o_at, .int o_end, .int o_good, .ref o_flag, .ref o_px, .ref o_py, .int uu.1, .ref o_first, .ref o_second, .int uu.2]))] t.heap ∧ va_K (dC, dI) classes (TY cy) t ∧ va_D (va_A [(o, .inr (9, [.int o_width, .int o_height, .ref o_page, .ref o_tape, .int o_tapeLength, va_rf o_font, .ref o_spare, .int o_scale, .ref o_lineFrom, .ref o_lineTo, .ref o_lineWidth, .int o_lines, .int o_at, .int o_end, .int o_good, .ref o_flag, .ref o_px, .ref o_py, .int o_touches, .ref o_first, .ref o_second, .int o_turns]))] sz) [(o, .inr (9, [.int o_width, .int o_height, .ref o_page, .ref o_tape, .int o_tapeLength, va_rf o_font, .ref o_spare, .int o_scale, .ref o_lineFrom, .ref o_lineTo, .ref o_lineWidth, .int o_lines, .int o_at, .int o_end, .int o_good, .ref o_flag, .ref o_px, .ref o_py, .int uu.1, .ref o_first, .ref o_second, .int uu.2]))]) (va_A [(o, .inr (9, [.int o_width, .int o_height, .ref o_page, .ref o_tape, .int o_tapeLength, va_rf o_font, .ref o_spare, .int o_scale, .ref o_lineFrom, .ref o_lineTo, .ref o_lineWidth, .int o_lines, .int o_at, .int o_end, .int o_good, .ref o_flag, .ref o_px, .ref o_py, .int o_touches, .ref o_first, .ref o_second, .int o_turns]))] sz)) 0 0 (va_A [(o, .inr (9, [.int o_width, .int o_height, .ref o_page, .ref o_tape, .int o_tapeLength, va_rf o_font, .ref o_spare, .int o_scale, .ref o_lineFrom, .ref o_lineTo, .ref o_lineWidth, .int o_lines, .int o_at, .int o_end, .int o_good, .ref o_flag, .ref o_px, .ref o_py, .int o_touches, .ref o_first, .ref o_second, .int o_turns]))] sz) := by
  refine Met.ofW (cc := b_Mo_cross) (maxL := 4) (ret := none) (by decide) rfl ?_
  intro p e s m args below meth c s₁ B hml hv
  obtain ⟨rfl, hsz, hP, hK, hD0⟩ := hv
  have hx := B.exec
  have hb := B.bytes
  have hr := B.returns
  have hts := atoms_spec (ws := Cond.code y_Mo_cross b_Mo_cross 4 none :: G) B.pre
  have htsG : ∀ w ∈ G, w.before _ s = true := fun w hw => hts w (List.mem_cons_of_mem _ hw)
  have hown : s.vm.findClass "GlyphPageModel" = some m.cls := findClass_of_methodNamed B.named
  have hlocks := B.notSynchronized
  subst hsz
  have hD := hD0.self (sz := s.heap.size)
  generalize hAe : va_A [(o, .inr (9, [.int o_width, .int o_height, .ref o_page, .ref o_tape, .int o_tapeLength, va_rf o_font, .ref o_spare, .int o_scale, .ref o_lineFrom, .ref o_lineTo, .ref o_lineWidth, .int o_lines, .int o_at, .int o_end, .int o_good, .ref o_flag, .ref o_px, .ref o_py, .int o_touches, .ref o_first, .ref o_second, .int o_turns]))] s.heap.size = A at hD ⊢
  have hA : ∀ q : Nat, s.heap.size ≤ q → A q := fun q h => by rw [← hAe]; exact Or.inr h
  have hS : va_S A s.heap s.heap [] := va_S.rf
  have hl := lv_entry ([.ref o, .int a1, .int a2, .int a3]) (n := 4) (Nat.le_of_ble_eq_true rfl)
  rw [lg_entry_eq]
  generalize (lg_sl ([.ref o, .int a1, .int a2, .int a3]) ++ List.replicate (4 - (lg_sl ([.ref o, .int a1, .int a2, .int a3])).length) Slot.unset).toArray = ls at hl ⊢
  have hl : lv_has ls 4 [(0, .ref o), (1, .int a1), (2, .int a2), (3, .int a3)] := hl
  have C0 : Cx p s m _ meth c A dC dI cy b_Mo_cross 4 none "GlyphPageModel" := ⟨hx, hb, hr, hlocks, hml, hown, htsG, hA, hK⟩
  unfold P_Mo_cross at h
  refine lv_iload_n hx hb d_Mo_cross_0 rfl (lv_at hl 3 rfl) ?_
  refine lv_if_ne (tgt := 9) hx hb d_Mo_cross_1 (by decide) (fun c_1 => ?_) (fun c_1 => ?_)
  · replace h := (if_neg c_1).symm.trans h
    exact w_Mo_cross_9 C0 o o_page o_tape o_spare o_lineFrom o_lineTo o_lineWidth o_flag o_px o_py o_first o_second o_width o_height o_tapeLength o_font o_scale o_lines o_at o_end o_good a1 a2 a3 uu  a1 a2 a3 o_touches o_turns h hP hD hS (lv_sub hl [0, 1, 2, 3] rfl)
  · replace h := (if_pos c_1).symm.trans h
    refine lv_aload_n hx hb d_Mo_cross_4 rfl (lv_at hl 0 rfl) ?_
    refine lv_iconst (v := (1 : Int32)) hx hb d_Mo_cross_5 (by decide) ?_
    refine va_put (D := (dC, dI)) (ci := 9) (v := .int (1 : Int32)) (ty := .boolean) (C := "GlyphPageModel") (T := F_Mo) (N := 22) hx hb htsG iG_Mo t_Mo t_Mo_ok n_Mo hown hK hP hD hS 0 rfl rfl 18 (by decide) (htsG _ mW874) (fun _ h9 => h9) rfl (by decide +kernel) rfl rfl (Nat.le_of_ble_eq_true rfl) d_Mo_cross_6 (fun H locs hP hD hS => ?_)
    have hP : va_P (dC, dI) classes [(o, .inr (9, [.int o_width, .int o_height, .ref o_page, .ref o_tape, .int o_tapeLength, va_rf o_font, .ref o_spare, .int o_scale, .ref o_lineFrom, .ref o_lineTo, .ref o_lineWidth, .int o_lines, .int o_at, .int o_end, .int o_good, .ref o_flag, .ref o_px, .ref o_py, .int (1 : Int32), .ref o_first, .ref o_second, .int o_turns]))] H := hP
    have hD : va_D A [(o, .inr (9, [.int o_width, .int o_height, .ref o_page, .ref o_tape, .int o_tapeLength, va_rf o_font, .ref o_spare, .int o_scale, .ref o_lineFrom, .ref o_lineTo, .ref o_lineWidth, .int o_lines, .int o_at, .int o_end, .int o_good, .ref o_flag, .ref o_px, .ref o_py, .int (1 : Int32), .ref o_first, .ref o_second, .int o_turns]))] := hD
    exact w_Mo_cross_9 C0 o o_page o_tape o_spare o_lineFrom o_lineTo o_lineWidth o_flag o_px o_py o_first o_second o_width o_height o_tapeLength o_font o_scale o_lines o_at o_end o_good a1 a2 a3 uu  a1 a2 a3 (1 : Int32) o_turns h hP hD hS (lv_sub hl [0, 1, 2, 3] rfl)
def P_Mo_line_JJJJV_87   (x3 : Int64) (x7 : Int64) (x9 : Int64) (k0 : Int32) (k1 : Int32) (o_touches : Int32) (o_turns : Int32) : Option (Int32 × Int32) :=
  (P_Mo_sign x9).bind fun r_1 => (P_Mo_sign (x7 - x3)).bind fun r_2 => (P_Mo_cross o_touches o_turns k1 k0 (r_1 * r_2)).bind <| unp fun n_3 n_4 => some (n_3, n_4)
set_option maxHeartbeats 4000000 in
set_option maxRecDepth 100000 in
theorem w_Mo_line_JJJJV_87 (C0 : Cx p s m args meth c A dC dI cy b_Mo_line_JJJJV 11 none "GlyphPageModel") (o : Nat) (o_page : Nat) (o_tape : Nat) (o_spare : Nat) (o_lineFrom : Nat) (o_lineTo : Nat) (o_lineWidth : Nat) (o_flag : Nat) (o_px : Nat) (o_py : Nat) (o_first : Nat) (o_second : Nat) (o_width : Int32) (o_height : Int32) (o_tapeLength : Int32) (o_font : Option Nat) (o_scale : Int32) (o_lines : Int32) (o_at : Int32) (o_end : Int32) (o_good : Int32) (a1 : Int64) (a2 : Int64) (a3 : Int64) (a4 : Int64) (uu : Int32 × Int32)  (x3 : Int64) (x7 : Int64) (x9 : Int64) (k0 : Int32) (k1 : Int32) (o_touches : Int32) (o_turns : Int32) {H : Heap} {locs : List Loc} {ls : Array Slot} (h : P_Mo_line_JJJJV_87 x3 x7 x9 k0 k1 o_touches o_turns = some uu) : va_P (dC, dI) classes [(o, .inr (9, [.int o_width, .int o_height, .ref o_page, .ref o_tape, .int o_tapeLength, va_rf o_font, .ref o_spare, .int o_scale, .ref o_lineFrom, .ref o_lineTo, .ref o_lineWidth, .int o_lines, .int o_at, .int o_end, .int o_good, .ref o_flag, .ref o_px, .ref o_py, .int o_touches, .ref o_first, .ref o_second, .int o_turns]))] H → va_D A [(o, .inr (9, [.int o_width, .int o_height, .ref o_page, .ref o_tape, .int o_tapeLength, va_rf o_font, .ref o_spare, .int o_scale, .ref o_lineFrom, .ref o_lineTo, .ref o_lineWidth, .int o_lines, .int o_at, .int o_end, .int o_good, .ref o_flag, .ref o_px, .ref o_py, .int o_touches, .ref o_first, .ref o_second, .int o_turns]))] → va_S A s.heap H locs → lv_has ls 11 [(3, .long x3), (7, .long x7), (9, .long x9)] → W p l e ({ frames := 1, cells := 0, slots := 0, locals := 23 } : Room) s m args below meth c H locs 0 0 (MQ below (va_Qv (fun _ : Unit => True) (fun _ t => va_P (dC, dI) classes [(o, .inr (9, [.int o_width, .int o_height, .ref o_page, .ref o_tape, .int o_tapeLength, va_rf o_font, .ref o_spare, .int o_scale, .ref o_lineFrom, .ref o_lineTo, .ref o_lineWidth, .int o_lines, .int o_at, .int o_end, .int o_good, .ref o_flag, .ref o_px, .ref o_py, .int uu.1, .ref o_first, .ref o_second, .int uu.2]))] t.heap ∧ va_K (dC, dI) classes (TY cy) t ∧ va_D A [(o, .inr (9, [.int o_width, .int o_height, .ref o_page, .ref o_tape, .int o_tapeLength, va_rf o_font, .ref o_spare, .int o_scale, .ref o_lineFrom, .ref o_lineTo, .ref o_lineWidth, .int o_lines, .int o_at, .int o_end, .int o_good, .ref o_flag, .ref o_px, .ref o_py, .int uu.1, .ref o_first, .ref o_second, .int uu.2]))]) A) args s 0 0 A) (F0 m 87 ls [.int k0, .int k1, .ref o]) := by
  intro hP hD hS hl
  obtain ⟨hx, hb, hr, hlocks, hml, hown, htsG, hA, hK⟩ := id C0
  unfold P_Mo_line_JJJJV_87 at h
  refine lv_lload hx hb d_Mo_line_JJJJV_87 (lv_at hl 2 rfl) ?_
  obtain ⟨r_1, hq, h⟩ := Option.bind_eq_some_iff.mp h
  try dsimp only at h
  have hPc := hP.sub (ws' := []) [] rfl
  have hDc := hD.sub (ws' := []) [] (by decide) rfl
  have hFc := va_free (wc := []) hD hS hA [] rfl
  refine va_calli (va_runS (As := [.long x9]) (rest := [.int k0, .int k1, .ref o]) ⟨hx, hb, hml, hown, htsG⟩ (c_Mo_sign l dC dI cy H.size x9 r_1 hq) (va_cwS 1 htsG (gS mW1106 mW1107 mW9 mW1108) rfl rfl rfl (by decide +kernel) ⟨Nat.le_of_ble_eq_true rfl, Nat.le_of_ble_eq_true rfl⟩) ⟨fun a U g mk q => by obtain ⟨q0, q1, qP, qK, qD⟩ := q; exact ⟨q0, q1, qP, va_K.moved (u := U) (U := U.calling g mk a) (Vm.Alike.refl U.vm) qK, qD⟩, fun U hU hW => ⟨rfl, by rw [hU], by rw [hU]; exact hPc, va_K.moved hW.alike hK, hDc.weaken (fun _ _ _ _ => trivial)⟩⟩ rfl rfl hl.1 rfl (lv_room (Nat.le_of_ble_eq_true rfl)) d_Mo_line_JJJJV_89 ⟨Nat.le_of_ble_eq_true rfl, Nat.le_of_ble_eq_true rfl⟩) hS (fun q _ h => hFc q h) hFc (fun rr u t H1 locs ht hvm hw hB hz1 hk1 hS => ?_)
  obtain ⟨hP1, hK1, hD1⟩ := hB
  rw [ht] at hP1
  replace hw : r_1 = rr := hw.symm
  subst hw
  obtain ⟨hP, hD⟩ := va_join (wr := [(o, .inr (9, [.int o_width, .int o_height, .ref o_page, .ref o_tape, .int o_tapeLength, va_rf o_font, .ref o_spare, .int o_scale, .ref o_lineFrom, .ref o_lineTo, .ref o_lineWidth, .int o_lines, .int o_at, .int o_end, .int o_good, .ref o_flag, .ref o_px, .ref o_py, .int o_touches, .ref o_first, .ref o_second, .int o_turns]))]) (w1 := []) hP hD [] [0] rfl rfl (by decide) (by decide) hk1 hFc hP1 hD1
  generalize H1 = H at hP hS ⊢
  have hP := hP.sub (ws' := [(o, .inr (9, [.int o_width, .int o_height, .ref o_page, .ref o_tape, .int o_tapeLength, va_rf o_font, .ref o_spare, .int o_scale, .ref o_lineFrom, .ref o_lineTo, .ref o_lineWidth, .int o_lines, .int o_at, .int o_end, .int o_good, .ref o_flag, .ref o_px, .ref o_py, .int o_touches, .ref o_first, .ref o_second, .int o_turns]))]) [0] rfl
  have hD := hD.sub (ws' := [(o, .inr (9, [.int o_width, .int o_height, .ref o_page, .ref o_tape, .int o_tapeLength, va_rf o_font, .ref o_spare, .int o_scale, .ref o_lineFrom, .ref o_lineTo, .ref o_lineWidth, .int o_lines, .int o_at, .int o_end, .int o_good, .ref o_flag, .ref o_px, .ref o_py, .int o_touches, .ref o_first, .ref o_second, .int o_turns]))]) [0] (by decide) rfl
  refine W.widen (k := 0) (n := 0) (by decide) (by decide) ?_
  refine lv_lload hx hb d_Mo_line_JJJJV_92 (lv_at hl 1 rfl) ?_
  refine lv_lload_n hx hb d_Mo_line_JJJJV_94 rfl (lv_at hl 0 rfl) ?_
  refine lv_lsub hx hb d_Mo_line_JJJJV_95 ?_
  obtain ⟨r_2, hq, h⟩ := Option.bind_eq_some_iff.mp h
  try dsimp only at h
  have hPc := hP.sub (ws' := []) [] rfl
  have hDc := hD.sub (ws' := []) [] (by decide) rfl
  have hFc := va_free (wc := []) hD hS hA [] rfl
  refine va_calli (va_runS (As := [.long (x7 - x3)]) (rest := [.int r_1, .int k0, .int k1, .ref o]) ⟨hx, hb, hml, hown, htsG⟩ (c_Mo_sign l dC dI cy H.size (x7 - x3) r_2 hq) (va_cwS 1 htsG (gS mW1106 mW1107 mW9 mW1108) rfl rfl rfl (by decide +kernel) ⟨Nat.le_of_ble_eq_true rfl, Nat.le_of_ble_eq_true rfl⟩) ⟨fun a U g mk q => by obtain ⟨q0, q1, qP, qK, qD⟩ := q; exact ⟨q0, q1, qP, va_K.moved (u := U) (U := U.calling g mk a) (Vm.Alike.refl U.vm) qK, qD⟩, fun U hU hW => ⟨rfl, by rw [hU], by rw [hU]; exact hPc, va_K.moved hW.alike hK, hDc.weaken (fun _ _ _ _ => trivial)⟩⟩ rfl rfl hl.1 rfl (lv_room (Nat.le_of_ble_eq_true rfl)) d_Mo_line_JJJJV_96 ⟨Nat.le_of_ble_eq_true rfl, Nat.le_of_ble_eq_true rfl⟩) hS (fun q _ h => hFc q h) hFc (fun rr u t H1 locs ht hvm hw hB hz1 hk1 hS => ?_)
  obtain ⟨hP1, hK1, hD1⟩ := hB
  rw [ht] at hP1
  replace hw : r_2 = rr := hw.symm
  subst hw
  obtain ⟨hP, hD⟩ := va_join (wr := [(o, .inr (9, [.int o_width, .int o_height, .ref o_page, .ref o_tape, .int o_tapeLength, va_rf o_font, .ref o_spare, .int o_scale, .ref o_lineFrom, .ref o_lineTo, .ref o_lineWidth, .int o_lines, .int o_at, .int o_end, .int o_good, .ref o_flag, .ref o_px, .ref o_py, .int o_touches, .ref o_first, .ref o_second, .int o_turns]))]) (w1 := []) hP hD [] [0] rfl rfl (by decide) (by decide) hk1 hFc hP1 hD1
  generalize H1 = H at hP hS ⊢
  have hP := hP.sub (ws' := [(o, .inr (9, [.int o_width, .int o_height, .ref o_page, .ref o_tape, .int o_tapeLength, va_rf o_font, .ref o_spare, .int o_scale, .ref o_lineFrom, .ref o_lineTo, .ref o_lineWidth, .int o_lines, .int o_at, .int o_end, .int o_good, .ref o_flag, .ref o_px, .ref o_py, .int o_touches, .ref o_first, .ref o_second, .int o_turns]))]) [0] rfl
  have hD := hD.sub (ws' := [(o, .inr (9, [.int o_width, .int o_height, .ref o_page, .ref o_tape, .int o_tapeLength, va_rf o_font, .ref o_spare, .int o_scale, .ref o_lineFrom, .ref o_lineTo, .ref o_lineWidth, .int o_lines, .int o_at, .int o_end, .int o_good, .ref o_flag, .ref o_px, .ref o_py, .int o_touches, .ref o_first, .ref o_second, .int o_turns]))]) [0] (by decide) rfl
  refine W.widen (k := 0) (n := 0) (by decide) (by decide) ?_
  refine lv_imul hx hb d_Mo_line_JJJJV_99 ?_
  obtain ⟨⟨n_3, n_4⟩, hq, h⟩ := Option.bind_eq_some_iff.mp h
  dsimp only [unp] at h
  have hPc := hP.sub (ws' := [(o, .inr (9, [.int o_width, .int o_height, .ref o_page, .ref o_tape, .int o_tapeLength, va_rf o_font, .ref o_spare, .int o_scale, .ref o_lineFrom, .ref o_lineTo, .ref o_lineWidth, .int o_lines, .int o_at, .int o_end, .int o_good, .ref o_flag, .ref o_px, .ref o_py, .int o_touches, .ref o_first, .ref o_second, .int o_turns]))]) [0] rfl
  have hDc := hD.sub (ws' := [(o, .inr (9, [.int o_width, .int o_height, .ref o_page, .ref o_tape, .int o_tapeLength, va_rf o_font, .ref o_spare, .int o_scale, .ref o_lineFrom, .ref o_lineTo, .ref o_lineWidth, .int o_lines, .int o_at, .int o_end, .int o_good, .ref o_flag, .ref o_px, .ref o_py, .int o_touches, .ref o_first, .ref o_second, .int o_turns]))]) [0] (by decide) rfl
  have hFc := va_free (wc := [(o, .inr (9, [.int o_width, .int o_height, .ref o_page, .ref o_tape, .int o_tapeLength, va_rf o_font, .ref o_spare, .int o_scale, .ref o_lineFrom, .ref o_lineTo, .ref o_lineWidth, .int o_lines, .int o_at, .int o_end, .int o_good, .ref o_flag, .ref o_px, .ref o_py, .int o_touches, .ref o_first, .ref o_second, .int o_turns]))]) hD hS hA [0] rfl
  refine va_callv (va_runV (As := [.int k1, .int k0, .int (r_1 * r_2)]) (rest := []) ⟨hx, hb, hml, hown, htsG⟩ (c_Mo_cross l dC dI cy H.size o o_page o_tape o_spare o_lineFrom o_lineTo o_lineWidth o_flag o_px o_py o_first o_second o_width o_height o_tapeLength o_font o_scale o_lines o_at o_end o_good o_touches o_turns k1 k0 (r_1 * r_2) (n_3, n_4) hq) (cwV 3 htsG (gV mW1109 mW1111 mS_Mo_cross mW9 mW1112) rfl rfl rfl (by decide +kernel) ⟨Nat.le_of_ble_eq_true rfl, Nat.le_of_ble_eq_true rfl⟩) ⟨fun a U g mk q => by obtain ⟨q0, q1, qP, qK, qD⟩ := q; exact ⟨q0, q1, qP, va_K.moved (u := U) (U := U.calling g mk a) (Vm.Alike.refl U.vm) qK, qD⟩, va_recv hK hPc (ci := 9) (q0 := 0) rfl rfl, fun U hU hW => ⟨rfl, by rw [hU], by rw [hU]; exact hPc, va_K.moved hW.alike hK, hDc.weaken (fun _ _ _ _ => trivial)⟩⟩ rfl rfl hl.1 rfl (lv_room (Nat.le_of_ble_eq_true rfl)) d_Mo_line_JJJJV_100 ⟨Nat.le_of_ble_eq_true rfl, Nat.le_of_ble_eq_true rfl⟩) hS (fun q _ h => hFc q h) hFc (fun u t H1 locs ht hvm hw hB hz1 hk1 hS => ?_)
  obtain ⟨hP1, hK1, hD1⟩ := hB
  rw [ht] at hP1
  obtain ⟨hP, hD⟩ := va_join (wr := []) (w1 := [(o, .inr (9, [.int o_width, .int o_height, .ref o_page, .ref o_tape, .int o_tapeLength, va_rf o_font, .ref o_spare, .int o_scale, .ref o_lineFrom, .ref o_lineTo, .ref o_lineWidth, .int o_lines, .int o_at, .int o_end, .int o_good, .ref o_flag, .ref o_px, .ref o_py, .int n_3, .ref o_first, .ref o_second, .int n_4]))]) hP hD [0] [] rfl rfl (by decide) (by decide) hk1 hFc hP1 hD1
  generalize H1 = H at hP hS ⊢
  have hP := hP.sub (ws' := [(o, .inr (9, [.int o_width, .int o_height, .ref o_page, .ref o_tape, .int o_tapeLength, va_rf o_font, .ref o_spare, .int o_scale, .ref o_lineFrom, .ref o_lineTo, .ref o_lineWidth, .int o_lines, .int o_at, .int o_end, .int o_good, .ref o_flag, .ref o_px, .ref o_py, .int n_3, .ref o_first, .ref o_second, .int n_4]))]) [0] rfl
  have hD := hD.sub (ws' := [(o, .inr (9, [.int o_width, .int o_height, .ref o_page, .ref o_tape, .int o_tapeLength, va_rf o_font, .ref o_spare, .int o_scale, .ref o_lineFrom, .ref o_lineTo, .ref o_lineWidth, .int o_lines, .int o_at, .int o_end, .int o_good, .ref o_flag, .ref o_px, .ref o_py, .int n_3, .ref o_first, .ref o_second, .int n_4]))]) [0] (by decide) rfl
  refine W.widen (k := 0) (n := 0) (by decide) (by decide) ?_
  cases h
  exact W.vret hx hb hr (fun t ht hW => ⟨⟨(), rfl, trivial, by rw [ht]; exact hP, va_K.moved hW.alike hK, hD⟩, hS.F ht⟩) hS.2.2 d_Mo_line_JJJJV_103 hlocks
def P_Mo_line_JJJJV_75   (x3 : Int64) (x7 : Int64) (x9 : Int64) (k0 : Int32) (o_touches : Int32) (o_turns : Int32) : Option (Int32 × Int32) :=
  if (lg_cmp x7 (0 : Int64)) < 0 then (P_Mo_line_JJJJV_87 x3 x7 x9 (0 : Int32) k0 o_touches o_turns) else (P_Mo_line_JJJJV_87 x3 x7 x9 (1 : Int32) k0 o_touches o_turns)
set_option maxHeartbeats 4000000 in
set_option maxRecDepth 100000 in
theorem w_Mo_line_JJJJV_75 (C0 : Cx p s m args meth c A dC dI cy b_Mo_line_JJJJV 11 none "GlyphPageModel") (o : Nat) (o_page : Nat) (o_tape : Nat) (o_spare : Nat) (o_lineFrom : Nat) (o_lineTo : Nat) (o_lineWidth : Nat) (o_flag : Nat) (o_px : Nat) (o_py : Nat) (o_first : Nat) (o_second : Nat) (o_width : Int32) (o_height : Int32) (o_tapeLength : Int32) (o_font : Option Nat) (o_scale : Int32) (o_lines : Int32) (o_at : Int32) (o_end : Int32) (o_good : Int32) (a1 : Int64) (a2 : Int64) (a3 : Int64) (a4 : Int64) (uu : Int32 × Int32)  (x3 : Int64) (x7 : Int64) (x9 : Int64) (k0 : Int32) (o_touches : Int32) (o_turns : Int32) {H : Heap} {locs : List Loc} {ls : Array Slot} (h : P_Mo_line_JJJJV_75 x3 x7 x9 k0 o_touches o_turns = some uu) : va_P (dC, dI) classes [(o, .inr (9, [.int o_width, .int o_height, .ref o_page, .ref o_tape, .int o_tapeLength, va_rf o_font, .ref o_spare, .int o_scale, .ref o_lineFrom, .ref o_lineTo, .ref o_lineWidth, .int o_lines, .int o_at, .int o_end, .int o_good, .ref o_flag, .ref o_px, .ref o_py, .int o_touches, .ref o_first, .ref o_second, .int o_turns]))] H → va_D A [(o, .inr (9, [.int o_width, .int o_height, .ref o_page, .ref o_tape, .int o_tapeLength, va_rf o_font, .ref o_spare, .int o_scale, .ref o_lineFrom, .ref o_lineTo, .ref o_lineWidth, .int o_lines, .int o_at, .int o_end, .int o_good, .ref o_flag, .ref o_px, .ref o_py, .int o_touches, .ref o_first, .ref o_second, .int o_turns]))] → va_S A s.heap H locs → lv_has ls 11 [(3, .long x3), (7, .long x7), (9, .long x9)] → W p l e ({ frames := 1, cells := 0, slots := 0, locals := 23 } : Room) s m args below meth c H locs 0 0 (MQ below (va_Qv (fun _ : Unit => True) (fun _ t => va_P (dC, dI) classes [(o, .inr (9, [.int o_width, .int o_height, .ref o_page, .ref o_tape, .int o_tapeLength, va_rf o_font, .ref o_spare, .int o_scale, .ref o_lineFrom, .ref o_lineTo, .ref o_lineWidth, .int o_lines, .int o_at, .int o_end, .int o_good, .ref o_flag, .ref o_px, .ref o_py, .int uu.1, .ref o_first, .ref o_second, .int uu.2]))] t.heap ∧ va_K (dC, dI) classes (TY cy) t ∧ va_D A [(o, .inr (9, [.int o_width, .int o_height, .ref o_page, .ref o_tape, .int o_tapeLength, va_rf o_font, .ref o_spare, .int o_scale, .ref o_lineFrom, .ref o_lineTo, .ref o_lineWidth, .int o_lines, .int o_at, .int o_end, .int o_good, .ref o_flag, .ref o_px, .ref o_py, .int uu.1, .ref o_first, .ref o_second, .int uu.2]))]) A) args s 0 0 A) (F0 m 75 ls [.int k0, .ref o]) := by
  intro hP hD hS hl
  obtain ⟨hx, hb, hr, hlocks, hml, hown, htsG, hA, hK⟩ := id C0
  unfold P_Mo_line_JJJJV_75 at h
  refine lv_lload hx hb d_Mo_line_JJJJV_75 (lv_at hl 1 rfl) ?_
  refine lv_lconst (v := (0 : Int64)) hx hb d_Mo_line_JJJJV_77 (by decide) ?_
  refine W.lcmp hx hb d_Mo_line_JJJJV_78 ?_
  refine lv_if_lt (tgt := 86) hx hb d_Mo_line_JJJJV_79 (by decide) (fun c_1 => ?_) (fun c_1 => ?_)
  · replace h := (if_pos c_1).symm.trans h
    refine lv_iconst (v := (0 : Int32)) hx hb d_Mo_line_JJJJV_86 (by decide) ?_
    exact w_Mo_line_JJJJV_87 C0 o o_page o_tape o_spare o_lineFrom o_lineTo o_lineWidth o_flag o_px o_py o_first o_second o_width o_height o_tapeLength o_font o_scale o_lines o_at o_end o_good a1 a2 a3 a4 uu  x3 x7 x9 (0 : Int32) k0 o_touches o_turns h hP hD hS (lv_sub hl [0, 1, 2] rfl)
  · replace h := (if_neg c_1).symm.trans h
    refine lv_iconst (v := (1 : Int32)) hx hb d_Mo_line_JJJJV_82 (by decide) ?_
    refine lv_goto (tgt := 87) hx hb d_Mo_line_JJJJV_83 (by decide) ?_
    exact w_Mo_line_JJJJV_87 C0 o o_page o_tape o_spare o_lineFrom o_lineTo o_lineWidth o_flag o_px o_py o_first o_second o_width o_height o_tapeLength o_font o_scale o_lines o_at o_end o_good a1 a2 a3 a4 uu  x3 x7 x9 (1 : Int32) k0 o_touches o_turns h hP hD hS (lv_sub hl [0, 1, 2] rfl)
def P_Mo_line_JJJJV_60   (x3 : Int64) (x7 : Int64) (x9 : Int64) (k0 : Int32) (k1 : Int32) (o_touches : Int32) (o_turns : Int32) : Option (Int32 × Int32) :=
  if k1 = k0 then (some (o_touches, o_turns)) else (if (lg_cmp x3 (0 : Int64)) < 0 then (P_Mo_line_JJJJV_75 x3 x7 x9 (0 : Int32) o_touches o_turns) else (P_Mo_line_JJJJV_75 x3 x7 x9 (1 : Int32) o_touches o_turns))
set_option maxHeartbeats 4000000 in
set_option maxRecDepth 100000 in
theorem w_Mo_line_JJJJV_60 (C0 : Cx p s m args meth c A dC dI cy b_Mo_line_JJJJV 11 none "GlyphPageModel") (o : Nat) (o_page : Nat) (o_tape : Nat) (o_spare : Nat) (o_lineFrom : Nat) (o_lineTo : Nat) (o_lineWidth : Nat) (o_flag : Nat) (o_px : Nat) (o_py : Nat) (o_first : Nat) (o_second : Nat) (o_width : Int32) (o_height : Int32) (o_tapeLength : Int32) (o_font : Option Nat) (o_scale : Int32) (o_lines : Int32) (o_at : Int32) (o_end : Int32) (o_good : Int32) (a1 : Int64) (a2 : Int64) (a3 : Int64) (a4 : Int64) (uu : Int32 × Int32)  (x3 : Int64) (x7 : Int64) (x9 : Int64) (k0 : Int32) (k1 : Int32) (o_touches : Int32) (o_turns : Int32) {H : Heap} {locs : List Loc} {ls : Array Slot} (h : P_Mo_line_JJJJV_60 x3 x7 x9 k0 k1 o_touches o_turns = some uu) : va_P (dC, dI) classes [(o, .inr (9, [.int o_width, .int o_height, .ref o_page, .ref o_tape, .int o_tapeLength, va_rf o_font, .ref o_spare, .int o_scale, .ref o_lineFrom, .ref o_lineTo, .ref o_lineWidth, .int o_lines, .int o_at, .int o_end, .int o_good, .ref o_flag, .ref o_px, .ref o_py, .int o_touches, .ref o_first, .ref o_second, .int o_turns]))] H → va_D A [(o, .inr (9, [.int o_width, .int o_height, .ref o_page, .ref o_tape, .int o_tapeLength, va_rf o_font, .ref o_spare, .int o_scale, .ref o_lineFrom, .ref o_lineTo, .ref o_lineWidth, .int o_lines, .int o_at, .int o_end, .int o_good, .ref o_flag, .ref o_px, .ref o_py, .int o_touches, .ref o_first, .ref o_second, .int o_turns]))] → va_S A s.heap H locs → lv_has ls 11 [(0, .ref o), (3, .long x3), (7, .long x7), (9, .long x9)] → W p l e ({ frames := 1, cells := 0, slots := 0, locals := 23 } : Room) s m args below meth c H locs 0 0 (MQ below (va_Qv (fun _ : Unit => True) (fun _ t => va_P (dC, dI) classes [(o, .inr (9, [.int o_width, .int o_height, .ref o_page, .ref o_tape, .int o_tapeLength, va_rf o_font, .ref o_spare, .int o_scale, .ref o_lineFrom, .ref o_lineTo, .ref o_lineWidth, .int o_lines, .int o_at, .int o_end, .int o_good, .ref o_flag, .ref o_px, .ref o_py, .int uu.1, .ref o_first, .ref o_second, .int uu.2]))] t.heap ∧ va_K (dC, dI) classes (TY cy) t ∧ va_D A [(o, .inr (9, [.int o_width, .int o_height, .ref o_page, .ref o_tape, .int o_tapeLength, va_rf o_font, .ref o_spare, .int o_scale, .ref o_lineFrom, .ref o_lineTo, .ref o_lineWidth, .int o_lines, .int o_at, .int o_end, .int o_good, .ref o_flag, .ref o_px, .ref o_py, .int uu.1, .ref o_first, .ref o_second, .int uu.2]))]) A) args s 0 0 A) (F0 m 60 ls [.int k0, .int k1]) := by
  intro hP hD hS hl
  obtain ⟨hx, hb, hr, hlocks, hml, hown, htsG, hA, hK⟩ := id C0
  unfold P_Mo_line_JJJJV_60 at h
  refine lv_icmp_eq (tgt := 103) hx hb d_Mo_line_JJJJV_60 (by decide) (fun c_1 => ?_) (fun c_1 => ?_)
  · replace h := (if_pos c_1).symm.trans h
    cases h
    exact W.vret hx hb hr (fun t ht hW => ⟨⟨(), rfl, trivial, by rw [ht]; exact hP, va_K.moved hW.alike hK, hD⟩, hS.F ht⟩) hS.2.2 d_Mo_line_JJJJV_103 hlocks
  · replace h := (if_neg c_1).symm.trans h
    refine lv_aload_n hx hb d_Mo_line_JJJJV_63 rfl (lv_at hl 0 rfl) ?_
    refine lv_lload_n hx hb d_Mo_line_JJJJV_64 rfl (lv_at hl 1 rfl) ?_
    refine lv_lconst (v := (0 : Int64)) hx hb d_Mo_line_JJJJV_65 (by decide) ?_
    refine W.lcmp hx hb d_Mo_line_JJJJV_66 ?_
    refine lv_if_lt (tgt := 74) hx hb d_Mo_line_JJJJV_67 (by decide) (fun c_2 => ?_) (fun c_2 => ?_)
    · replace h := (if_pos c_2).symm.trans h
      refine lv_iconst (v := (0 : Int32)) hx hb d_Mo_line_JJJJV_74 (by decide) ?_
      exact w_Mo_line_JJJJV_75 C0 o o_page o_tape o_spare o_lineFrom o_lineTo o_lineWidth o_flag o_px o_py o_first o_second o_width o_height o_tapeLength o_font o_scale o_lines o_at o_end o_good a1 a2 a3 a4 uu  x3 x7 x9 (0 : Int32) o_touches o_turns h hP hD hS (lv_sub hl [1, 2, 3] rfl)
    · replace h := (if_neg c_2).symm.trans h
      refine lv_iconst (v := (1 : Int32)) hx hb d_Mo_line_JJJJV_70 (by decide) ?_
      refine lv_goto (tgt := 75) hx hb d_Mo_line_JJJJV_71 (by decide) ?_
      exact w_Mo_line_JJJJV_75 C0 o o_page o_tape o_spare o_lineFrom o_lineTo o_lineWidth o_flag o_px o_py o_first o_second o_width o_height o_tapeLength o_font o_scale o_lines o_at o_end o_good a1 a2 a3 a4 uu  x3 x7 x9 (1 : Int32) o_touches o_turns h hP hD hS (lv_sub hl [1, 2, 3] rfl)
def P_Mo_line_JJJJV_48   (x3 : Int64) (x7 : Int64) (x9 : Int64) (k0 : Int32) (o_touches : Int32) (o_turns : Int32) : Option (Int32 × Int32) :=
  if (lg_cmp x7 (0 : Int64)) < 0 then (P_Mo_line_JJJJV_60 x3 x7 x9 (0 : Int32) k0 o_touches o_turns) else (P_Mo_line_JJJJV_60 x3 x7 x9 (1 : Int32) k0 o_touches o_turns)
set_option maxHeartbeats 4000000 in
set_option maxRecDepth 100000 in
theorem w_Mo_line_JJJJV_48 (C0 : Cx p s m args meth c A dC dI cy b_Mo_line_JJJJV 11 none "GlyphPageModel") (o : Nat) (o_page : Nat) (o_tape : Nat) (o_spare : Nat) (o_lineFrom : Nat) (o_lineTo : Nat) (o_lineWidth : Nat) (o_flag : Nat) (o_px : Nat) (o_py : Nat) (o_first : Nat) (o_second : Nat) (o_width : Int32) (o_height : Int32) (o_tapeLength : Int32) (o_font : Option Nat) (o_scale : Int32) (o_lines : Int32) (o_at : Int32) (o_end : Int32) (o_good : Int32) (a1 : Int64) (a2 : Int64) (a3 : Int64) (a4 : Int64) (uu : Int32 × Int32)  (x3 : Int64) (x7 : Int64) (x9 : Int64) (k0 : Int32) (o_touches : Int32) (o_turns : Int32) {H : Heap} {locs : List Loc} {ls : Array Slot} (h : P_Mo_line_JJJJV_48 x3 x7 x9 k0 o_touches o_turns = some uu) : va_P (dC, dI) classes [(o, .inr (9, [.int o_width, .int o_height, .ref o_page, .ref o_tape, .int o_tapeLength, va_rf o_font, .ref o_spare, .int o_scale, .ref o_lineFrom, .ref o_lineTo, .ref o_lineWidth, .int o_lines, .int o_at, .int o_end, .int o_good, .ref o_flag, .ref o_px, .ref o_py, .int o_touches, .ref o_first, .ref o_second, .int o_turns]))] H → va_D A [(o, .inr (9, [.int o_width, .int o_height, .ref o_page, .ref o_tape, .int o_tapeLength, va_rf o_font, .ref o_spare, .int o_scale, .ref o_lineFrom, .ref o_lineTo, .ref o_lineWidth, .int o_lines, .int o_at, .int o_end, .int o_good, .ref o_flag, .ref o_px, .ref o_py, .int o_touches, .ref o_first, .ref o_second, .int o_turns]))] → va_S A s.heap H locs → lv_has ls 11 [(0, .ref o), (3, .long x3), (7, .long x7), (9, .long x9)] → W p l e ({ frames := 1, cells := 0, slots := 0, locals := 23 } : Room) s m args below meth c H locs 0 0 (MQ below (va_Qv (fun _ : Unit => True) (fun _ t => va_P (dC, dI) classes [(o, .inr (9, [.int o_width, .int o_height, .ref o_page, .ref o_tape, .int o_tapeLength, va_rf o_font, .ref o_spare, .int o_scale, .ref o_lineFrom, .ref o_lineTo, .ref o_lineWidth, .int o_lines, .int o_at, .int o_end, .int o_good, .ref o_flag, .ref o_px, .ref o_py, .int uu.1, .ref o_first, .ref o_second, .int uu.2]))] t.heap ∧ va_K (dC, dI) classes (TY cy) t ∧ va_D A [(o, .inr (9, [.int o_width, .int o_height, .ref o_page, .ref o_tape, .int o_tapeLength, va_rf o_font, .ref o_spare, .int o_scale, .ref o_lineFrom, .ref o_lineTo, .ref o_lineWidth, .int o_lines, .int o_at, .int o_end, .int o_good, .ref o_flag, .ref o_px, .ref o_py, .int uu.1, .ref o_first, .ref o_second, .int uu.2]))]) A) args s 0 0 A) (F0 m 48 ls [.int k0]) := by
  intro hP hD hS hl
  obtain ⟨hx, hb, hr, hlocks, hml, hown, htsG, hA, hK⟩ := id C0
  unfold P_Mo_line_JJJJV_48 at h
  refine lv_lload hx hb d_Mo_line_JJJJV_48 (lv_at hl 2 rfl) ?_
  refine lv_lconst (v := (0 : Int64)) hx hb d_Mo_line_JJJJV_50 (by decide) ?_
  refine W.lcmp hx hb d_Mo_line_JJJJV_51 ?_
  refine lv_if_lt (tgt := 59) hx hb d_Mo_line_JJJJV_52 (by decide) (fun c_1 => ?_) (fun c_1 => ?_)
  · replace h := (if_pos c_1).symm.trans h
    refine lv_iconst (v := (0 : Int32)) hx hb d_Mo_line_JJJJV_59 (by decide) ?_
    exact w_Mo_line_JJJJV_60 C0 o o_page o_tape o_spare o_lineFrom o_lineTo o_lineWidth o_flag o_px o_py o_first o_second o_width o_height o_tapeLength o_font o_scale o_lines o_at o_end o_good a1 a2 a3 a4 uu  x3 x7 x9 (0 : Int32) k0 o_touches o_turns h hP hD hS (lv_sub hl [0, 1, 2, 3] rfl)
  · replace h := (if_neg c_1).symm.trans h
    refine lv_iconst (v := (1 : Int32)) hx hb d_Mo_line_JJJJV_55 (by decide) ?_
    refine lv_goto (tgt := 60) hx hb d_Mo_line_JJJJV_56 (by decide) ?_
    exact w_Mo_line_JJJJV_60 C0 o o_page o_tape o_spare o_lineFrom o_lineTo o_lineWidth o_flag o_px o_py o_first o_second o_width o_height o_tapeLength o_font o_scale o_lines o_at o_end o_good a1 a2 a3 a4 uu  x3 x7 x9 (1 : Int32) k0 o_touches o_turns h hP hD hS (lv_sub hl [0, 1, 2, 3] rfl)
def P_Mo_line_JJJJV_37   (x3 : Int64) (x7 : Int64) (x9 : Int64) (o_touches : Int32) (o_turns : Int32) : Option (Int32 × Int32) :=
  if (lg_cmp x3 (0 : Int64)) < 0 then (P_Mo_line_JJJJV_48 x3 x7 x9 (0 : Int32) o_touches o_turns) else (P_Mo_line_JJJJV_48 x3 x7 x9 (1 : Int32) o_touches o_turns)
set_option maxHeartbeats 4000000 in
set_option maxRecDepth 100000 in
theorem w_Mo_line_JJJJV_37 (C0 : Cx p s m args meth c A dC dI cy b_Mo_line_JJJJV 11 none "GlyphPageModel") (o : Nat) (o_page : Nat) (o_tape : Nat) (o_spare : Nat) (o_lineFrom : Nat) (o_lineTo : Nat) (o_lineWidth : Nat) (o_flag : Nat) (o_px : Nat) (o_py : Nat) (o_first : Nat) (o_second : Nat) (o_width : Int32) (o_height : Int32) (o_tapeLength : Int32) (o_font : Option Nat) (o_scale : Int32) (o_lines : Int32) (o_at : Int32) (o_end : Int32) (o_good : Int32) (a1 : Int64) (a2 : Int64) (a3 : Int64) (a4 : Int64) (uu : Int32 × Int32)  (x3 : Int64) (x7 : Int64) (x9 : Int64) (o_touches : Int32) (o_turns : Int32) {H : Heap} {locs : List Loc} {ls : Array Slot} (h : P_Mo_line_JJJJV_37 x3 x7 x9 o_touches o_turns = some uu) : va_P (dC, dI) classes [(o, .inr (9, [.int o_width, .int o_height, .ref o_page, .ref o_tape, .int o_tapeLength, va_rf o_font, .ref o_spare, .int o_scale, .ref o_lineFrom, .ref o_lineTo, .ref o_lineWidth, .int o_lines, .int o_at, .int o_end, .int o_good, .ref o_flag, .ref o_px, .ref o_py, .int o_touches, .ref o_first, .ref o_second, .int o_turns]))] H → va_D A [(o, .inr (9, [.int o_width, .int o_height, .ref o_page, .ref o_tape, .int o_tapeLength, va_rf o_font, .ref o_spare, .int o_scale, .ref o_lineFrom, .ref o_lineTo, .ref o_lineWidth, .int o_lines, .int o_at, .int o_end, .int o_good, .ref o_flag, .ref o_px, .ref o_py, .int o_touches, .ref o_first, .ref o_second, .int o_turns]))] → va_S A s.heap H locs → lv_has ls 11 [(0, .ref o), (3, .long x3), (7, .long x7), (9, .long x9)] → W p l e ({ frames := 1, cells := 0, slots := 0, locals := 23 } : Room) s m args below meth c H locs 0 0 (MQ below (va_Qv (fun _ : Unit => True) (fun _ t => va_P (dC, dI) classes [(o, .inr (9, [.int o_width, .int o_height, .ref o_page, .ref o_tape, .int o_tapeLength, va_rf o_font, .ref o_spare, .int o_scale, .ref o_lineFrom, .ref o_lineTo, .ref o_lineWidth, .int o_lines, .int o_at, .int o_end, .int o_good, .ref o_flag, .ref o_px, .ref o_py, .int uu.1, .ref o_first, .ref o_second, .int uu.2]))] t.heap ∧ va_K (dC, dI) classes (TY cy) t ∧ va_D A [(o, .inr (9, [.int o_width, .int o_height, .ref o_page, .ref o_tape, .int o_tapeLength, va_rf o_font, .ref o_spare, .int o_scale, .ref o_lineFrom, .ref o_lineTo, .ref o_lineWidth, .int o_lines, .int o_at, .int o_end, .int o_good, .ref o_flag, .ref o_px, .ref o_py, .int uu.1, .ref o_first, .ref o_second, .int uu.2]))]) A) args s 0 0 A) (F0 m 37 ls []) := by
  intro hP hD hS hl
  obtain ⟨hx, hb, hr, hlocks, hml, hown, htsG, hA, hK⟩ := id C0
  unfold P_Mo_line_JJJJV_37 at h
  refine lv_lload_n hx hb d_Mo_line_JJJJV_37 rfl (lv_at hl 1 rfl) ?_
  refine lv_lconst (v := (0 : Int64)) hx hb d_Mo_line_JJJJV_38 (by decide) ?_
  refine W.lcmp hx hb d_Mo_line_JJJJV_39 ?_
  refine lv_if_lt (tgt := 47) hx hb d_Mo_line_JJJJV_40 (by decide) (fun c_1 => ?_) (fun c_1 => ?_)
  · replace h := (if_pos c_1).symm.trans h
    refine lv_iconst (v := (0 : Int32)) hx hb d_Mo_line_JJJJV_47 (by decide) ?_
    exact w_Mo_line_JJJJV_48 C0 o o_page o_tape o_spare o_lineFrom o_lineTo o_lineWidth o_flag o_px o_py o_first o_second o_width o_height o_tapeLength o_font o_scale o_lines o_at o_end o_good a1 a2 a3 a4 uu  x3 x7 x9 (0 : Int32) o_touches o_turns h hP hD hS (lv_sub hl [0, 1, 2, 3] rfl)
  · replace h := (if_neg c_1).symm.trans h
    refine lv_iconst (v := (1 : Int32)) hx hb d_Mo_line_JJJJV_43 (by decide) ?_
    refine lv_goto (tgt := 48) hx hb d_Mo_line_JJJJV_44 (by decide) ?_
    exact w_Mo_line_JJJJV_48 C0 o o_page o_tape o_spare o_lineFrom o_lineTo o_lineWidth o_flag o_px o_py o_first o_second o_width o_height o_tapeLength o_font o_scale o_lines o_at o_end o_good a1 a2 a3 a4 uu  x3 x7 x9 (1 : Int32) o_touches o_turns h hP hD hS (lv_sub hl [0, 1, 2, 3] rfl)
def P_Mo_line_JJJJV (o_touches : Int32) (o_turns : Int32) (a1 : Int64) (a2 : Int64) (a3 : Int64) (a4 : Int64) : Option (Int32 × Int32) :=
  if (lg_cmp ((a1 * a4) - (a3 * a2)) (0 : Int64)) = 0 then (if 0 < (lg_cmp ((a1 * a3) + (a2 * a4)) (0 : Int64)) then (P_Mo_line_JJJJV_37 a2 a4 ((a1 * a4) - (a3 * a2)) o_touches o_turns) else (P_Mo_line_JJJJV_37 a2 a4 ((a1 * a4) - (a3 * a2)) (1 : Int32) o_turns)) else (P_Mo_line_JJJJV_37 a2 a4 ((a1 * a4) - (a3 * a2)) o_touches o_turns)
set_option maxHeartbeats 4000000 in
set_option maxRecDepth 100000 in
theorem c_Mo_line_JJJJV (l : Launch) (dC : Nat → ClassId) (dI : Nat → Nat → Nat) (cy : Nat → ClassId) (sz : Nat) (o : Nat) (o_page : Nat) (o_tape : Nat) (o_spare : Nat) (o_lineFrom : Nat) (o_lineTo : Nat) (o_lineWidth : Nat) (o_flag : Nat) (o_px : Nat) (o_py : Nat) (o_first : Nat) (o_second : Nat) (o_width : Int32) (o_height : Int32) (o_tapeLength : Int32) (o_font : Option Nat) (o_scale : Int32) (o_lines : Int32) (o_at : Int32) (o_end : Int32) (o_good : Int32) (o_touches : Int32) (o_turns : Int32) (a1 : Int64) (a2 : Int64) (a3 : Int64) (a4 : Int64) (uu : Int32 × Int32) (h : P_Mo_line_JJJJV o_touches o_turns a1 a2 a3 a4 = some uu) : Met l y_Mo_line_JJJJV (Cond.code y_Mo_line_JJJJV b_Mo_line_JJJJV 11 none :: G) ({ frames := 1, cells := 0, slots := 0, locals := 23 } : Room) (va_Pc [.ref o, .long a1, .long a2, .long a3, .long a4] (fun U => U.heap.size = sz ∧ va_P (dC, dI) classes [(o, .inr (9, [.int o_width, .int o_height, .ref o_page, .ref o_tape, .int o_tapeLength, va_rf o_font, .ref o_spare, .int o_scale, .ref o_lineFrom, .ref o_lineTo, .ref o_lineWidth, .int o_lines, .int o_at, .int o_end, .int o_good, .ref o_flag, .ref o_px, .ref o_py, .int o_touches, .ref o_first, .ref o_second, .int o_turns]))] U.heap ∧ va_K (dC, dI) classes (TY cy) U ∧ va_D (fun _ => True) [(o, .inr (9, [.int o_width, .int o_height, .ref o_page, .ref o_tape, .int o_tapeLength, va_rf o_font, .ref o_spare, .int o_scale, .ref o_lineFrom, .ref o_lineTo, .ref o_lineWidth, .int o_lines, .int o_at, .int o_end, .int o_good, .ref o_flag, .ref o_px, .ref o_py, .int o_touches, .ref o_first, .ref o_second, .int o_turns]))])) (va_Qv (fun _ : Unit => True) (fun _ t => va_P (dC, dI) classes [(o, .inr (9, [.int o_width, .int o_height, .ref o_page, .ref o_tape, .int o_tapeLength, va_rf o_font, .ref o_spare, .int o_scale, .ref o_lineFrom, .ref o_lineTo, .ref o_lineWidth, .int o_lines, .int o_at, .int o_end, .int o_good, .ref o_flag, .ref o_px, .ref o_py, .int uu.1, .ref o_first, .ref o_second, .int uu.2]))] t.heap ∧ va_K (dC, dI) classes (TY cy) t ∧ va_D (va_A [(o, .inr (9, [.int o_width, .int o_height, .ref o_page, .ref o_tape, .int o_tapeLength, va_rf o_font, .ref o_spare, .int o_scale, .ref o_lineFrom, .ref o_lineTo, .ref o_lineWidth, .int o_lines, .int o_at, .int o_end, .int o_good, .ref o_flag, .ref o_px, .ref o_py, .int o_touches, .ref o_first, .ref o_second, .int o_turns]))] sz) [(o, .inr (9, [.int o_width, .int o_height, .ref o_page, .ref o_tape, .int o_tapeLength, va_rf o_font, .ref o_spare, .int o_scale, .ref o_lineFrom, .ref o_lineTo, .ref o_lineWidth, .int o_lines, .int o_at, .int o_end, .int o_good, .ref o_flag, .ref o_px, .ref o_py, .int uu.1, .ref o_first, .ref o_second, .int uu.2]))]) (va_A [(o, .inr (9, [.int o_width, .int o_height, .ref o_page, .ref o_tape, .int o_tapeLength, va_rf o_font, .ref o_spare, .int o_scale, .ref o_lineFrom, .ref o_lineTo, .ref o_lineWidth, .int o_lines, .int o_at, .int o_end, .int o_good, .ref o_flag, .ref o_px, .ref o_py, .int o_touches, .ref o_first, .ref o_second, .int o_turns]))] sz)) 0 0 (va_A [(o, .inr (9, [.int o_width, .int o_height, .ref o_page, .ref o_tape, .int o_tapeLength, va_rf o_font, .ref o_spare, .int o_scale, .ref o_lineFrom, .ref o_lineTo, .ref o_lineWidth, .int o_lines, .int o_at, .int o_end, .int o_good, .ref o_flag, .ref o_px, .ref o_py, .int o_touches, .ref o_first, .ref o_second, .int o_turns]))] sz) := by
  refine Met.ofW (cc := b_Mo_line_JJJJV) (maxL := 11) (ret := none) (by decide) rfl ?_
  intro p e s m args below meth c s₁ B hml hv
  obtain ⟨rfl, hsz, hP, hK, hD0⟩ := hv
  have hx := B.exec
  have hb := B.bytes
  have hr := B.returns
  have hts := atoms_spec (ws := Cond.code y_Mo_line_JJJJV b_Mo_line_JJJJV 11 none :: G) B.pre
  have htsG : ∀ w ∈ G, w.before _ s = true := fun w hw => hts w (List.mem_cons_of_mem _ hw)
  have hown : s.vm.findClass "GlyphPageModel" = some m.cls := findClass_of_methodNamed B.named
  have hlocks := B.notSynchronized
  subst hsz
  have hD := hD0.self (sz := s.heap.size)
  generalize hAe : va_A [(o, .inr (9, [.int o_width, .int o_height, .ref o_page, .ref o_tape, .int o_tapeLength, va_rf o_font, .ref o_spare, .int o_scale, .ref o_lineFrom, .ref o_lineTo, .ref o_lineWidth, .int o_lines, .int o_at, .int o_end, .int o_good, .ref o_flag, .ref o_px, .ref o_py, .int o_touches, .ref o_first, .ref o_second, .int o_turns]))] s.heap.size = A at hD ⊢
  have hA : ∀ q : Nat, s.heap.size ≤ q → A q := fun q h => by rw [← hAe]; exact Or.inr h
  have hS : va_S A s.heap s.heap [] := va_S.rf
  have hl := lv_entry ([.ref o, .long a1, .long a2, .long a3, .long a4]) (n := 11) (Nat.le_of_ble_eq_true rfl)
  rw [lg_entry_eq]
  generalize (lg_sl ([.ref o, .long a1, .long a2, .long a3, .long a4]) ++ List.replicate (11 - (lg_sl ([.ref o, .long a1, .long a2, .long a3, .long a4])).length) Slot.unset).toArray = ls at hl ⊢
  have hl : lv_has ls 11 [(0, .ref o), (1, .long a1), (3, .long a2), (5, .long a3), (7, .long a4)] := hl
  have C0 : Cx p s m _ meth c A dC dI cy b_Mo_line_JJJJV 11 none "GlyphPageModel" := ⟨hx, hb, hr, hlocks, hml, hown, htsG, hA, hK⟩
  unfold P_Mo_line_JJJJV at h
  refine lv_lload_n hx hb d_Mo_line_JJJJV_0 rfl (lv_at hl 1 rfl) ?_
  refine lv_lload hx hb d_Mo_line_JJJJV_1 (lv_at hl 4 rfl) ?_
  refine lv_lmul hx hb d_Mo_line_JJJJV_3 ?_
  refine lv_lload hx hb d_Mo_line_JJJJV_4 (lv_at hl 3 rfl) ?_
  refine lv_lload_n hx hb d_Mo_line_JJJJV_6 rfl (lv_at hl 2 rfl) ?_
  refine lv_lmul hx hb d_Mo_line_JJJJV_7 ?_
  refine lv_lsub hx hb d_Mo_line_JJJJV_8 ?_
  refine lv_lstore (lv' := [(9, .long ((a1 * a4) - (a3 * a2))), (0, .ref o), (1, .long a1), (3, .long a2), (5, .long a3), (7, .long a4)]) hx hb d_Mo_line_JJJJV_9 hl (by decide) rfl (fun ls hl => ?_)
  refine lv_lload hx hb d_Mo_line_JJJJV_11 (lv_at hl 0 rfl) ?_
  refine lv_lconst (v := (0 : Int64)) hx hb d_Mo_line_JJJJV_13 (by decide) ?_
  refine W.lcmp hx hb d_Mo_line_JJJJV_14 ?_
  refine lv_if_ne (tgt := 37) hx hb d_Mo_line_JJJJV_15 (by decide) (fun c_1 => ?_) (fun c_1 => ?_)
  · replace h := (if_neg c_1).symm.trans h
    exact w_Mo_line_JJJJV_37 C0 o o_page o_tape o_spare o_lineFrom o_lineTo o_lineWidth o_flag o_px o_py o_first o_second o_width o_height o_tapeLength o_font o_scale o_lines o_at o_end o_good a1 a2 a3 a4 uu  a2 a4 ((a1 * a4) - (a3 * a2)) o_touches o_turns h hP hD hS (lv_sub hl [1, 3, 5, 0] rfl)
  · replace h := (if_pos c_1).symm.trans h
    refine lv_lload_n hx hb d_Mo_line_JJJJV_18 rfl (lv_at hl 2 rfl) ?_
    refine lv_lload hx hb d_Mo_line_JJJJV_19 (lv_at hl 4 rfl) ?_
    refine lv_lmul hx hb d_Mo_line_JJJJV_21 ?_
    refine lv_lload_n hx hb d_Mo_line_JJJJV_22 rfl (lv_at hl 3 rfl) ?_
    refine lv_lload hx hb d_Mo_line_JJJJV_23 (lv_at hl 5 rfl) ?_
    refine lv_lmul hx hb d_Mo_line_JJJJV_25 ?_
    refine lv_ladd hx hb d_Mo_line_JJJJV_26 ?_
    refine lv_lconst (v := (0 : Int64)) hx hb d_Mo_line_JJJJV_27 (by decide) ?_
    refine W.lcmp hx hb d_Mo_line_JJJJV_28 ?_
    refine lv_if_gt (tgt := 37) hx hb d_Mo_line_JJJJV_29 (by decide) (fun c_2 => ?_) (fun c_2 => ?_)
    · replace h := (if_pos c_2).symm.trans h
      exact w_Mo_line_JJJJV_37 C0 o o_page o_tape o_spare o_lineFrom o_lineTo o_lineWidth o_flag o_px o_py o_first o_second o_width o_height o_tapeLength o_font o_scale o_lines o_at o_end o_good a1 a2 a3 a4 uu  a2 a4 ((a1 * a4) - (a3 * a2)) o_touches o_turns h hP hD hS (lv_sub hl [1, 3, 5, 0] rfl)
    · replace h := (if_neg c_2).symm.trans h
      refine lv_aload_n hx hb d_Mo_line_JJJJV_32 rfl (lv_at hl 1 rfl) ?_
      refine lv_iconst (v := (1 : Int32)) hx hb d_Mo_line_JJJJV_33 (by decide) ?_
      refine va_put (D := (dC, dI)) (ci := 9) (v := .int (1 : Int32)) (ty := .boolean) (C := "GlyphPageModel") (T := F_Mo) (N := 22) hx hb htsG iG_Mo t_Mo t_Mo_ok n_Mo hown hK hP hD hS 0 rfl rfl 18 (by decide) (htsG _ mW874) (fun _ h9 => h9) rfl (by decide +kernel) rfl rfl (Nat.le_of_ble_eq_true rfl) d_Mo_line_JJJJV_34 (fun H locs hP hD hS => ?_)
      have hP : va_P (dC, dI) classes [(o, .inr (9, [.int o_width, .int o_height, .ref o_page, .ref o_tape, .int o_tapeLength, va_rf o_font, .ref o_spare, .int o_scale, .ref o_lineFrom, .ref o_lineTo, .ref o_lineWidth, .int o_lines, .int o_at, .int o_end, .int o_good, .ref o_flag, .ref o_px, .ref o_py, .int (1 : Int32), .ref o_first, .ref o_second, .int o_turns]))] H := hP
      have hD : va_D A [(o, .inr (9, [.int o_width, .int o_height, .ref o_page, .ref o_tape, .int o_tapeLength, va_rf o_font, .ref o_spare, .int o_scale, .ref o_lineFrom, .ref o_lineTo, .ref o_lineWidth, .int o_lines, .int o_at, .int o_end, .int o_good, .ref o_flag, .ref o_px, .ref o_py, .int (1 : Int32), .ref o_first, .ref o_second, .int o_turns]))] := hD
      exact w_Mo_line_JJJJV_37 C0 o o_page o_tape o_spare o_lineFrom o_lineTo o_lineWidth o_flag o_px o_py o_first o_second o_width o_height o_tapeLength o_font o_scale o_lines o_at o_end o_good a1 a2 a3 a4 uu  a2 a4 ((a1 * a4) - (a3 * a2)) (1 : Int32) o_turns h hP hD hS (lv_sub hl [1, 3, 5, 0] rfl)
def P_Mo_through_26b   (z26 : Int32 × (Nat → Int64) × (Nat → Int64) → Option (Int32 × (Nat → Int64) × (Nat → Int64))) (x7 : Int32) (o_first_f : Nat → Int64) (o_second_f : Nat → Int64) : Option (Int32 × (Nat → Int64) × (Nat → Int64)) :=
  if (6 : Int32) ≤ x7 then (some ((1 : Int32), o_first_f, o_second_f)) else (bd x7 6 <| bd x7 6 <| if (lg_cmp (o_first_f x7.toNatClampNeg) (o_second_f x7.toNatClampNeg)) = 0 then (z26 ((x7 + (1 : Int32)), o_first_f, o_second_f)) else (some ((0 : Int32), o_first_f, o_second_f)))
def L_Mo_through_26   : (Int32 × (Nat → Int64) × (Nat → Int64) → Option (Int32 × (Nat → Int64) × (Nat → Int64))) → (Int32 × (Nat → Int64) × (Nat → Int64)) → Option (Int32 × (Nat → Int64) × (Nat → Int64)) :=
  fun z => unp fun x7 => unp fun o_first_f o_second_f => P_Mo_through_26b  z x7 o_first_f o_second_f
def P_Mo_through_26   (x7 : Int32) (o_first_f : Nat → Int64) (o_second_f : Nat → Int64) : Option (Int32 × (Nat → Int64) × (Nat → Int64)) :=
  lp (L_Mo_through_26 ) fuel (x7, o_first_f, o_second_f)
theorem e_Mo_through_26   (n : Nat) (x7 : Int32) (o_first_f : Nat → Int64) (o_second_f : Nat → Int64) : lp (L_Mo_through_26 ) (n + 1) (x7, o_first_f, o_second_f) = P_Mo_through_26b  (lp (L_Mo_through_26 ) n) x7 o_first_f o_second_f := rfl
set_option maxHeartbeats 4000000 in
set_option maxRecDepth 100000 in
theorem w_Mo_through_26b (C0 : Cx p s m args meth c A dC dI cy b_Mo_through 8 (some .boolean) "GlyphPageModel") (o : Nat) (o_page : Nat) (o_tape : Nat) (o_spare : Nat) (o_lineFrom : Nat) (o_lineTo : Nat) (o_lineWidth : Nat) (o_flag : Nat) (o_px : Nat) (o_py : Nat) (o_first : Nat) (o_second : Nat) (o_width : Int32) (o_height : Int32) (o_tapeLength : Int32) (o_font : Option Nat) (o_scale : Int32) (o_lines : Int32) (o_at : Int32) (o_end : Int32) (o_good : Int32) (o_touches : Int32) (o_turns : Int32) (a1 : Int64) (a2 : Int64) (a3 : Int64) (uu : Int32 × (Nat → Int64) × (Nat → Int64))  (z26 : Int32 × (Nat → Int64) × (Nat → Int64) → Option (Int32 × (Nat → Int64) × (Nat → Int64))) (hz26 : ∀ (x7 : Int32) (o_first_f : Nat → Int64) (o_second_f : Nat → Int64) (H : Heap) (locs : List Loc) (ls : Array Slot), z26 (x7, o_first_f, o_second_f) = some uu → va_P (dC, dI) classes [(o, .inr (9, [.int o_width, .int o_height, .ref o_page, .ref o_tape, .int o_tapeLength, va_rf o_font, .ref o_spare, .int o_scale, .ref o_lineFrom, .ref o_lineTo, .ref o_lineWidth, .int o_lines, .int o_at, .int o_end, .int o_good, .ref o_flag, .ref o_px, .ref o_py, .int o_touches, .ref o_first, .ref o_second, .int o_turns])), (o_first, .inl (cy 3, 6, .inr (.inl o_first_f))), (o_second, .inl (cy 3, 6, .inr (.inl o_second_f)))] H → va_D A [(o, .inr (9, [.int o_width, .int o_height, .ref o_page, .ref o_tape, .int o_tapeLength, va_rf o_font, .ref o_spare, .int o_scale, .ref o_lineFrom, .ref o_lineTo, .ref o_lineWidth, .int o_lines, .int o_at, .int o_end, .int o_good, .ref o_flag, .ref o_px, .ref o_py, .int o_touches, .ref o_first, .ref o_second, .int o_turns])), (o_first, .inl (cy 3, 6, .inr (.inl o_first_f))), (o_second, .inl (cy 3, 6, .inr (.inl o_second_f)))] → va_S A s.heap H locs → lv_has ls 8 [(0, .ref o), (7, .int x7)] → W p l e ({ frames := 2, cells := 0, slots := 0, locals := 66 } : Room) s m args below meth c H locs 0 0 (MQ below (va_Qi (fun r (_ : Unit) => r = uu.1) (fun _ t => va_P (dC, dI) classes [(o, .inr (9, [.int o_width, .int o_height, .ref o_page, .ref o_tape, .int o_tapeLength, va_rf o_font, .ref o_spare, .int o_scale, .ref o_lineFrom, .ref o_lineTo, .ref o_lineWidth, .int o_lines, .int o_at, .int o_end, .int o_good, .ref o_flag, .ref o_px, .ref o_py, .int o_touches, .ref o_first, .ref o_second, .int o_turns])), (o_first, .inl (cy 3, 6, .inr (.inl uu.2.1))), (o_second, .inl (cy 3, 6, .inr (.inl uu.2.2)))] t.heap ∧ va_K (dC, dI) classes (TY cy) t ∧ va_D A [(o, .inr (9, [.int o_width, .int o_height, .ref o_page, .ref o_tape, .int o_tapeLength, va_rf o_font, .ref o_spare, .int o_scale, .ref o_lineFrom, .ref o_lineTo, .ref o_lineWidth, .int o_lines, .int o_at, .int o_end, .int o_good, .ref o_flag, .ref o_px, .ref o_py, .int o_touches, .ref o_first, .ref o_second, .int o_turns])), (o_first, .inl (cy 3, 6, .inr (.inl uu.2.1))), (o_second, .inl (cy 3, 6, .inr (.inl uu.2.2)))]) A) args s 0 0 A) (F0 m 26 ls [])) (x7 : Int32) (o_first_f : Nat → Int64) (o_second_f : Nat → Int64) {H : Heap} {locs : List Loc} {ls : Array Slot} (h : P_Mo_through_26b z26 x7 o_first_f o_second_f = some uu) : va_P (dC, dI) classes [(o, .inr (9, [.int o_width, .int o_height, .ref o_page, .ref o_tape, .int o_tapeLength, va_rf o_font, .ref o_spare, .int o_scale, .ref o_lineFrom, .ref o_lineTo, .ref o_lineWidth, .int o_lines, .int o_at, .int o_end, .int o_good, .ref o_flag, .ref o_px, .ref o_py, .int o_touches, .ref o_first, .ref o_second, .int o_turns])), (o_first, .inl (cy 3, 6, .inr (.inl o_first_f))), (o_second, .inl (cy 3, 6, .inr (.inl o_second_f)))] H → va_D A [(o, .inr (9, [.int o_width, .int o_height, .ref o_page, .ref o_tape, .int o_tapeLength, va_rf o_font, .ref o_spare, .int o_scale, .ref o_lineFrom, .ref o_lineTo, .ref o_lineWidth, .int o_lines, .int o_at, .int o_end, .int o_good, .ref o_flag, .ref o_px, .ref o_py, .int o_touches, .ref o_first, .ref o_second, .int o_turns])), (o_first, .inl (cy 3, 6, .inr (.inl o_first_f))), (o_second, .inl (cy 3, 6, .inr (.inl o_second_f)))] → va_S A s.heap H locs → lv_has ls 8 [(0, .ref o), (7, .int x7)] → W p l e ({ frames := 2, cells := 0, slots := 0, locals := 66 } : Room) s m args below meth c H locs 0 0 (MQ below (va_Qi (fun r (_ : Unit) => r = uu.1) (fun _ t => va_P (dC, dI) classes [(o, .inr (9, [.int o_width, .int o_height, .ref o_page, .ref o_tape, .int o_tapeLength, va_rf o_font, .ref o_spare, .int o_scale, .ref o_lineFrom, .ref o_lineTo, .ref o_lineWidth, .int o_lines, .int o_at, .int o_end, .int o_good, .ref o_flag, .ref o_px, .ref o_py, .int o_touches, .ref o_first, .ref o_second, .int o_turns])), (o_first, .inl (cy 3, 6, .inr (.inl uu.2.1))), (o_second, .inl (cy 3, 6, .inr (.inl uu.2.2)))] t.heap ∧ va_K (dC, dI) classes (TY cy) t ∧ va_D A [(o, .inr (9, [.int o_width, .int o_height, .ref o_page, .ref o_tape, .int o_tapeLength, va_rf o_font, .ref o_spare, .int o_scale, .ref o_lineFrom, .ref o_lineTo, .ref o_lineWidth, .int o_lines, .int o_at, .int o_end, .int o_good, .ref o_flag, .ref o_px, .ref o_py, .int o_touches, .ref o_first, .ref o_second, .int o_turns])), (o_first, .inl (cy 3, 6, .inr (.inl uu.2.1))), (o_second, .inl (cy 3, 6, .inr (.inl uu.2.2)))]) A) args s 0 0 A) (F0 m 26 ls []) := by
  intro hP hD hS hl
  obtain ⟨hx, hb, hr, hlocks, hml, hown, htsG, hA, hK⟩ := id C0
  unfold P_Mo_through_26b at h
  refine lv_iload hx hb d_Mo_through_26 (lv_at hl 1 rfl) ?_
  refine lv_bipush (v := (6 : Int32)) hx hb d_Mo_through_28 (by decide) ?_
  refine lv_icmp_ge (tgt := 59) hx hb d_Mo_through_30 (by decide) (fun c_1 => ?_) (fun c_1 => ?_)
  · replace h := (if_pos c_1).symm.trans h
    refine lv_iconst (v := (1 : Int32)) hx hb d_Mo_through_59 (by decide) ?_
    cases h
    exact W.zret (ty := .boolean) hx hb hr rfl (fun t ht hW => ⟨⟨_, (), rfl, rfl, by rw [ht]; exact hP, va_K.moved hW.alike hK, hD⟩, hS.F ht⟩) hS.2.2 d_Mo_through_60 hlocks
  · replace h := (if_neg c_1).symm.trans h
    refine lv_aload_n hx hb d_Mo_through_33 rfl (lv_at hl 0 rfl) ?_
    refine va_get (D := (dC, dI)) (ci := 9) (v := .ref o_first) (C := "GlyphPageModel") (T := F_Mo) (N := 22) hx hb htsG iG_Mo hown hK hP 0 rfl rfl 19 (by decide) (htsG _ mW875) (fun _ h9 => h9) rfl d_Mo_through_34 ?_
    refine lv_iload hx hb d_Mo_through_37 (lv_at hl 1 rfl) ?_
    obtain ⟨hin_2, h⟩ := bd_some h
    refine va_lald hx hb hK hP 1 3 rfl rfl hin_2 d_Mo_through_39 ?_
    refine lv_aload_n hx hb d_Mo_through_40 rfl (lv_at hl 0 rfl) ?_
    refine va_get (D := (dC, dI)) (ci := 9) (v := .ref o_second) (C := "GlyphPageModel") (T := F_Mo) (N := 22) hx hb htsG iG_Mo hown hK hP 0 rfl rfl 20 (by decide) (htsG _ mW876) (fun _ h9 => h9) rfl d_Mo_through_41 ?_
    refine lv_iload hx hb d_Mo_through_44 (lv_at hl 1 rfl) ?_
    obtain ⟨hin_3, h⟩ := bd_some h
    refine va_lald hx hb hK hP 2 3 rfl rfl hin_3 d_Mo_through_46 ?_
    refine W.lcmp hx hb d_Mo_through_47 ?_
    refine lv_if_eq (tgt := 53) hx hb d_Mo_through_48 (by decide) (fun c_4 => ?_) (fun c_4 => ?_)
    · replace h := (if_pos c_4).symm.trans h
      refine lv_iinc (v := (x7 + (1 : Int32))) (lv' := [(7, .int (x7 + (1 : Int32))), (0, .ref o)]) hx hb d_Mo_through_53 hl (k := 1) rfl rfl (by decide) rfl (fun ls hl => ?_)
      refine lv_goto (tgt := 26) hx hb d_Mo_through_56 (by decide) ?_
      exact hz26 (x7 + (1 : Int32)) o_first_f o_second_f _ _ _ h hP hD hS (lv_sub hl [1, 0] rfl)
    · replace h := (if_neg c_4).symm.trans h
      refine lv_iconst (v := (0 : Int32)) hx hb d_Mo_through_51 (by decide) ?_
      cases h
      exact W.zret (ty := .boolean) hx hb hr rfl (fun t ht hW => ⟨⟨_, (), rfl, rfl, by rw [ht]; exact hP, va_K.moved hW.alike hK, hD⟩, hS.F ht⟩) hS.2.2 d_Mo_through_52 hlocks
theorem w_Mo_through_26 (C0 : Cx p s m args meth c A dC dI cy b_Mo_through 8 (some .boolean) "GlyphPageModel") (o : Nat) (o_page : Nat) (o_tape : Nat) (o_spare : Nat) (o_lineFrom : Nat) (o_lineTo : Nat) (o_lineWidth : Nat) (o_flag : Nat) (o_px : Nat) (o_py : Nat) (o_first : Nat) (o_second : Nat) (o_width : Int32) (o_height : Int32) (o_tapeLength : Int32) (o_font : Option Nat) (o_scale : Int32) (o_lines : Int32) (o_at : Int32) (o_end : Int32) (o_good : Int32) (o_touches : Int32) (o_turns : Int32) (a1 : Int64) (a2 : Int64) (a3 : Int64) (uu : Int32 × (Nat → Int64) × (Nat → Int64))  (x7 : Int32) (o_first_f : Nat → Int64) (o_second_f : Nat → Int64) {H : Heap} {locs : List Loc} {ls : Array Slot} (h : P_Mo_through_26 x7 o_first_f o_second_f = some uu) : va_P (dC, dI) classes [(o, .inr (9, [.int o_width, .int o_height, .ref o_page, .ref o_tape, .int o_tapeLength, va_rf o_font, .ref o_spare, .int o_scale, .ref o_lineFrom, .ref o_lineTo, .ref o_lineWidth, .int o_lines, .int o_at, .int o_end, .int o_good, .ref o_flag, .ref o_px, .ref o_py, .int o_touches, .ref o_first, .ref o_second, .int o_turns])), (o_first, .inl (cy 3, 6, .inr (.inl o_first_f))), (o_second, .inl (cy 3, 6, .inr (.inl o_second_f)))] H → va_D A [(o, .inr (9, [.int o_width, .int o_height, .ref o_page, .ref o_tape, .int o_tapeLength, va_rf o_font, .ref o_spare, .int o_scale, .ref o_lineFrom, .ref o_lineTo, .ref o_lineWidth, .int o_lines, .int o_at, .int o_end, .int o_good, .ref o_flag, .ref o_px, .ref o_py, .int o_touches, .ref o_first, .ref o_second, .int o_turns])), (o_first, .inl (cy 3, 6, .inr (.inl o_first_f))), (o_second, .inl (cy 3, 6, .inr (.inl o_second_f)))] → va_S A s.heap H locs → lv_has ls 8 [(0, .ref o), (7, .int x7)] → W p l e ({ frames := 2, cells := 0, slots := 0, locals := 66 } : Room) s m args below meth c H locs 0 0 (MQ below (va_Qi (fun r (_ : Unit) => r = uu.1) (fun _ t => va_P (dC, dI) classes [(o, .inr (9, [.int o_width, .int o_height, .ref o_page, .ref o_tape, .int o_tapeLength, va_rf o_font, .ref o_spare, .int o_scale, .ref o_lineFrom, .ref o_lineTo, .ref o_lineWidth, .int o_lines, .int o_at, .int o_end, .int o_good, .ref o_flag, .ref o_px, .ref o_py, .int o_touches, .ref o_first, .ref o_second, .int o_turns])), (o_first, .inl (cy 3, 6, .inr (.inl uu.2.1))), (o_second, .inl (cy 3, 6, .inr (.inl uu.2.2)))] t.heap ∧ va_K (dC, dI) classes (TY cy) t ∧ va_D A [(o, .inr (9, [.int o_width, .int o_height, .ref o_page, .ref o_tape, .int o_tapeLength, va_rf o_font, .ref o_spare, .int o_scale, .ref o_lineFrom, .ref o_lineTo, .ref o_lineWidth, .int o_lines, .int o_at, .int o_end, .int o_good, .ref o_flag, .ref o_px, .ref o_py, .int o_touches, .ref o_first, .ref o_second, .int o_turns])), (o_first, .inl (cy 3, 6, .inr (.inl uu.2.1))), (o_second, .inl (cy 3, 6, .inr (.inl uu.2.2)))]) A) args s 0 0 A) (F0 m 26 ls []) := by
  have key : ∀ (n : Nat) (x7 : Int32) (o_first_f : Nat → Int64) (o_second_f : Nat → Int64) (H : Heap) (locs : List Loc) (ls : Array Slot), lp (L_Mo_through_26 ) n (x7, o_first_f, o_second_f) = some uu → va_P (dC, dI) classes [(o, .inr (9, [.int o_width, .int o_height, .ref o_page, .ref o_tape, .int o_tapeLength, va_rf o_font, .ref o_spare, .int o_scale, .ref o_lineFrom, .ref o_lineTo, .ref o_lineWidth, .int o_lines, .int o_at, .int o_end, .int o_good, .ref o_flag, .ref o_px, .ref o_py, .int o_touches, .ref o_first, .ref o_second, .int o_turns])), (o_first, .inl (cy 3, 6, .inr (.inl o_first_f))), (o_second, .inl (cy 3, 6, .inr (.inl o_second_f)))] H → va_D A [(o, .inr (9, [.int o_width, .int o_height, .ref o_page, .ref o_tape, .int o_tapeLength, va_rf o_font, .ref o_spare, .int o_scale, .ref o_lineFrom, .ref o_lineTo, .ref o_lineWidth, .int o_lines, .int o_at, .int o_end, .int o_good, .ref o_flag, .ref o_px, .ref o_py, .int o_touches, .ref o_first, .ref o_second, .int o_turns])), (o_first, .inl (cy 3, 6, .inr (.inl o_first_f))), (o_second, .inl (cy 3, 6, .inr (.inl o_second_f)))] → va_S A s.heap H locs → lv_has ls 8 [(0, .ref o), (7, .int x7)] → W p l e ({ frames := 2, cells := 0, slots := 0, locals := 66 } : Room) s m args below meth c H locs 0 0 (MQ below (va_Qi (fun r (_ : Unit) => r = uu.1) (fun _ t => va_P (dC, dI) classes [(o, .inr (9, [.int o_width, .int o_height, .ref o_page, .ref o_tape, .int o_tapeLength, va_rf o_font, .ref o_spare, .int o_scale, .ref o_lineFrom, .ref o_lineTo, .ref o_lineWidth, .int o_lines, .int o_at, .int o_end, .int o_good, .ref o_flag, .ref o_px, .ref o_py, .int o_touches, .ref o_first, .ref o_second, .int o_turns])), (o_first, .inl (cy 3, 6, .inr (.inl uu.2.1))), (o_second, .inl (cy 3, 6, .inr (.inl uu.2.2)))] t.heap ∧ va_K (dC, dI) classes (TY cy) t ∧ va_D A [(o, .inr (9, [.int o_width, .int o_height, .ref o_page, .ref o_tape, .int o_tapeLength, va_rf o_font, .ref o_spare, .int o_scale, .ref o_lineFrom, .ref o_lineTo, .ref o_lineWidth, .int o_lines, .int o_at, .int o_end, .int o_good, .ref o_flag, .ref o_px, .ref o_py, .int o_touches, .ref o_first, .ref o_second, .int o_turns])), (o_first, .inl (cy 3, 6, .inr (.inl uu.2.1))), (o_second, .inl (cy 3, 6, .inr (.inl uu.2.2)))]) A) args s 0 0 A) (F0 m 26 ls []) := by
    intro n
    induction n with
    | zero => intro x7 o_first_f o_second_f H locs ls h; cases h
    | succ n ih => intro x7 o_first_f o_second_f H locs ls h; exact w_Mo_through_26b C0 o o_page o_tape o_spare o_lineFrom o_lineTo o_lineWidth o_flag o_px o_py o_first o_second o_width o_height o_tapeLength o_font o_scale o_lines o_at o_end o_good o_touches o_turns a1 a2 a3 uu  (lp (L_Mo_through_26 ) n) ih x7 o_first_f o_second_f ((e_Mo_through_26  n x7 o_first_f o_second_f).symm.trans h)
  exact key fuel x7 o_first_f o_second_f H locs ls h
def P_Mo_through (o_first_f : Nat → Int64) (o_second_f : Nat → Int64) (a1 : Int64) (a2 : Int64) (a3 : Int64) : Option (Int32 × (Nat → Int64) × (Nat → Int64)) :=
  (P_Mo_product o_first_f a2 a2 (1 : Int64)).bind fun n_1 => (P_Mo_product o_second_f a1 a3 (4 : Int64)).bind fun n_2 => P_Mo_through_26 (0 : Int32) n_1 n_2
set_option maxHeartbeats 4000000 in
set_option maxRecDepth 100000 in
theorem c_Mo_through (l : Launch) (dC : Nat → ClassId) (dI : Nat → Nat → Nat) (cy : Nat → ClassId) (sz : Nat) (o : Nat) (o_page : Nat) (o_tape : Nat) (o_spare : Nat) (o_lineFrom : Nat) (o_lineTo : Nat) (o_lineWidth : Nat) (o_flag : Nat) (o_px : Nat) (o_py : Nat) (o_first : Nat) (o_second : Nat) (o_width : Int32) (o_height : Int32) (o_tapeLength : Int32) (o_font : Option Nat) (o_scale : Int32) (o_lines : Int32) (o_at : Int32) (o_end : Int32) (o_good : Int32) (o_touches : Int32) (o_turns : Int32) (o_first_f : Nat → Int64) (o_second_f : Nat → Int64) (a1 : Int64) (a2 : Int64) (a3 : Int64) (uu : Int32 × (Nat → Int64) × (Nat → Int64)) (h : P_Mo_through o_first_f o_second_f a1 a2 a3 = some uu) : Met l y_Mo_through (Cond.code y_Mo_through b_Mo_through 8 (some .boolean) :: G) ({ frames := 2, cells := 0, slots := 0, locals := 66 } : Room) (va_Pc [.ref o, .long a1, .long a2, .long a3] (fun U => U.heap.size = sz ∧ va_P (dC, dI) classes [(o, .inr (9, [.int o_width, .int o_height, .ref o_page, .ref o_tape, .int o_tapeLength, va_rf o_font, .ref o_spare, .int o_scale, .ref o_lineFrom, .ref o_lineTo, .ref o_lineWidth, .int o_lines, .int o_at, .int o_end, .int o_good, .ref o_flag, .ref o_px, .ref o_py, .int o_touches, .ref o_first, .ref o_second, .int o_turns])), (o_first, .inl (cy 3, 6, .inr (.inl o_first_f))), (o_second, .inl (cy 3, 6, .inr (.inl o_second_f)))] U.heap ∧ va_K (dC, dI) classes (TY cy) U ∧ va_D (fun _ => True) [(o, .inr (9, [.int o_width, .int o_height, .ref o_page, .ref o_tape, .int o_tapeLength, va_rf o_font, .ref o_spare, .int o_scale, .ref o_lineFrom, .ref o_lineTo, .ref o_lineWidth, .int o_lines, .int o_at, .int o_end, .int o_good, .ref o_flag, .ref o_px, .ref o_py, .int o_touches, .ref o_first, .ref o_second, .int o_turns])), (o_first, .inl (cy 3, 6, .inr (.inl o_first_f))), (o_second, .inl (cy 3, 6, .inr (.inl o_second_f)))])) (va_Qi (fun r (_ : Unit) => r = uu.1) (fun _ t => va_P (dC, dI) classes [(o, .inr (9, [.int o_width, .int o_height, .ref o_page, .ref o_tape, .int o_tapeLength, va_rf o_font, .ref o_spare, .int o_scale, .ref o_lineFrom, .ref o_lineTo, .ref o_lineWidth, .int o_lines, .int o_at, .int o_end, .int o_good, .ref o_flag, .ref o_px, .ref o_py, .int o_touches, .ref o_first, .ref o_second, .int o_turns])), (o_first, .inl (cy 3, 6, .inr (.inl uu.2.1))), (o_second, .inl (cy 3, 6, .inr (.inl uu.2.2)))] t.heap ∧ va_K (dC, dI) classes (TY cy) t ∧ va_D (va_A [(o, .inr (9, [.int o_width, .int o_height, .ref o_page, .ref o_tape, .int o_tapeLength, va_rf o_font, .ref o_spare, .int o_scale, .ref o_lineFrom, .ref o_lineTo, .ref o_lineWidth, .int o_lines, .int o_at, .int o_end, .int o_good, .ref o_flag, .ref o_px, .ref o_py, .int o_touches, .ref o_first, .ref o_second, .int o_turns])), (o_first, .inl (cy 3, 6, .inr (.inl o_first_f))), (o_second, .inl (cy 3, 6, .inr (.inl o_second_f)))] sz) [(o, .inr (9, [.int o_width, .int o_height, .ref o_page, .ref o_tape, .int o_tapeLength, va_rf o_font, .ref o_spare, .int o_scale, .ref o_lineFrom, .ref o_lineTo, .ref o_lineWidth, .int o_lines, .int o_at, .int o_end, .int o_good, .ref o_flag, .ref o_px, .ref o_py, .int o_touches, .ref o_first, .ref o_second, .int o_turns])), (o_first, .inl (cy 3, 6, .inr (.inl uu.2.1))), (o_second, .inl (cy 3, 6, .inr (.inl uu.2.2)))]) (va_A [(o, .inr (9, [.int o_width, .int o_height, .ref o_page, .ref o_tape, .int o_tapeLength, va_rf o_font, .ref o_spare, .int o_scale, .ref o_lineFrom, .ref o_lineTo, .ref o_lineWidth, .int o_lines, .int o_at, .int o_end, .int o_good, .ref o_flag, .ref o_px, .ref o_py, .int o_touches, .ref o_first, .ref o_second, .int o_turns])), (o_first, .inl (cy 3, 6, .inr (.inl o_first_f))), (o_second, .inl (cy 3, 6, .inr (.inl o_second_f)))] sz)) 0 0 (va_A [(o, .inr (9, [.int o_width, .int o_height, .ref o_page, .ref o_tape, .int o_tapeLength, va_rf o_font, .ref o_spare, .int o_scale, .ref o_lineFrom, .ref o_lineTo, .ref o_lineWidth, .int o_lines, .int o_at, .int o_end, .int o_good, .ref o_flag, .ref o_px, .ref o_py, .int o_touches, .ref o_first, .ref o_second, .int o_turns])), (o_first, .inl (cy 3, 6, .inr (.inl o_first_f))), (o_second, .inl (cy 3, 6, .inr (.inl o_second_f)))] sz) := by
  refine Met.ofW (cc := b_Mo_through) (maxL := 8) (ret := (some .boolean)) (by decide) rfl ?_
  intro p e s m args below meth c s₁ B hml hv
  obtain ⟨rfl, hsz, hP, hK, hD0⟩ := hv
  have hx := B.exec
  have hb := B.bytes
  have hr := B.returns
  have hts := atoms_spec (ws := Cond.code y_Mo_through b_Mo_through 8 (some .boolean) :: G) B.pre
  have htsG : ∀ w ∈ G, w.before _ s = true := fun w hw => hts w (List.mem_cons_of_mem _ hw)
  have hown : s.vm.findClass "GlyphPageModel" = some m.cls := findClass_of_methodNamed B.named
  have hlocks := B.notSynchronized
  subst hsz
  have hD := hD0.self (sz := s.heap.size)
  generalize hAe : va_A [(o, .inr (9, [.int o_width, .int o_height, .ref o_page, .ref o_tape, .int o_tapeLength, va_rf o_font, .ref o_spare, .int o_scale, .ref o_lineFrom, .ref o_lineTo, .ref o_lineWidth, .int o_lines, .int o_at, .int o_end, .int o_good, .ref o_flag, .ref o_px, .ref o_py, .int o_touches, .ref o_first, .ref o_second, .int o_turns])), (o_first, .inl (cy 3, 6, .inr (.inl o_first_f))), (o_second, .inl (cy 3, 6, .inr (.inl o_second_f)))] s.heap.size = A at hD ⊢
  have hA : ∀ q : Nat, s.heap.size ≤ q → A q := fun q h => by rw [← hAe]; exact Or.inr h
  have hS : va_S A s.heap s.heap [] := va_S.rf
  have hl := lv_entry ([.ref o, .long a1, .long a2, .long a3]) (n := 8) (Nat.le_of_ble_eq_true rfl)
  rw [lg_entry_eq]
  generalize (lg_sl ([.ref o, .long a1, .long a2, .long a3]) ++ List.replicate (8 - (lg_sl ([.ref o, .long a1, .long a2, .long a3])).length) Slot.unset).toArray = ls at hl ⊢
  have hl : lv_has ls 8 [(0, .ref o), (1, .long a1), (3, .long a2), (5, .long a3)] := hl
  have C0 : Cx p s m _ meth c A dC dI cy b_Mo_through 8 (some .boolean) "GlyphPageModel" := ⟨hx, hb, hr, hlocks, hml, hown, htsG, hA, hK⟩
  unfold P_Mo_through at h
  refine lv_aload_n hx hb d_Mo_through_0 rfl (lv_at hl 0 rfl) ?_
  refine va_get (D := (dC, dI)) (ci := 9) (v := .ref o_first) (C := "GlyphPageModel") (T := F_Mo) (N := 22) hx hb htsG iG_Mo hown hK hP 0 rfl rfl 19 (by decide) (htsG _ mW875) (fun _ h9 => h9) rfl d_Mo_through_1 ?_
  refine lv_lload_n hx hb d_Mo_through_4 rfl (lv_at hl 2 rfl) ?_
  refine lv_lload_n hx hb d_Mo_through_5 rfl (lv_at hl 2 rfl) ?_
  refine lv_lconst (v := (1 : Int64)) hx hb d_Mo_through_6 (by decide) ?_
  obtain ⟨n_1, hq, h⟩ := Option.bind_eq_some_iff.mp h
  try dsimp only at h
  have hPc := hP.sub (ws' := [(o_first, .inl (cy 3, 6, .inr (.inl o_first_f)))]) [1] rfl
  have hDc := hD.sub (ws' := [(o_first, .inl (cy 3, 6, .inr (.inl o_first_f)))]) [1] (by decide) rfl
  have hFc := va_free (wc := [(o_first, .inl (cy 3, 6, .inr (.inl o_first_f)))]) hD hS hA [1] rfl
  refine va_callv (va_runS (As := [.ref o_first, .long a2, .long a2, .long (1 : Int64)]) (rest := []) ⟨hx, hb, hml, hown, htsG⟩ (c_Mo_product l dC dI cy s.heap.size o_first o_first_f a2 a2 (1 : Int64) n_1 hq) (va_cwS 4 htsG (gS mW1124 mW1125 mW9 mW1126) rfl rfl rfl (by decide +kernel) ⟨Nat.le_of_ble_eq_true rfl, Nat.le_of_ble_eq_true rfl⟩) ⟨fun a U g mk q => by obtain ⟨q0, q1, qP, qK, qD⟩ := q; exact ⟨q0, q1, qP, va_K.moved (u := U) (U := U.calling g mk a) (Vm.Alike.refl U.vm) qK, qD⟩, fun U hU hW => ⟨rfl, by rw [hU], by rw [hU]; exact hPc, va_K.moved hW.alike hK, hDc.weaken (fun _ _ _ _ => trivial)⟩⟩ rfl rfl hl.1 rfl (lv_room (Nat.le_of_ble_eq_true rfl)) d_Mo_through_7 ⟨Nat.le_of_ble_eq_true rfl, Nat.le_of_ble_eq_true rfl⟩) hS (fun q _ h => hFc q h) hFc (fun u t H1 locs ht hvm hw hB hz1 hk1 hS => ?_)
  obtain ⟨hP1, hK1, hD1⟩ := hB
  rw [ht] at hP1
  obtain ⟨hP, hD⟩ := va_join (wr := [(o, .inr (9, [.int o_width, .int o_height, .ref o_page, .ref o_tape, .int o_tapeLength, va_rf o_font, .ref o_spare, .int o_scale, .ref o_lineFrom, .ref o_lineTo, .ref o_lineWidth, .int o_lines, .int o_at, .int o_end, .int o_good, .ref o_flag, .ref o_px, .ref o_py, .int o_touches, .ref o_first, .ref o_second, .int o_turns])), (o_second, .inl (cy 3, 6, .inr (.inl o_second_f)))]) (w1 := [(o_first, .inl (cy 3, 6, .inr (.inl n_1)))]) hP hD [1] [0, 2] rfl rfl (by decide) (by decide) hk1 hFc hP1 hD1
  generalize H1 = H at hP hS ⊢
  have hP := hP.sub (ws' := [(o, .inr (9, [.int o_width, .int o_height, .ref o_page, .ref o_tape, .int o_tapeLength, va_rf o_font, .ref o_spare, .int o_scale, .ref o_lineFrom, .ref o_lineTo, .ref o_lineWidth, .int o_lines, .int o_at, .int o_end, .int o_good, .ref o_flag, .ref o_px, .ref o_py, .int o_touches, .ref o_first, .ref o_second, .int o_turns])), (o_first, .inl (cy 3, 6, .inr (.inl n_1))), (o_second, .inl (cy 3, 6, .inr (.inl o_second_f)))]) [0, 2, 1] rfl
  have hD := hD.sub (ws' := [(o, .inr (9, [.int o_width, .int o_height, .ref o_page, .ref o_tape, .int o_tapeLength, va_rf o_font, .ref o_spare, .int o_scale, .ref o_lineFrom, .ref o_lineTo, .ref o_lineWidth, .int o_lines, .int o_at, .int o_end, .int o_good, .ref o_flag, .ref o_px, .ref o_py, .int o_touches, .ref o_first, .ref o_second, .int o_turns])), (o_first, .inl (cy 3, 6, .inr (.inl n_1))), (o_second, .inl (cy 3, 6, .inr (.inl o_second_f)))]) [0, 2, 1] (by decide) rfl
  refine W.widen (k := 0) (n := 0) (by decide) (by decide) ?_
  refine lv_aload_n hx hb d_Mo_through_10 rfl (lv_at hl 0 rfl) ?_
  refine va_get (D := (dC, dI)) (ci := 9) (v := .ref o_second) (C := "GlyphPageModel") (T := F_Mo) (N := 22) hx hb htsG iG_Mo hown hK hP 0 rfl rfl 20 (by decide) (htsG _ mW876) (fun _ h9 => h9) rfl d_Mo_through_11 ?_
  refine lv_lload_n hx hb d_Mo_through_14 rfl (lv_at hl 1 rfl) ?_
  refine lv_lload hx hb d_Mo_through_15 (lv_at hl 3 rfl) ?_
  refine lv_ldc2 hx hb hown (htsG _ mW956) d_Mo_through_17 ?_
  obtain ⟨n_2, hq, h⟩ := Option.bind_eq_some_iff.mp h
  try dsimp only at h
  have hPc := hP.sub (ws' := [(o_second, .inl (cy 3, 6, .inr (.inl o_second_f)))]) [2] rfl
  have hDc := hD.sub (ws' := [(o_second, .inl (cy 3, 6, .inr (.inl o_second_f)))]) [2] (by decide) rfl
  have hFc := va_free (wc := [(o_second, .inl (cy 3, 6, .inr (.inl o_second_f)))]) hD hS hA [2] rfl
  refine va_callv (va_runS (As := [.ref o_second, .long a1, .long a3, .long (4 : Int64)]) (rest := []) ⟨hx, hb, hml, hown, htsG⟩ (c_Mo_product l dC dI cy H.size o_second o_second_f a1 a3 (4 : Int64) n_2 hq) (va_cwS 4 htsG (gS mW1124 mW1125 mW9 mW1126) rfl rfl rfl (by decide +kernel) ⟨Nat.le_of_ble_eq_true rfl, Nat.le_of_ble_eq_true rfl⟩) ⟨fun a U g mk q => by obtain ⟨q0, q1, qP, qK, qD⟩ := q; exact ⟨q0, q1, qP, va_K.moved (u := U) (U := U.calling g mk a) (Vm.Alike.refl U.vm) qK, qD⟩, fun U hU hW => ⟨rfl, by rw [hU], by rw [hU]; exact hPc, va_K.moved hW.alike hK, hDc.weaken (fun _ _ _ _ => trivial)⟩⟩ rfl rfl hl.1 rfl (lv_room (Nat.le_of_ble_eq_true rfl)) d_Mo_through_20 ⟨Nat.le_of_ble_eq_true rfl, Nat.le_of_ble_eq_true rfl⟩) hS (fun q _ h => hFc q h) hFc (fun u t H1 locs ht hvm hw hB hz1 hk1 hS => ?_)
  obtain ⟨hP1, hK1, hD1⟩ := hB
  rw [ht] at hP1
  obtain ⟨hP, hD⟩ := va_join (wr := [(o, .inr (9, [.int o_width, .int o_height, .ref o_page, .ref o_tape, .int o_tapeLength, va_rf o_font, .ref o_spare, .int o_scale, .ref o_lineFrom, .ref o_lineTo, .ref o_lineWidth, .int o_lines, .int o_at, .int o_end, .int o_good, .ref o_flag, .ref o_px, .ref o_py, .int o_touches, .ref o_first, .ref o_second, .int o_turns])), (o_first, .inl (cy 3, 6, .inr (.inl n_1)))]) (w1 := [(o_second, .inl (cy 3, 6, .inr (.inl n_2)))]) hP hD [2] [0, 1] rfl rfl (by decide) (by decide) hk1 hFc hP1 hD1
  generalize H1 = H at hP hS ⊢
  have hP := hP.sub (ws' := [(o, .inr (9, [.int o_width, .int o_height, .ref o_page, .ref o_tape, .int o_tapeLength, va_rf o_font, .ref o_spare, .int o_scale, .ref o_lineFrom, .ref o_lineTo, .ref o_lineWidth, .int o_lines, .int o_at, .int o_end, .int o_good, .ref o_flag, .ref o_px, .ref o_py, .int o_touches, .ref o_first, .ref o_second, .int o_turns])), (o_first, .inl (cy 3, 6, .inr (.inl n_1))), (o_second, .inl (cy 3, 6, .inr (.inl n_2)))]) [0, 1, 2] rfl
  have hD := hD.sub (ws' := [(o, .inr (9, [.int o_width, .int o_height, .ref o_page, .ref o_tape, .int o_tapeLength, va_rf o_font, .ref o_spare, .int o_scale, .ref o_lineFrom, .ref o_lineTo, .ref o_lineWidth, .int o_lines, .int o_at, .int o_end, .int o_good, .ref o_flag, .ref o_px, .ref o_py, .int o_touches, .ref o_first, .ref o_second, .int o_turns])), (o_first, .inl (cy 3, 6, .inr (.inl n_1))), (o_second, .inl (cy 3, 6, .inr (.inl n_2)))]) [0, 1, 2] (by decide) rfl
  refine W.widen (k := 0) (n := 0) (by decide) (by decide) ?_
  refine lv_iconst (v := (0 : Int32)) hx hb d_Mo_through_23 (by decide) ?_
  refine lv_istore (lv' := [(7, .int (0 : Int32)), (0, .ref o), (1, .long a1), (3, .long a2), (5, .long a3)]) hx hb d_Mo_through_24 hl (by decide) rfl (fun ls hl => ?_)
  exact w_Mo_through_26 C0 o o_page o_tape o_spare o_lineFrom o_lineTo o_lineWidth o_flag o_px o_py o_first o_second o_width o_height o_tapeLength o_font o_scale o_lines o_at o_end o_good o_touches o_turns a1 a2 a3 uu  (0 : Int32) n_1 n_2 h hP hD hS (lv_sub hl [1, 0] rfl)
def P_Mo_side_92   (x1 : Int64) (x3 : Int64) (x13 : Int32) (x14 : Int64) (x18 : Int64) (x20 : Int64) (x22 : Int64) (o_first_f : Nat → Int64) (o_second_f : Nat → Int64) : Option (Int32 × (Nat → Int64) × (Nat → Int64)) :=
  (P_Mo_signOf o_first_f o_second_f ((((2 : Int64) * x18) * ((x18 * x1) - (x14 * x3))) - (x22 * x20)) ((x13.toInt64) * x22) ((x20 * x20) - (((4 : Int64) * x18) * x3))).bind <| unp fun r_1 => unp fun n_2 n_3 => some (r_1, n_2, n_3)
set_option maxHeartbeats 4000000 in
set_option maxRecDepth 100000 in
theorem w_Mo_side_92 (C0 : Cx p s m args meth c A dC dI cy b_Mo_side 26 (some .int) "GlyphPageModel") (o : Nat) (o_page : Nat) (o_tape : Nat) (o_spare : Nat) (o_lineFrom : Nat) (o_lineTo : Nat) (o_lineWidth : Nat) (o_flag : Nat) (o_px : Nat) (o_py : Nat) (o_first : Nat) (o_second : Nat) (o_width : Int32) (o_height : Int32) (o_tapeLength : Int32) (o_font : Option Nat) (o_scale : Int32) (o_lines : Int32) (o_at : Int32) (o_end : Int32) (o_good : Int32) (o_touches : Int32) (o_turns : Int32) (a1 : Int64) (a2 : Int64) (a3 : Int64) (a4 : Int64) (a5 : Int64) (a6 : Int64) (a7 : Int32) (uu : Int32 × (Nat → Int64) × (Nat → Int64))  (x1 : Int64) (x3 : Int64) (x13 : Int32) (x14 : Int64) (x18 : Int64) (x20 : Int64) (x22 : Int64) (o_first_f : Nat → Int64) (o_second_f : Nat → Int64) {H : Heap} {locs : List Loc} {ls : Array Slot} (h : P_Mo_side_92 x1 x3 x13 x14 x18 x20 x22 o_first_f o_second_f = some uu) : va_P (dC, dI) classes [(o, .inr (9, [.int o_width, .int o_height, .ref o_page, .ref o_tape, .int o_tapeLength, va_rf o_font, .ref o_spare, .int o_scale, .ref o_lineFrom, .ref o_lineTo, .ref o_lineWidth, .int o_lines, .int o_at, .int o_end, .int o_good, .ref o_flag, .ref o_px, .ref o_py, .int o_touches, .ref o_first, .ref o_second, .int o_turns])), (o_first, .inl (cy 3, 6, .inr (.inl o_first_f))), (o_second, .inl (cy 3, 6, .inr (.inl o_second_f)))] H → va_D A [(o, .inr (9, [.int o_width, .int o_height, .ref o_page, .ref o_tape, .int o_tapeLength, va_rf o_font, .ref o_spare, .int o_scale, .ref o_lineFrom, .ref o_lineTo, .ref o_lineWidth, .int o_lines, .int o_at, .int o_end, .int o_good, .ref o_flag, .ref o_px, .ref o_py, .int o_touches, .ref o_first, .ref o_second, .int o_turns])), (o_first, .inl (cy 3, 6, .inr (.inl o_first_f))), (o_second, .inl (cy 3, 6, .inr (.inl o_second_f)))] → va_S A s.heap H locs → lv_has ls 26 [(0, .ref o), (1, .long x1), (3, .long x3), (13, .int x13), (14, .long x14), (18, .long x18), (20, .long x20), (22, .long x22)] → W p l e ({ frames := 4, cells := 0, slots := 0, locals := 122 } : Room) s m args below meth c H locs 0 0 (MQ below (va_Qi (fun r (_ : Unit) => r = uu.1) (fun _ t => va_P (dC, dI) classes [(o, .inr (9, [.int o_width, .int o_height, .ref o_page, .ref o_tape, .int o_tapeLength, va_rf o_font, .ref o_spare, .int o_scale, .ref o_lineFrom, .ref o_lineTo, .ref o_lineWidth, .int o_lines, .int o_at, .int o_end, .int o_good, .ref o_flag, .ref o_px, .ref o_py, .int o_touches, .ref o_first, .ref o_second, .int o_turns])), (o_first, .inl (cy 3, 6, .inr (.inl uu.2.1))), (o_second, .inl (cy 3, 6, .inr (.inl uu.2.2)))] t.heap ∧ va_K (dC, dI) classes (TY cy) t ∧ va_D A [(o, .inr (9, [.int o_width, .int o_height, .ref o_page, .ref o_tape, .int o_tapeLength, va_rf o_font, .ref o_spare, .int o_scale, .ref o_lineFrom, .ref o_lineTo, .ref o_lineWidth, .int o_lines, .int o_at, .int o_end, .int o_good, .ref o_flag, .ref o_px, .ref o_py, .int o_touches, .ref o_first, .ref o_second, .int o_turns])), (o_first, .inl (cy 3, 6, .inr (.inl uu.2.1))), (o_second, .inl (cy 3, 6, .inr (.inl uu.2.2)))]) A) args s 0 0 A) (F0 m 92 ls []) := by
  intro hP hD hS hl
  obtain ⟨hx, hb, hr, hlocks, hml, hown, htsG, hA, hK⟩ := id C0
  unfold P_Mo_side_92 at h
  refine lv_lload hx hb d_Mo_side_92 (lv_at hl 5 rfl) ?_
  refine lv_lload_n hx hb d_Mo_side_94 rfl (lv_at hl 1 rfl) ?_
  refine lv_lmul hx hb d_Mo_side_95 ?_
  refine lv_lload hx hb d_Mo_side_96 (lv_at hl 4 rfl) ?_
  refine lv_lload_n hx hb d_Mo_side_98 rfl (lv_at hl 2 rfl) ?_
  refine lv_lmul hx hb d_Mo_side_99 ?_
  refine lv_lsub hx hb d_Mo_side_100 ?_
  refine lv_lstore (lv' := [(24, .long ((x18 * x1) - (x14 * x3))), (0, .ref o), (1, .long x1), (3, .long x3), (13, .int x13), (14, .long x14), (18, .long x18), (20, .long x20), (22, .long x22)]) hx hb d_Mo_side_101 hl (by decide) rfl (fun ls hl => ?_)
  refine lv_aload_n hx hb d_Mo_side_103 rfl (lv_at hl 1 rfl) ?_
  refine lv_ldc2 hx hb hown (htsG _ mW992) d_Mo_side_104 ?_
  refine lv_lload hx hb d_Mo_side_107 (lv_at hl 6 rfl) ?_
  refine lv_lmul hx hb d_Mo_side_109 ?_
  refine lv_lload hx hb d_Mo_side_110 (lv_at hl 0 rfl) ?_
  refine lv_lmul hx hb d_Mo_side_112 ?_
  refine lv_lload hx hb d_Mo_side_113 (lv_at hl 8 rfl) ?_
  refine lv_lload hx hb d_Mo_side_115 (lv_at hl 7 rfl) ?_
  refine lv_lmul hx hb d_Mo_side_117 ?_
  refine lv_lsub hx hb d_Mo_side_118 ?_
  refine lv_iload hx hb d_Mo_side_119 (lv_at hl 4 rfl) ?_
  refine lv_i2l hx hb d_Mo_side_121 rfl ?_
  refine lv_lload hx hb d_Mo_side_122 (lv_at hl 8 rfl) ?_
  refine lv_lmul hx hb d_Mo_side_124 ?_
  refine lv_lload hx hb d_Mo_side_125 (lv_at hl 7 rfl) ?_
  refine lv_lload hx hb d_Mo_side_127 (lv_at hl 7 rfl) ?_
  refine lv_lmul hx hb d_Mo_side_129 ?_
  refine lv_ldc2 hx hb hown (htsG _ mW956) d_Mo_side_130 ?_
  refine lv_lload hx hb d_Mo_side_133 (lv_at hl 6 rfl) ?_
  refine lv_lmul hx hb d_Mo_side_135 ?_
  refine lv_lload_n hx hb d_Mo_side_136 rfl (lv_at hl 3 rfl) ?_
  refine lv_lmul hx hb d_Mo_side_137 ?_
  refine lv_lsub hx hb d_Mo_side_138 ?_
  obtain ⟨⟨r_1, n_2, n_3⟩, hq, h⟩ := Option.bind_eq_some_iff.mp h
  dsimp only [unp] at h
  have hPc := hP.sub (ws' := [(o, .inr (9, [.int o_width, .int o_height, .ref o_page, .ref o_tape, .int o_tapeLength, va_rf o_font, .ref o_spare, .int o_scale, .ref o_lineFrom, .ref o_lineTo, .ref o_lineWidth, .int o_lines, .int o_at, .int o_end, .int o_good, .ref o_flag, .ref o_px, .ref o_py, .int o_touches, .ref o_first, .ref o_second, .int o_turns])), (o_first, .inl (cy 3, 6, .inr (.inl o_first_f))), (o_second, .inl (cy 3, 6, .inr (.inl o_second_f)))]) [0, 1, 2] rfl
  have hDc := hD.sub (ws' := [(o, .inr (9, [.int o_width, .int o_height, .ref o_page, .ref o_tape, .int o_tapeLength, va_rf o_font, .ref o_spare, .int o_scale, .ref o_lineFrom, .ref o_lineTo, .ref o_lineWidth, .int o_lines, .int o_at, .int o_end, .int o_good, .ref o_flag, .ref o_px, .ref o_py, .int o_touches, .ref o_first, .ref o_second, .int o_turns])), (o_first, .inl (cy 3, 6, .inr (.inl o_first_f))), (o_second, .inl (cy 3, 6, .inr (.inl o_second_f)))]) [0, 1, 2] (by decide) rfl
  have hFc := va_free (wc := [(o, .inr (9, [.int o_width, .int o_height, .ref o_page, .ref o_tape, .int o_tapeLength, va_rf o_font, .ref o_spare, .int o_scale, .ref o_lineFrom, .ref o_lineTo, .ref o_lineWidth, .int o_lines, .int o_at, .int o_end, .int o_good, .ref o_flag, .ref o_px, .ref o_py, .int o_touches, .ref o_first, .ref o_second, .int o_turns])), (o_first, .inl (cy 3, 6, .inr (.inl o_first_f))), (o_second, .inl (cy 3, 6, .inr (.inl o_second_f)))]) hD hS hA [0, 1, 2] rfl
  refine va_calli (va_runV (As := [.long ((((2 : Int64) * x18) * ((x18 * x1) - (x14 * x3))) - (x22 * x20)), .long ((x13.toInt64) * x22), .long ((x20 * x20) - (((4 : Int64) * x18) * x3))]) (rest := []) ⟨hx, hb, hml, hown, htsG⟩ (c_Mo_signOf l dC dI cy H.size o o_page o_tape o_spare o_lineFrom o_lineTo o_lineWidth o_flag o_px o_py o_first o_second o_width o_height o_tapeLength o_font o_scale o_lines o_at o_end o_good o_touches o_turns o_first_f o_second_f ((((2 : Int64) * x18) * ((x18 * x1) - (x14 * x3))) - (x22 * x20)) ((x13.toInt64) * x22) ((x20 * x20) - (((4 : Int64) * x18) * x3)) (r_1, n_2, n_3) hq) (cwV 3 htsG (gV mW1135 mW1137 mS_Mo_signOf mW9 mW1138) rfl rfl rfl (by decide +kernel) ⟨Nat.le_of_ble_eq_true rfl, Nat.le_of_ble_eq_true rfl⟩) ⟨fun a U g mk q => by obtain ⟨q0, q1, qP, qK, qD⟩ := q; exact ⟨q0, q1, qP, va_K.moved (u := U) (U := U.calling g mk a) (Vm.Alike.refl U.vm) qK, qD⟩, va_recv hK hPc (ci := 9) (q0 := 0) rfl rfl, fun U hU hW => ⟨rfl, by rw [hU], by rw [hU]; exact hPc, va_K.moved hW.alike hK, hDc.weaken (fun _ _ _ _ => trivial)⟩⟩ rfl rfl hl.1 rfl (lv_room (Nat.le_of_ble_eq_true rfl)) d_Mo_side_139 ⟨Nat.le_of_ble_eq_true rfl, Nat.le_of_ble_eq_true rfl⟩) hS (fun q _ h => hFc q h) hFc (fun rr u t H1 locs ht hvm hw hB hz1 hk1 hS => ?_)
  obtain ⟨hP1, hK1, hD1⟩ := hB
  rw [ht] at hP1
  replace hw : r_1 = rr := hw.symm
  subst hw
  obtain ⟨hP, hD⟩ := va_join (wr := []) (w1 := [(o, .inr (9, [.int o_width, .int o_height, .ref o_page, .ref o_tape, .int o_tapeLength, va_rf o_font, .ref o_spare, .int o_scale, .ref o_lineFrom, .ref o_lineTo, .ref o_lineWidth, .int o_lines, .int o_at, .int o_end, .int o_good, .ref o_flag, .ref o_px, .ref o_py, .int o_touches, .ref o_first, .ref o_second, .int o_turns])), (o_first, .inl (cy 3, 6, .inr (.inl n_2))), (o_second, .inl (cy 3, 6, .inr (.inl n_3)))]) hP hD [0, 1, 2] [] rfl rfl (by decide) (by decide) hk1 hFc hP1 hD1
  generalize H1 = H at hP hS ⊢
  have hP := hP.sub (ws' := [(o, .inr (9, [.int o_width, .int o_height, .ref o_page, .ref o_tape, .int o_tapeLength, va_rf o_font, .ref o_spare, .int o_scale, .ref o_lineFrom, .ref o_lineTo, .ref o_lineWidth, .int o_lines, .int o_at, .int o_end, .int o_good, .ref o_flag, .ref o_px, .ref o_py, .int o_touches, .ref o_first, .ref o_second, .int o_turns])), (o_first, .inl (cy 3, 6, .inr (.inl n_2))), (o_second, .inl (cy 3, 6, .inr (.inl n_3)))]) [0, 1, 2] rfl
  have hD := hD.sub (ws' := [(o, .inr (9, [.int o_width, .int o_height, .ref o_page, .ref o_tape, .int o_tapeLength, va_rf o_font, .ref o_spare, .int o_scale, .ref o_lineFrom, .ref o_lineTo, .ref o_lineWidth, .int o_lines, .int o_at, .int o_end, .int o_good, .ref o_flag, .ref o_px, .ref o_py, .int o_touches, .ref o_first, .ref o_second, .int o_turns])), (o_first, .inl (cy 3, 6, .inr (.inl n_2))), (o_second, .inl (cy 3, 6, .inr (.inl n_3)))]) [0, 1, 2] (by decide) rfl
  refine W.widen (k := 0) (n := 0) (by decide) (by decide) ?_
  cases h
  exact W.iret hx hb hr (fun t ht hW => ⟨⟨_, (), rfl, rfl, by rw [ht]; exact hP, va_K.moved hW.alike hK, hD⟩, hS.F ht⟩) hS.2.2 d_Mo_side_142 hlocks
def P_Mo_side (o_first_f : Nat → Int64) (o_second_f : Nat → Int64) (a1 : Int64) (a2 : Int64) (a3 : Int64) (a4 : Int64) (a5 : Int64) (a6 : Int64) (a7 : Int32) : Option (Int32 × (Nat → Int64) × (Nat → Int64)) :=
  if (lg_cmp ((a2 - ((2 : Int64) * a4)) + a6) (0 : Int64)) = 0 then ((P_Mo_sign ((((((a1 - ((2 : Int64) * a3)) + a5) * a2) * a2) - ((((2 : Int64) * (a3 - a1)) * ((2 : Int64) * (a4 - a2))) * a2)) + ((a1 * ((2 : Int64) * (a4 - a2))) * ((2 : Int64) * (a4 - a2))))).bind fun r_2 => some (r_2, o_first_f, o_second_f)) else (P_Mo_side_92 a1 a2 a7 ((a1 - ((2 : Int64) * a3)) + a5) ((a2 - ((2 : Int64) * a4)) + a6) ((2 : Int64) * (a4 - a2)) ((((a2 - ((2 : Int64) * a4)) + a6) * ((2 : Int64) * (a3 - a1))) - (((a1 - ((2 : Int64) * a3)) + a5) * ((2 : Int64) * (a4 - a2)))) o_first_f o_second_f)
set_option maxHeartbeats 4000000 in
set_option maxRecDepth 100000 in
theorem c_Mo_side (l : Launch) (dC : Nat → ClassId) (dI : Nat → Nat → Nat) (cy : Nat → ClassId) (sz : Nat) (o : Nat) (o_page : Nat) (o_tape : Nat) (o_spare : Nat) (o_lineFrom : Nat) (o_lineTo : Nat) (o_lineWidth : Nat) (o_flag : Nat) (o_px : Nat) (o_py : Nat) (o_first : Nat) (o_second : Nat) (o_width : Int32) (o_height : Int32) (o_tapeLength : Int32) (o_font : Option Nat) (o_scale : Int32) (o_lines : Int32) (o_at : Int32) (o_end : Int32) (o_good : Int32) (o_touches : Int32) (o_turns : Int32) (o_first_f : Nat → Int64) (o_second_f : Nat → Int64) (a1 : Int64) (a2 : Int64) (a3 : Int64) (a4 : Int64) (a5 : Int64) (a6 : Int64) (a7 : Int32) (uu : Int32 × (Nat → Int64) × (Nat → Int64)) (h : P_Mo_side o_first_f o_second_f a1 a2 a3 a4 a5 a6 a7 = some uu) : Met l y_Mo_side (Cond.code y_Mo_side b_Mo_side 26 (some .int) :: G) ({ frames := 4, cells := 0, slots := 0, locals := 122 } : Room) (va_Pc [.ref o, .long a1, .long a2, .long a3, .long a4, .long a5, .long a6, .int a7] (fun U => U.heap.size = sz ∧ va_P (dC, dI) classes [(o, .inr (9, [.int o_width, .int o_height, .ref o_page, .ref o_tape, .int o_tapeLength, va_rf o_font, .ref o_spare, .int o_scale, .ref o_lineFrom, .ref o_lineTo, .ref o_lineWidth, .int o_lines, .int o_at, .int o_end, .int o_good, .ref o_flag, .ref o_px, .ref o_py, .int o_touches, .ref o_first, .ref o_second, .int o_turns])), (o_first, .inl (cy 3, 6, .inr (.inl o_first_f))), (o_second, .inl (cy 3, 6, .inr (.inl o_second_f)))] U.heap ∧ va_K (dC, dI) classes (TY cy) U ∧ va_D (fun _ => True) [(o, .inr (9, [.int o_width, .int o_height, .ref o_page, .ref o_tape, .int o_tapeLength, va_rf o_font, .ref o_spare, .int o_scale, .ref o_lineFrom, .ref o_lineTo, .ref o_lineWidth, .int o_lines, .int o_at, .int o_end, .int o_good, .ref o_flag, .ref o_px, .ref o_py, .int o_touches, .ref o_first, .ref o_second, .int o_turns])), (o_first, .inl (cy 3, 6, .inr (.inl o_first_f))), (o_second, .inl (cy 3, 6, .inr (.inl o_second_f)))])) (va_Qi (fun r (_ : Unit) => r = uu.1) (fun _ t => va_P (dC, dI) classes [(o, .inr (9, [.int o_width, .int o_height, .ref o_page, .ref o_tape, .int o_tapeLength, va_rf o_font, .ref o_spare, .int o_scale, .ref o_lineFrom, .ref o_lineTo, .ref o_lineWidth, .int o_lines, .int o_at, .int o_end, .int o_good, .ref o_flag, .ref o_px, .ref o_py, .int o_touches, .ref o_first, .ref o_second, .int o_turns])), (o_first, .inl (cy 3, 6, .inr (.inl uu.2.1))), (o_second, .inl (cy 3, 6, .inr (.inl uu.2.2)))] t.heap ∧ va_K (dC, dI) classes (TY cy) t ∧ va_D (va_A [(o, .inr (9, [.int o_width, .int o_height, .ref o_page, .ref o_tape, .int o_tapeLength, va_rf o_font, .ref o_spare, .int o_scale, .ref o_lineFrom, .ref o_lineTo, .ref o_lineWidth, .int o_lines, .int o_at, .int o_end, .int o_good, .ref o_flag, .ref o_px, .ref o_py, .int o_touches, .ref o_first, .ref o_second, .int o_turns])), (o_first, .inl (cy 3, 6, .inr (.inl o_first_f))), (o_second, .inl (cy 3, 6, .inr (.inl o_second_f)))] sz) [(o, .inr (9, [.int o_width, .int o_height, .ref o_page, .ref o_tape, .int o_tapeLength, va_rf o_font, .ref o_spare, .int o_scale, .ref o_lineFrom, .ref o_lineTo, .ref o_lineWidth, .int o_lines, .int o_at, .int o_end, .int o_good, .ref o_flag, .ref o_px, .ref o_py, .int o_touches, .ref o_first, .ref o_second, .int o_turns])), (o_first, .inl (cy 3, 6, .inr (.inl uu.2.1))), (o_second, .inl (cy 3, 6, .inr (.inl uu.2.2)))]) (va_A [(o, .inr (9, [.int o_width, .int o_height, .ref o_page, .ref o_tape, .int o_tapeLength, va_rf o_font, .ref o_spare, .int o_scale, .ref o_lineFrom, .ref o_lineTo, .ref o_lineWidth, .int o_lines, .int o_at, .int o_end, .int o_good, .ref o_flag, .ref o_px, .ref o_py, .int o_touches, .ref o_first, .ref o_second, .int o_turns])), (o_first, .inl (cy 3, 6, .inr (.inl o_first_f))), (o_second, .inl (cy 3, 6, .inr (.inl o_second_f)))] sz)) 0 0 (va_A [(o, .inr (9, [.int o_width, .int o_height, .ref o_page, .ref o_tape, .int o_tapeLength, va_rf o_font, .ref o_spare, .int o_scale, .ref o_lineFrom, .ref o_lineTo, .ref o_lineWidth, .int o_lines, .int o_at, .int o_end, .int o_good, .ref o_flag, .ref o_px, .ref o_py, .int o_touches, .ref o_first, .ref o_second, .int o_turns])), (o_first, .inl (cy 3, 6, .inr (.inl o_first_f))), (o_second, .inl (cy 3, 6, .inr (.inl o_second_f)))] sz) := by
  refine Met.ofW (cc := b_Mo_side) (maxL := 26) (ret := (some .int)) (by decide) rfl ?_
  intro p e s m args below meth c s₁ B hml hv
  obtain ⟨rfl, hsz, hP, hK, hD0⟩ := hv
  have hx := B.exec
  have hb := B.bytes
  have hr := B.returns
  have hts := atoms_spec (ws := Cond.code y_Mo_side b_Mo_side 26 (some .int) :: G) B.pre
  have htsG : ∀ w ∈ G, w.before _ s = true := fun w hw => hts w (List.mem_cons_of_mem _ hw)
  have hown : s.vm.findClass "GlyphPageModel" = some m.cls := findClass_of_methodNamed B.named
  have hlocks := B.notSynchronized
  subst hsz
  have hD := hD0.self (sz := s.heap.size)
  generalize hAe : va_A [(o, .inr (9, [.int o_width, .int o_height, .ref o_page, .ref o_tape, .int o_tapeLength, va_rf o_font, .ref o_spare, .int o_scale, .ref o_lineFrom, .ref o_lineTo, .ref o_lineWidth, .int o_lines, .int o_at, .int o_end, .int o_good, .ref o_flag, .ref o_px, .ref o_py, .int o_touches, .ref o_first, .ref o_second, .int o_turns])), (o_first, .inl (cy 3, 6, .inr (.inl o_first_f))), (o_second, .inl (cy 3, 6, .inr (.inl o_second_f)))] s.heap.size = A at hD ⊢
  have hA : ∀ q : Nat, s.heap.size ≤ q → A q := fun q h => by rw [← hAe]; exact Or.inr h
  have hS : va_S A s.heap s.heap [] := va_S.rf
  have hl := lv_entry ([.ref o, .long a1, .long a2, .long a3, .long a4, .long a5, .long a6, .int a7]) (n := 26) (Nat.le_of_ble_eq_true rfl)
  rw [lg_entry_eq]
  generalize (lg_sl ([.ref o, .long a1, .long a2, .long a3, .long a4, .long a5, .long a6, .int a7]) ++ List.replicate (26 - (lg_sl ([.ref o, .long a1, .long a2, .long a3, .long a4, .long a5, .long a6, .int a7])).length) Slot.unset).toArray = ls at hl ⊢
  have hl : lv_has ls 26 [(0, .ref o), (1, .long a1), (3, .long a2), (5, .long a3), (7, .long a4), (9, .long a5), (11, .long a6), (13, .int a7)] := hl
  have C0 : Cx p s m _ meth c A dC dI cy b_Mo_side 26 (some .int) "GlyphPageModel" := ⟨hx, hb, hr, hlocks, hml, hown, htsG, hA, hK⟩
  unfold P_Mo_side at h
  refine lv_lload_n hx hb d_Mo_side_0 rfl (lv_at hl 1 rfl) ?_
  refine lv_ldc2 hx hb hown (htsG _ mW992) d_Mo_side_1 ?_
  refine lv_lload hx hb d_Mo_side_4 (lv_at hl 3 rfl) ?_
  refine lv_lmul hx hb d_Mo_side_6 ?_
  refine lv_lsub hx hb d_Mo_side_7 ?_
  refine lv_lload hx hb d_Mo_side_8 (lv_at hl 5 rfl) ?_
  refine lv_ladd hx hb d_Mo_side_10 ?_
  refine lv_lstore (lv' := [(14, .long ((a1 - ((2 : Int64) * a3)) + a5)), (0, .ref o), (1, .long a1), (3, .long a2), (5, .long a3), (7, .long a4), (9, .long a5), (11, .long a6), (13, .int a7)]) hx hb d_Mo_side_11 hl (by decide) rfl (fun ls hl => ?_)
  refine lv_ldc2 hx hb hown (htsG _ mW992) d_Mo_side_13 ?_
  refine lv_lload hx hb d_Mo_side_16 (lv_at hl 4 rfl) ?_
  refine lv_lload_n hx hb d_Mo_side_18 rfl (lv_at hl 2 rfl) ?_
  refine lv_lsub hx hb d_Mo_side_19 ?_
  refine lv_lmul hx hb d_Mo_side_20 ?_
  refine lv_lstore (lv' := [(16, .long ((2 : Int64) * (a3 - a1))), (14, .long ((a1 - ((2 : Int64) * a3)) + a5)), (0, .ref o), (1, .long a1), (3, .long a2), (5, .long a3), (7, .long a4), (9, .long a5), (11, .long a6), (13, .int a7)]) hx hb d_Mo_side_21 hl (by decide) rfl (fun ls hl => ?_)
  refine lv_lload_n hx hb d_Mo_side_23 rfl (lv_at hl 4 rfl) ?_
  refine lv_ldc2 hx hb hown (htsG _ mW992) d_Mo_side_24 ?_
  refine lv_lload hx hb d_Mo_side_27 (lv_at hl 6 rfl) ?_
  refine lv_lmul hx hb d_Mo_side_29 ?_
  refine lv_lsub hx hb d_Mo_side_30 ?_
  refine lv_lload hx hb d_Mo_side_31 (lv_at hl 8 rfl) ?_
  refine lv_ladd hx hb d_Mo_side_33 ?_
  refine lv_lstore (lv' := [(18, .long ((a2 - ((2 : Int64) * a4)) + a6)), (16, .long ((2 : Int64) * (a3 - a1))), (14, .long ((a1 - ((2 : Int64) * a3)) + a5)), (0, .ref o), (1, .long a1), (3, .long a2), (5, .long a3), (7, .long a4), (9, .long a5), (11, .long a6), (13, .int a7)]) hx hb d_Mo_side_34 hl (by decide) rfl (fun ls hl => ?_)
  refine lv_ldc2 hx hb hown (htsG _ mW992) d_Mo_side_36 ?_
  refine lv_lload hx hb d_Mo_side_39 (lv_at hl 7 rfl) ?_
  refine lv_lload_n hx hb d_Mo_side_41 rfl (lv_at hl 5 rfl) ?_
  refine lv_lsub hx hb d_Mo_side_42 ?_
  refine lv_lmul hx hb d_Mo_side_43 ?_
  refine lv_lstore (lv' := [(20, .long ((2 : Int64) * (a4 - a2))), (18, .long ((a2 - ((2 : Int64) * a4)) + a6)), (16, .long ((2 : Int64) * (a3 - a1))), (14, .long ((a1 - ((2 : Int64) * a3)) + a5)), (0, .ref o), (1, .long a1), (3, .long a2), (5, .long a3), (7, .long a4), (9, .long a5), (11, .long a6), (13, .int a7)]) hx hb d_Mo_side_44 hl (by decide) rfl (fun ls hl => ?_)
  refine lv_lload hx hb d_Mo_side_46 (lv_at hl 1 rfl) ?_
  refine lv_lconst (v := (0 : Int64)) hx hb d_Mo_side_48 (by decide) ?_
  refine W.lcmp hx hb d_Mo_side_49 ?_
  refine lv_if_ne (tgt := 79) hx hb d_Mo_side_50 (by decide) (fun c_1 => ?_) (fun c_1 => ?_)
  · replace h := (if_neg c_1).symm.trans h
    refine lv_lload hx hb d_Mo_side_79 (lv_at hl 1 rfl) ?_
    refine lv_lload hx hb d_Mo_side_81 (lv_at hl 2 rfl) ?_
    refine lv_lmul hx hb d_Mo_side_83 ?_
    refine lv_lload hx hb d_Mo_side_84 (lv_at hl 3 rfl) ?_
    refine lv_lload hx hb d_Mo_side_86 (lv_at hl 0 rfl) ?_
    refine lv_lmul hx hb d_Mo_side_88 ?_
    refine lv_lsub hx hb d_Mo_side_89 ?_
    refine lv_lstore (lv' := [(22, .long ((((a2 - ((2 : Int64) * a4)) + a6) * ((2 : Int64) * (a3 - a1))) - (((a1 - ((2 : Int64) * a3)) + a5) * ((2 : Int64) * (a4 - a2))))), (20, .long ((2 : Int64) * (a4 - a2))), (18, .long ((a2 - ((2 : Int64) * a4)) + a6)), (16, .long ((2 : Int64) * (a3 - a1))), (14, .long ((a1 - ((2 : Int64) * a3)) + a5)), (0, .ref o), (1, .long a1), (3, .long a2), (5, .long a3), (7, .long a4), (9, .long a5), (11, .long a6), (13, .int a7)]) hx hb d_Mo_side_90 hl (by decide) rfl (fun ls hl => ?_)
    exact w_Mo_side_92 C0 o o_page o_tape o_spare o_lineFrom o_lineTo o_lineWidth o_flag o_px o_py o_first o_second o_width o_height o_tapeLength o_font o_scale o_lines o_at o_end o_good o_touches o_turns a1 a2 a3 a4 a5 a6 a7 uu  a1 a2 a7 ((a1 - ((2 : Int64) * a3)) + a5) ((a2 - ((2 : Int64) * a4)) + a6) ((2 : Int64) * (a4 - a2)) ((((a2 - ((2 : Int64) * a4)) + a6) * ((2 : Int64) * (a3 - a1))) - (((a1 - ((2 : Int64) * a3)) + a5) * ((2 : Int64) * (a4 - a2)))) o_first_f o_second_f h hP hD hS (lv_sub hl [5, 6, 7, 12, 4, 2, 1, 0] rfl)
  · replace h := (if_pos c_1).symm.trans h
    refine lv_lload hx hb d_Mo_side_53 (lv_at hl 3 rfl) ?_
    refine lv_lload_n hx hb d_Mo_side_55 rfl (lv_at hl 6 rfl) ?_
    refine lv_lmul hx hb d_Mo_side_56 ?_
    refine lv_lload_n hx hb d_Mo_side_57 rfl (lv_at hl 6 rfl) ?_
    refine lv_lmul hx hb d_Mo_side_58 ?_
    refine lv_lload hx hb d_Mo_side_59 (lv_at hl 2 rfl) ?_
    refine lv_lload hx hb d_Mo_side_61 (lv_at hl 0 rfl) ?_
    refine lv_lmul hx hb d_Mo_side_63 ?_
    refine lv_lload_n hx hb d_Mo_side_64 rfl (lv_at hl 6 rfl) ?_
    refine lv_lmul hx hb d_Mo_side_65 ?_
    refine lv_lsub hx hb d_Mo_side_66 ?_
    refine lv_lload_n hx hb d_Mo_side_67 rfl (lv_at hl 5 rfl) ?_
    refine lv_lload hx hb d_Mo_side_68 (lv_at hl 0 rfl) ?_
    refine lv_lmul hx hb d_Mo_side_70 ?_
    refine lv_lload hx hb d_Mo_side_71 (lv_at hl 0 rfl) ?_
    refine lv_lmul hx hb d_Mo_side_73 ?_
    refine lv_ladd hx hb d_Mo_side_74 ?_
    obtain ⟨r_2, hq, h⟩ := Option.bind_eq_some_iff.mp h
    try dsimp only at h
    have hPc := hP.sub (ws' := []) [] rfl
    have hDc := hD.sub (ws' := []) [] (by decide) rfl
    have hFc := va_free (wc := []) hD hS hA [] rfl
    refine va_calli (va_runS (As := [.long ((((((a1 - ((2 : Int64) * a3)) + a5) * a2) * a2) - ((((2 : Int64) * (a3 - a1)) * ((2 : Int64) * (a4 - a2))) * a2)) + ((a1 * ((2 : Int64) * (a4 - a2))) * ((2 : Int64) * (a4 - a2))))]) (rest := []) ⟨hx, hb, hml, hown, htsG⟩ (c_Mo_sign l dC dI cy s.heap.size ((((((a1 - ((2 : Int64) * a3)) + a5) * a2) * a2) - ((((2 : Int64) * (a3 - a1)) * ((2 : Int64) * (a4 - a2))) * a2)) + ((a1 * ((2 : Int64) * (a4 - a2))) * ((2 : Int64) * (a4 - a2)))) r_2 hq) (va_cwS 1 htsG (gS mW1106 mW1107 mW9 mW1108) rfl rfl rfl (by decide +kernel) ⟨Nat.le_of_ble_eq_true rfl, Nat.le_of_ble_eq_true rfl⟩) ⟨fun a U g mk q => by obtain ⟨q0, q1, qP, qK, qD⟩ := q; exact ⟨q0, q1, qP, va_K.moved (u := U) (U := U.calling g mk a) (Vm.Alike.refl U.vm) qK, qD⟩, fun U hU hW => ⟨rfl, by rw [hU], by rw [hU]; exact hPc, va_K.moved hW.alike hK, hDc.weaken (fun _ _ _ _ => trivial)⟩⟩ rfl rfl hl.1 rfl (lv_room (Nat.le_of_ble_eq_true rfl)) d_Mo_side_75 ⟨Nat.le_of_ble_eq_true rfl, Nat.le_of_ble_eq_true rfl⟩) hS (fun q _ h => hFc q h) hFc (fun rr u t H1 locs ht hvm hw hB hz1 hk1 hS => ?_)
    obtain ⟨hP1, hK1, hD1⟩ := hB
    rw [ht] at hP1
    replace hw : r_2 = rr := hw.symm
    subst hw
    obtain ⟨hP, hD⟩ := va_join (wr := [(o, .inr (9, [.int o_width, .int o_height, .ref o_page, .ref o_tape, .int o_tapeLength, va_rf o_font, .ref o_spare, .int o_scale, .ref o_lineFrom, .ref o_lineTo, .ref o_lineWidth, .int o_lines, .int o_at, .int o_end, .int o_good, .ref o_flag, .ref o_px, .ref o_py, .int o_touches, .ref o_first, .ref o_second, .int o_turns])), (o_first, .inl (cy 3, 6, .inr (.inl o_first_f))), (o_second, .inl (cy 3, 6, .inr (.inl o_second_f)))]) (w1 := []) hP hD [] [0, 1, 2] rfl rfl (by decide) (by decide) hk1 hFc hP1 hD1
    generalize H1 = H at hP hS ⊢
    have hP := hP.sub (ws' := [(o, .inr (9, [.int o_width, .int o_height, .ref o_page, .ref o_tape, .int o_tapeLength, va_rf o_font, .ref o_spare, .int o_scale, .ref o_lineFrom, .ref o_lineTo, .ref o_lineWidth, .int o_lines, .int o_at, .int o_end, .int o_good, .ref o_flag, .ref o_px, .ref o_py, .int o_touches, .ref o_first, .ref o_second, .int o_turns])), (o_first, .inl (cy 3, 6, .inr (.inl o_first_f))), (o_second, .inl (cy 3, 6, .inr (.inl o_second_f)))]) [0, 1, 2] rfl
    have hD := hD.sub (ws' := [(o, .inr (9, [.int o_width, .int o_height, .ref o_page, .ref o_tape, .int o_tapeLength, va_rf o_font, .ref o_spare, .int o_scale, .ref o_lineFrom, .ref o_lineTo, .ref o_lineWidth, .int o_lines, .int o_at, .int o_end, .int o_good, .ref o_flag, .ref o_px, .ref o_py, .int o_touches, .ref o_first, .ref o_second, .int o_turns])), (o_first, .inl (cy 3, 6, .inr (.inl o_first_f))), (o_second, .inl (cy 3, 6, .inr (.inl o_second_f)))]) [0, 1, 2] (by decide) rfl
    refine W.widen (k := 0) (n := 0) (by decide) (by decide) ?_
    cases h
    exact W.iret hx hb hr (fun t ht hW => ⟨⟨_, (), rfl, rfl, by rw [ht]; exact hP, va_K.moved hW.alike hK, hD⟩, hS.F ht⟩) hS.2.2 d_Mo_side_78 hlocks
def P_Mo_curve_441   (k0 : Int32) (k1 : Int64) (k2 : Int64) (k3 : Int64) (k4 : Int64) (k5 : Int64) (k6 : Int64) (k8 : Int32) (k9 : Int32) (o_touches : Int32) (o_turns : Int32) (o_first_f : Nat → Int64) (o_second_f : Nat → Int64) : Option (Int32 × Int32 × (Nat → Int64) × (Nat → Int64)) :=
  (P_Mo_side o_first_f o_second_f k6 k5 k4 k3 k2 k1 k0).bind <| unp fun r_1 => unp fun n_2 n_3 => (P_Mo_cross o_touches o_turns k9 k8 r_1).bind <| unp fun n_4 n_5 => some (n_4, n_5, n_2, n_3)
set_option maxHeartbeats 4000000 in
set_option maxRecDepth 100000 in
theorem w_Mo_curve_441 (C0 : Cx p s m args meth c A dC dI cy b_Mo_curve 23 none "GlyphPageModel") (o : Nat) (o_page : Nat) (o_tape : Nat) (o_spare : Nat) (o_lineFrom : Nat) (o_lineTo : Nat) (o_lineWidth : Nat) (o_flag : Nat) (o_px : Nat) (o_py : Nat) (o_first : Nat) (o_second : Nat) (o_width : Int32) (o_height : Int32) (o_tapeLength : Int32) (o_font : Option Nat) (o_scale : Int32) (o_lines : Int32) (o_at : Int32) (o_end : Int32) (o_good : Int32) (a1 : Int64) (a2 : Int64) (a3 : Int64) (a4 : Int64) (a5 : Int64) (a6 : Int64) (uu : Int32 × Int32 × (Nat → Int64) × (Nat → Int64))  (k0 : Int32) (k1 : Int64) (k2 : Int64) (k3 : Int64) (k4 : Int64) (k5 : Int64) (k6 : Int64) (k8 : Int32) (k9 : Int32) (o_touches : Int32) (o_turns : Int32) (o_first_f : Nat → Int64) (o_second_f : Nat → Int64) {H : Heap} {locs : List Loc} {ls : Array Slot} (h : P_Mo_curve_441 k0 k1 k2 k3 k4 k5 k6 k8 k9 o_touches o_turns o_first_f o_second_f = some uu) : va_P (dC, dI) classes [(o, .inr (9, [.int o_width, .int o_height, .ref o_page, .ref o_tape, .int o_tapeLength, va_rf o_font, .ref o_spare, .int o_scale, .ref o_lineFrom, .ref o_lineTo, .ref o_lineWidth, .int o_lines, .int o_at, .int o_end, .int o_good, .ref o_flag, .ref o_px, .ref o_py, .int o_touches, .ref o_first, .ref o_second, .int o_turns])), (o_first, .inl (cy 3, 6, .inr (.inl o_first_f))), (o_second, .inl (cy 3, 6, .inr (.inl o_second_f)))] H → va_D A [(o, .inr (9, [.int o_width, .int o_height, .ref o_page, .ref o_tape, .int o_tapeLength, va_rf o_font, .ref o_spare, .int o_scale, .ref o_lineFrom, .ref o_lineTo, .ref o_lineWidth, .int o_lines, .int o_at, .int o_end, .int o_good, .ref o_flag, .ref o_px, .ref o_py, .int o_touches, .ref o_first, .ref o_second, .int o_turns])), (o_first, .inl (cy 3, 6, .inr (.inl o_first_f))), (o_second, .inl (cy 3, 6, .inr (.inl o_second_f)))] → va_S A s.heap H locs → lv_has ls 23 [] → W p l e ({ frames := 5, cells := 0, slots := 0, locals := 167 } : Room) s m args below meth c H locs 0 0 (MQ below (va_Qv (fun _ : Unit => True) (fun _ t => va_P (dC, dI) classes [(o, .inr (9, [.int o_width, .int o_height, .ref o_page, .ref o_tape, .int o_tapeLength, va_rf o_font, .ref o_spare, .int o_scale, .ref o_lineFrom, .ref o_lineTo, .ref o_lineWidth, .int o_lines, .int o_at, .int o_end, .int o_good, .ref o_flag, .ref o_px, .ref o_py, .int uu.1, .ref o_first, .ref o_second, .int uu.2.1])), (o_first, .inl (cy 3, 6, .inr (.inl uu.2.2.1))), (o_second, .inl (cy 3, 6, .inr (.inl uu.2.2.2)))] t.heap ∧ va_K (dC, dI) classes (TY cy) t ∧ va_D A [(o, .inr (9, [.int o_width, .int o_height, .ref o_page, .ref o_tape, .int o_tapeLength, va_rf o_font, .ref o_spare, .int o_scale, .ref o_lineFrom, .ref o_lineTo, .ref o_lineWidth, .int o_lines, .int o_at, .int o_end, .int o_good, .ref o_flag, .ref o_px, .ref o_py, .int uu.1, .ref o_first, .ref o_second, .int uu.2.1])), (o_first, .inl (cy 3, 6, .inr (.inl uu.2.2.1))), (o_second, .inl (cy 3, 6, .inr (.inl uu.2.2.2)))]) A) args s 0 0 A) (F0 m 441 ls [.int k0, .long k1, .long k2, .long k3, .long k4, .long k5, .long k6, .ref o, .int k8, .int k9, .ref o]) := by
  intro hP hD hS hl
  obtain ⟨hx, hb, hr, hlocks, hml, hown, htsG, hA, hK⟩ := id C0
  unfold P_Mo_curve_441 at h
  obtain ⟨⟨r_1, n_2, n_3⟩, hq, h⟩ := Option.bind_eq_some_iff.mp h
  dsimp only [unp] at h
  have hPc := hP.sub (ws' := [(o, .inr (9, [.int o_width, .int o_height, .ref o_page, .ref o_tape, .int o_tapeLength, va_rf o_font, .ref o_spare, .int o_scale, .ref o_lineFrom, .ref o_lineTo, .ref o_lineWidth, .int o_lines, .int o_at, .int o_end, .int o_good, .ref o_flag, .ref o_px, .ref o_py, .int o_touches, .ref o_first, .ref o_second, .int o_turns])), (o_first, .inl (cy 3, 6, .inr (.inl o_first_f))), (o_second, .inl (cy 3, 6, .inr (.inl o_second_f)))]) [0, 1, 2] rfl
  have hDc := hD.sub (ws' := [(o, .inr (9, [.int o_width, .int o_height, .ref o_page, .ref o_tape, .int o_tapeLength, va_rf o_font, .ref o_spare, .int o_scale, .ref o_lineFrom, .ref o_lineTo, .ref o_lineWidth, .int o_lines, .int o_at, .int o_end, .int o_good, .ref o_flag, .ref o_px, .ref o_py, .int o_touches, .ref o_first, .ref o_second, .int o_turns])), (o_first, .inl (cy 3, 6, .inr (.inl o_first_f))), (o_second, .inl (cy 3, 6, .inr (.inl o_second_f)))]) [0, 1, 2] (by decide) rfl
  have hFc := va_free (wc := [(o, .inr (9, [.int o_width, .int o_height, .ref o_page, .ref o_tape, .int o_tapeLength, va_rf o_font, .ref o_spare, .int o_scale, .ref o_lineFrom, .ref o_lineTo, .ref o_lineWidth, .int o_lines, .int o_at, .int o_end, .int o_good, .ref o_flag, .ref o_px, .ref o_py, .int o_touches, .ref o_first, .ref o_second, .int o_turns])), (o_first, .inl (cy 3, 6, .inr (.inl o_first_f))), (o_second, .inl (cy 3, 6, .inr (.inl o_second_f)))]) hD hS hA [0, 1, 2] rfl
  refine va_calli (va_runV (As := [.long k6, .long k5, .long k4, .long k3, .long k2, .long k1, .int k0]) (rest := [.int k8, .int k9, .ref o]) ⟨hx, hb, hml, hown, htsG⟩ (c_Mo_side l dC dI cy H.size o o_page o_tape o_spare o_lineFrom o_lineTo o_lineWidth o_flag o_px o_py o_first o_second o_width o_height o_tapeLength o_font o_scale o_lines o_at o_end o_good o_touches o_turns o_first_f o_second_f k6 k5 k4 k3 k2 k1 k0 (r_1, n_2, n_3) hq) (cwV 7 htsG (gV mW1131 mW1133 mS_Mo_side mW9 mW1134) rfl rfl rfl (by decide +kernel) ⟨Nat.le_of_ble_eq_true rfl, Nat.le_of_ble_eq_true rfl⟩) ⟨fun a U g mk q => by obtain ⟨q0, q1, qP, qK, qD⟩ := q; exact ⟨q0, q1, qP, va_K.moved (u := U) (U := U.calling g mk a) (Vm.Alike.refl U.vm) qK, qD⟩, va_recv hK hPc (ci := 9) (q0 := 0) rfl rfl, fun U hU hW => ⟨rfl, by rw [hU], by rw [hU]; exact hPc, va_K.moved hW.alike hK, hDc.weaken (fun _ _ _ _ => trivial)⟩⟩ rfl rfl hl.1 rfl (lv_room (Nat.le_of_ble_eq_true rfl)) d_Mo_curve_441 ⟨Nat.le_of_ble_eq_true rfl, Nat.le_of_ble_eq_true rfl⟩) hS (fun q _ h => hFc q h) hFc (fun rr u t H1 locs ht hvm hw hB hz1 hk1 hS => ?_)
  obtain ⟨hP1, hK1, hD1⟩ := hB
  rw [ht] at hP1
  replace hw : r_1 = rr := hw.symm
  subst hw
  obtain ⟨hP, hD⟩ := va_join (wr := []) (w1 := [(o, .inr (9, [.int o_width, .int o_height, .ref o_page, .ref o_tape, .int o_tapeLength, va_rf o_font, .ref o_spare, .int o_scale, .ref o_lineFrom, .ref o_lineTo, .ref o_lineWidth, .int o_lines, .int o_at, .int o_end, .int o_good, .ref o_flag, .ref o_px, .ref o_py, .int o_touches, .ref o_first, .ref o_second, .int o_turns])), (o_first, .inl (cy 3, 6, .inr (.inl n_2))), (o_second, .inl (cy 3, 6, .inr (.inl n_3)))]) hP hD [0, 1, 2] [] rfl rfl (by decide) (by decide) hk1 hFc hP1 hD1
  generalize H1 = H at hP hS ⊢
  have hP := hP.sub (ws' := [(o, .inr (9, [.int o_width, .int o_height, .ref o_page, .ref o_tape, .int o_tapeLength, va_rf o_font, .ref o_spare, .int o_scale, .ref o_lineFrom, .ref o_lineTo, .ref o_lineWidth, .int o_lines, .int o_at, .int o_end, .int o_good, .ref o_flag, .ref o_px, .ref o_py, .int o_touches, .ref o_first, .ref o_second, .int o_turns])), (o_first, .inl (cy 3, 6, .inr (.inl n_2))), (o_second, .inl (cy 3, 6, .inr (.inl n_3)))]) [0, 1, 2] rfl
  have hD := hD.sub (ws' := [(o, .inr (9, [.int o_width, .int o_height, .ref o_page, .ref o_tape, .int o_tapeLength, va_rf o_font, .ref o_spare, .int o_scale, .ref o_lineFrom, .ref o_lineTo, .ref o_lineWidth, .int o_lines, .int o_at, .int o_end, .int o_good, .ref o_flag, .ref o_px, .ref o_py, .int o_touches, .ref o_first, .ref o_second, .int o_turns])), (o_first, .inl (cy 3, 6, .inr (.inl n_2))), (o_second, .inl (cy 3, 6, .inr (.inl n_3)))]) [0, 1, 2] (by decide) rfl
  refine W.widen (k := 0) (n := 0) (by decide) (by decide) ?_
  obtain ⟨⟨n_4, n_5⟩, hq, h⟩ := Option.bind_eq_some_iff.mp h
  dsimp only [unp] at h
  have hPc := hP.sub (ws' := [(o, .inr (9, [.int o_width, .int o_height, .ref o_page, .ref o_tape, .int o_tapeLength, va_rf o_font, .ref o_spare, .int o_scale, .ref o_lineFrom, .ref o_lineTo, .ref o_lineWidth, .int o_lines, .int o_at, .int o_end, .int o_good, .ref o_flag, .ref o_px, .ref o_py, .int o_touches, .ref o_first, .ref o_second, .int o_turns]))]) [0] rfl
  have hDc := hD.sub (ws' := [(o, .inr (9, [.int o_width, .int o_height, .ref o_page, .ref o_tape, .int o_tapeLength, va_rf o_font, .ref o_spare, .int o_scale, .ref o_lineFrom, .ref o_lineTo, .ref o_lineWidth, .int o_lines, .int o_at, .int o_end, .int o_good, .ref o_flag, .ref o_px, .ref o_py, .int o_touches, .ref o_first, .ref o_second, .int o_turns]))]) [0] (by decide) rfl
  have hFc := va_free (wc := [(o, .inr (9, [.int o_width, .int o_height, .ref o_page, .ref o_tape, .int o_tapeLength, va_rf o_font, .ref o_spare, .int o_scale, .ref o_lineFrom, .ref o_lineTo, .ref o_lineWidth, .int o_lines, .int o_at, .int o_end, .int o_good, .ref o_flag, .ref o_px, .ref o_py, .int o_touches, .ref o_first, .ref o_second, .int o_turns]))]) hD hS hA [0] rfl
  refine va_callv (va_runV (As := [.int k9, .int k8, .int r_1]) (rest := []) ⟨hx, hb, hml, hown, htsG⟩ (c_Mo_cross l dC dI cy H.size o o_page o_tape o_spare o_lineFrom o_lineTo o_lineWidth o_flag o_px o_py o_first o_second o_width o_height o_tapeLength o_font o_scale o_lines o_at o_end o_good o_touches o_turns k9 k8 r_1 (n_4, n_5) hq) (cwV 3 htsG (gV mW1109 mW1111 mS_Mo_cross mW9 mW1112) rfl rfl rfl (by decide +kernel) ⟨Nat.le_of_ble_eq_true rfl, Nat.le_of_ble_eq_true rfl⟩) ⟨fun a U g mk q => by obtain ⟨q0, q1, qP, qK, qD⟩ := q; exact ⟨q0, q1, qP, va_K.moved (u := U) (U := U.calling g mk a) (Vm.Alike.refl U.vm) qK, qD⟩, va_recv hK hPc (ci := 9) (q0 := 0) rfl rfl, fun U hU hW => ⟨rfl, by rw [hU], by rw [hU]; exact hPc, va_K.moved hW.alike hK, hDc.weaken (fun _ _ _ _ => trivial)⟩⟩ rfl rfl hl.1 rfl (lv_room (Nat.le_of_ble_eq_true rfl)) d_Mo_curve_444 ⟨Nat.le_of_ble_eq_true rfl, Nat.le_of_ble_eq_true rfl⟩) hS (fun q _ h => hFc q h) hFc (fun u t H1 locs ht hvm hw hB hz1 hk1 hS => ?_)
  obtain ⟨hP1, hK1, hD1⟩ := hB
  rw [ht] at hP1
  obtain ⟨hP, hD⟩ := va_join (wr := [(o_first, .inl (cy 3, 6, .inr (.inl n_2))), (o_second, .inl (cy 3, 6, .inr (.inl n_3)))]) (w1 := [(o, .inr (9, [.int o_width, .int o_height, .ref o_page, .ref o_tape, .int o_tapeLength, va_rf o_font, .ref o_spare, .int o_scale, .ref o_lineFrom, .ref o_lineTo, .ref o_lineWidth, .int o_lines, .int o_at, .int o_end, .int o_good, .ref o_flag, .ref o_px, .ref o_py, .int n_4, .ref o_first, .ref o_second, .int n_5]))]) hP hD [0] [1, 2] rfl rfl (by decide) (by decide) hk1 hFc hP1 hD1
  generalize H1 = H at hP hS ⊢
  have hP := hP.sub (ws' := [(o, .inr (9, [.int o_width, .int o_height, .ref o_page, .ref o_tape, .int o_tapeLength, va_rf o_font, .ref o_spare, .int o_scale, .ref o_lineFrom, .ref o_lineTo, .ref o_lineWidth, .int o_lines, .int o_at, .int o_end, .int o_good, .ref o_flag, .ref o_px, .ref o_py, .int n_4, .ref o_first, .ref o_second, .int n_5])), (o_first, .inl (cy 3, 6, .inr (.inl n_2))), (o_second, .inl (cy 3, 6, .inr (.inl n_3)))]) [2, 0, 1] rfl
  have hD := hD.sub (ws' := [(o, .inr (9, [.int o_width, .int o_height, .ref o_page, .ref o_tape, .int o_tapeLength, va_rf o_font, .ref o_spare, .int o_scale, .ref o_lineFrom, .ref o_lineTo, .ref o_lineWidth, .int o_lines, .int o_at, .int o_end, .int o_good, .ref o_flag, .ref o_px, .ref o_py, .int n_4, .ref o_first, .ref o_second, .int n_5])), (o_first, .inl (cy 3, 6, .inr (.inl n_2))), (o_second, .inl (cy 3, 6, .inr (.inl n_3)))]) [2, 0, 1] (by decide) rfl
  refine W.widen (k := 0) (n := 0) (by decide) (by decide) ?_
  cases h
  exact W.vret hx hb hr (fun t ht hW => ⟨⟨(), rfl, trivial, by rw [ht]; exact hP, va_K.moved hW.alike hK, hD⟩, hS.F ht⟩) hS.2.2 d_Mo_curve_447 hlocks
def P_Mo_curve_418   (x1 : Int64) (x3 : Int64) (x5 : Int64) (x7 : Int64) (x9 : Int64) (x11 : Int64) (x21 : Int32) (k0 : Int32) (o_touches : Int32) (o_turns : Int32) (o_first_f : Nat → Int64) (o_second_f : Nat → Int64) : Option (Int32 × Int32 × (Nat → Int64) × (Nat → Int64)) :=
  if x21 = 0 then (P_Mo_curve_441 (-1 : Int32) x11 x9 x7 x5 x3 x1 x21 k0 o_touches o_turns o_first_f o_second_f) else (P_Mo_curve_441 (1 : Int32) x11 x9 x7 x5 x3 x1 x21 k0 o_touches o_turns o_first_f o_second_f)
set_option maxHeartbeats 4000000 in
set_option maxRecDepth 100000 in
theorem w_Mo_curve_418 (C0 : Cx p s m args meth c A dC dI cy b_Mo_curve 23 none "GlyphPageModel") (o : Nat) (o_page : Nat) (o_tape : Nat) (o_spare : Nat) (o_lineFrom : Nat) (o_lineTo : Nat) (o_lineWidth : Nat) (o_flag : Nat) (o_px : Nat) (o_py : Nat) (o_first : Nat) (o_second : Nat) (o_width : Int32) (o_height : Int32) (o_tapeLength : Int32) (o_font : Option Nat) (o_scale : Int32) (o_lines : Int32) (o_at : Int32) (o_end : Int32) (o_good : Int32) (a1 : Int64) (a2 : Int64) (a3 : Int64) (a4 : Int64) (a5 : Int64) (a6 : Int64) (uu : Int32 × Int32 × (Nat → Int64) × (Nat → Int64))  (x1 : Int64) (x3 : Int64) (x5 : Int64) (x7 : Int64) (x9 : Int64) (x11 : Int64) (x21 : Int32) (k0 : Int32) (o_touches : Int32) (o_turns : Int32) (o_first_f : Nat → Int64) (o_second_f : Nat → Int64) {H : Heap} {locs : List Loc} {ls : Array Slot} (h : P_Mo_curve_418 x1 x3 x5 x7 x9 x11 x21 k0 o_touches o_turns o_first_f o_second_f = some uu) : va_P (dC, dI) classes [(o, .inr (9, [.int o_width, .int o_height, .ref o_page, .ref o_tape, .int o_tapeLength, va_rf o_font, .ref o_spare, .int o_scale, .ref o_lineFrom, .ref o_lineTo, .ref o_lineWidth, .int o_lines, .int o_at, .int o_end, .int o_good, .ref o_flag, .ref o_px, .ref o_py, .int o_touches, .ref o_first, .ref o_second, .int o_turns])), (o_first, .inl (cy 3, 6, .inr (.inl o_first_f))), (o_second, .inl (cy 3, 6, .inr (.inl o_second_f)))] H → va_D A [(o, .inr (9, [.int o_width, .int o_height, .ref o_page, .ref o_tape, .int o_tapeLength, va_rf o_font, .ref o_spare, .int o_scale, .ref o_lineFrom, .ref o_lineTo, .ref o_lineWidth, .int o_lines, .int o_at, .int o_end, .int o_good, .ref o_flag, .ref o_px, .ref o_py, .int o_touches, .ref o_first, .ref o_second, .int o_turns])), (o_first, .inl (cy 3, 6, .inr (.inl o_first_f))), (o_second, .inl (cy 3, 6, .inr (.inl o_second_f)))] → va_S A s.heap H locs → lv_has ls 23 [(0, .ref o), (1, .long x1), (3, .long x3), (5, .long x5), (7, .long x7), (9, .long x9), (11, .long x11), (21, .int x21)] → W p l e ({ frames := 5, cells := 0, slots := 0, locals := 167 } : Room) s m args below meth c H locs 0 0 (MQ below (va_Qv (fun _ : Unit => True) (fun _ t => va_P (dC, dI) classes [(o, .inr (9, [.int o_width, .int o_height, .ref o_page, .ref o_tape, .int o_tapeLength, va_rf o_font, .ref o_spare, .int o_scale, .ref o_lineFrom, .ref o_lineTo, .ref o_lineWidth, .int o_lines, .int o_at, .int o_end, .int o_good, .ref o_flag, .ref o_px, .ref o_py, .int uu.1, .ref o_first, .ref o_second, .int uu.2.1])), (o_first, .inl (cy 3, 6, .inr (.inl uu.2.2.1))), (o_second, .inl (cy 3, 6, .inr (.inl uu.2.2.2)))] t.heap ∧ va_K (dC, dI) classes (TY cy) t ∧ va_D A [(o, .inr (9, [.int o_width, .int o_height, .ref o_page, .ref o_tape, .int o_tapeLength, va_rf o_font, .ref o_spare, .int o_scale, .ref o_lineFrom, .ref o_lineTo, .ref o_lineWidth, .int o_lines, .int o_at, .int o_end, .int o_good, .ref o_flag, .ref o_px, .ref o_py, .int uu.1, .ref o_first, .ref o_second, .int uu.2.1])), (o_first, .inl (cy 3, 6, .inr (.inl uu.2.2.1))), (o_second, .inl (cy 3, 6, .inr (.inl uu.2.2.2)))]) A) args s 0 0 A) (F0 m 418 ls [.int k0, .ref o]) := by
  intro hP hD hS hl
  obtain ⟨hx, hb, hr, hlocks, hml, hown, htsG, hA, hK⟩ := id C0
  unfold P_Mo_curve_418 at h
  refine lv_iload hx hb d_Mo_curve_418 (lv_at hl 7 rfl) ?_
  refine lv_aload_n hx hb d_Mo_curve_420 rfl (lv_at hl 0 rfl) ?_
  refine lv_lload_n hx hb d_Mo_curve_421 rfl (lv_at hl 1 rfl) ?_
  refine lv_lload_n hx hb d_Mo_curve_422 rfl (lv_at hl 2 rfl) ?_
  refine lv_lload hx hb d_Mo_curve_423 (lv_at hl 3 rfl) ?_
  refine lv_lload hx hb d_Mo_curve_425 (lv_at hl 4 rfl) ?_
  refine lv_lload hx hb d_Mo_curve_427 (lv_at hl 5 rfl) ?_
  refine lv_lload hx hb d_Mo_curve_429 (lv_at hl 6 rfl) ?_
  refine lv_iload hx hb d_Mo_curve_431 (lv_at hl 7 rfl) ?_
  refine lv_if_eq (tgt := 440) hx hb d_Mo_curve_433 (by decide) (fun c_1 => ?_) (fun c_1 => ?_)
  · replace h := (if_pos c_1).symm.trans h
    refine lv_iconst (v := (-1 : Int32)) hx hb d_Mo_curve_440 (by decide) ?_
    exact w_Mo_curve_441 C0 o o_page o_tape o_spare o_lineFrom o_lineTo o_lineWidth o_flag o_px o_py o_first o_second o_width o_height o_tapeLength o_font o_scale o_lines o_at o_end o_good a1 a2 a3 a4 a5 a6 uu  (-1 : Int32) x11 x9 x7 x5 x3 x1 x21 k0 o_touches o_turns o_first_f o_second_f h hP hD hS (lv_sub hl [] rfl)
  · replace h := (if_neg c_1).symm.trans h
    refine lv_iconst (v := (1 : Int32)) hx hb d_Mo_curve_436 (by decide) ?_
    refine lv_goto (tgt := 441) hx hb d_Mo_curve_437 (by decide) ?_
    exact w_Mo_curve_441 C0 o o_page o_tape o_spare o_lineFrom o_lineTo o_lineWidth o_flag o_px o_py o_first o_second o_width o_height o_tapeLength o_font o_scale o_lines o_at o_end o_good a1 a2 a3 a4 a5 a6 uu  (1 : Int32) x11 x9 x7 x5 x3 x1 x21 k0 o_touches o_turns o_first_f o_second_f h hP hD hS (lv_sub hl [] rfl)
def P_Mo_curve_401   (x1 : Int64) (x3 : Int64) (x5 : Int64) (x7 : Int64) (x9 : Int64) (x11 : Int64) (x21 : Int32) (k0 : Int32) (k1 : Int64) (k2 : Int64) (k3 : Int64) (k4 : Int64) (k5 : Int64) (k6 : Int64) (k8 : Int32) (k9 : Int32) (o_touches : Int32) (o_turns : Int32) (o_first_f : Nat → Int64) (o_second_f : Nat → Int64) : Option (Int32 × Int32 × (Nat → Int64) × (Nat → Int64)) :=
  (P_Mo_side o_first_f o_second_f k6 k5 k4 k3 k2 k1 k0).bind <| unp fun r_1 => unp fun n_2 n_3 => (P_Mo_cross o_touches o_turns k9 k8 r_1).bind <| unp fun n_4 n_5 => if x21 = 0 then (P_Mo_curve_418 x1 x3 x5 x7 x9 x11 x21 (1 : Int32) n_4 n_5 n_2 n_3) else (P_Mo_curve_418 x1 x3 x5 x7 x9 x11 x21 (0 : Int32) n_4 n_5 n_2 n_3)
set_option maxHeartbeats 4000000 in
set_option maxRecDepth 100000 in
theorem w_Mo_curve_401 (C0 : Cx p s m args meth c A dC dI cy b_Mo_curve 23 none "GlyphPageModel") (o : Nat) (o_page : Nat) (o_tape : Nat) (o_spare : Nat) (o_lineFrom : Nat) (o_lineTo : Nat) (o_lineWidth : Nat) (o_flag : Nat) (o_px : Nat) (o_py : Nat) (o_first : Nat) (o_second : Nat) (o_width : Int32) (o_height : Int32) (o_tapeLength : Int32) (o_font : Option Nat) (o_scale : Int32) (o_lines : Int32) (o_at : Int32) (o_end : Int32) (o_good : Int32) (a1 : Int64) (a2 : Int64) (a3 : Int64) (a4 : Int64) (a5 : Int64) (a6 : Int64) (uu : Int32 × Int32 × (Nat → Int64) × (Nat → Int64))  (x1 : Int64) (x3 : Int64) (x5 : Int64) (x7 : Int64) (x9 : Int64) (x11 : Int64) (x21 : Int32) (k0 : Int32) (k1 : Int64) (k2 : Int64) (k3 : Int64) (k4 : Int64) (k5 : Int64) (k6 : Int64) (k8 : Int32) (k9 : Int32) (o_touches : Int32) (o_turns : Int32) (o_first_f : Nat → Int64) (o_second_f : Nat → Int64) {H : Heap} {locs : List Loc} {ls : Array Slot} (h : P_Mo_curve_401 x1 x3 x5 x7 x9 x11 x21 k0 k1 k2 k3 k4 k5 k6 k8 k9 o_touches o_turns o_first_f o_second_f = some uu) : va_P (dC, dI) classes [(o, .inr (9, [.int o_width, .int o_height, .ref o_page, .ref o_tape, .int o_tapeLength, va_rf o_font, .ref o_spare, .int o_scale, .ref o_lineFrom, .ref o_lineTo, .ref o_lineWidth, .int o_lines, .int o_at, .int o_end, .int o_good, .ref o_flag, .ref o_px, .ref o_py, .int o_touches, .ref o_first, .ref o_second, .int o_turns])), (o_first, .inl (cy 3, 6, .inr (.inl o_first_f))), (o_second, .inl (cy 3, 6, .inr (.inl o_second_f)))] H → va_D A [(o, .inr (9, [.int o_width, .int o_height, .ref o_page, .ref o_tape, .int o_tapeLength, va_rf o_font, .ref o_spare, .int o_scale, .ref o_lineFrom, .ref o_lineTo, .ref o_lineWidth, .int o_lines, .int o_at, .int o_end, .int o_good, .ref o_flag, .ref o_px, .ref o_py, .int o_touches, .ref o_first, .ref o_second, .int o_turns])), (o_first, .inl (cy 3, 6, .inr (.inl o_first_f))), (o_second, .inl (cy 3, 6, .inr (.inl o_second_f)))] → va_S A s.heap H locs → lv_has ls 23 [(0, .ref o), (1, .long x1), (3, .long x3), (5, .long x5), (7, .long x7), (9, .long x9), (11, .long x11), (21, .int x21)] → W p l e ({ frames := 5, cells := 0, slots := 0, locals := 167 } : Room) s m args below meth c H locs 0 0 (MQ below (va_Qv (fun _ : Unit => True) (fun _ t => va_P (dC, dI) classes [(o, .inr (9, [.int o_width, .int o_height, .ref o_page, .ref o_tape, .int o_tapeLength, va_rf o_font, .ref o_spare, .int o_scale, .ref o_lineFrom, .ref o_lineTo, .ref o_lineWidth, .int o_lines, .int o_at, .int o_end, .int o_good, .ref o_flag, .ref o_px, .ref o_py, .int uu.1, .ref o_first, .ref o_second, .int uu.2.1])), (o_first, .inl (cy 3, 6, .inr (.inl uu.2.2.1))), (o_second, .inl (cy 3, 6, .inr (.inl uu.2.2.2)))] t.heap ∧ va_K (dC, dI) classes (TY cy) t ∧ va_D A [(o, .inr (9, [.int o_width, .int o_height, .ref o_page, .ref o_tape, .int o_tapeLength, va_rf o_font, .ref o_spare, .int o_scale, .ref o_lineFrom, .ref o_lineTo, .ref o_lineWidth, .int o_lines, .int o_at, .int o_end, .int o_good, .ref o_flag, .ref o_px, .ref o_py, .int uu.1, .ref o_first, .ref o_second, .int uu.2.1])), (o_first, .inl (cy 3, 6, .inr (.inl uu.2.2.1))), (o_second, .inl (cy 3, 6, .inr (.inl uu.2.2.2)))]) A) args s 0 0 A) (F0 m 401 ls [.int k0, .long k1, .long k2, .long k3, .long k4, .long k5, .long k6, .ref o, .int k8, .int k9, .ref o]) := by
  intro hP hD hS hl
  obtain ⟨hx, hb, hr, hlocks, hml, hown, htsG, hA, hK⟩ := id C0
  unfold P_Mo_curve_401 at h
  obtain ⟨⟨r_1, n_2, n_3⟩, hq, h⟩ := Option.bind_eq_some_iff.mp h
  dsimp only [unp] at h
  have hPc := hP.sub (ws' := [(o, .inr (9, [.int o_width, .int o_height, .ref o_page, .ref o_tape, .int o_tapeLength, va_rf o_font, .ref o_spare, .int o_scale, .ref o_lineFrom, .ref o_lineTo, .ref o_lineWidth, .int o_lines, .int o_at, .int o_end, .int o_good, .ref o_flag, .ref o_px, .ref o_py, .int o_touches, .ref o_first, .ref o_second, .int o_turns])), (o_first, .inl (cy 3, 6, .inr (.inl o_first_f))), (o_second, .inl (cy 3, 6, .inr (.inl o_second_f)))]) [0, 1, 2] rfl
  have hDc := hD.sub (ws' := [(o, .inr (9, [.int o_width, .int o_height, .ref o_page, .ref o_tape, .int o_tapeLength, va_rf o_font, .ref o_spare, .int o_scale, .ref o_lineFrom, .ref o_lineTo, .ref o_lineWidth, .int o_lines, .int o_at, .int o_end, .int o_good, .ref o_flag, .ref o_px, .ref o_py, .int o_touches, .ref o_first, .ref o_second, .int o_turns])), (o_first, .inl (cy 3, 6, .inr (.inl o_first_f))), (o_second, .inl (cy 3, 6, .inr (.inl o_second_f)))]) [0, 1, 2] (by decide) rfl
  have hFc := va_free (wc := [(o, .inr (9, [.int o_width, .int o_height, .ref o_page, .ref o_tape, .int o_tapeLength, va_rf o_font, .ref o_spare, .int o_scale, .ref o_lineFrom, .ref o_lineTo, .ref o_lineWidth, .int o_lines, .int o_at, .int o_end, .int o_good, .ref o_flag, .ref o_px, .ref o_py, .int o_touches, .ref o_first, .ref o_second, .int o_turns])), (o_first, .inl (cy 3, 6, .inr (.inl o_first_f))), (o_second, .inl (cy 3, 6, .inr (.inl o_second_f)))]) hD hS hA [0, 1, 2] rfl
  refine va_calli (va_runV (As := [.long k6, .long k5, .long k4, .long k3, .long k2, .long k1, .int k0]) (rest := [.int k8, .int k9, .ref o]) ⟨hx, hb, hml, hown, htsG⟩ (c_Mo_side l dC dI cy H.size o o_page o_tape o_spare o_lineFrom o_lineTo o_lineWidth o_flag o_px o_py o_first o_second o_width o_height o_tapeLength o_font o_scale o_lines o_at o_end o_good o_touches o_turns o_first_f o_second_f k6 k5 k4 k3 k2 k1 k0 (r_1, n_2, n_3) hq) (cwV 7 htsG (gV mW1131 mW1133 mS_Mo_side mW9 mW1134) rfl rfl rfl (by decide +kernel) ⟨Nat.le_of_ble_eq_true rfl, Nat.le_of_ble_eq_true rfl⟩) ⟨fun a U g mk q => by obtain ⟨q0, q1, qP, qK, qD⟩ := q; exact ⟨q0, q1, qP, va_K.moved (u := U) (U := U.calling g mk a) (Vm.Alike.refl U.vm) qK, qD⟩, va_recv hK hPc (ci := 9) (q0 := 0) rfl rfl, fun U hU hW => ⟨rfl, by rw [hU], by rw [hU]; exact hPc, va_K.moved hW.alike hK, hDc.weaken (fun _ _ _ _ => trivial)⟩⟩ rfl rfl hl.1 rfl (lv_room (Nat.le_of_ble_eq_true rfl)) d_Mo_curve_401 ⟨Nat.le_of_ble_eq_true rfl, Nat.le_of_ble_eq_true rfl⟩) hS (fun q _ h => hFc q h) hFc (fun rr u t H1 locs ht hvm hw hB hz1 hk1 hS => ?_)
  obtain ⟨hP1, hK1, hD1⟩ := hB
  rw [ht] at hP1
  replace hw : r_1 = rr := hw.symm
  subst hw
  obtain ⟨hP, hD⟩ := va_join (wr := []) (w1 := [(o, .inr (9, [.int o_width, .int o_height, .ref o_page, .ref o_tape, .int o_tapeLength, va_rf o_font, .ref o_spare, .int o_scale, .ref o_lineFrom, .ref o_lineTo, .ref o_lineWidth, .int o_lines, .int o_at, .int o_end, .int o_good, .ref o_flag, .ref o_px, .ref o_py, .int o_touches, .ref o_first, .ref o_second, .int o_turns])), (o_first, .inl (cy 3, 6, .inr (.inl n_2))), (o_second, .inl (cy 3, 6, .inr (.inl n_3)))]) hP hD [0, 1, 2] [] rfl rfl (by decide) (by decide) hk1 hFc hP1 hD1
  generalize H1 = H at hP hS ⊢
  have hP := hP.sub (ws' := [(o, .inr (9, [.int o_width, .int o_height, .ref o_page, .ref o_tape, .int o_tapeLength, va_rf o_font, .ref o_spare, .int o_scale, .ref o_lineFrom, .ref o_lineTo, .ref o_lineWidth, .int o_lines, .int o_at, .int o_end, .int o_good, .ref o_flag, .ref o_px, .ref o_py, .int o_touches, .ref o_first, .ref o_second, .int o_turns])), (o_first, .inl (cy 3, 6, .inr (.inl n_2))), (o_second, .inl (cy 3, 6, .inr (.inl n_3)))]) [0, 1, 2] rfl
  have hD := hD.sub (ws' := [(o, .inr (9, [.int o_width, .int o_height, .ref o_page, .ref o_tape, .int o_tapeLength, va_rf o_font, .ref o_spare, .int o_scale, .ref o_lineFrom, .ref o_lineTo, .ref o_lineWidth, .int o_lines, .int o_at, .int o_end, .int o_good, .ref o_flag, .ref o_px, .ref o_py, .int o_touches, .ref o_first, .ref o_second, .int o_turns])), (o_first, .inl (cy 3, 6, .inr (.inl n_2))), (o_second, .inl (cy 3, 6, .inr (.inl n_3)))]) [0, 1, 2] (by decide) rfl
  refine W.widen (k := 0) (n := 0) (by decide) (by decide) ?_
  obtain ⟨⟨n_4, n_5⟩, hq, h⟩ := Option.bind_eq_some_iff.mp h
  dsimp only [unp] at h
  have hPc := hP.sub (ws' := [(o, .inr (9, [.int o_width, .int o_height, .ref o_page, .ref o_tape, .int o_tapeLength, va_rf o_font, .ref o_spare, .int o_scale, .ref o_lineFrom, .ref o_lineTo, .ref o_lineWidth, .int o_lines, .int o_at, .int o_end, .int o_good, .ref o_flag, .ref o_px, .ref o_py, .int o_touches, .ref o_first, .ref o_second, .int o_turns]))]) [0] rfl
  have hDc := hD.sub (ws' := [(o, .inr (9, [.int o_width, .int o_height, .ref o_page, .ref o_tape, .int o_tapeLength, va_rf o_font, .ref o_spare, .int o_scale, .ref o_lineFrom, .ref o_lineTo, .ref o_lineWidth, .int o_lines, .int o_at, .int o_end, .int o_good, .ref o_flag, .ref o_px, .ref o_py, .int o_touches, .ref o_first, .ref o_second, .int o_turns]))]) [0] (by decide) rfl
  have hFc := va_free (wc := [(o, .inr (9, [.int o_width, .int o_height, .ref o_page, .ref o_tape, .int o_tapeLength, va_rf o_font, .ref o_spare, .int o_scale, .ref o_lineFrom, .ref o_lineTo, .ref o_lineWidth, .int o_lines, .int o_at, .int o_end, .int o_good, .ref o_flag, .ref o_px, .ref o_py, .int o_touches, .ref o_first, .ref o_second, .int o_turns]))]) hD hS hA [0] rfl
  refine va_callv (va_runV (As := [.int k9, .int k8, .int r_1]) (rest := []) ⟨hx, hb, hml, hown, htsG⟩ (c_Mo_cross l dC dI cy H.size o o_page o_tape o_spare o_lineFrom o_lineTo o_lineWidth o_flag o_px o_py o_first o_second o_width o_height o_tapeLength o_font o_scale o_lines o_at o_end o_good o_touches o_turns k9 k8 r_1 (n_4, n_5) hq) (cwV 3 htsG (gV mW1109 mW1111 mS_Mo_cross mW9 mW1112) rfl rfl rfl (by decide +kernel) ⟨Nat.le_of_ble_eq_true rfl, Nat.le_of_ble_eq_true rfl⟩) ⟨fun a U g mk q => by obtain ⟨q0, q1, qP, qK, qD⟩ := q; exact ⟨q0, q1, qP, va_K.moved (u := U) (U := U.calling g mk a) (Vm.Alike.refl U.vm) qK, qD⟩, va_recv hK hPc (ci := 9) (q0 := 0) rfl rfl, fun U hU hW => ⟨rfl, by rw [hU], by rw [hU]; exact hPc, va_K.moved hW.alike hK, hDc.weaken (fun _ _ _ _ => trivial)⟩⟩ rfl rfl hl.1 rfl (lv_room (Nat.le_of_ble_eq_true rfl)) d_Mo_curve_404 ⟨Nat.le_of_ble_eq_true rfl, Nat.le_of_ble_eq_true rfl⟩) hS (fun q _ h => hFc q h) hFc (fun u t H1 locs ht hvm hw hB hz1 hk1 hS => ?_)
  obtain ⟨hP1, hK1, hD1⟩ := hB
  rw [ht] at hP1
  obtain ⟨hP, hD⟩ := va_join (wr := [(o_first, .inl (cy 3, 6, .inr (.inl n_2))), (o_second, .inl (cy 3, 6, .inr (.inl n_3)))]) (w1 := [(o, .inr (9, [.int o_width, .int o_height, .ref o_page, .ref o_tape, .int o_tapeLength, va_rf o_font, .ref o_spare, .int o_scale, .ref o_lineFrom, .ref o_lineTo, .ref o_lineWidth, .int o_lines, .int o_at, .int o_end, .int o_good, .ref o_flag, .ref o_px, .ref o_py, .int n_4, .ref o_first, .ref o_second, .int n_5]))]) hP hD [0] [1, 2] rfl rfl (by decide) (by decide) hk1 hFc hP1 hD1
  generalize H1 = H at hP hS ⊢
  have hP := hP.sub (ws' := [(o, .inr (9, [.int o_width, .int o_height, .ref o_page, .ref o_tape, .int o_tapeLength, va_rf o_font, .ref o_spare, .int o_scale, .ref o_lineFrom, .ref o_lineTo, .ref o_lineWidth, .int o_lines, .int o_at, .int o_end, .int o_good, .ref o_flag, .ref o_px, .ref o_py, .int n_4, .ref o_first, .ref o_second, .int n_5])), (o_first, .inl (cy 3, 6, .inr (.inl n_2))), (o_second, .inl (cy 3, 6, .inr (.inl n_3)))]) [2, 0, 1] rfl
  have hD := hD.sub (ws' := [(o, .inr (9, [.int o_width, .int o_height, .ref o_page, .ref o_tape, .int o_tapeLength, va_rf o_font, .ref o_spare, .int o_scale, .ref o_lineFrom, .ref o_lineTo, .ref o_lineWidth, .int o_lines, .int o_at, .int o_end, .int o_good, .ref o_flag, .ref o_px, .ref o_py, .int n_4, .ref o_first, .ref o_second, .int n_5])), (o_first, .inl (cy 3, 6, .inr (.inl n_2))), (o_second, .inl (cy 3, 6, .inr (.inl n_3)))]) [2, 0, 1] (by decide) rfl
  refine W.widen (k := 0) (n := 0) (by decide) (by decide) ?_
  refine lv_aload_n hx hb d_Mo_curve_407 rfl (lv_at hl 0 rfl) ?_
  refine lv_iload hx hb d_Mo_curve_408 (lv_at hl 7 rfl) ?_
  refine lv_if_ne (tgt := 417) hx hb d_Mo_curve_410 (by decide) (fun c_6 => ?_) (fun c_6 => ?_)
  · replace h := (if_neg c_6).symm.trans h
    refine lv_iconst (v := (0 : Int32)) hx hb d_Mo_curve_417 (by decide) ?_
    exact w_Mo_curve_418 C0 o o_page o_tape o_spare o_lineFrom o_lineTo o_lineWidth o_flag o_px o_py o_first o_second o_width o_height o_tapeLength o_font o_scale o_lines o_at o_end o_good a1 a2 a3 a4 a5 a6 uu  x1 x3 x5 x7 x9 x11 x21 (0 : Int32) n_4 n_5 n_2 n_3 h hP hD hS (lv_sub hl [0, 1, 2, 3, 4, 5, 6, 7] rfl)
  · replace h := (if_pos c_6).symm.trans h
    refine lv_iconst (v := (1 : Int32)) hx hb d_Mo_curve_413 (by decide) ?_
    refine lv_goto (tgt := 418) hx hb d_Mo_curve_414 (by decide) ?_
    exact w_Mo_curve_418 C0 o o_page o_tape o_spare o_lineFrom o_lineTo o_lineWidth o_flag o_px o_py o_first o_second o_width o_height o_tapeLength o_font o_scale o_lines o_at o_end o_good a1 a2 a3 a4 a5 a6 uu  x1 x3 x5 x7 x9 x11 x21 (1 : Int32) n_4 n_5 n_2 n_3 h hP hD hS (lv_sub hl [0, 1, 2, 3, 4, 5, 6, 7] rfl)
def P_Mo_curve_380   (x1 : Int64) (x3 : Int64) (x5 : Int64) (x7 : Int64) (x9 : Int64) (x11 : Int64) (x21 : Int32) (k0 : Int32) (k1 : Int32) (o_touches : Int32) (o_turns : Int32) (o_first_f : Nat → Int64) (o_second_f : Nat → Int64) : Option (Int32 × Int32 × (Nat → Int64) × (Nat → Int64)) :=
  if x21 = 0 then (P_Mo_curve_401 x1 x3 x5 x7 x9 x11 x21 (1 : Int32) x11 x9 x7 x5 x3 x1 k0 k1 o_touches o_turns o_first_f o_second_f) else (P_Mo_curve_401 x1 x3 x5 x7 x9 x11 x21 (-1 : Int32) x11 x9 x7 x5 x3 x1 k0 k1 o_touches o_turns o_first_f o_second_f)
set_option maxHeartbeats 4000000 in
set_option maxRecDepth 100000 in
theorem w_Mo_curve_380 (C0 : Cx p s m args meth c A dC dI cy b_Mo_curve 23 none "GlyphPageModel") (o : Nat) (o_page : Nat) (o_tape : Nat) (o_spare : Nat) (o_lineFrom : Nat) (o_lineTo : Nat) (o_lineWidth : Nat) (o_flag : Nat) (o_px : Nat) (o_py : Nat) (o_first : Nat) (o_second : Nat) (o_width : Int32) (o_height : Int32) (o_tapeLength : Int32) (o_font : Option Nat) (o_scale : Int32) (o_lines : Int32) (o_at : Int32) (o_end : Int32) (o_good : Int32) (a1 : Int64) (a2 : Int64) (a3 : Int64) (a4 : Int64) (a5 : Int64) (a6 : Int64) (uu : Int32 × Int32 × (Nat → Int64) × (Nat → Int64))  (x1 : Int64) (x3 : Int64) (x5 : Int64) (x7 : Int64) (x9 : Int64) (x11 : Int64) (x21 : Int32) (k0 : Int32) (k1 : Int32) (o_touches : Int32) (o_turns : Int32) (o_first_f : Nat → Int64) (o_second_f : Nat → Int64) {H : Heap} {locs : List Loc} {ls : Array Slot} (h : P_Mo_curve_380 x1 x3 x5 x7 x9 x11 x21 k0 k1 o_touches o_turns o_first_f o_second_f = some uu) : va_P (dC, dI) classes [(o, .inr (9, [.int o_width, .int o_height, .ref o_page, .ref o_tape, .int o_tapeLength, va_rf o_font, .ref o_spare, .int o_scale, .ref o_lineFrom, .ref o_lineTo, .ref o_lineWidth, .int o_lines, .int o_at, .int o_end, .int o_good, .ref o_flag, .ref o_px, .ref o_py, .int o_touches, .ref o_first, .ref o_second, .int o_turns])), (o_first, .inl (cy 3, 6, .inr (.inl o_first_f))), (o_second, .inl (cy 3, 6, .inr (.inl o_second_f)))] H → va_D A [(o, .inr (9, [.int o_width, .int o_height, .ref o_page, .ref o_tape, .int o_tapeLength, va_rf o_font, .ref o_spare, .int o_scale, .ref o_lineFrom, .ref o_lineTo, .ref o_lineWidth, .int o_lines, .int o_at, .int o_end, .int o_good, .ref o_flag, .ref o_px, .ref o_py, .int o_touches, .ref o_first, .ref o_second, .int o_turns])), (o_first, .inl (cy 3, 6, .inr (.inl o_first_f))), (o_second, .inl (cy 3, 6, .inr (.inl o_second_f)))] → va_S A s.heap H locs → lv_has ls 23 [(0, .ref o), (1, .long x1), (3, .long x3), (5, .long x5), (7, .long x7), (9, .long x9), (11, .long x11), (21, .int x21)] → W p l e ({ frames := 5, cells := 0, slots := 0, locals := 167 } : Room) s m args below meth c H locs 0 0 (MQ below (va_Qv (fun _ : Unit => True) (fun _ t => va_P (dC, dI) classes [(o, .inr (9, [.int o_width, .int o_height, .ref o_page, .ref o_tape, .int o_tapeLength, va_rf o_font, .ref o_spare, .int o_scale, .ref o_lineFrom, .ref o_lineTo, .ref o_lineWidth, .int o_lines, .int o_at, .int o_end, .int o_good, .ref o_flag, .ref o_px, .ref o_py, .int uu.1, .ref o_first, .ref o_second, .int uu.2.1])), (o_first, .inl (cy 3, 6, .inr (.inl uu.2.2.1))), (o_second, .inl (cy 3, 6, .inr (.inl uu.2.2.2)))] t.heap ∧ va_K (dC, dI) classes (TY cy) t ∧ va_D A [(o, .inr (9, [.int o_width, .int o_height, .ref o_page, .ref o_tape, .int o_tapeLength, va_rf o_font, .ref o_spare, .int o_scale, .ref o_lineFrom, .ref o_lineTo, .ref o_lineWidth, .int o_lines, .int o_at, .int o_end, .int o_good, .ref o_flag, .ref o_px, .ref o_py, .int uu.1, .ref o_first, .ref o_second, .int uu.2.1])), (o_first, .inl (cy 3, 6, .inr (.inl uu.2.2.1))), (o_second, .inl (cy 3, 6, .inr (.inl uu.2.2.2)))]) A) args s 0 0 A) (F0 m 380 ls [.int k0, .int k1, .ref o]) := by
  intro hP hD hS hl
  obtain ⟨hx, hb, hr, hlocks, hml, hown, htsG, hA, hK⟩ := id C0
  unfold P_Mo_curve_380 at h
  refine lv_aload_n hx hb d_Mo_curve_380 rfl (lv_at hl 0 rfl) ?_
  refine lv_lload_n hx hb d_Mo_curve_381 rfl (lv_at hl 1 rfl) ?_
  refine lv_lload_n hx hb d_Mo_curve_382 rfl (lv_at hl 2 rfl) ?_
  refine lv_lload hx hb d_Mo_curve_383 (lv_at hl 3 rfl) ?_
  refine lv_lload hx hb d_Mo_curve_385 (lv_at hl 4 rfl) ?_
  refine lv_lload hx hb d_Mo_curve_387 (lv_at hl 5 rfl) ?_
  refine lv_lload hx hb d_Mo_curve_389 (lv_at hl 6 rfl) ?_
  refine lv_iload hx hb d_Mo_curve_391 (lv_at hl 7 rfl) ?_
  refine lv_if_eq (tgt := 400) hx hb d_Mo_curve_393 (by decide) (fun c_1 => ?_) (fun c_1 => ?_)
  · replace h := (if_pos c_1).symm.trans h
    refine lv_iconst (v := (1 : Int32)) hx hb d_Mo_curve_400 (by decide) ?_
    exact w_Mo_curve_401 C0 o o_page o_tape o_spare o_lineFrom o_lineTo o_lineWidth o_flag o_px o_py o_first o_second o_width o_height o_tapeLength o_font o_scale o_lines o_at o_end o_good a1 a2 a3 a4 a5 a6 uu  x1 x3 x5 x7 x9 x11 x21 (1 : Int32) x11 x9 x7 x5 x3 x1 k0 k1 o_touches o_turns o_first_f o_second_f h hP hD hS (lv_sub hl [0, 1, 2, 3, 4, 5, 6, 7] rfl)
  · replace h := (if_neg c_1).symm.trans h
    refine lv_iconst (v := (-1 : Int32)) hx hb d_Mo_curve_396 (by decide) ?_
    refine lv_goto (tgt := 401) hx hb d_Mo_curve_397 (by decide) ?_
    exact w_Mo_curve_401 C0 o o_page o_tape o_spare o_lineFrom o_lineTo o_lineWidth o_flag o_px o_py o_first o_second o_width o_height o_tapeLength o_font o_scale o_lines o_at o_end o_good a1 a2 a3 a4 a5 a6 uu  x1 x3 x5 x7 x9 x11 x21 (-1 : Int32) x11 x9 x7 x5 x3 x1 k0 k1 o_touches o_turns o_first_f o_second_f h hP hD hS (lv_sub hl [0, 1, 2, 3, 4, 5, 6, 7] rfl)
def P_Mo_curve_354   (x1 : Int64) (x3 : Int64) (x5 : Int64) (x7 : Int64) (x9 : Int64) (x11 : Int64) (x21 : Int32) (o_touches : Int32) (o_turns : Int32) (o_first_f : Nat → Int64) (o_second_f : Nat → Int64) : Option (Int32 × Int32 × (Nat → Int64) × (Nat → Int64)) :=
  if (lg_cmp (x7 * x7) (x3 * x11)) ≤ 0 then (some (o_touches, o_turns, o_first_f, o_second_f)) else (if x21 = 0 then (P_Mo_curve_380 x1 x3 x5 x7 x9 x11 x21 (1 : Int32) x21 o_touches o_turns o_first_f o_second_f) else (P_Mo_curve_380 x1 x3 x5 x7 x9 x11 x21 (0 : Int32) x21 o_touches o_turns o_first_f o_second_f))
set_option maxHeartbeats 4000000 in
set_option maxRecDepth 100000 in
theorem w_Mo_curve_354 (C0 : Cx p s m args meth c A dC dI cy b_Mo_curve 23 none "GlyphPageModel") (o : Nat) (o_page : Nat) (o_tape : Nat) (o_spare : Nat) (o_lineFrom : Nat) (o_lineTo : Nat) (o_lineWidth : Nat) (o_flag : Nat) (o_px : Nat) (o_py : Nat) (o_first : Nat) (o_second : Nat) (o_width : Int32) (o_height : Int32) (o_tapeLength : Int32) (o_font : Option Nat) (o_scale : Int32) (o_lines : Int32) (o_at : Int32) (o_end : Int32) (o_good : Int32) (a1 : Int64) (a2 : Int64) (a3 : Int64) (a4 : Int64) (a5 : Int64) (a6 : Int64) (uu : Int32 × Int32 × (Nat → Int64) × (Nat → Int64))  (x1 : Int64) (x3 : Int64) (x5 : Int64) (x7 : Int64) (x9 : Int64) (x11 : Int64) (x21 : Int32) (o_touches : Int32) (o_turns : Int32) (o_first_f : Nat → Int64) (o_second_f : Nat → Int64) {H : Heap} {locs : List Loc} {ls : Array Slot} (h : P_Mo_curve_354 x1 x3 x5 x7 x9 x11 x21 o_touches o_turns o_first_f o_second_f = some uu) : va_P (dC, dI) classes [(o, .inr (9, [.int o_width, .int o_height, .ref o_page, .ref o_tape, .int o_tapeLength, va_rf o_font, .ref o_spare, .int o_scale, .ref o_lineFrom, .ref o_lineTo, .ref o_lineWidth, .int o_lines, .int o_at, .int o_end, .int o_good, .ref o_flag, .ref o_px, .ref o_py, .int o_touches, .ref o_first, .ref o_second, .int o_turns])), (o_first, .inl (cy 3, 6, .inr (.inl o_first_f))), (o_second, .inl (cy 3, 6, .inr (.inl o_second_f)))] H → va_D A [(o, .inr (9, [.int o_width, .int o_height, .ref o_page, .ref o_tape, .int o_tapeLength, va_rf o_font, .ref o_spare, .int o_scale, .ref o_lineFrom, .ref o_lineTo, .ref o_lineWidth, .int o_lines, .int o_at, .int o_end, .int o_good, .ref o_flag, .ref o_px, .ref o_py, .int o_touches, .ref o_first, .ref o_second, .int o_turns])), (o_first, .inl (cy 3, 6, .inr (.inl o_first_f))), (o_second, .inl (cy 3, 6, .inr (.inl o_second_f)))] → va_S A s.heap H locs → lv_has ls 23 [(0, .ref o), (1, .long x1), (3, .long x3), (5, .long x5), (7, .long x7), (9, .long x9), (11, .long x11), (21, .int x21)] → W p l e ({ frames := 5, cells := 0, slots := 0, locals := 167 } : Room) s m args below meth c H locs 0 0 (MQ below (va_Qv (fun _ : Unit => True) (fun _ t => va_P (dC, dI) classes [(o, .inr (9, [.int o_width, .int o_height, .ref o_page, .ref o_tape, .int o_tapeLength, va_rf o_font, .ref o_spare, .int o_scale, .ref o_lineFrom, .ref o_lineTo, .ref o_lineWidth, .int o_lines, .int o_at, .int o_end, .int o_good, .ref o_flag, .ref o_px, .ref o_py, .int uu.1, .ref o_first, .ref o_second, .int uu.2.1])), (o_first, .inl (cy 3, 6, .inr (.inl uu.2.2.1))), (o_second, .inl (cy 3, 6, .inr (.inl uu.2.2.2)))] t.heap ∧ va_K (dC, dI) classes (TY cy) t ∧ va_D A [(o, .inr (9, [.int o_width, .int o_height, .ref o_page, .ref o_tape, .int o_tapeLength, va_rf o_font, .ref o_spare, .int o_scale, .ref o_lineFrom, .ref o_lineTo, .ref o_lineWidth, .int o_lines, .int o_at, .int o_end, .int o_good, .ref o_flag, .ref o_px, .ref o_py, .int uu.1, .ref o_first, .ref o_second, .int uu.2.1])), (o_first, .inl (cy 3, 6, .inr (.inl uu.2.2.1))), (o_second, .inl (cy 3, 6, .inr (.inl uu.2.2.2)))]) A) args s 0 0 A) (F0 m 354 ls []) := by
  intro hP hD hS hl
  obtain ⟨hx, hb, hr, hlocks, hml, hown, htsG, hA, hK⟩ := id C0
  unfold P_Mo_curve_354 at h
  refine lv_lload hx hb d_Mo_curve_354 (lv_at hl 4 rfl) ?_
  refine lv_lload hx hb d_Mo_curve_356 (lv_at hl 4 rfl) ?_
  refine lv_lmul hx hb d_Mo_curve_358 ?_
  refine lv_lload_n hx hb d_Mo_curve_359 rfl (lv_at hl 2 rfl) ?_
  refine lv_lload hx hb d_Mo_curve_360 (lv_at hl 6 rfl) ?_
  refine lv_lmul hx hb d_Mo_curve_362 ?_
  refine W.lcmp hx hb d_Mo_curve_363 ?_
  refine lv_if_le (tgt := 447) hx hb d_Mo_curve_364 (by decide) (fun c_1 => ?_) (fun c_1 => ?_)
  · replace h := (if_pos c_1).symm.trans h
    cases h
    exact W.vret hx hb hr (fun t ht hW => ⟨⟨(), rfl, trivial, by rw [ht]; exact hP, va_K.moved hW.alike hK, hD⟩, hS.F ht⟩) hS.2.2 d_Mo_curve_447 hlocks
  · replace h := (if_neg c_1).symm.trans h
    refine lv_aload_n hx hb d_Mo_curve_367 rfl (lv_at hl 0 rfl) ?_
    refine lv_iload hx hb d_Mo_curve_368 (lv_at hl 7 rfl) ?_
    refine lv_iload hx hb d_Mo_curve_370 (lv_at hl 7 rfl) ?_
    refine lv_if_ne (tgt := 379) hx hb d_Mo_curve_372 (by decide) (fun c_2 => ?_) (fun c_2 => ?_)
    · replace h := (if_neg c_2).symm.trans h
      refine lv_iconst (v := (0 : Int32)) hx hb d_Mo_curve_379 (by decide) ?_
      exact w_Mo_curve_380 C0 o o_page o_tape o_spare o_lineFrom o_lineTo o_lineWidth o_flag o_px o_py o_first o_second o_width o_height o_tapeLength o_font o_scale o_lines o_at o_end o_good a1 a2 a3 a4 a5 a6 uu  x1 x3 x5 x7 x9 x11 x21 (0 : Int32) x21 o_touches o_turns o_first_f o_second_f h hP hD hS (lv_sub hl [0, 1, 2, 3, 4, 5, 6, 7] rfl)
    · replace h := (if_pos c_2).symm.trans h
      refine lv_iconst (v := (1 : Int32)) hx hb d_Mo_curve_375 (by decide) ?_
      refine lv_goto (tgt := 380) hx hb d_Mo_curve_376 (by decide) ?_
      exact w_Mo_curve_380 C0 o o_page o_tape o_spare o_lineFrom o_lineTo o_lineWidth o_flag o_px o_py o_first o_second o_width o_height o_tapeLength o_font o_scale o_lines o_at o_end o_good a1 a2 a3 a4 a5 a6 uu  x1 x3 x5 x7 x9 x11 x21 (1 : Int32) x21 o_touches o_turns o_first_f o_second_f h hP hD hS (lv_sub hl [0, 1, 2, 3, 4, 5, 6, 7] rfl)
def P_Mo_curve_323   (k0 : Int32) (k1 : Int64) (k2 : Int64) (k3 : Int64) (k4 : Int64) (k5 : Int64) (k6 : Int64) (k8 : Int32) (k9 : Int32) (o_touches : Int32) (o_turns : Int32) (o_first_f : Nat → Int64) (o_second_f : Nat → Int64) : Option (Int32 × Int32 × (Nat → Int64) × (Nat → Int64)) :=
  (P_Mo_side o_first_f o_second_f k6 k5 k4 k3 k2 k1 k0).bind <| unp fun r_1 => unp fun n_2 n_3 => (P_Mo_cross o_touches o_turns k9 k8 r_1).bind <| unp fun n_4 n_5 => some (n_4, n_5, n_2, n_3)
set_option maxHeartbeats 4000000 in
set_option maxRecDepth 100000 in
theorem w_Mo_curve_323 (C0 : Cx p s m args meth c A dC dI cy b_Mo_curve 23 none "GlyphPageModel") (o : Nat) (o_page : Nat) (o_tape : Nat) (o_spare : Nat) (o_lineFrom : Nat) (o_lineTo : Nat) (o_lineWidth : Nat) (o_flag : Nat) (o_px : Nat) (o_py : Nat) (o_first : Nat) (o_second : Nat) (o_width : Int32) (o_height : Int32) (o_tapeLength : Int32) (o_font : Option Nat) (o_scale : Int32) (o_lines : Int32) (o_at : Int32) (o_end : Int32) (o_good : Int32) (a1 : Int64) (a2 : Int64) (a3 : Int64) (a4 : Int64) (a5 : Int64) (a6 : Int64) (uu : Int32 × Int32 × (Nat → Int64) × (Nat → Int64))  (k0 : Int32) (k1 : Int64) (k2 : Int64) (k3 : Int64) (k4 : Int64) (k5 : Int64) (k6 : Int64) (k8 : Int32) (k9 : Int32) (o_touches : Int32) (o_turns : Int32) (o_first_f : Nat → Int64) (o_second_f : Nat → Int64) {H : Heap} {locs : List Loc} {ls : Array Slot} (h : P_Mo_curve_323 k0 k1 k2 k3 k4 k5 k6 k8 k9 o_touches o_turns o_first_f o_second_f = some uu) : va_P (dC, dI) classes [(o, .inr (9, [.int o_width, .int o_height, .ref o_page, .ref o_tape, .int o_tapeLength, va_rf o_font, .ref o_spare, .int o_scale, .ref o_lineFrom, .ref o_lineTo, .ref o_lineWidth, .int o_lines, .int o_at, .int o_end, .int o_good, .ref o_flag, .ref o_px, .ref o_py, .int o_touches, .ref o_first, .ref o_second, .int o_turns])), (o_first, .inl (cy 3, 6, .inr (.inl o_first_f))), (o_second, .inl (cy 3, 6, .inr (.inl o_second_f)))] H → va_D A [(o, .inr (9, [.int o_width, .int o_height, .ref o_page, .ref o_tape, .int o_tapeLength, va_rf o_font, .ref o_spare, .int o_scale, .ref o_lineFrom, .ref o_lineTo, .ref o_lineWidth, .int o_lines, .int o_at, .int o_end, .int o_good, .ref o_flag, .ref o_px, .ref o_py, .int o_touches, .ref o_first, .ref o_second, .int o_turns])), (o_first, .inl (cy 3, 6, .inr (.inl o_first_f))), (o_second, .inl (cy 3, 6, .inr (.inl o_second_f)))] → va_S A s.heap H locs → lv_has ls 23 [] → W p l e ({ frames := 5, cells := 0, slots := 0, locals := 167 } : Room) s m args below meth c H locs 0 0 (MQ below (va_Qv (fun _ : Unit => True) (fun _ t => va_P (dC, dI) classes [(o, .inr (9, [.int o_width, .int o_height, .ref o_page, .ref o_tape, .int o_tapeLength, va_rf o_font, .ref o_spare, .int o_scale, .ref o_lineFrom, .ref o_lineTo, .ref o_lineWidth, .int o_lines, .int o_at, .int o_end, .int o_good, .ref o_flag, .ref o_px, .ref o_py, .int uu.1, .ref o_first, .ref o_second, .int uu.2.1])), (o_first, .inl (cy 3, 6, .inr (.inl uu.2.2.1))), (o_second, .inl (cy 3, 6, .inr (.inl uu.2.2.2)))] t.heap ∧ va_K (dC, dI) classes (TY cy) t ∧ va_D A [(o, .inr (9, [.int o_width, .int o_height, .ref o_page, .ref o_tape, .int o_tapeLength, va_rf o_font, .ref o_spare, .int o_scale, .ref o_lineFrom, .ref o_lineTo, .ref o_lineWidth, .int o_lines, .int o_at, .int o_end, .int o_good, .ref o_flag, .ref o_px, .ref o_py, .int uu.1, .ref o_first, .ref o_second, .int uu.2.1])), (o_first, .inl (cy 3, 6, .inr (.inl uu.2.2.1))), (o_second, .inl (cy 3, 6, .inr (.inl uu.2.2.2)))]) A) args s 0 0 A) (F0 m 323 ls [.int k0, .long k1, .long k2, .long k3, .long k4, .long k5, .long k6, .ref o, .int k8, .int k9, .ref o]) := by
  intro hP hD hS hl
  obtain ⟨hx, hb, hr, hlocks, hml, hown, htsG, hA, hK⟩ := id C0
  unfold P_Mo_curve_323 at h
  obtain ⟨⟨r_1, n_2, n_3⟩, hq, h⟩ := Option.bind_eq_some_iff.mp h
  dsimp only [unp] at h
  have hPc := hP.sub (ws' := [(o, .inr (9, [.int o_width, .int o_height, .ref o_page, .ref o_tape, .int o_tapeLength, va_rf o_font, .ref o_spare, .int o_scale, .ref o_lineFrom, .ref o_lineTo, .ref o_lineWidth, .int o_lines, .int o_at, .int o_end, .int o_good, .ref o_flag, .ref o_px, .ref o_py, .int o_touches, .ref o_first, .ref o_second, .int o_turns])), (o_first, .inl (cy 3, 6, .inr (.inl o_first_f))), (o_second, .inl (cy 3, 6, .inr (.inl o_second_f)))]) [0, 1, 2] rfl
  have hDc := hD.sub (ws' := [(o, .inr (9, [.int o_width, .int o_height, .ref o_page, .ref o_tape, .int o_tapeLength, va_rf o_font, .ref o_spare, .int o_scale, .ref o_lineFrom, .ref o_lineTo, .ref o_lineWidth, .int o_lines, .int o_at, .int o_end, .int o_good, .ref o_flag, .ref o_px, .ref o_py, .int o_touches, .ref o_first, .ref o_second, .int o_turns])), (o_first, .inl (cy 3, 6, .inr (.inl o_first_f))), (o_second, .inl (cy 3, 6, .inr (.inl o_second_f)))]) [0, 1, 2] (by decide) rfl
  have hFc := va_free (wc := [(o, .inr (9, [.int o_width, .int o_height, .ref o_page, .ref o_tape, .int o_tapeLength, va_rf o_font, .ref o_spare, .int o_scale, .ref o_lineFrom, .ref o_lineTo, .ref o_lineWidth, .int o_lines, .int o_at, .int o_end, .int o_good, .ref o_flag, .ref o_px, .ref o_py, .int o_touches, .ref o_first, .ref o_second, .int o_turns])), (o_first, .inl (cy 3, 6, .inr (.inl o_first_f))), (o_second, .inl (cy 3, 6, .inr (.inl o_second_f)))]) hD hS hA [0, 1, 2] rfl
  refine va_calli (va_runV (As := [.long k6, .long k5, .long k4, .long k3, .long k2, .long k1, .int k0]) (rest := [.int k8, .int k9, .ref o]) ⟨hx, hb, hml, hown, htsG⟩ (c_Mo_side l dC dI cy H.size o o_page o_tape o_spare o_lineFrom o_lineTo o_lineWidth o_flag o_px o_py o_first o_second o_width o_height o_tapeLength o_font o_scale o_lines o_at o_end o_good o_touches o_turns o_first_f o_second_f k6 k5 k4 k3 k2 k1 k0 (r_1, n_2, n_3) hq) (cwV 7 htsG (gV mW1131 mW1133 mS_Mo_side mW9 mW1134) rfl rfl rfl (by decide +kernel) ⟨Nat.le_of_ble_eq_true rfl, Nat.le_of_ble_eq_true rfl⟩) ⟨fun a U g mk q => by obtain ⟨q0, q1, qP, qK, qD⟩ := q; exact ⟨q0, q1, qP, va_K.moved (u := U) (U := U.calling g mk a) (Vm.Alike.refl U.vm) qK, qD⟩, va_recv hK hPc (ci := 9) (q0 := 0) rfl rfl, fun U hU hW => ⟨rfl, by rw [hU], by rw [hU]; exact hPc, va_K.moved hW.alike hK, hDc.weaken (fun _ _ _ _ => trivial)⟩⟩ rfl rfl hl.1 rfl (lv_room (Nat.le_of_ble_eq_true rfl)) d_Mo_curve_323 ⟨Nat.le_of_ble_eq_true rfl, Nat.le_of_ble_eq_true rfl⟩) hS (fun q _ h => hFc q h) hFc (fun rr u t H1 locs ht hvm hw hB hz1 hk1 hS => ?_)
  obtain ⟨hP1, hK1, hD1⟩ := hB
  rw [ht] at hP1
  replace hw : r_1 = rr := hw.symm
  subst hw
  obtain ⟨hP, hD⟩ := va_join (wr := []) (w1 := [(o, .inr (9, [.int o_width, .int o_height, .ref o_page, .ref o_tape, .int o_tapeLength, va_rf o_font, .ref o_spare, .int o_scale, .ref o_lineFrom, .ref o_lineTo, .ref o_lineWidth, .int o_lines, .int o_at, .int o_end, .int o_good, .ref o_flag, .ref o_px, .ref o_py, .int o_touches, .ref o_first, .ref o_second, .int o_turns])), (o_first, .inl (cy 3, 6, .inr (.inl n_2))), (o_second, .inl (cy 3, 6, .inr (.inl n_3)))]) hP hD [0, 1, 2] [] rfl rfl (by decide) (by decide) hk1 hFc hP1 hD1
  generalize H1 = H at hP hS ⊢
  have hP := hP.sub (ws' := [(o, .inr (9, [.int o_width, .int o_height, .ref o_page, .ref o_tape, .int o_tapeLength, va_rf o_font, .ref o_spare, .int o_scale, .ref o_lineFrom, .ref o_lineTo, .ref o_lineWidth, .int o_lines, .int o_at, .int o_end, .int o_good, .ref o_flag, .ref o_px, .ref o_py, .int o_touches, .ref o_first, .ref o_second, .int o_turns])), (o_first, .inl (cy 3, 6, .inr (.inl n_2))), (o_second, .inl (cy 3, 6, .inr (.inl n_3)))]) [0, 1, 2] rfl
  have hD := hD.sub (ws' := [(o, .inr (9, [.int o_width, .int o_height, .ref o_page, .ref o_tape, .int o_tapeLength, va_rf o_font, .ref o_spare, .int o_scale, .ref o_lineFrom, .ref o_lineTo, .ref o_lineWidth, .int o_lines, .int o_at, .int o_end, .int o_good, .ref o_flag, .ref o_px, .ref o_py, .int o_touches, .ref o_first, .ref o_second, .int o_turns])), (o_first, .inl (cy 3, 6, .inr (.inl n_2))), (o_second, .inl (cy 3, 6, .inr (.inl n_3)))]) [0, 1, 2] (by decide) rfl
  refine W.widen (k := 0) (n := 0) (by decide) (by decide) ?_
  obtain ⟨⟨n_4, n_5⟩, hq, h⟩ := Option.bind_eq_some_iff.mp h
  dsimp only [unp] at h
  have hPc := hP.sub (ws' := [(o, .inr (9, [.int o_width, .int o_height, .ref o_page, .ref o_tape, .int o_tapeLength, va_rf o_font, .ref o_spare, .int o_scale, .ref o_lineFrom, .ref o_lineTo, .ref o_lineWidth, .int o_lines, .int o_at, .int o_end, .int o_good, .ref o_flag, .ref o_px, .ref o_py, .int o_touches, .ref o_first, .ref o_second, .int o_turns]))]) [0] rfl
  have hDc := hD.sub (ws' := [(o, .inr (9, [.int o_width, .int o_height, .ref o_page, .ref o_tape, .int o_tapeLength, va_rf o_font, .ref o_spare, .int o_scale, .ref o_lineFrom, .ref o_lineTo, .ref o_lineWidth, .int o_lines, .int o_at, .int o_end, .int o_good, .ref o_flag, .ref o_px, .ref o_py, .int o_touches, .ref o_first, .ref o_second, .int o_turns]))]) [0] (by decide) rfl
  have hFc := va_free (wc := [(o, .inr (9, [.int o_width, .int o_height, .ref o_page, .ref o_tape, .int o_tapeLength, va_rf o_font, .ref o_spare, .int o_scale, .ref o_lineFrom, .ref o_lineTo, .ref o_lineWidth, .int o_lines, .int o_at, .int o_end, .int o_good, .ref o_flag, .ref o_px, .ref o_py, .int o_touches, .ref o_first, .ref o_second, .int o_turns]))]) hD hS hA [0] rfl
  refine va_callv (va_runV (As := [.int k9, .int k8, .int r_1]) (rest := []) ⟨hx, hb, hml, hown, htsG⟩ (c_Mo_cross l dC dI cy H.size o o_page o_tape o_spare o_lineFrom o_lineTo o_lineWidth o_flag o_px o_py o_first o_second o_width o_height o_tapeLength o_font o_scale o_lines o_at o_end o_good o_touches o_turns k9 k8 r_1 (n_4, n_5) hq) (cwV 3 htsG (gV mW1109 mW1111 mS_Mo_cross mW9 mW1112) rfl rfl rfl (by decide +kernel) ⟨Nat.le_of_ble_eq_true rfl, Nat.le_of_ble_eq_true rfl⟩) ⟨fun a U g mk q => by obtain ⟨q0, q1, qP, qK, qD⟩ := q; exact ⟨q0, q1, qP, va_K.moved (u := U) (U := U.calling g mk a) (Vm.Alike.refl U.vm) qK, qD⟩, va_recv hK hPc (ci := 9) (q0 := 0) rfl rfl, fun U hU hW => ⟨rfl, by rw [hU], by rw [hU]; exact hPc, va_K.moved hW.alike hK, hDc.weaken (fun _ _ _ _ => trivial)⟩⟩ rfl rfl hl.1 rfl (lv_room (Nat.le_of_ble_eq_true rfl)) d_Mo_curve_326 ⟨Nat.le_of_ble_eq_true rfl, Nat.le_of_ble_eq_true rfl⟩) hS (fun q _ h => hFc q h) hFc (fun u t H1 locs ht hvm hw hB hz1 hk1 hS => ?_)
  obtain ⟨hP1, hK1, hD1⟩ := hB
  rw [ht] at hP1
  obtain ⟨hP, hD⟩ := va_join (wr := [(o_first, .inl (cy 3, 6, .inr (.inl n_2))), (o_second, .inl (cy 3, 6, .inr (.inl n_3)))]) (w1 := [(o, .inr (9, [.int o_width, .int o_height, .ref o_page, .ref o_tape, .int o_tapeLength, va_rf o_font, .ref o_spare, .int o_scale, .ref o_lineFrom, .ref o_lineTo, .ref o_lineWidth, .int o_lines, .int o_at, .int o_end, .int o_good, .ref o_flag, .ref o_px, .ref o_py, .int n_4, .ref o_first, .ref o_second, .int n_5]))]) hP hD [0] [1, 2] rfl rfl (by decide) (by decide) hk1 hFc hP1 hD1
  generalize H1 = H at hP hS ⊢
  have hP := hP.sub (ws' := [(o, .inr (9, [.int o_width, .int o_height, .ref o_page, .ref o_tape, .int o_tapeLength, va_rf o_font, .ref o_spare, .int o_scale, .ref o_lineFrom, .ref o_lineTo, .ref o_lineWidth, .int o_lines, .int o_at, .int o_end, .int o_good, .ref o_flag, .ref o_px, .ref o_py, .int n_4, .ref o_first, .ref o_second, .int n_5])), (o_first, .inl (cy 3, 6, .inr (.inl n_2))), (o_second, .inl (cy 3, 6, .inr (.inl n_3)))]) [2, 0, 1] rfl
  have hD := hD.sub (ws' := [(o, .inr (9, [.int o_width, .int o_height, .ref o_page, .ref o_tape, .int o_tapeLength, va_rf o_font, .ref o_spare, .int o_scale, .ref o_lineFrom, .ref o_lineTo, .ref o_lineWidth, .int o_lines, .int o_at, .int o_end, .int o_good, .ref o_flag, .ref o_px, .ref o_py, .int n_4, .ref o_first, .ref o_second, .int n_5])), (o_first, .inl (cy 3, 6, .inr (.inl n_2))), (o_second, .inl (cy 3, 6, .inr (.inl n_3)))]) [2, 0, 1] (by decide) rfl
  refine W.widen (k := 0) (n := 0) (by decide) (by decide) ?_
  refine lv_goto (tgt := 447) hx hb d_Mo_curve_329 (by decide) ?_
  cases h
  exact W.vret hx hb hr (fun t ht hW => ⟨⟨(), rfl, trivial, by rw [ht]; exact hP, va_K.moved hW.alike hK, hD⟩, hS.F ht⟩) hS.2.2 d_Mo_curve_447 hlocks
def P_Mo_curve_288   (x1 : Int64) (x3 : Int64) (x5 : Int64) (x7 : Int64) (x9 : Int64) (x11 : Int64) (x21 : Int32) (k0 : Int32) (o_touches : Int32) (o_turns : Int32) (o_first_f : Nat → Int64) (o_second_f : Nat → Int64) : Option (Int32 × Int32 × (Nat → Int64) × (Nat → Int64)) :=
  if x21 = k0 then (if x21 = 0 then (if (lg_cmp x7 (0 : Int64)) ≤ 0 then (some (o_touches, o_turns, o_first_f, o_second_f)) else (P_Mo_curve_354 x1 x3 x5 x7 x9 x11 x21 o_touches o_turns o_first_f o_second_f)) else (if 0 ≤ (lg_cmp x7 (0 : Int64)) then (some (o_touches, o_turns, o_first_f, o_second_f)) else (P_Mo_curve_354 x1 x3 x5 x7 x9 x11 x21 o_touches o_turns o_first_f o_second_f))) else (if k0 = 0 then (P_Mo_curve_323 (-1 : Int32) x11 x9 x7 x5 x3 x1 k0 x21 o_touches o_turns o_first_f o_second_f) else (P_Mo_curve_323 (1 : Int32) x11 x9 x7 x5 x3 x1 k0 x21 o_touches o_turns o_first_f o_second_f))
set_option maxHeartbeats 4000000 in
set_option maxRecDepth 100000 in
theorem w_Mo_curve_288 (C0 : Cx p s m args meth c A dC dI cy b_Mo_curve 23 none "GlyphPageModel") (o : Nat) (o_page : Nat) (o_tape : Nat) (o_spare : Nat) (o_lineFrom : Nat) (o_lineTo : Nat) (o_lineWidth : Nat) (o_flag : Nat) (o_px : Nat) (o_py : Nat) (o_first : Nat) (o_second : Nat) (o_width : Int32) (o_height : Int32) (o_tapeLength : Int32) (o_font : Option Nat) (o_scale : Int32) (o_lines : Int32) (o_at : Int32) (o_end : Int32) (o_good : Int32) (a1 : Int64) (a2 : Int64) (a3 : Int64) (a4 : Int64) (a5 : Int64) (a6 : Int64) (uu : Int32 × Int32 × (Nat → Int64) × (Nat → Int64))  (x1 : Int64) (x3 : Int64) (x5 : Int64) (x7 : Int64) (x9 : Int64) (x11 : Int64) (x21 : Int32) (k0 : Int32) (o_touches : Int32) (o_turns : Int32) (o_first_f : Nat → Int64) (o_second_f : Nat → Int64) {H : Heap} {locs : List Loc} {ls : Array Slot} (h : P_Mo_curve_288 x1 x3 x5 x7 x9 x11 x21 k0 o_touches o_turns o_first_f o_second_f = some uu) : va_P (dC, dI) classes [(o, .inr (9, [.int o_width, .int o_height, .ref o_page, .ref o_tape, .int o_tapeLength, va_rf o_font, .ref o_spare, .int o_scale, .ref o_lineFrom, .ref o_lineTo, .ref o_lineWidth, .int o_lines, .int o_at, .int o_end, .int o_good, .ref o_flag, .ref o_px, .ref o_py, .int o_touches, .ref o_first, .ref o_second, .int o_turns])), (o_first, .inl (cy 3, 6, .inr (.inl o_first_f))), (o_second, .inl (cy 3, 6, .inr (.inl o_second_f)))] H → va_D A [(o, .inr (9, [.int o_width, .int o_height, .ref o_page, .ref o_tape, .int o_tapeLength, va_rf o_font, .ref o_spare, .int o_scale, .ref o_lineFrom, .ref o_lineTo, .ref o_lineWidth, .int o_lines, .int o_at, .int o_end, .int o_good, .ref o_flag, .ref o_px, .ref o_py, .int o_touches, .ref o_first, .ref o_second, .int o_turns])), (o_first, .inl (cy 3, 6, .inr (.inl o_first_f))), (o_second, .inl (cy 3, 6, .inr (.inl o_second_f)))] → va_S A s.heap H locs → lv_has ls 23 [(0, .ref o), (1, .long x1), (3, .long x3), (5, .long x5), (7, .long x7), (9, .long x9), (11, .long x11), (21, .int x21)] → W p l e ({ frames := 5, cells := 0, slots := 0, locals := 167 } : Room) s m args below meth c H locs 0 0 (MQ below (va_Qv (fun _ : Unit => True) (fun _ t => va_P (dC, dI) classes [(o, .inr (9, [.int o_width, .int o_height, .ref o_page, .ref o_tape, .int o_tapeLength, va_rf o_font, .ref o_spare, .int o_scale, .ref o_lineFrom, .ref o_lineTo, .ref o_lineWidth, .int o_lines, .int o_at, .int o_end, .int o_good, .ref o_flag, .ref o_px, .ref o_py, .int uu.1, .ref o_first, .ref o_second, .int uu.2.1])), (o_first, .inl (cy 3, 6, .inr (.inl uu.2.2.1))), (o_second, .inl (cy 3, 6, .inr (.inl uu.2.2.2)))] t.heap ∧ va_K (dC, dI) classes (TY cy) t ∧ va_D A [(o, .inr (9, [.int o_width, .int o_height, .ref o_page, .ref o_tape, .int o_tapeLength, va_rf o_font, .ref o_spare, .int o_scale, .ref o_lineFrom, .ref o_lineTo, .ref o_lineWidth, .int o_lines, .int o_at, .int o_end, .int o_good, .ref o_flag, .ref o_px, .ref o_py, .int uu.1, .ref o_first, .ref o_second, .int uu.2.1])), (o_first, .inl (cy 3, 6, .inr (.inl uu.2.2.1))), (o_second, .inl (cy 3, 6, .inr (.inl uu.2.2.2)))]) A) args s 0 0 A) (F0 m 288 ls [.int k0]) := by
  intro hP hD hS hl
  obtain ⟨hx, hb, hr, hlocks, hml, hown, htsG, hA, hK⟩ := id C0
  unfold P_Mo_curve_288 at h
  refine lv_istore (lv' := [(22, .int k0), (0, .ref o), (1, .long x1), (3, .long x3), (5, .long x5), (7, .long x7), (9, .long x9), (11, .long x11), (21, .int x21)]) hx hb d_Mo_curve_288 hl (by decide) rfl (fun ls hl => ?_)
  refine lv_iload hx hb d_Mo_curve_290 (lv_at hl 8 rfl) ?_
  refine lv_iload hx hb d_Mo_curve_292 (lv_at hl 0 rfl) ?_
  refine lv_icmp_eq (tgt := 332) hx hb d_Mo_curve_294 (by decide) (fun c_1 => ?_) (fun c_1 => ?_)
  · replace h := (if_pos c_1).symm.trans h
    refine lv_iload hx hb d_Mo_curve_332 (lv_at hl 8 rfl) ?_
    refine lv_if_eq (tgt := 347) hx hb d_Mo_curve_334 (by decide) (fun c_2 => ?_) (fun c_2 => ?_)
    · replace h := (if_pos c_2).symm.trans h
      refine lv_lload hx hb d_Mo_curve_347 (lv_at hl 5 rfl) ?_
      refine lv_lconst (v := (0 : Int64)) hx hb d_Mo_curve_349 (by decide) ?_
      refine W.lcmp hx hb d_Mo_curve_350 ?_
      refine lv_if_le (tgt := 447) hx hb d_Mo_curve_351 (by decide) (fun c_3 => ?_) (fun c_3 => ?_)
      · replace h := (if_pos c_3).symm.trans h
        cases h
        exact W.vret hx hb hr (fun t ht hW => ⟨⟨(), rfl, trivial, by rw [ht]; exact hP, va_K.moved hW.alike hK, hD⟩, hS.F ht⟩) hS.2.2 d_Mo_curve_447 hlocks
      · replace h := (if_neg c_3).symm.trans h
        exact w_Mo_curve_354 C0 o o_page o_tape o_spare o_lineFrom o_lineTo o_lineWidth o_flag o_px o_py o_first o_second o_width o_height o_tapeLength o_font o_scale o_lines o_at o_end o_good a1 a2 a3 a4 a5 a6 uu  x1 x3 x5 x7 x9 x11 x21 o_touches o_turns o_first_f o_second_f h hP hD hS (lv_sub hl [1, 2, 3, 4, 5, 6, 7, 8] rfl)
    · replace h := (if_neg c_2).symm.trans h
      refine lv_lload hx hb d_Mo_curve_337 (lv_at hl 5 rfl) ?_
      refine lv_lconst (v := (0 : Int64)) hx hb d_Mo_curve_339 (by decide) ?_
      refine W.lcmp hx hb d_Mo_curve_340 ?_
      refine lv_if_ge (tgt := 447) hx hb d_Mo_curve_341 (by decide) (fun c_4 => ?_) (fun c_4 => ?_)
      · replace h := (if_pos c_4).symm.trans h
        cases h
        exact W.vret hx hb hr (fun t ht hW => ⟨⟨(), rfl, trivial, by rw [ht]; exact hP, va_K.moved hW.alike hK, hD⟩, hS.F ht⟩) hS.2.2 d_Mo_curve_447 hlocks
      · replace h := (if_neg c_4).symm.trans h
        refine lv_goto (tgt := 354) hx hb d_Mo_curve_344 (by decide) ?_
        exact w_Mo_curve_354 C0 o o_page o_tape o_spare o_lineFrom o_lineTo o_lineWidth o_flag o_px o_py o_first o_second o_width o_height o_tapeLength o_font o_scale o_lines o_at o_end o_good a1 a2 a3 a4 a5 a6 uu  x1 x3 x5 x7 x9 x11 x21 o_touches o_turns o_first_f o_second_f h hP hD hS (lv_sub hl [1, 2, 3, 4, 5, 6, 7, 8] rfl)
  · replace h := (if_neg c_1).symm.trans h
    refine lv_aload_n hx hb d_Mo_curve_297 rfl (lv_at hl 1 rfl) ?_
    refine lv_iload hx hb d_Mo_curve_298 (lv_at hl 8 rfl) ?_
    refine lv_iload hx hb d_Mo_curve_300 (lv_at hl 0 rfl) ?_
    refine lv_aload_n hx hb d_Mo_curve_302 rfl (lv_at hl 1 rfl) ?_
    refine lv_lload_n hx hb d_Mo_curve_303 rfl (lv_at hl 2 rfl) ?_
    refine lv_lload_n hx hb d_Mo_curve_304 rfl (lv_at hl 3 rfl) ?_
    refine lv_lload hx hb d_Mo_curve_305 (lv_at hl 4 rfl) ?_
    refine lv_lload hx hb d_Mo_curve_307 (lv_at hl 5 rfl) ?_
    refine lv_lload hx hb d_Mo_curve_309 (lv_at hl 6 rfl) ?_
    refine lv_lload hx hb d_Mo_curve_311 (lv_at hl 7 rfl) ?_
    refine lv_iload hx hb d_Mo_curve_313 (lv_at hl 0 rfl) ?_
    refine lv_if_eq (tgt := 322) hx hb d_Mo_curve_315 (by decide) (fun c_5 => ?_) (fun c_5 => ?_)
    · replace h := (if_pos c_5).symm.trans h
      refine lv_iconst (v := (-1 : Int32)) hx hb d_Mo_curve_322 (by decide) ?_
      exact w_Mo_curve_323 C0 o o_page o_tape o_spare o_lineFrom o_lineTo o_lineWidth o_flag o_px o_py o_first o_second o_width o_height o_tapeLength o_font o_scale o_lines o_at o_end o_good a1 a2 a3 a4 a5 a6 uu  (-1 : Int32) x11 x9 x7 x5 x3 x1 k0 x21 o_touches o_turns o_first_f o_second_f h hP hD hS (lv_sub hl [] rfl)
    · replace h := (if_neg c_5).symm.trans h
      refine lv_iconst (v := (1 : Int32)) hx hb d_Mo_curve_318 (by decide) ?_
      refine lv_goto (tgt := 323) hx hb d_Mo_curve_319 (by decide) ?_
      exact w_Mo_curve_323 C0 o o_page o_tape o_spare o_lineFrom o_lineTo o_lineWidth o_flag o_px o_py o_first o_second o_width o_height o_tapeLength o_font o_scale o_lines o_at o_end o_good a1 a2 a3 a4 a5 a6 uu  (1 : Int32) x11 x9 x7 x5 x3 x1 k0 x21 o_touches o_turns o_first_f o_second_f h hP hD hS (lv_sub hl [] rfl)
def P_Mo_curve_274   (x1 : Int64) (x3 : Int64) (x5 : Int64) (x7 : Int64) (x9 : Int64) (x11 : Int64) (k0 : Int32) (o_touches : Int32) (o_turns : Int32) (o_first_f : Nat → Int64) (o_second_f : Nat → Int64) : Option (Int32 × Int32 × (Nat → Int64) × (Nat → Int64)) :=
  if (lg_cmp x11 (0 : Int64)) < 0 then (P_Mo_curve_288 x1 x3 x5 x7 x9 x11 k0 (0 : Int32) o_touches o_turns o_first_f o_second_f) else (P_Mo_curve_288 x1 x3 x5 x7 x9 x11 k0 (1 : Int32) o_touches o_turns o_first_f o_second_f)
set_option maxHeartbeats 4000000 in
set_option maxRecDepth 100000 in
theorem w_Mo_curve_274 (C0 : Cx p s m args meth c A dC dI cy b_Mo_curve 23 none "GlyphPageModel") (o : Nat) (o_page : Nat) (o_tape : Nat) (o_spare : Nat) (o_lineFrom : Nat) (o_lineTo : Nat) (o_lineWidth : Nat) (o_flag : Nat) (o_px : Nat) (o_py : Nat) (o_first : Nat) (o_second : Nat) (o_width : Int32) (o_height : Int32) (o_tapeLength : Int32) (o_font : Option Nat) (o_scale : Int32) (o_lines : Int32) (o_at : Int32) (o_end : Int32) (o_good : Int32) (a1 : Int64) (a2 : Int64) (a3 : Int64) (a4 : Int64) (a5 : Int64) (a6 : Int64) (uu : Int32 × Int32 × (Nat → Int64) × (Nat → Int64))  (x1 : Int64) (x3 : Int64) (x5 : Int64) (x7 : Int64) (x9 : Int64) (x11 : Int64) (k0 : Int32) (o_touches : Int32) (o_turns : Int32) (o_first_f : Nat → Int64) (o_second_f : Nat → Int64) {H : Heap} {locs : List Loc} {ls : Array Slot} (h : P_Mo_curve_274 x1 x3 x5 x7 x9 x11 k0 o_touches o_turns o_first_f o_second_f = some uu) : va_P (dC, dI) classes [(o, .inr (9, [.int o_width, .int o_height, .ref o_page, .ref o_tape, .int o_tapeLength, va_rf o_font, .ref o_spare, .int o_scale, .ref o_lineFrom, .ref o_lineTo, .ref o_lineWidth, .int o_lines, .int o_at, .int o_end, .int o_good, .ref o_flag, .ref o_px, .ref o_py, .int o_touches, .ref o_first, .ref o_second, .int o_turns])), (o_first, .inl (cy 3, 6, .inr (.inl o_first_f))), (o_second, .inl (cy 3, 6, .inr (.inl o_second_f)))] H → va_D A [(o, .inr (9, [.int o_width, .int o_height, .ref o_page, .ref o_tape, .int o_tapeLength, va_rf o_font, .ref o_spare, .int o_scale, .ref o_lineFrom, .ref o_lineTo, .ref o_lineWidth, .int o_lines, .int o_at, .int o_end, .int o_good, .ref o_flag, .ref o_px, .ref o_py, .int o_touches, .ref o_first, .ref o_second, .int o_turns])), (o_first, .inl (cy 3, 6, .inr (.inl o_first_f))), (o_second, .inl (cy 3, 6, .inr (.inl o_second_f)))] → va_S A s.heap H locs → lv_has ls 23 [(0, .ref o), (1, .long x1), (3, .long x3), (5, .long x5), (7, .long x7), (9, .long x9), (11, .long x11)] → W p l e ({ frames := 5, cells := 0, slots := 0, locals := 167 } : Room) s m args below meth c H locs 0 0 (MQ below (va_Qv (fun _ : Unit => True) (fun _ t => va_P (dC, dI) classes [(o, .inr (9, [.int o_width, .int o_height, .ref o_page, .ref o_tape, .int o_tapeLength, va_rf o_font, .ref o_spare, .int o_scale, .ref o_lineFrom, .ref o_lineTo, .ref o_lineWidth, .int o_lines, .int o_at, .int o_end, .int o_good, .ref o_flag, .ref o_px, .ref o_py, .int uu.1, .ref o_first, .ref o_second, .int uu.2.1])), (o_first, .inl (cy 3, 6, .inr (.inl uu.2.2.1))), (o_second, .inl (cy 3, 6, .inr (.inl uu.2.2.2)))] t.heap ∧ va_K (dC, dI) classes (TY cy) t ∧ va_D A [(o, .inr (9, [.int o_width, .int o_height, .ref o_page, .ref o_tape, .int o_tapeLength, va_rf o_font, .ref o_spare, .int o_scale, .ref o_lineFrom, .ref o_lineTo, .ref o_lineWidth, .int o_lines, .int o_at, .int o_end, .int o_good, .ref o_flag, .ref o_px, .ref o_py, .int uu.1, .ref o_first, .ref o_second, .int uu.2.1])), (o_first, .inl (cy 3, 6, .inr (.inl uu.2.2.1))), (o_second, .inl (cy 3, 6, .inr (.inl uu.2.2.2)))]) A) args s 0 0 A) (F0 m 274 ls [.int k0]) := by
  intro hP hD hS hl
  obtain ⟨hx, hb, hr, hlocks, hml, hown, htsG, hA, hK⟩ := id C0
  unfold P_Mo_curve_274 at h
  refine lv_istore (lv' := [(21, .int k0), (0, .ref o), (1, .long x1), (3, .long x3), (5, .long x5), (7, .long x7), (9, .long x9), (11, .long x11)]) hx hb d_Mo_curve_274 hl (by decide) rfl (fun ls hl => ?_)
  refine lv_lload hx hb d_Mo_curve_276 (lv_at hl 7 rfl) ?_
  refine lv_lconst (v := (0 : Int64)) hx hb d_Mo_curve_278 (by decide) ?_
  refine W.lcmp hx hb d_Mo_curve_279 ?_
  refine lv_if_lt (tgt := 287) hx hb d_Mo_curve_280 (by decide) (fun c_1 => ?_) (fun c_1 => ?_)
  · replace h := (if_pos c_1).symm.trans h
    refine lv_iconst (v := (0 : Int32)) hx hb d_Mo_curve_287 (by decide) ?_
    exact w_Mo_curve_288 C0 o o_page o_tape o_spare o_lineFrom o_lineTo o_lineWidth o_flag o_px o_py o_first o_second o_width o_height o_tapeLength o_font o_scale o_lines o_at o_end o_good a1 a2 a3 a4 a5 a6 uu  x1 x3 x5 x7 x9 x11 k0 (0 : Int32) o_touches o_turns o_first_f o_second_f h hP hD hS (lv_sub hl [1, 2, 3, 4, 5, 6, 7, 0] rfl)
  · replace h := (if_neg c_1).symm.trans h
    refine lv_iconst (v := (1 : Int32)) hx hb d_Mo_curve_283 (by decide) ?_
    refine lv_goto (tgt := 288) hx hb d_Mo_curve_284 (by decide) ?_
    exact w_Mo_curve_288 C0 o o_page o_tape o_spare o_lineFrom o_lineTo o_lineWidth o_flag o_px o_py o_first o_second o_width o_height o_tapeLength o_font o_scale o_lines o_at o_end o_good a1 a2 a3 a4 a5 a6 uu  x1 x3 x5 x7 x9 x11 k0 (1 : Int32) o_touches o_turns o_first_f o_second_f h hP hD hS (lv_sub hl [1, 2, 3, 4, 5, 6, 7, 0] rfl)
def P_Mo_curve_255   (x1 : Int64) (x3 : Int64) (x5 : Int64) (x7 : Int64) (x9 : Int64) (x11 : Int64) (o_touches : Int32) (o_turns : Int32) (o_first_f : Nat → Int64) (o_second_f : Nat → Int64) : Option (Int32 × Int32 × (Nat → Int64) × (Nat → Int64)) :=
  if o_touches = 0 then (if (lg_cmp x3 (0 : Int64)) < 0 then (P_Mo_curve_274 x1 x3 x5 x7 x9 x11 (0 : Int32) o_touches o_turns o_first_f o_second_f) else (P_Mo_curve_274 x1 x3 x5 x7 x9 x11 (1 : Int32) o_touches o_turns o_first_f o_second_f)) else (some (o_touches, o_turns, o_first_f, o_second_f))
set_option maxHeartbeats 4000000 in
set_option maxRecDepth 100000 in
theorem w_Mo_curve_255 (C0 : Cx p s m args meth c A dC dI cy b_Mo_curve 23 none "GlyphPageModel") (o : Nat) (o_page : Nat) (o_tape : Nat) (o_spare : Nat) (o_lineFrom : Nat) (o_lineTo : Nat) (o_lineWidth : Nat) (o_flag : Nat) (o_px : Nat) (o_py : Nat) (o_first : Nat) (o_second : Nat) (o_width : Int32) (o_height : Int32) (o_tapeLength : Int32) (o_font : Option Nat) (o_scale : Int32) (o_lines : Int32) (o_at : Int32) (o_end : Int32) (o_good : Int32) (a1 : Int64) (a2 : Int64) (a3 : Int64) (a4 : Int64) (a5 : Int64) (a6 : Int64) (uu : Int32 × Int32 × (Nat → Int64) × (Nat → Int64))  (x1 : Int64) (x3 : Int64) (x5 : Int64) (x7 : Int64) (x9 : Int64) (x11 : Int64) (o_touches : Int32) (o_turns : Int32) (o_first_f : Nat → Int64) (o_second_f : Nat → Int64) {H : Heap} {locs : List Loc} {ls : Array Slot} (h : P_Mo_curve_255 x1 x3 x5 x7 x9 x11 o_touches o_turns o_first_f o_second_f = some uu) : va_P (dC, dI) classes [(o, .inr (9, [.int o_width, .int o_height, .ref o_page, .ref o_tape, .int o_tapeLength, va_rf o_font, .ref o_spare, .int o_scale, .ref o_lineFrom, .ref o_lineTo, .ref o_lineWidth, .int o_lines, .int o_at, .int o_end, .int o_good, .ref o_flag, .ref o_px, .ref o_py, .int o_touches, .ref o_first, .ref o_second, .int o_turns])), (o_first, .inl (cy 3, 6, .inr (.inl o_first_f))), (o_second, .inl (cy 3, 6, .inr (.inl o_second_f)))] H → va_D A [(o, .inr (9, [.int o_width, .int o_height, .ref o_page, .ref o_tape, .int o_tapeLength, va_rf o_font, .ref o_spare, .int o_scale, .ref o_lineFrom, .ref o_lineTo, .ref o_lineWidth, .int o_lines, .int o_at, .int o_end, .int o_good, .ref o_flag, .ref o_px, .ref o_py, .int o_touches, .ref o_first, .ref o_second, .int o_turns])), (o_first, .inl (cy 3, 6, .inr (.inl o_first_f))), (o_second, .inl (cy 3, 6, .inr (.inl o_second_f)))] → va_S A s.heap H locs → lv_has ls 23 [(0, .ref o), (1, .long x1), (3, .long x3), (5, .long x5), (7, .long x7), (9, .long x9), (11, .long x11)] → W p l e ({ frames := 5, cells := 0, slots := 0, locals := 167 } : Room) s m args below meth c H locs 0 0 (MQ below (va_Qv (fun _ : Unit => True) (fun _ t => va_P (dC, dI) classes [(o, .inr (9, [.int o_width, .int o_height, .ref o_page, .ref o_tape, .int o_tapeLength, va_rf o_font, .ref o_spare, .int o_scale, .ref o_lineFrom, .ref o_lineTo, .ref o_lineWidth, .int o_lines, .int o_at, .int o_end, .int o_good, .ref o_flag, .ref o_px, .ref o_py, .int uu.1, .ref o_first, .ref o_second, .int uu.2.1])), (o_first, .inl (cy 3, 6, .inr (.inl uu.2.2.1))), (o_second, .inl (cy 3, 6, .inr (.inl uu.2.2.2)))] t.heap ∧ va_K (dC, dI) classes (TY cy) t ∧ va_D A [(o, .inr (9, [.int o_width, .int o_height, .ref o_page, .ref o_tape, .int o_tapeLength, va_rf o_font, .ref o_spare, .int o_scale, .ref o_lineFrom, .ref o_lineTo, .ref o_lineWidth, .int o_lines, .int o_at, .int o_end, .int o_good, .ref o_flag, .ref o_px, .ref o_py, .int uu.1, .ref o_first, .ref o_second, .int uu.2.1])), (o_first, .inl (cy 3, 6, .inr (.inl uu.2.2.1))), (o_second, .inl (cy 3, 6, .inr (.inl uu.2.2.2)))]) A) args s 0 0 A) (F0 m 255 ls []) := by
  intro hP hD hS hl
  obtain ⟨hx, hb, hr, hlocks, hml, hown, htsG, hA, hK⟩ := id C0
  unfold P_Mo_curve_255 at h
  refine lv_aload_n hx hb d_Mo_curve_255 rfl (lv_at hl 0 rfl) ?_
  refine va_get (D := (dC, dI)) (ci := 9) (v := .int o_touches) (C := "GlyphPageModel") (T := F_Mo) (N := 22) hx hb htsG iG_Mo hown hK hP 0 rfl rfl 18 (by decide) (htsG _ mW874) (fun _ h9 => h9) rfl d_Mo_curve_256 ?_
  refine lv_if_eq (tgt := 263) hx hb d_Mo_curve_259 (by decide) (fun c_1 => ?_) (fun c_1 => ?_)
  · replace h := (if_pos c_1).symm.trans h
    refine lv_lload_n hx hb d_Mo_curve_263 rfl (lv_at hl 2 rfl) ?_
    refine lv_lconst (v := (0 : Int64)) hx hb d_Mo_curve_264 (by decide) ?_
    refine W.lcmp hx hb d_Mo_curve_265 ?_
    refine lv_if_lt (tgt := 273) hx hb d_Mo_curve_266 (by decide) (fun c_2 => ?_) (fun c_2 => ?_)
    · replace h := (if_pos c_2).symm.trans h
      refine lv_iconst (v := (0 : Int32)) hx hb d_Mo_curve_273 (by decide) ?_
      exact w_Mo_curve_274 C0 o o_page o_tape o_spare o_lineFrom o_lineTo o_lineWidth o_flag o_px o_py o_first o_second o_width o_height o_tapeLength o_font o_scale o_lines o_at o_end o_good a1 a2 a3 a4 a5 a6 uu  x1 x3 x5 x7 x9 x11 (0 : Int32) o_touches o_turns o_first_f o_second_f h hP hD hS (lv_sub hl [0, 1, 2, 3, 4, 5, 6] rfl)
    · replace h := (if_neg c_2).symm.trans h
      refine lv_iconst (v := (1 : Int32)) hx hb d_Mo_curve_269 (by decide) ?_
      refine lv_goto (tgt := 274) hx hb d_Mo_curve_270 (by decide) ?_
      exact w_Mo_curve_274 C0 o o_page o_tape o_spare o_lineFrom o_lineTo o_lineWidth o_flag o_px o_py o_first o_second o_width o_height o_tapeLength o_font o_scale o_lines o_at o_end o_good a1 a2 a3 a4 a5 a6 uu  x1 x3 x5 x7 x9 x11 (1 : Int32) o_touches o_turns o_first_f o_second_f h hP hD hS (lv_sub hl [0, 1, 2, 3, 4, 5, 6] rfl)
  · replace h := (if_neg c_1).symm.trans h
    cases h
    exact W.vret hx hb hr (fun t ht hW => ⟨⟨(), rfl, trivial, by rw [ht]; exact hP, va_K.moved hW.alike hK, hD⟩, hS.F ht⟩) hS.2.2 d_Mo_curve_262 hlocks
def P_Mo_curve_182   (x1 : Int64) (x3 : Int64) (x5 : Int64) (x7 : Int64) (x9 : Int64) (x11 : Int64) (o_touches : Int32) (o_turns : Int32) (o_first_f : Nat → Int64) (o_second_f : Nat → Int64) : Option (Int32 × Int32 × (Nat → Int64) × (Nat → Int64)) :=
  P_Mo_curve_255 x1 x3 x5 x7 x9 x11 o_touches o_turns o_first_f o_second_f
set_option maxHeartbeats 4000000 in
set_option maxRecDepth 100000 in
theorem w_Mo_curve_182 (C0 : Cx p s m args meth c A dC dI cy b_Mo_curve 23 none "GlyphPageModel") (o : Nat) (o_page : Nat) (o_tape : Nat) (o_spare : Nat) (o_lineFrom : Nat) (o_lineTo : Nat) (o_lineWidth : Nat) (o_flag : Nat) (o_px : Nat) (o_py : Nat) (o_first : Nat) (o_second : Nat) (o_width : Int32) (o_height : Int32) (o_tapeLength : Int32) (o_font : Option Nat) (o_scale : Int32) (o_lines : Int32) (o_at : Int32) (o_end : Int32) (o_good : Int32) (a1 : Int64) (a2 : Int64) (a3 : Int64) (a4 : Int64) (a5 : Int64) (a6 : Int64) (uu : Int32 × Int32 × (Nat → Int64) × (Nat → Int64))  (x1 : Int64) (x3 : Int64) (x5 : Int64) (x7 : Int64) (x9 : Int64) (x11 : Int64) (o_touches : Int32) (o_turns : Int32) (o_first_f : Nat → Int64) (o_second_f : Nat → Int64) {H : Heap} {locs : List Loc} {ls : Array Slot} (h : P_Mo_curve_182 x1 x3 x5 x7 x9 x11 o_touches o_turns o_first_f o_second_f = some uu) : va_P (dC, dI) classes [(o, .inr (9, [.int o_width, .int o_height, .ref o_page, .ref o_tape, .int o_tapeLength, va_rf o_font, .ref o_spare, .int o_scale, .ref o_lineFrom, .ref o_lineTo, .ref o_lineWidth, .int o_lines, .int o_at, .int o_end, .int o_good, .ref o_flag, .ref o_px, .ref o_py, .int o_touches, .ref o_first, .ref o_second, .int o_turns])), (o_first, .inl (cy 3, 6, .inr (.inl o_first_f))), (o_second, .inl (cy 3, 6, .inr (.inl o_second_f)))] H → va_D A [(o, .inr (9, [.int o_width, .int o_height, .ref o_page, .ref o_tape, .int o_tapeLength, va_rf o_font, .ref o_spare, .int o_scale, .ref o_lineFrom, .ref o_lineTo, .ref o_lineWidth, .int o_lines, .int o_at, .int o_end, .int o_good, .ref o_flag, .ref o_px, .ref o_py, .int o_touches, .ref o_first, .ref o_second, .int o_turns])), (o_first, .inl (cy 3, 6, .inr (.inl o_first_f))), (o_second, .inl (cy 3, 6, .inr (.inl o_second_f)))] → va_S A s.heap H locs → lv_has ls 23 [(0, .ref o), (1, .long x1), (3, .long x3), (5, .long x5), (7, .long x7), (9, .long x9), (11, .long x11)] → W p l e ({ frames := 5, cells := 0, slots := 0, locals := 167 } : Room) s m args below meth c H locs 0 0 (MQ below (va_Qv (fun _ : Unit => True) (fun _ t => va_P (dC, dI) classes [(o, .inr (9, [.int o_width, .int o_height, .ref o_page, .ref o_tape, .int o_tapeLength, va_rf o_font, .ref o_spare, .int o_scale, .ref o_lineFrom, .ref o_lineTo, .ref o_lineWidth, .int o_lines, .int o_at, .int o_end, .int o_good, .ref o_flag, .ref o_px, .ref o_py, .int uu.1, .ref o_first, .ref o_second, .int uu.2.1])), (o_first, .inl (cy 3, 6, .inr (.inl uu.2.2.1))), (o_second, .inl (cy 3, 6, .inr (.inl uu.2.2.2)))] t.heap ∧ va_K (dC, dI) classes (TY cy) t ∧ va_D A [(o, .inr (9, [.int o_width, .int o_height, .ref o_page, .ref o_tape, .int o_tapeLength, va_rf o_font, .ref o_spare, .int o_scale, .ref o_lineFrom, .ref o_lineTo, .ref o_lineWidth, .int o_lines, .int o_at, .int o_end, .int o_good, .ref o_flag, .ref o_px, .ref o_py, .int uu.1, .ref o_first, .ref o_second, .int uu.2.1])), (o_first, .inl (cy 3, 6, .inr (.inl uu.2.2.1))), (o_second, .inl (cy 3, 6, .inr (.inl uu.2.2.2)))]) A) args s 0 0 A) (F0 m 182 ls []) := by
  intro hP hD hS hl
  obtain ⟨hx, hb, hr, hlocks, hml, hown, htsG, hA, hK⟩ := id C0
  unfold P_Mo_curve_182 at h
  refine lv_goto (tgt := 255) hx hb d_Mo_curve_182 (by decide) ?_
  exact w_Mo_curve_255 C0 o o_page o_tape o_spare o_lineFrom o_lineTo o_lineWidth o_flag o_px o_py o_first o_second o_width o_height o_tapeLength o_font o_scale o_lines o_at o_end o_good a1 a2 a3 a4 a5 a6 uu  x1 x3 x5 x7 x9 x11 o_touches o_turns o_first_f o_second_f h hP hD hS (lv_sub hl [0, 1, 2, 3, 4, 5, 6] rfl)
def P_Mo_curve_177   (x1 : Int64) (x3 : Int64) (x5 : Int64) (x7 : Int64) (x9 : Int64) (x11 : Int64) (o_touches : Int32) (o_turns : Int32) (o_first_f : Nat → Int64) (o_second_f : Nat → Int64) : Option (Int32 × Int32 × (Nat → Int64) × (Nat → Int64)) :=
  P_Mo_curve_182 x1 x3 x5 x7 x9 x11 (1 : Int32) o_turns o_first_f o_second_f
set_option maxHeartbeats 4000000 in
set_option maxRecDepth 100000 in
theorem w_Mo_curve_177 (C0 : Cx p s m args meth c A dC dI cy b_Mo_curve 23 none "GlyphPageModel") (o : Nat) (o_page : Nat) (o_tape : Nat) (o_spare : Nat) (o_lineFrom : Nat) (o_lineTo : Nat) (o_lineWidth : Nat) (o_flag : Nat) (o_px : Nat) (o_py : Nat) (o_first : Nat) (o_second : Nat) (o_width : Int32) (o_height : Int32) (o_tapeLength : Int32) (o_font : Option Nat) (o_scale : Int32) (o_lines : Int32) (o_at : Int32) (o_end : Int32) (o_good : Int32) (a1 : Int64) (a2 : Int64) (a3 : Int64) (a4 : Int64) (a5 : Int64) (a6 : Int64) (uu : Int32 × Int32 × (Nat → Int64) × (Nat → Int64))  (x1 : Int64) (x3 : Int64) (x5 : Int64) (x7 : Int64) (x9 : Int64) (x11 : Int64) (o_touches : Int32) (o_turns : Int32) (o_first_f : Nat → Int64) (o_second_f : Nat → Int64) {H : Heap} {locs : List Loc} {ls : Array Slot} (h : P_Mo_curve_177 x1 x3 x5 x7 x9 x11 o_touches o_turns o_first_f o_second_f = some uu) : va_P (dC, dI) classes [(o, .inr (9, [.int o_width, .int o_height, .ref o_page, .ref o_tape, .int o_tapeLength, va_rf o_font, .ref o_spare, .int o_scale, .ref o_lineFrom, .ref o_lineTo, .ref o_lineWidth, .int o_lines, .int o_at, .int o_end, .int o_good, .ref o_flag, .ref o_px, .ref o_py, .int o_touches, .ref o_first, .ref o_second, .int o_turns])), (o_first, .inl (cy 3, 6, .inr (.inl o_first_f))), (o_second, .inl (cy 3, 6, .inr (.inl o_second_f)))] H → va_D A [(o, .inr (9, [.int o_width, .int o_height, .ref o_page, .ref o_tape, .int o_tapeLength, va_rf o_font, .ref o_spare, .int o_scale, .ref o_lineFrom, .ref o_lineTo, .ref o_lineWidth, .int o_lines, .int o_at, .int o_end, .int o_good, .ref o_flag, .ref o_px, .ref o_py, .int o_touches, .ref o_first, .ref o_second, .int o_turns])), (o_first, .inl (cy 3, 6, .inr (.inl o_first_f))), (o_second, .inl (cy 3, 6, .inr (.inl o_second_f)))] → va_S A s.heap H locs → lv_has ls 23 [(0, .ref o), (1, .long x1), (3, .long x3), (5, .long x5), (7, .long x7), (9, .long x9), (11, .long x11)] → W p l e ({ frames := 5, cells := 0, slots := 0, locals := 167 } : Room) s m args below meth c H locs 0 0 (MQ below (va_Qv (fun _ : Unit => True) (fun _ t => va_P (dC, dI) classes [(o, .inr (9, [.int o_width, .int o_height, .ref o_page, .ref o_tape, .int o_tapeLength, va_rf o_font, .ref o_spare, .int o_scale, .ref o_lineFrom, .ref o_lineTo, .ref o_lineWidth, .int o_lines, .int o_at, .int o_end, .int o_good, .ref o_flag, .ref o_px, .ref o_py, .int uu.1, .ref o_first, .ref o_second, .int uu.2.1])), (o_first, .inl (cy 3, 6, .inr (.inl uu.2.2.1))), (o_second, .inl (cy 3, 6, .inr (.inl uu.2.2.2)))] t.heap ∧ va_K (dC, dI) classes (TY cy) t ∧ va_D A [(o, .inr (9, [.int o_width, .int o_height, .ref o_page, .ref o_tape, .int o_tapeLength, va_rf o_font, .ref o_spare, .int o_scale, .ref o_lineFrom, .ref o_lineTo, .ref o_lineWidth, .int o_lines, .int o_at, .int o_end, .int o_good, .ref o_flag, .ref o_px, .ref o_py, .int uu.1, .ref o_first, .ref o_second, .int uu.2.1])), (o_first, .inl (cy 3, 6, .inr (.inl uu.2.2.1))), (o_second, .inl (cy 3, 6, .inr (.inl uu.2.2.2)))]) A) args s 0 0 A) (F0 m 177 ls []) := by
  intro hP hD hS hl
  obtain ⟨hx, hb, hr, hlocks, hml, hown, htsG, hA, hK⟩ := id C0
  unfold P_Mo_curve_177 at h
  refine lv_aload_n hx hb d_Mo_curve_177 rfl (lv_at hl 0 rfl) ?_
  refine lv_iconst (v := (1 : Int32)) hx hb d_Mo_curve_178 (by decide) ?_
  refine va_put (D := (dC, dI)) (ci := 9) (v := .int (1 : Int32)) (ty := .boolean) (C := "GlyphPageModel") (T := F_Mo) (N := 22) hx hb htsG iG_Mo t_Mo t_Mo_ok n_Mo hown hK hP hD hS 0 rfl rfl 18 (by decide) (htsG _ mW874) (fun _ h9 => h9) rfl (by decide +kernel) rfl rfl (Nat.le_of_ble_eq_true rfl) d_Mo_curve_179 (fun H locs hP hD hS => ?_)
  have hP : va_P (dC, dI) classes [(o, .inr (9, [.int o_width, .int o_height, .ref o_page, .ref o_tape, .int o_tapeLength, va_rf o_font, .ref o_spare, .int o_scale, .ref o_lineFrom, .ref o_lineTo, .ref o_lineWidth, .int o_lines, .int o_at, .int o_end, .int o_good, .ref o_flag, .ref o_px, .ref o_py, .int (1 : Int32), .ref o_first, .ref o_second, .int o_turns])), (o_first, .inl (cy 3, 6, .inr (.inl o_first_f))), (o_second, .inl (cy 3, 6, .inr (.inl o_second_f)))] H := hP
  have hD : va_D A [(o, .inr (9, [.int o_width, .int o_height, .ref o_page, .ref o_tape, .int o_tapeLength, va_rf o_font, .ref o_spare, .int o_scale, .ref o_lineFrom, .ref o_lineTo, .ref o_lineWidth, .int o_lines, .int o_at, .int o_end, .int o_good, .ref o_flag, .ref o_px, .ref o_py, .int (1 : Int32), .ref o_first, .ref o_second, .int o_turns])), (o_first, .inl (cy 3, 6, .inr (.inl o_first_f))), (o_second, .inl (cy 3, 6, .inr (.inl o_second_f)))] := hD
  exact w_Mo_curve_182 C0 o o_page o_tape o_spare o_lineFrom o_lineTo o_lineWidth o_flag o_px o_py o_first o_second o_width o_height o_tapeLength o_font o_scale o_lines o_at o_end o_good a1 a2 a3 a4 a5 a6 uu  x1 x3 x5 x7 x9 x11 (1 : Int32) o_turns o_first_f o_second_f h hP hD hS (lv_sub hl [0, 1, 2, 3, 4, 5, 6] rfl)
def P_Mo_curve_142   (x1 : Int64) (x3 : Int64) (x5 : Int64) (x7 : Int64) (x9 : Int64) (x11 : Int64) (x21 : Int32) (x22 : Int32) (o_touches : Int32) (o_turns : Int32) (o_first_f : Nat → Int64) (o_second_f : Nat → Int64) : Option (Int32 × Int32 × (Nat → Int64) × (Nat → Int64)) :=
  if x22 = 0 then (P_Mo_curve_182 x1 x3 x5 x7 x9 x11 o_touches o_turns o_first_f o_second_f) else (if x21 = 0 then ((P_Mo_zero x3 x7 x11).bind fun r_3 => if r_3 = 0 then (P_Mo_curve_182 x1 x3 x5 x7 x9 x11 o_touches o_turns o_first_f o_second_f) else (P_Mo_curve_177 x1 x3 x5 x7 x9 x11 o_touches o_turns o_first_f o_second_f)) else ((P_Mo_zero x1 x5 x9).bind fun r_5 => if r_5 = 0 then (P_Mo_curve_182 x1 x3 x5 x7 x9 x11 o_touches o_turns o_first_f o_second_f) else (P_Mo_curve_177 x1 x3 x5 x7 x9 x11 o_touches o_turns o_first_f o_second_f)))
set_option maxHeartbeats 4000000 in
set_option maxRecDepth 100000 in
theorem w_Mo_curve_142 (C0 : Cx p s m args meth c A dC dI cy b_Mo_curve 23 none "GlyphPageModel") (o : Nat) (o_page : Nat) (o_tape : Nat) (o_spare : Nat) (o_lineFrom : Nat) (o_lineTo : Nat) (o_lineWidth : Nat) (o_flag : Nat) (o_px : Nat) (o_py : Nat) (o_first : Nat) (o_second : Nat) (o_width : Int32) (o_height : Int32) (o_tapeLength : Int32) (o_font : Option Nat) (o_scale : Int32) (o_lines : Int32) (o_at : Int32) (o_end : Int32) (o_good : Int32) (a1 : Int64) (a2 : Int64) (a3 : Int64) (a4 : Int64) (a5 : Int64) (a6 : Int64) (uu : Int32 × Int32 × (Nat → Int64) × (Nat → Int64))  (x1 : Int64) (x3 : Int64) (x5 : Int64) (x7 : Int64) (x9 : Int64) (x11 : Int64) (x21 : Int32) (x22 : Int32) (o_touches : Int32) (o_turns : Int32) (o_first_f : Nat → Int64) (o_second_f : Nat → Int64) {H : Heap} {locs : List Loc} {ls : Array Slot} (h : P_Mo_curve_142 x1 x3 x5 x7 x9 x11 x21 x22 o_touches o_turns o_first_f o_second_f = some uu) : va_P (dC, dI) classes [(o, .inr (9, [.int o_width, .int o_height, .ref o_page, .ref o_tape, .int o_tapeLength, va_rf o_font, .ref o_spare, .int o_scale, .ref o_lineFrom, .ref o_lineTo, .ref o_lineWidth, .int o_lines, .int o_at, .int o_end, .int o_good, .ref o_flag, .ref o_px, .ref o_py, .int o_touches, .ref o_first, .ref o_second, .int o_turns])), (o_first, .inl (cy 3, 6, .inr (.inl o_first_f))), (o_second, .inl (cy 3, 6, .inr (.inl o_second_f)))] H → va_D A [(o, .inr (9, [.int o_width, .int o_height, .ref o_page, .ref o_tape, .int o_tapeLength, va_rf o_font, .ref o_spare, .int o_scale, .ref o_lineFrom, .ref o_lineTo, .ref o_lineWidth, .int o_lines, .int o_at, .int o_end, .int o_good, .ref o_flag, .ref o_px, .ref o_py, .int o_touches, .ref o_first, .ref o_second, .int o_turns])), (o_first, .inl (cy 3, 6, .inr (.inl o_first_f))), (o_second, .inl (cy 3, 6, .inr (.inl o_second_f)))] → va_S A s.heap H locs → lv_has ls 23 [(0, .ref o), (1, .long x1), (3, .long x3), (5, .long x5), (7, .long x7), (9, .long x9), (11, .long x11), (21, .int x21), (22, .int x22)] → W p l e ({ frames := 5, cells := 0, slots := 0, locals := 167 } : Room) s m args below meth c H locs 0 0 (MQ below (va_Qv (fun _ : Unit => True) (fun _ t => va_P (dC, dI) classes [(o, .inr (9, [.int o_width, .int o_height, .ref o_page, .ref o_tape, .int o_tapeLength, va_rf o_font, .ref o_spare, .int o_scale, .ref o_lineFrom, .ref o_lineTo, .ref o_lineWidth, .int o_lines, .int o_at, .int o_end, .int o_good, .ref o_flag, .ref o_px, .ref o_py, .int uu.1, .ref o_first, .ref o_second, .int uu.2.1])), (o_first, .inl (cy 3, 6, .inr (.inl uu.2.2.1))), (o_second, .inl (cy 3, 6, .inr (.inl uu.2.2.2)))] t.heap ∧ va_K (dC, dI) classes (TY cy) t ∧ va_D A [(o, .inr (9, [.int o_width, .int o_height, .ref o_page, .ref o_tape, .int o_tapeLength, va_rf o_font, .ref o_spare, .int o_scale, .ref o_lineFrom, .ref o_lineTo, .ref o_lineWidth, .int o_lines, .int o_at, .int o_end, .int o_good, .ref o_flag, .ref o_px, .ref o_py, .int uu.1, .ref o_first, .ref o_second, .int uu.2.1])), (o_first, .inl (cy 3, 6, .inr (.inl uu.2.2.1))), (o_second, .inl (cy 3, 6, .inr (.inl uu.2.2.2)))]) A) args s 0 0 A) (F0 m 142 ls []) := by
  intro hP hD hS hl
  obtain ⟨hx, hb, hr, hlocks, hml, hown, htsG, hA, hK⟩ := id C0
  unfold P_Mo_curve_142 at h
  refine lv_iload hx hb d_Mo_curve_142 (lv_at hl 8 rfl) ?_
  refine lv_if_eq (tgt := 182) hx hb d_Mo_curve_144 (by decide) (fun c_1 => ?_) (fun c_1 => ?_)
  · replace h := (if_pos c_1).symm.trans h
    exact w_Mo_curve_182 C0 o o_page o_tape o_spare o_lineFrom o_lineTo o_lineWidth o_flag o_px o_py o_first o_second o_width o_height o_tapeLength o_font o_scale o_lines o_at o_end o_good a1 a2 a3 a4 a5 a6 uu  x1 x3 x5 x7 x9 x11 o_touches o_turns o_first_f o_second_f h hP hD hS (lv_sub hl [0, 1, 2, 3, 4, 5, 6] rfl)
  · replace h := (if_neg c_1).symm.trans h
    refine lv_iload hx hb d_Mo_curve_147 (lv_at hl 7 rfl) ?_
    refine lv_if_eq (tgt := 166) hx hb d_Mo_curve_149 (by decide) (fun c_2 => ?_) (fun c_2 => ?_)
    · replace h := (if_pos c_2).symm.trans h
      refine lv_lload_n hx hb d_Mo_curve_166 rfl (lv_at hl 2 rfl) ?_
      refine lv_lload hx hb d_Mo_curve_167 (lv_at hl 4 rfl) ?_
      refine lv_lload hx hb d_Mo_curve_169 (lv_at hl 6 rfl) ?_
      obtain ⟨r_3, hq, h⟩ := Option.bind_eq_some_iff.mp h
      try dsimp only at h
      have hPc := hP.sub (ws' := []) [] rfl
      have hDc := hD.sub (ws' := []) [] (by decide) rfl
      have hFc := va_free (wc := []) hD hS hA [] rfl
      refine va_calli (va_runS (As := [.long x3, .long x7, .long x11]) (rest := []) ⟨hx, hb, hml, hown, htsG⟩ (c_Mo_zero l dC dI cy H.size x3 x7 x11 r_3 hq) (va_cwS 3 htsG (gS mW1117 mW1118 mW9 mW1119) rfl rfl rfl (by decide +kernel) ⟨Nat.le_of_ble_eq_true rfl, Nat.le_of_ble_eq_true rfl⟩) ⟨fun a U g mk q => by obtain ⟨q0, q1, qP, qK, qD⟩ := q; exact ⟨q0, q1, qP, va_K.moved (u := U) (U := U.calling g mk a) (Vm.Alike.refl U.vm) qK, qD⟩, fun U hU hW => ⟨rfl, by rw [hU], by rw [hU]; exact hPc, va_K.moved hW.alike hK, hDc.weaken (fun _ _ _ _ => trivial)⟩⟩ rfl rfl hl.1 rfl (lv_room (Nat.le_of_ble_eq_true rfl)) d_Mo_curve_171 ⟨Nat.le_of_ble_eq_true rfl, Nat.le_of_ble_eq_true rfl⟩) hS (fun q _ h => hFc q h) hFc (fun rr u t H1 locs ht hvm hw hB hz1 hk1 hS => ?_)
      obtain ⟨hP1, hK1, hD1⟩ := hB
      rw [ht] at hP1
      replace hw : r_3 = rr := hw.symm
      subst hw
      obtain ⟨hP, hD⟩ := va_join (wr := [(o, .inr (9, [.int o_width, .int o_height, .ref o_page, .ref o_tape, .int o_tapeLength, va_rf o_font, .ref o_spare, .int o_scale, .ref o_lineFrom, .ref o_lineTo, .ref o_lineWidth, .int o_lines, .int o_at, .int o_end, .int o_good, .ref o_flag, .ref o_px, .ref o_py, .int o_touches, .ref o_first, .ref o_second, .int o_turns])), (o_first, .inl (cy 3, 6, .inr (.inl o_first_f))), (o_second, .inl (cy 3, 6, .inr (.inl o_second_f)))]) (w1 := []) hP hD [] [0, 1, 2] rfl rfl (by decide) (by decide) hk1 hFc hP1 hD1
      generalize H1 = H at hP hS ⊢
      have hP := hP.sub (ws' := [(o, .inr (9, [.int o_width, .int o_height, .ref o_page, .ref o_tape, .int o_tapeLength, va_rf o_font, .ref o_spare, .int o_scale, .ref o_lineFrom, .ref o_lineTo, .ref o_lineWidth, .int o_lines, .int o_at, .int o_end, .int o_good, .ref o_flag, .ref o_px, .ref o_py, .int o_touches, .ref o_first, .ref o_second, .int o_turns])), (o_first, .inl (cy 3, 6, .inr (.inl o_first_f))), (o_second, .inl (cy 3, 6, .inr (.inl o_second_f)))]) [0, 1, 2] rfl
      have hD := hD.sub (ws' := [(o, .inr (9, [.int o_width, .int o_height, .ref o_page, .ref o_tape, .int o_tapeLength, va_rf o_font, .ref o_spare, .int o_scale, .ref o_lineFrom, .ref o_lineTo, .ref o_lineWidth, .int o_lines, .int o_at, .int o_end, .int o_good, .ref o_flag, .ref o_px, .ref o_py, .int o_touches, .ref o_first, .ref o_second, .int o_turns])), (o_first, .inl (cy 3, 6, .inr (.inl o_first_f))), (o_second, .inl (cy 3, 6, .inr (.inl o_second_f)))]) [0, 1, 2] (by decide) rfl
      refine W.widen (k := 0) (n := 0) (by decide) (by decide) ?_
      refine lv_if_eq (tgt := 182) hx hb d_Mo_curve_174 (by decide) (fun c_4 => ?_) (fun c_4 => ?_)
      · replace h := (if_pos c_4).symm.trans h
        exact w_Mo_curve_182 C0 o o_page o_tape o_spare o_lineFrom o_lineTo o_lineWidth o_flag o_px o_py o_first o_second o_width o_height o_tapeLength o_font o_scale o_lines o_at o_end o_good a1 a2 a3 a4 a5 a6 uu  x1 x3 x5 x7 x9 x11 o_touches o_turns o_first_f o_second_f h hP hD hS (lv_sub hl [0, 1, 2, 3, 4, 5, 6] rfl)
      · replace h := (if_neg c_4).symm.trans h
        exact w_Mo_curve_177 C0 o o_page o_tape o_spare o_lineFrom o_lineTo o_lineWidth o_flag o_px o_py o_first o_second o_width o_height o_tapeLength o_font o_scale o_lines o_at o_end o_good a1 a2 a3 a4 a5 a6 uu  x1 x3 x5 x7 x9 x11 o_touches o_turns o_first_f o_second_f h hP hD hS (lv_sub hl [0, 1, 2, 3, 4, 5, 6] rfl)
    · replace h := (if_neg c_2).symm.trans h
      refine lv_lload_n hx hb d_Mo_curve_152 rfl (lv_at hl 1 rfl) ?_
      refine lv_lload hx hb d_Mo_curve_153 (lv_at hl 3 rfl) ?_
      refine lv_lload hx hb d_Mo_curve_155 (lv_at hl 5 rfl) ?_
      obtain ⟨r_5, hq, h⟩ := Option.bind_eq_some_iff.mp h
      try dsimp only at h
      have hPc := hP.sub (ws' := []) [] rfl
      have hDc := hD.sub (ws' := []) [] (by decide) rfl
      have hFc := va_free (wc := []) hD hS hA [] rfl
      refine va_calli (va_runS (As := [.long x1, .long x5, .long x9]) (rest := []) ⟨hx, hb, hml, hown, htsG⟩ (c_Mo_zero l dC dI cy H.size x1 x5 x9 r_5 hq) (va_cwS 3 htsG (gS mW1117 mW1118 mW9 mW1119) rfl rfl rfl (by decide +kernel) ⟨Nat.le_of_ble_eq_true rfl, Nat.le_of_ble_eq_true rfl⟩) ⟨fun a U g mk q => by obtain ⟨q0, q1, qP, qK, qD⟩ := q; exact ⟨q0, q1, qP, va_K.moved (u := U) (U := U.calling g mk a) (Vm.Alike.refl U.vm) qK, qD⟩, fun U hU hW => ⟨rfl, by rw [hU], by rw [hU]; exact hPc, va_K.moved hW.alike hK, hDc.weaken (fun _ _ _ _ => trivial)⟩⟩ rfl rfl hl.1 rfl (lv_room (Nat.le_of_ble_eq_true rfl)) d_Mo_curve_157 ⟨Nat.le_of_ble_eq_true rfl, Nat.le_of_ble_eq_true rfl⟩) hS (fun q _ h => hFc q h) hFc (fun rr u t H1 locs ht hvm hw hB hz1 hk1 hS => ?_)
      obtain ⟨hP1, hK1, hD1⟩ := hB
      rw [ht] at hP1
      replace hw : r_5 = rr := hw.symm
      subst hw
      obtain ⟨hP, hD⟩ := va_join (wr := [(o, .inr (9, [.int o_width, .int o_height, .ref o_page, .ref o_tape, .int o_tapeLength, va_rf o_font, .ref o_spare, .int o_scale, .ref o_lineFrom, .ref o_lineTo, .ref o_lineWidth, .int o_lines, .int o_at, .int o_end, .int o_good, .ref o_flag, .ref o_px, .ref o_py, .int o_touches, .ref o_first, .ref o_second, .int o_turns])), (o_first, .inl (cy 3, 6, .inr (.inl o_first_f))), (o_second, .inl (cy 3, 6, .inr (.inl o_second_f)))]) (w1 := []) hP hD [] [0, 1, 2] rfl rfl (by decide) (by decide) hk1 hFc hP1 hD1
      generalize H1 = H at hP hS ⊢
      have hP := hP.sub (ws' := [(o, .inr (9, [.int o_width, .int o_height, .ref o_page, .ref o_tape, .int o_tapeLength, va_rf o_font, .ref o_spare, .int o_scale, .ref o_lineFrom, .ref o_lineTo, .ref o_lineWidth, .int o_lines, .int o_at, .int o_end, .int o_good, .ref o_flag, .ref o_px, .ref o_py, .int o_touches, .ref o_first, .ref o_second, .int o_turns])), (o_first, .inl (cy 3, 6, .inr (.inl o_first_f))), (o_second, .inl (cy 3, 6, .inr (.inl o_second_f)))]) [0, 1, 2] rfl
      have hD := hD.sub (ws' := [(o, .inr (9, [.int o_width, .int o_height, .ref o_page, .ref o_tape, .int o_tapeLength, va_rf o_font, .ref o_spare, .int o_scale, .ref o_lineFrom, .ref o_lineTo, .ref o_lineWidth, .int o_lines, .int o_at, .int o_end, .int o_good, .ref o_flag, .ref o_px, .ref o_py, .int o_touches, .ref o_first, .ref o_second, .int o_turns])), (o_first, .inl (cy 3, 6, .inr (.inl o_first_f))), (o_second, .inl (cy 3, 6, .inr (.inl o_second_f)))]) [0, 1, 2] (by decide) rfl
      refine W.widen (k := 0) (n := 0) (by decide) (by decide) ?_
      refine lv_if_eq (tgt := 182) hx hb d_Mo_curve_160 (by decide) (fun c_6 => ?_) (fun c_6 => ?_)
      · replace h := (if_pos c_6).symm.trans h
        exact w_Mo_curve_182 C0 o o_page o_tape o_spare o_lineFrom o_lineTo o_lineWidth o_flag o_px o_py o_first o_second o_width o_height o_tapeLength o_font o_scale o_lines o_at o_end o_good a1 a2 a3 a4 a5 a6 uu  x1 x3 x5 x7 x9 x11 o_touches o_turns o_first_f o_second_f h hP hD hS (lv_sub hl [0, 1, 2, 3, 4, 5, 6] rfl)
      · replace h := (if_neg c_6).symm.trans h
        refine lv_goto (tgt := 177) hx hb d_Mo_curve_163 (by decide) ?_
        exact w_Mo_curve_177 C0 o o_page o_tape o_spare o_lineFrom o_lineTo o_lineWidth o_flag o_px o_py o_first o_second o_width o_height o_tapeLength o_font o_scale o_lines o_at o_end o_good a1 a2 a3 a4 a5 a6 uu  x1 x3 x5 x7 x9 x11 o_touches o_turns o_first_f o_second_f h hP hD hS (lv_sub hl [0, 1, 2, 3, 4, 5, 6] rfl)
def P_Mo_curve_100   (x1 : Int64) (x3 : Int64) (x5 : Int64) (x7 : Int64) (x9 : Int64) (x11 : Int64) (x21 : Int32) (k0 : Int32) (o_touches : Int32) (o_turns : Int32) (o_first_f : Nat → Int64) (o_second_f : Nat → Int64) : Option (Int32 × Int32 × (Nat → Int64) × (Nat → Int64)) :=
  if x21 = 0 then (if (lg_cmp x3 x7) = 0 then (if (lg_cmp x7 x11) = 0 then (if (lg_cmp x1 (0 : Int64)) = 0 then (if (lg_cmp x3 (0 : Int64)) = 0 then (P_Mo_curve_182 x1 x3 x5 x7 x9 x11 (1 : Int32) o_turns o_first_f o_second_f) else (P_Mo_curve_182 x1 x3 x5 x7 x9 x11 o_touches o_turns o_first_f o_second_f)) else (P_Mo_curve_182 x1 x3 x5 x7 x9 x11 o_touches o_turns o_first_f o_second_f)) else (P_Mo_curve_142 x1 x3 x5 x7 x9 x11 x21 k0 o_touches o_turns o_first_f o_second_f)) else (P_Mo_curve_142 x1 x3 x5 x7 x9 x11 x21 k0 o_touches o_turns o_first_f o_second_f)) else (P_Mo_curve_142 x1 x3 x5 x7 x9 x11 x21 k0 o_touches o_turns o_first_f o_second_f)
set_option maxHeartbeats 4000000 in
set_option maxRecDepth 100000 in
theorem w_Mo_curve_100 (C0 : Cx p s m args meth c A dC dI cy b_Mo_curve 23 none "GlyphPageModel") (o : Nat) (o_page : Nat) (o_tape : Nat) (o_spare : Nat) (o_lineFrom : Nat) (o_lineTo : Nat) (o_lineWidth : Nat) (o_flag : Nat) (o_px : Nat) (o_py : Nat) (o_first : Nat) (o_second : Nat) (o_width : Int32) (o_height : Int32) (o_tapeLength : Int32) (o_font : Option Nat) (o_scale : Int32) (o_lines : Int32) (o_at : Int32) (o_end : Int32) (o_good : Int32) (a1 : Int64) (a2 : Int64) (a3 : Int64) (a4 : Int64) (a5 : Int64) (a6 : Int64) (uu : Int32 × Int32 × (Nat → Int64) × (Nat → Int64))  (x1 : Int64) (x3 : Int64) (x5 : Int64) (x7 : Int64) (x9 : Int64) (x11 : Int64) (x21 : Int32) (k0 : Int32) (o_touches : Int32) (o_turns : Int32) (o_first_f : Nat → Int64) (o_second_f : Nat → Int64) {H : Heap} {locs : List Loc} {ls : Array Slot} (h : P_Mo_curve_100 x1 x3 x5 x7 x9 x11 x21 k0 o_touches o_turns o_first_f o_second_f = some uu) : va_P (dC, dI) classes [(o, .inr (9, [.int o_width, .int o_height, .ref o_page, .ref o_tape, .int o_tapeLength, va_rf o_font, .ref o_spare, .int o_scale, .ref o_lineFrom, .ref o_lineTo, .ref o_lineWidth, .int o_lines, .int o_at, .int o_end, .int o_good, .ref o_flag, .ref o_px, .ref o_py, .int o_touches, .ref o_first, .ref o_second, .int o_turns])), (o_first, .inl (cy 3, 6, .inr (.inl o_first_f))), (o_second, .inl (cy 3, 6, .inr (.inl o_second_f)))] H → va_D A [(o, .inr (9, [.int o_width, .int o_height, .ref o_page, .ref o_tape, .int o_tapeLength, va_rf o_font, .ref o_spare, .int o_scale, .ref o_lineFrom, .ref o_lineTo, .ref o_lineWidth, .int o_lines, .int o_at, .int o_end, .int o_good, .ref o_flag, .ref o_px, .ref o_py, .int o_touches, .ref o_first, .ref o_second, .int o_turns])), (o_first, .inl (cy 3, 6, .inr (.inl o_first_f))), (o_second, .inl (cy 3, 6, .inr (.inl o_second_f)))] → va_S A s.heap H locs → lv_has ls 23 [(0, .ref o), (1, .long x1), (3, .long x3), (5, .long x5), (7, .long x7), (9, .long x9), (11, .long x11), (21, .int x21)] → W p l e ({ frames := 5, cells := 0, slots := 0, locals := 167 } : Room) s m args below meth c H locs 0 0 (MQ below (va_Qv (fun _ : Unit => True) (fun _ t => va_P (dC, dI) classes [(o, .inr (9, [.int o_width, .int o_height, .ref o_page, .ref o_tape, .int o_tapeLength, va_rf o_font, .ref o_spare, .int o_scale, .ref o_lineFrom, .ref o_lineTo, .ref o_lineWidth, .int o_lines, .int o_at, .int o_end, .int o_good, .ref o_flag, .ref o_px, .ref o_py, .int uu.1, .ref o_first, .ref o_second, .int uu.2.1])), (o_first, .inl (cy 3, 6, .inr (.inl uu.2.2.1))), (o_second, .inl (cy 3, 6, .inr (.inl uu.2.2.2)))] t.heap ∧ va_K (dC, dI) classes (TY cy) t ∧ va_D A [(o, .inr (9, [.int o_width, .int o_height, .ref o_page, .ref o_tape, .int o_tapeLength, va_rf o_font, .ref o_spare, .int o_scale, .ref o_lineFrom, .ref o_lineTo, .ref o_lineWidth, .int o_lines, .int o_at, .int o_end, .int o_good, .ref o_flag, .ref o_px, .ref o_py, .int uu.1, .ref o_first, .ref o_second, .int uu.2.1])), (o_first, .inl (cy 3, 6, .inr (.inl uu.2.2.1))), (o_second, .inl (cy 3, 6, .inr (.inl uu.2.2.2)))]) A) args s 0 0 A) (F0 m 100 ls [.int k0]) := by
  intro hP hD hS hl
  obtain ⟨hx, hb, hr, hlocks, hml, hown, htsG, hA, hK⟩ := id C0
  unfold P_Mo_curve_100 at h
  refine lv_istore (lv' := [(22, .int k0), (0, .ref o), (1, .long x1), (3, .long x3), (5, .long x5), (7, .long x7), (9, .long x9), (11, .long x11), (21, .int x21)]) hx hb d_Mo_curve_100 hl (by decide) rfl (fun ls hl => ?_)
  refine lv_iload hx hb d_Mo_curve_102 (lv_at hl 8 rfl) ?_
  refine lv_if_ne (tgt := 142) hx hb d_Mo_curve_104 (by decide) (fun c_1 => ?_) (fun c_1 => ?_)
  · replace h := (if_neg c_1).symm.trans h
    exact w_Mo_curve_142 C0 o o_page o_tape o_spare o_lineFrom o_lineTo o_lineWidth o_flag o_px o_py o_first o_second o_width o_height o_tapeLength o_font o_scale o_lines o_at o_end o_good a1 a2 a3 a4 a5 a6 uu  x1 x3 x5 x7 x9 x11 x21 k0 o_touches o_turns o_first_f o_second_f h hP hD hS (lv_sub hl [1, 2, 3, 4, 5, 6, 7, 8, 0] rfl)
  · replace h := (if_pos c_1).symm.trans h
    refine lv_lload_n hx hb d_Mo_curve_107 rfl (lv_at hl 3 rfl) ?_
    refine lv_lload hx hb d_Mo_curve_108 (lv_at hl 5 rfl) ?_
    refine W.lcmp hx hb d_Mo_curve_110 ?_
    refine lv_if_ne (tgt := 142) hx hb d_Mo_curve_111 (by decide) (fun c_2 => ?_) (fun c_2 => ?_)
    · replace h := (if_neg c_2).symm.trans h
      exact w_Mo_curve_142 C0 o o_page o_tape o_spare o_lineFrom o_lineTo o_lineWidth o_flag o_px o_py o_first o_second o_width o_height o_tapeLength o_font o_scale o_lines o_at o_end o_good a1 a2 a3 a4 a5 a6 uu  x1 x3 x5 x7 x9 x11 x21 k0 o_touches o_turns o_first_f o_second_f h hP hD hS (lv_sub hl [1, 2, 3, 4, 5, 6, 7, 8, 0] rfl)
    · replace h := (if_pos c_2).symm.trans h
      refine lv_lload hx hb d_Mo_curve_114 (lv_at hl 5 rfl) ?_
      refine lv_lload hx hb d_Mo_curve_116 (lv_at hl 7 rfl) ?_
      refine W.lcmp hx hb d_Mo_curve_118 ?_
      refine lv_if_ne (tgt := 142) hx hb d_Mo_curve_119 (by decide) (fun c_3 => ?_) (fun c_3 => ?_)
      · replace h := (if_neg c_3).symm.trans h
        exact w_Mo_curve_142 C0 o o_page o_tape o_spare o_lineFrom o_lineTo o_lineWidth o_flag o_px o_py o_first o_second o_width o_height o_tapeLength o_font o_scale o_lines o_at o_end o_good a1 a2 a3 a4 a5 a6 uu  x1 x3 x5 x7 x9 x11 x21 k0 o_touches o_turns o_first_f o_second_f h hP hD hS (lv_sub hl [1, 2, 3, 4, 5, 6, 7, 8, 0] rfl)
      · replace h := (if_pos c_3).symm.trans h
        refine lv_lload_n hx hb d_Mo_curve_122 rfl (lv_at hl 2 rfl) ?_
        refine lv_lconst (v := (0 : Int64)) hx hb d_Mo_curve_123 (by decide) ?_
        refine W.lcmp hx hb d_Mo_curve_124 ?_
        refine lv_if_ne (tgt := 182) hx hb d_Mo_curve_125 (by decide) (fun c_4 => ?_) (fun c_4 => ?_)
        · replace h := (if_neg c_4).symm.trans h
          exact w_Mo_curve_182 C0 o o_page o_tape o_spare o_lineFrom o_lineTo o_lineWidth o_flag o_px o_py o_first o_second o_width o_height o_tapeLength o_font o_scale o_lines o_at o_end o_good a1 a2 a3 a4 a5 a6 uu  x1 x3 x5 x7 x9 x11 o_touches o_turns o_first_f o_second_f h hP hD hS (lv_sub hl [1, 2, 3, 4, 5, 6, 7] rfl)
        · replace h := (if_pos c_4).symm.trans h
          refine lv_lload_n hx hb d_Mo_curve_128 rfl (lv_at hl 3 rfl) ?_
          refine lv_lconst (v := (0 : Int64)) hx hb d_Mo_curve_129 (by decide) ?_
          refine W.lcmp hx hb d_Mo_curve_130 ?_
          refine lv_if_ne (tgt := 182) hx hb d_Mo_curve_131 (by decide) (fun c_5 => ?_) (fun c_5 => ?_)
          · replace h := (if_neg c_5).symm.trans h
            exact w_Mo_curve_182 C0 o o_page o_tape o_spare o_lineFrom o_lineTo o_lineWidth o_flag o_px o_py o_first o_second o_width o_height o_tapeLength o_font o_scale o_lines o_at o_end o_good a1 a2 a3 a4 a5 a6 uu  x1 x3 x5 x7 x9 x11 o_touches o_turns o_first_f o_second_f h hP hD hS (lv_sub hl [1, 2, 3, 4, 5, 6, 7] rfl)
          · replace h := (if_pos c_5).symm.trans h
            refine lv_aload_n hx hb d_Mo_curve_134 rfl (lv_at hl 1 rfl) ?_
            refine lv_iconst (v := (1 : Int32)) hx hb d_Mo_curve_135 (by decide) ?_
            refine va_put (D := (dC, dI)) (ci := 9) (v := .int (1 : Int32)) (ty := .boolean) (C := "GlyphPageModel") (T := F_Mo) (N := 22) hx hb htsG iG_Mo t_Mo t_Mo_ok n_Mo hown hK hP hD hS 0 rfl rfl 18 (by decide) (htsG _ mW874) (fun _ h9 => h9) rfl (by decide +kernel) rfl rfl (Nat.le_of_ble_eq_true rfl) d_Mo_curve_136 (fun H locs hP hD hS => ?_)
            have hP : va_P (dC, dI) classes [(o, .inr (9, [.int o_width, .int o_height, .ref o_page, .ref o_tape, .int o_tapeLength, va_rf o_font, .ref o_spare, .int o_scale, .ref o_lineFrom, .ref o_lineTo, .ref o_lineWidth, .int o_lines, .int o_at, .int o_end, .int o_good, .ref o_flag, .ref o_px, .ref o_py, .int (1 : Int32), .ref o_first, .ref o_second, .int o_turns])), (o_first, .inl (cy 3, 6, .inr (.inl o_first_f))), (o_second, .inl (cy 3, 6, .inr (.inl o_second_f)))] H := hP
            have hD : va_D A [(o, .inr (9, [.int o_width, .int o_height, .ref o_page, .ref o_tape, .int o_tapeLength, va_rf o_font, .ref o_spare, .int o_scale, .ref o_lineFrom, .ref o_lineTo, .ref o_lineWidth, .int o_lines, .int o_at, .int o_end, .int o_good, .ref o_flag, .ref o_px, .ref o_py, .int (1 : Int32), .ref o_first, .ref o_second, .int o_turns])), (o_first, .inl (cy 3, 6, .inr (.inl o_first_f))), (o_second, .inl (cy 3, 6, .inr (.inl o_second_f)))] := hD
            refine lv_goto (tgt := 182) hx hb d_Mo_curve_139 (by decide) ?_
            exact w_Mo_curve_182 C0 o o_page o_tape o_spare o_lineFrom o_lineTo o_lineWidth o_flag o_px o_py o_first o_second o_width o_height o_tapeLength o_font o_scale o_lines o_at o_end o_good a1 a2 a3 a4 a5 a6 uu  x1 x3 x5 x7 x9 x11 (1 : Int32) o_turns o_first_f o_second_f h hP hD hS (lv_sub hl [1, 2, 3, 4, 5, 6, 7] rfl)
def P_Mo_curve_99   (x1 : Int64) (x3 : Int64) (x5 : Int64) (x7 : Int64) (x9 : Int64) (x11 : Int64) (x21 : Int32) (o_touches : Int32) (o_turns : Int32) (o_first_f : Nat → Int64) (o_second_f : Nat → Int64) : Option (Int32 × Int32 × (Nat → Int64) × (Nat → Int64)) :=
  P_Mo_curve_100 x1 x3 x5 x7 x9 x11 x21 (0 : Int32) o_touches o_turns o_first_f o_second_f
set_option maxHeartbeats 4000000 in
set_option maxRecDepth 100000 in
theorem w_Mo_curve_99 (C0 : Cx p s m args meth c A dC dI cy b_Mo_curve 23 none "GlyphPageModel") (o : Nat) (o_page : Nat) (o_tape : Nat) (o_spare : Nat) (o_lineFrom : Nat) (o_lineTo : Nat) (o_lineWidth : Nat) (o_flag : Nat) (o_px : Nat) (o_py : Nat) (o_first : Nat) (o_second : Nat) (o_width : Int32) (o_height : Int32) (o_tapeLength : Int32) (o_font : Option Nat) (o_scale : Int32) (o_lines : Int32) (o_at : Int32) (o_end : Int32) (o_good : Int32) (a1 : Int64) (a2 : Int64) (a3 : Int64) (a4 : Int64) (a5 : Int64) (a6 : Int64) (uu : Int32 × Int32 × (Nat → Int64) × (Nat → Int64))  (x1 : Int64) (x3 : Int64) (x5 : Int64) (x7 : Int64) (x9 : Int64) (x11 : Int64) (x21 : Int32) (o_touches : Int32) (o_turns : Int32) (o_first_f : Nat → Int64) (o_second_f : Nat → Int64) {H : Heap} {locs : List Loc} {ls : Array Slot} (h : P_Mo_curve_99 x1 x3 x5 x7 x9 x11 x21 o_touches o_turns o_first_f o_second_f = some uu) : va_P (dC, dI) classes [(o, .inr (9, [.int o_width, .int o_height, .ref o_page, .ref o_tape, .int o_tapeLength, va_rf o_font, .ref o_spare, .int o_scale, .ref o_lineFrom, .ref o_lineTo, .ref o_lineWidth, .int o_lines, .int o_at, .int o_end, .int o_good, .ref o_flag, .ref o_px, .ref o_py, .int o_touches, .ref o_first, .ref o_second, .int o_turns])), (o_first, .inl (cy 3, 6, .inr (.inl o_first_f))), (o_second, .inl (cy 3, 6, .inr (.inl o_second_f)))] H → va_D A [(o, .inr (9, [.int o_width, .int o_height, .ref o_page, .ref o_tape, .int o_tapeLength, va_rf o_font, .ref o_spare, .int o_scale, .ref o_lineFrom, .ref o_lineTo, .ref o_lineWidth, .int o_lines, .int o_at, .int o_end, .int o_good, .ref o_flag, .ref o_px, .ref o_py, .int o_touches, .ref o_first, .ref o_second, .int o_turns])), (o_first, .inl (cy 3, 6, .inr (.inl o_first_f))), (o_second, .inl (cy 3, 6, .inr (.inl o_second_f)))] → va_S A s.heap H locs → lv_has ls 23 [(0, .ref o), (1, .long x1), (3, .long x3), (5, .long x5), (7, .long x7), (9, .long x9), (11, .long x11), (21, .int x21)] → W p l e ({ frames := 5, cells := 0, slots := 0, locals := 167 } : Room) s m args below meth c H locs 0 0 (MQ below (va_Qv (fun _ : Unit => True) (fun _ t => va_P (dC, dI) classes [(o, .inr (9, [.int o_width, .int o_height, .ref o_page, .ref o_tape, .int o_tapeLength, va_rf o_font, .ref o_spare, .int o_scale, .ref o_lineFrom, .ref o_lineTo, .ref o_lineWidth, .int o_lines, .int o_at, .int o_end, .int o_good, .ref o_flag, .ref o_px, .ref o_py, .int uu.1, .ref o_first, .ref o_second, .int uu.2.1])), (o_first, .inl (cy 3, 6, .inr (.inl uu.2.2.1))), (o_second, .inl (cy 3, 6, .inr (.inl uu.2.2.2)))] t.heap ∧ va_K (dC, dI) classes (TY cy) t ∧ va_D A [(o, .inr (9, [.int o_width, .int o_height, .ref o_page, .ref o_tape, .int o_tapeLength, va_rf o_font, .ref o_spare, .int o_scale, .ref o_lineFrom, .ref o_lineTo, .ref o_lineWidth, .int o_lines, .int o_at, .int o_end, .int o_good, .ref o_flag, .ref o_px, .ref o_py, .int uu.1, .ref o_first, .ref o_second, .int uu.2.1])), (o_first, .inl (cy 3, 6, .inr (.inl uu.2.2.1))), (o_second, .inl (cy 3, 6, .inr (.inl uu.2.2.2)))]) A) args s 0 0 A) (F0 m 99 ls []) := by
  intro hP hD hS hl
  obtain ⟨hx, hb, hr, hlocks, hml, hown, htsG, hA, hK⟩ := id C0
  unfold P_Mo_curve_99 at h
  refine lv_iconst (v := (0 : Int32)) hx hb d_Mo_curve_99 (by decide) ?_
  exact w_Mo_curve_100 C0 o o_page o_tape o_spare o_lineFrom o_lineTo o_lineWidth o_flag o_px o_py o_first o_second o_width o_height o_tapeLength o_font o_scale o_lines o_at o_end o_good a1 a2 a3 a4 a5 a6 uu  x1 x3 x5 x7 x9 x11 x21 (0 : Int32) o_touches o_turns o_first_f o_second_f h hP hD hS (lv_sub hl [0, 1, 2, 3, 4, 5, 6, 7] rfl)
def P_Mo_curve_72   (x1 : Int64) (x3 : Int64) (x5 : Int64) (x7 : Int64) (x9 : Int64) (x11 : Int64) (x13 : Int64) (x15 : Int64) (x17 : Int64) (k0 : Int32) (o_touches : Int32) (o_turns : Int32) (o_first_f : Nat → Int64) (o_second_f : Nat → Int64) : Option (Int32 × Int32 × (Nat → Int64) × (Nat → Int64)) :=
  if (lg_cmp x13 (0 : Int64)) = 0 then (if (lg_cmp x15 (0 : Int64)) = 0 then (if (lg_cmp x17 (0 : Int64)) = 0 then (P_Mo_curve_100 x1 x3 x5 x7 x9 x11 k0 (1 : Int32) o_touches o_turns o_first_f o_second_f) else (P_Mo_curve_99 x1 x3 x5 x7 x9 x11 k0 o_touches o_turns o_first_f o_second_f)) else (P_Mo_curve_99 x1 x3 x5 x7 x9 x11 k0 o_touches o_turns o_first_f o_second_f)) else (P_Mo_curve_99 x1 x3 x5 x7 x9 x11 k0 o_touches o_turns o_first_f o_second_f)
set_option maxHeartbeats 4000000 in
set_option maxRecDepth 100000 in
theorem w_Mo_curve_72 (C0 : Cx p s m args meth c A dC dI cy b_Mo_curve 23 none "GlyphPageModel") (o : Nat) (o_page : Nat) (o_tape : Nat) (o_spare : Nat) (o_lineFrom : Nat) (o_lineTo : Nat) (o_lineWidth : Nat) (o_flag : Nat) (o_px : Nat) (o_py : Nat) (o_first : Nat) (o_second : Nat) (o_width : Int32) (o_height : Int32) (o_tapeLength : Int32) (o_font : Option Nat) (o_scale : Int32) (o_lines : Int32) (o_at : Int32) (o_end : Int32) (o_good : Int32) (a1 : Int64) (a2 : Int64) (a3 : Int64) (a4 : Int64) (a5 : Int64) (a6 : Int64) (uu : Int32 × Int32 × (Nat → Int64) × (Nat → Int64))  (x1 : Int64) (x3 : Int64) (x5 : Int64) (x7 : Int64) (x9 : Int64) (x11 : Int64) (x13 : Int64) (x15 : Int64) (x17 : Int64) (k0 : Int32) (o_touches : Int32) (o_turns : Int32) (o_first_f : Nat → Int64) (o_second_f : Nat → Int64) {H : Heap} {locs : List Loc} {ls : Array Slot} (h : P_Mo_curve_72 x1 x3 x5 x7 x9 x11 x13 x15 x17 k0 o_touches o_turns o_first_f o_second_f = some uu) : va_P (dC, dI) classes [(o, .inr (9, [.int o_width, .int o_height, .ref o_page, .ref o_tape, .int o_tapeLength, va_rf o_font, .ref o_spare, .int o_scale, .ref o_lineFrom, .ref o_lineTo, .ref o_lineWidth, .int o_lines, .int o_at, .int o_end, .int o_good, .ref o_flag, .ref o_px, .ref o_py, .int o_touches, .ref o_first, .ref o_second, .int o_turns])), (o_first, .inl (cy 3, 6, .inr (.inl o_first_f))), (o_second, .inl (cy 3, 6, .inr (.inl o_second_f)))] H → va_D A [(o, .inr (9, [.int o_width, .int o_height, .ref o_page, .ref o_tape, .int o_tapeLength, va_rf o_font, .ref o_spare, .int o_scale, .ref o_lineFrom, .ref o_lineTo, .ref o_lineWidth, .int o_lines, .int o_at, .int o_end, .int o_good, .ref o_flag, .ref o_px, .ref o_py, .int o_touches, .ref o_first, .ref o_second, .int o_turns])), (o_first, .inl (cy 3, 6, .inr (.inl o_first_f))), (o_second, .inl (cy 3, 6, .inr (.inl o_second_f)))] → va_S A s.heap H locs → lv_has ls 23 [(0, .ref o), (1, .long x1), (3, .long x3), (5, .long x5), (7, .long x7), (9, .long x9), (11, .long x11), (13, .long x13), (15, .long x15), (17, .long x17)] → W p l e ({ frames := 5, cells := 0, slots := 0, locals := 167 } : Room) s m args below meth c H locs 0 0 (MQ below (va_Qv (fun _ : Unit => True) (fun _ t => va_P (dC, dI) classes [(o, .inr (9, [.int o_width, .int o_height, .ref o_page, .ref o_tape, .int o_tapeLength, va_rf o_font, .ref o_spare, .int o_scale, .ref o_lineFrom, .ref o_lineTo, .ref o_lineWidth, .int o_lines, .int o_at, .int o_end, .int o_good, .ref o_flag, .ref o_px, .ref o_py, .int uu.1, .ref o_first, .ref o_second, .int uu.2.1])), (o_first, .inl (cy 3, 6, .inr (.inl uu.2.2.1))), (o_second, .inl (cy 3, 6, .inr (.inl uu.2.2.2)))] t.heap ∧ va_K (dC, dI) classes (TY cy) t ∧ va_D A [(o, .inr (9, [.int o_width, .int o_height, .ref o_page, .ref o_tape, .int o_tapeLength, va_rf o_font, .ref o_spare, .int o_scale, .ref o_lineFrom, .ref o_lineTo, .ref o_lineWidth, .int o_lines, .int o_at, .int o_end, .int o_good, .ref o_flag, .ref o_px, .ref o_py, .int uu.1, .ref o_first, .ref o_second, .int uu.2.1])), (o_first, .inl (cy 3, 6, .inr (.inl uu.2.2.1))), (o_second, .inl (cy 3, 6, .inr (.inl uu.2.2.2)))]) A) args s 0 0 A) (F0 m 72 ls [.int k0]) := by
  intro hP hD hS hl
  obtain ⟨hx, hb, hr, hlocks, hml, hown, htsG, hA, hK⟩ := id C0
  unfold P_Mo_curve_72 at h
  refine lv_istore (lv' := [(21, .int k0), (0, .ref o), (1, .long x1), (3, .long x3), (5, .long x5), (7, .long x7), (9, .long x9), (11, .long x11), (13, .long x13), (15, .long x15), (17, .long x17)]) hx hb d_Mo_curve_72 hl (by decide) rfl (fun ls hl => ?_)
  refine lv_lload hx hb d_Mo_curve_74 (lv_at hl 8 rfl) ?_
  refine lv_lconst (v := (0 : Int64)) hx hb d_Mo_curve_76 (by decide) ?_
  refine W.lcmp hx hb d_Mo_curve_77 ?_
  refine lv_if_ne (tgt := 99) hx hb d_Mo_curve_78 (by decide) (fun c_1 => ?_) (fun c_1 => ?_)
  · replace h := (if_neg c_1).symm.trans h
    exact w_Mo_curve_99 C0 o o_page o_tape o_spare o_lineFrom o_lineTo o_lineWidth o_flag o_px o_py o_first o_second o_width o_height o_tapeLength o_font o_scale o_lines o_at o_end o_good a1 a2 a3 a4 a5 a6 uu  x1 x3 x5 x7 x9 x11 k0 o_touches o_turns o_first_f o_second_f h hP hD hS (lv_sub hl [1, 2, 3, 4, 5, 6, 7, 0] rfl)
  · replace h := (if_pos c_1).symm.trans h
    refine lv_lload hx hb d_Mo_curve_81 (lv_at hl 9 rfl) ?_
    refine lv_lconst (v := (0 : Int64)) hx hb d_Mo_curve_83 (by decide) ?_
    refine W.lcmp hx hb d_Mo_curve_84 ?_
    refine lv_if_ne (tgt := 99) hx hb d_Mo_curve_85 (by decide) (fun c_2 => ?_) (fun c_2 => ?_)
    · replace h := (if_neg c_2).symm.trans h
      exact w_Mo_curve_99 C0 o o_page o_tape o_spare o_lineFrom o_lineTo o_lineWidth o_flag o_px o_py o_first o_second o_width o_height o_tapeLength o_font o_scale o_lines o_at o_end o_good a1 a2 a3 a4 a5 a6 uu  x1 x3 x5 x7 x9 x11 k0 o_touches o_turns o_first_f o_second_f h hP hD hS (lv_sub hl [1, 2, 3, 4, 5, 6, 7, 0] rfl)
    · replace h := (if_pos c_2).symm.trans h
      refine lv_lload hx hb d_Mo_curve_88 (lv_at hl 10 rfl) ?_
      refine lv_lconst (v := (0 : Int64)) hx hb d_Mo_curve_90 (by decide) ?_
      refine W.lcmp hx hb d_Mo_curve_91 ?_
      refine lv_if_ne (tgt := 99) hx hb d_Mo_curve_92 (by decide) (fun c_3 => ?_) (fun c_3 => ?_)
      · replace h := (if_neg c_3).symm.trans h
        exact w_Mo_curve_99 C0 o o_page o_tape o_spare o_lineFrom o_lineTo o_lineWidth o_flag o_px o_py o_first o_second o_width o_height o_tapeLength o_font o_scale o_lines o_at o_end o_good a1 a2 a3 a4 a5 a6 uu  x1 x3 x5 x7 x9 x11 k0 o_touches o_turns o_first_f o_second_f h hP hD hS (lv_sub hl [1, 2, 3, 4, 5, 6, 7, 0] rfl)
      · replace h := (if_pos c_3).symm.trans h
        refine lv_iconst (v := (1 : Int32)) hx hb d_Mo_curve_95 (by decide) ?_
        refine lv_goto (tgt := 100) hx hb d_Mo_curve_96 (by decide) ?_
        exact w_Mo_curve_100 C0 o o_page o_tape o_spare o_lineFrom o_lineTo o_lineWidth o_flag o_px o_py o_first o_second o_width o_height o_tapeLength o_font o_scale o_lines o_at o_end o_good a1 a2 a3 a4 a5 a6 uu  x1 x3 x5 x7 x9 x11 k0 (1 : Int32) o_touches o_turns o_first_f o_second_f h hP hD hS (lv_sub hl [1, 2, 3, 4, 5, 6, 7, 0] rfl)
def P_Mo_curve_67   (x1 : Int64) (x3 : Int64) (x5 : Int64) (x7 : Int64) (x9 : Int64) (x11 : Int64) (x13 : Int64) (x15 : Int64) (x17 : Int64) (o_touches : Int32) (o_turns : Int32) (o_first_f : Nat → Int64) (o_second_f : Nat → Int64) : Option (Int32 × Int32 × (Nat → Int64) × (Nat → Int64)) :=
  P_Mo_curve_72 x1 x3 x5 x7 x9 x11 x13 x15 x17 (1 : Int32) o_touches o_turns o_first_f o_second_f
set_option maxHeartbeats 4000000 in
set_option maxRecDepth 100000 in
theorem w_Mo_curve_67 (C0 : Cx p s m args meth c A dC dI cy b_Mo_curve 23 none "GlyphPageModel") (o : Nat) (o_page : Nat) (o_tape : Nat) (o_spare : Nat) (o_lineFrom : Nat) (o_lineTo : Nat) (o_lineWidth : Nat) (o_flag : Nat) (o_px : Nat) (o_py : Nat) (o_first : Nat) (o_second : Nat) (o_width : Int32) (o_height : Int32) (o_tapeLength : Int32) (o_font : Option Nat) (o_scale : Int32) (o_lines : Int32) (o_at : Int32) (o_end : Int32) (o_good : Int32) (a1 : Int64) (a2 : Int64) (a3 : Int64) (a4 : Int64) (a5 : Int64) (a6 : Int64) (uu : Int32 × Int32 × (Nat → Int64) × (Nat → Int64))  (x1 : Int64) (x3 : Int64) (x5 : Int64) (x7 : Int64) (x9 : Int64) (x11 : Int64) (x13 : Int64) (x15 : Int64) (x17 : Int64) (o_touches : Int32) (o_turns : Int32) (o_first_f : Nat → Int64) (o_second_f : Nat → Int64) {H : Heap} {locs : List Loc} {ls : Array Slot} (h : P_Mo_curve_67 x1 x3 x5 x7 x9 x11 x13 x15 x17 o_touches o_turns o_first_f o_second_f = some uu) : va_P (dC, dI) classes [(o, .inr (9, [.int o_width, .int o_height, .ref o_page, .ref o_tape, .int o_tapeLength, va_rf o_font, .ref o_spare, .int o_scale, .ref o_lineFrom, .ref o_lineTo, .ref o_lineWidth, .int o_lines, .int o_at, .int o_end, .int o_good, .ref o_flag, .ref o_px, .ref o_py, .int o_touches, .ref o_first, .ref o_second, .int o_turns])), (o_first, .inl (cy 3, 6, .inr (.inl o_first_f))), (o_second, .inl (cy 3, 6, .inr (.inl o_second_f)))] H → va_D A [(o, .inr (9, [.int o_width, .int o_height, .ref o_page, .ref o_tape, .int o_tapeLength, va_rf o_font, .ref o_spare, .int o_scale, .ref o_lineFrom, .ref o_lineTo, .ref o_lineWidth, .int o_lines, .int o_at, .int o_end, .int o_good, .ref o_flag, .ref o_px, .ref o_py, .int o_touches, .ref o_first, .ref o_second, .int o_turns])), (o_first, .inl (cy 3, 6, .inr (.inl o_first_f))), (o_second, .inl (cy 3, 6, .inr (.inl o_second_f)))] → va_S A s.heap H locs → lv_has ls 23 [(0, .ref o), (1, .long x1), (3, .long x3), (5, .long x5), (7, .long x7), (9, .long x9), (11, .long x11), (13, .long x13), (15, .long x15), (17, .long x17)] → W p l e ({ frames := 5, cells := 0, slots := 0, locals := 167 } : Room) s m args below meth c H locs 0 0 (MQ below (va_Qv (fun _ : Unit => True) (fun _ t => va_P (dC, dI) classes [(o, .inr (9, [.int o_width, .int o_height, .ref o_page, .ref o_tape, .int o_tapeLength, va_rf o_font, .ref o_spare, .int o_scale, .ref o_lineFrom, .ref o_lineTo, .ref o_lineWidth, .int o_lines, .int o_at, .int o_end, .int o_good, .ref o_flag, .ref o_px, .ref o_py, .int uu.1, .ref o_first, .ref o_second, .int uu.2.1])), (o_first, .inl (cy 3, 6, .inr (.inl uu.2.2.1))), (o_second, .inl (cy 3, 6, .inr (.inl uu.2.2.2)))] t.heap ∧ va_K (dC, dI) classes (TY cy) t ∧ va_D A [(o, .inr (9, [.int o_width, .int o_height, .ref o_page, .ref o_tape, .int o_tapeLength, va_rf o_font, .ref o_spare, .int o_scale, .ref o_lineFrom, .ref o_lineTo, .ref o_lineWidth, .int o_lines, .int o_at, .int o_end, .int o_good, .ref o_flag, .ref o_px, .ref o_py, .int uu.1, .ref o_first, .ref o_second, .int uu.2.1])), (o_first, .inl (cy 3, 6, .inr (.inl uu.2.2.1))), (o_second, .inl (cy 3, 6, .inr (.inl uu.2.2.2)))]) A) args s 0 0 A) (F0 m 67 ls []) := by
  intro hP hD hS hl
  obtain ⟨hx, hb, hr, hlocks, hml, hown, htsG, hA, hK⟩ := id C0
  unfold P_Mo_curve_67 at h
  refine lv_iconst (v := (1 : Int32)) hx hb d_Mo_curve_67 (by decide) ?_
  refine lv_goto (tgt := 72) hx hb d_Mo_curve_68 (by decide) ?_
  exact w_Mo_curve_72 C0 o o_page o_tape o_spare o_lineFrom o_lineTo o_lineWidth o_flag o_px o_py o_first o_second o_width o_height o_tapeLength o_font o_scale o_lines o_at o_end o_good a1 a2 a3 a4 a5 a6 uu  x1 x3 x5 x7 x9 x11 x13 x15 x17 (1 : Int32) o_touches o_turns o_first_f o_second_f h hP hD hS (lv_sub hl [0, 1, 2, 3, 4, 5, 6, 7, 8, 9] rfl)
def P_Mo_curve (o_touches : Int32) (o_turns : Int32) (o_first_f : Nat → Int64) (o_second_f : Nat → Int64) (a1 : Int64) (a2 : Int64) (a3 : Int64) (a4 : Int64) (a5 : Int64) (a6 : Int64) : Option (Int32 × Int32 × (Nat → Int64) × (Nat → Int64)) :=
  if (lg_cmp ((((a3 * a6) - (a5 * a4)) + ((a5 * a2) - (a1 * a6))) + ((a1 * a4) - (a3 * a2))) (0 : Int64)) = 0 then (if (lg_cmp a1 a3) = 0 then (if (lg_cmp a3 a5) = 0 then (P_Mo_curve_72 a1 a2 a3 a4 a5 a6 ((a3 * a6) - (a5 * a4)) ((a5 * a2) - (a1 * a6)) ((a1 * a4) - (a3 * a2)) (0 : Int32) o_touches o_turns o_first_f o_second_f) else (P_Mo_curve_67 a1 a2 a3 a4 a5 a6 ((a3 * a6) - (a5 * a4)) ((a5 * a2) - (a1 * a6)) ((a1 * a4) - (a3 * a2)) o_touches o_turns o_first_f o_second_f)) else (P_Mo_curve_67 a1 a2 a3 a4 a5 a6 ((a3 * a6) - (a5 * a4)) ((a5 * a2) - (a1 * a6)) ((a1 * a4) - (a3 * a2)) o_touches o_turns o_first_f o_second_f)) else ((P_Mo_sign ((((a3 * a6) - (a5 * a4)) + ((a5 * a2) - (a1 * a6))) + ((a1 * a4) - (a3 * a2)))).bind fun r_2 => if (lg_cmp ((r_2.toInt64) * ((a3 * a6) - (a5 * a4))) (0 : Int64)) < 0 then (P_Mo_curve_255 a1 a2 a3 a4 a5 a6 o_touches o_turns o_first_f o_second_f) else (if (lg_cmp ((r_2.toInt64) * ((a5 * a2) - (a1 * a6))) (0 : Int64)) < 0 then (P_Mo_curve_255 a1 a2 a3 a4 a5 a6 o_touches o_turns o_first_f o_second_f) else (if (lg_cmp ((r_2.toInt64) * ((a1 * a4) - (a3 * a2))) (0 : Int64)) < 0 then (P_Mo_curve_255 a1 a2 a3 a4 a5 a6 o_touches o_turns o_first_f o_second_f) else ((P_Mo_through o_first_f o_second_f ((r_2.toInt64) * ((a3 * a6) - (a5 * a4))) ((r_2.toInt64) * ((a5 * a2) - (a1 * a6))) ((r_2.toInt64) * ((a1 * a4) - (a3 * a2)))).bind <| unp fun r_6 => unp fun n_7 n_8 => if r_6 = 0 then (P_Mo_curve_255 a1 a2 a3 a4 a5 a6 o_touches o_turns n_7 n_8) else (P_Mo_curve_255 a1 a2 a3 a4 a5 a6 (1 : Int32) o_turns n_7 n_8)))))
set_option maxHeartbeats 4000000 in
set_option maxRecDepth 100000 in
theorem c_Mo_curve (l : Launch) (dC : Nat → ClassId) (dI : Nat → Nat → Nat) (cy : Nat → ClassId) (sz : Nat) (o : Nat) (o_page : Nat) (o_tape : Nat) (o_spare : Nat) (o_lineFrom : Nat) (o_lineTo : Nat) (o_lineWidth : Nat) (o_flag : Nat) (o_px : Nat) (o_py : Nat) (o_first : Nat) (o_second : Nat) (o_width : Int32) (o_height : Int32) (o_tapeLength : Int32) (o_font : Option Nat) (o_scale : Int32) (o_lines : Int32) (o_at : Int32) (o_end : Int32) (o_good : Int32) (o_touches : Int32) (o_turns : Int32) (o_first_f : Nat → Int64) (o_second_f : Nat → Int64) (a1 : Int64) (a2 : Int64) (a3 : Int64) (a4 : Int64) (a5 : Int64) (a6 : Int64) (uu : Int32 × Int32 × (Nat → Int64) × (Nat → Int64)) (h : P_Mo_curve o_touches o_turns o_first_f o_second_f a1 a2 a3 a4 a5 a6 = some uu) : Met l y_Mo_curve (Cond.code y_Mo_curve b_Mo_curve 23 none :: G) ({ frames := 5, cells := 0, slots := 0, locals := 167 } : Room) (va_Pc [.ref o, .long a1, .long a2, .long a3, .long a4, .long a5, .long a6] (fun U => U.heap.size = sz ∧ va_P (dC, dI) classes [(o, .inr (9, [.int o_width, .int o_height, .ref o_page, .ref o_tape, .int o_tapeLength, va_rf o_font, .ref o_spare, .int o_scale, .ref o_lineFrom, .ref o_lineTo, .ref o_lineWidth, .int o_lines, .int o_at, .int o_end, .int o_good, .ref o_flag, .ref o_px, .ref o_py, .int o_touches, .ref o_first, .ref o_second, .int o_turns])), (o_first, .inl (cy 3, 6, .inr (.inl o_first_f))), (o_second, .inl (cy 3, 6, .inr (.inl o_second_f)))] U.heap ∧ va_K (dC, dI) classes (TY cy) U ∧ va_D (fun _ => True) [(o, .inr (9, [.int o_width, .int o_height, .ref o_page, .ref o_tape, .int o_tapeLength, va_rf o_font, .ref o_spare, .int o_scale, .ref o_lineFrom, .ref o_lineTo, .ref o_lineWidth, .int o_lines, .int o_at, .int o_end, .int o_good, .ref o_flag, .ref o_px, .ref o_py, .int o_touches, .ref o_first, .ref o_second, .int o_turns])), (o_first, .inl (cy 3, 6, .inr (.inl o_first_f))), (o_second, .inl (cy 3, 6, .inr (.inl o_second_f)))])) (va_Qv (fun _ : Unit => True) (fun _ t => va_P (dC, dI) classes [(o, .inr (9, [.int o_width, .int o_height, .ref o_page, .ref o_tape, .int o_tapeLength, va_rf o_font, .ref o_spare, .int o_scale, .ref o_lineFrom, .ref o_lineTo, .ref o_lineWidth, .int o_lines, .int o_at, .int o_end, .int o_good, .ref o_flag, .ref o_px, .ref o_py, .int uu.1, .ref o_first, .ref o_second, .int uu.2.1])), (o_first, .inl (cy 3, 6, .inr (.inl uu.2.2.1))), (o_second, .inl (cy 3, 6, .inr (.inl uu.2.2.2)))] t.heap ∧ va_K (dC, dI) classes (TY cy) t ∧ va_D (va_A [(o, .inr (9, [.int o_width, .int o_height, .ref o_page, .ref o_tape, .int o_tapeLength, va_rf o_font, .ref o_spare, .int o_scale, .ref o_lineFrom, .ref o_lineTo, .ref o_lineWidth, .int o_lines, .int o_at, .int o_end, .int o_good, .ref o_flag, .ref o_px, .ref o_py, .int o_touches, .ref o_first, .ref o_second, .int o_turns])), (o_first, .inl (cy 3, 6, .inr (.inl o_first_f))), (o_second, .inl (cy 3, 6, .inr (.inl o_second_f)))] sz) [(o, .inr (9, [.int o_width, .int o_height, .ref o_page, .ref o_tape, .int o_tapeLength, va_rf o_font, .ref o_spare, .int o_scale, .ref o_lineFrom, .ref o_lineTo, .ref o_lineWidth, .int o_lines, .int o_at, .int o_end, .int o_good, .ref o_flag, .ref o_px, .ref o_py, .int uu.1, .ref o_first, .ref o_second, .int uu.2.1])), (o_first, .inl (cy 3, 6, .inr (.inl uu.2.2.1))), (o_second, .inl (cy 3, 6, .inr (.inl uu.2.2.2)))]) (va_A [(o, .inr (9, [.int o_width, .int o_height, .ref o_page, .ref o_tape, .int o_tapeLength, va_rf o_font, .ref o_spare, .int o_scale, .ref o_lineFrom, .ref o_lineTo, .ref o_lineWidth, .int o_lines, .int o_at, .int o_end, .int o_good, .ref o_flag, .ref o_px, .ref o_py, .int o_touches, .ref o_first, .ref o_second, .int o_turns])), (o_first, .inl (cy 3, 6, .inr (.inl o_first_f))), (o_second, .inl (cy 3, 6, .inr (.inl o_second_f)))] sz)) 0 0 (va_A [(o, .inr (9, [.int o_width, .int o_height, .ref o_page, .ref o_tape, .int o_tapeLength, va_rf o_font, .ref o_spare, .int o_scale, .ref o_lineFrom, .ref o_lineTo, .ref o_lineWidth, .int o_lines, .int o_at, .int o_end, .int o_good, .ref o_flag, .ref o_px, .ref o_py, .int o_touches, .ref o_first, .ref o_second, .int o_turns])), (o_first, .inl (cy 3, 6, .inr (.inl o_first_f))), (o_second, .inl (cy 3, 6, .inr (.inl o_second_f)))] sz) := by
  refine Met.ofW (cc := b_Mo_curve) (maxL := 23) (ret := none) (by decide) rfl ?_
  intro p e s m args below meth c s₁ B hml hv
  obtain ⟨rfl, hsz, hP, hK, hD0⟩ := hv
  have hx := B.exec
  have hb := B.bytes
  have hr := B.returns
  have hts := atoms_spec (ws := Cond.code y_Mo_curve b_Mo_curve 23 none :: G) B.pre
  have htsG : ∀ w ∈ G, w.before _ s = true := fun w hw => hts w (List.mem_cons_of_mem _ hw)
  have hown : s.vm.findClass "GlyphPageModel" = some m.cls := findClass_of_methodNamed B.named
  have hlocks := B.notSynchronized
  subst hsz
  have hD := hD0.self (sz := s.heap.size)
  generalize hAe : va_A [(o, .inr (9, [.int o_width, .int o_height, .ref o_page, .ref o_tape, .int o_tapeLength, va_rf o_font, .ref o_spare, .int o_scale, .ref o_lineFrom, .ref o_lineTo, .ref o_lineWidth, .int o_lines, .int o_at, .int o_end, .int o_good, .ref o_flag, .ref o_px, .ref o_py, .int o_touches, .ref o_first, .ref o_second, .int o_turns])), (o_first, .inl (cy 3, 6, .inr (.inl o_first_f))), (o_second, .inl (cy 3, 6, .inr (.inl o_second_f)))] s.heap.size = A at hD ⊢
  have hA : ∀ q : Nat, s.heap.size ≤ q → A q := fun q h => by rw [← hAe]; exact Or.inr h
  have hS : va_S A s.heap s.heap [] := va_S.rf
  have hl := lv_entry ([.ref o, .long a1, .long a2, .long a3, .long a4, .long a5, .long a6]) (n := 23) (Nat.le_of_ble_eq_true rfl)
  rw [lg_entry_eq]
  generalize (lg_sl ([.ref o, .long a1, .long a2, .long a3, .long a4, .long a5, .long a6]) ++ List.replicate (23 - (lg_sl ([.ref o, .long a1, .long a2, .long a3, .long a4, .long a5, .long a6])).length) Slot.unset).toArray = ls at hl ⊢
  have hl : lv_has ls 23 [(0, .ref o), (1, .long a1), (3, .long a2), (5, .long a3), (7, .long a4), (9, .long a5), (11, .long a6)] := hl
  have C0 : Cx p s m _ meth c A dC dI cy b_Mo_curve 23 none "GlyphPageModel" := ⟨hx, hb, hr, hlocks, hml, hown, htsG, hA, hK⟩
  unfold P_Mo_curve at h
  refine lv_lload hx hb d_Mo_curve_0 (lv_at hl 3 rfl) ?_
  refine lv_lload hx hb d_Mo_curve_2 (lv_at hl 6 rfl) ?_
  refine lv_lmul hx hb d_Mo_curve_4 ?_
  refine lv_lload hx hb d_Mo_curve_5 (lv_at hl 5 rfl) ?_
  refine lv_lload hx hb d_Mo_curve_7 (lv_at hl 4 rfl) ?_
  refine lv_lmul hx hb d_Mo_curve_9 ?_
  refine lv_lsub hx hb d_Mo_curve_10 ?_
  refine lv_lstore (lv' := [(13, .long ((a3 * a6) - (a5 * a4))), (0, .ref o), (1, .long a1), (3, .long a2), (5, .long a3), (7, .long a4), (9, .long a5), (11, .long a6)]) hx hb d_Mo_curve_11 hl (by decide) rfl (fun ls hl => ?_)
  refine lv_lload hx hb d_Mo_curve_13 (lv_at hl 6 rfl) ?_
  refine lv_lload_n hx hb d_Mo_curve_15 rfl (lv_at hl 3 rfl) ?_
  refine lv_lmul hx hb d_Mo_curve_16 ?_
  refine lv_lload_n hx hb d_Mo_curve_17 rfl (lv_at hl 2 rfl) ?_
  refine lv_lload hx hb d_Mo_curve_18 (lv_at hl 7 rfl) ?_
  refine lv_lmul hx hb d_Mo_curve_20 ?_
  refine lv_lsub hx hb d_Mo_curve_21 ?_
  refine lv_lstore (lv' := [(15, .long ((a5 * a2) - (a1 * a6))), (13, .long ((a3 * a6) - (a5 * a4))), (0, .ref o), (1, .long a1), (3, .long a2), (5, .long a3), (7, .long a4), (9, .long a5), (11, .long a6)]) hx hb d_Mo_curve_22 hl (by decide) rfl (fun ls hl => ?_)
  refine lv_lload_n hx hb d_Mo_curve_24 rfl (lv_at hl 3 rfl) ?_
  refine lv_lload hx hb d_Mo_curve_25 (lv_at hl 6 rfl) ?_
  refine lv_lmul hx hb d_Mo_curve_27 ?_
  refine lv_lload hx hb d_Mo_curve_28 (lv_at hl 5 rfl) ?_
  refine lv_lload_n hx hb d_Mo_curve_30 rfl (lv_at hl 4 rfl) ?_
  refine lv_lmul hx hb d_Mo_curve_31 ?_
  refine lv_lsub hx hb d_Mo_curve_32 ?_
  refine lv_lstore (lv' := [(17, .long ((a1 * a4) - (a3 * a2))), (15, .long ((a5 * a2) - (a1 * a6))), (13, .long ((a3 * a6) - (a5 * a4))), (0, .ref o), (1, .long a1), (3, .long a2), (5, .long a3), (7, .long a4), (9, .long a5), (11, .long a6)]) hx hb d_Mo_curve_33 hl (by decide) rfl (fun ls hl => ?_)
  refine lv_lload hx hb d_Mo_curve_35 (lv_at hl 2 rfl) ?_
  refine lv_lload hx hb d_Mo_curve_37 (lv_at hl 1 rfl) ?_
  refine lv_ladd hx hb d_Mo_curve_39 ?_
  refine lv_lload hx hb d_Mo_curve_40 (lv_at hl 0 rfl) ?_
  refine lv_ladd hx hb d_Mo_curve_42 ?_
  refine lv_lstore (lv' := [(19, .long ((((a3 * a6) - (a5 * a4)) + ((a5 * a2) - (a1 * a6))) + ((a1 * a4) - (a3 * a2)))), (17, .long ((a1 * a4) - (a3 * a2))), (15, .long ((a5 * a2) - (a1 * a6))), (13, .long ((a3 * a6) - (a5 * a4))), (0, .ref o), (1, .long a1), (3, .long a2), (5, .long a3), (7, .long a4), (9, .long a5), (11, .long a6)]) hx hb d_Mo_curve_43 hl (by decide) rfl (fun ls hl => ?_)
  refine lv_lload hx hb d_Mo_curve_45 (lv_at hl 0 rfl) ?_
  refine lv_lconst (v := (0 : Int64)) hx hb d_Mo_curve_47 (by decide) ?_
  refine W.lcmp hx hb d_Mo_curve_48 ?_
  refine lv_if_ne (tgt := 185) hx hb d_Mo_curve_49 (by decide) (fun c_1 => ?_) (fun c_1 => ?_)
  · replace h := (if_neg c_1).symm.trans h
    refine lv_lload hx hb d_Mo_curve_185 (lv_at hl 0 rfl) ?_
    obtain ⟨r_2, hq, h⟩ := Option.bind_eq_some_iff.mp h
    try dsimp only at h
    have hPc := hP.sub (ws' := []) [] rfl
    have hDc := hD.sub (ws' := []) [] (by decide) rfl
    have hFc := va_free (wc := []) hD hS hA [] rfl
    refine va_calli (va_runS (As := [.long ((((a3 * a6) - (a5 * a4)) + ((a5 * a2) - (a1 * a6))) + ((a1 * a4) - (a3 * a2)))]) (rest := []) ⟨hx, hb, hml, hown, htsG⟩ (c_Mo_sign l dC dI cy s.heap.size ((((a3 * a6) - (a5 * a4)) + ((a5 * a2) - (a1 * a6))) + ((a1 * a4) - (a3 * a2))) r_2 hq) (va_cwS 1 htsG (gS mW1106 mW1107 mW9 mW1108) rfl rfl rfl (by decide +kernel) ⟨Nat.le_of_ble_eq_true rfl, Nat.le_of_ble_eq_true rfl⟩) ⟨fun a U g mk q => by obtain ⟨q0, q1, qP, qK, qD⟩ := q; exact ⟨q0, q1, qP, va_K.moved (u := U) (U := U.calling g mk a) (Vm.Alike.refl U.vm) qK, qD⟩, fun U hU hW => ⟨rfl, by rw [hU], by rw [hU]; exact hPc, va_K.moved hW.alike hK, hDc.weaken (fun _ _ _ _ => trivial)⟩⟩ rfl rfl hl.1 rfl (lv_room (Nat.le_of_ble_eq_true rfl)) d_Mo_curve_187 ⟨Nat.le_of_ble_eq_true rfl, Nat.le_of_ble_eq_true rfl⟩) hS (fun q _ h => hFc q h) hFc (fun rr u t H1 locs ht hvm hw hB hz1 hk1 hS => ?_)
    obtain ⟨hP1, hK1, hD1⟩ := hB
    rw [ht] at hP1
    replace hw : r_2 = rr := hw.symm
    subst hw
    obtain ⟨hP, hD⟩ := va_join (wr := [(o, .inr (9, [.int o_width, .int o_height, .ref o_page, .ref o_tape, .int o_tapeLength, va_rf o_font, .ref o_spare, .int o_scale, .ref o_lineFrom, .ref o_lineTo, .ref o_lineWidth, .int o_lines, .int o_at, .int o_end, .int o_good, .ref o_flag, .ref o_px, .ref o_py, .int o_touches, .ref o_first, .ref o_second, .int o_turns])), (o_first, .inl (cy 3, 6, .inr (.inl o_first_f))), (o_second, .inl (cy 3, 6, .inr (.inl o_second_f)))]) (w1 := []) hP hD [] [0, 1, 2] rfl rfl (by decide) (by decide) hk1 hFc hP1 hD1
    generalize H1 = H at hP hS ⊢
    have hP := hP.sub (ws' := [(o, .inr (9, [.int o_width, .int o_height, .ref o_page, .ref o_tape, .int o_tapeLength, va_rf o_font, .ref o_spare, .int o_scale, .ref o_lineFrom, .ref o_lineTo, .ref o_lineWidth, .int o_lines, .int o_at, .int o_end, .int o_good, .ref o_flag, .ref o_px, .ref o_py, .int o_touches, .ref o_first, .ref o_second, .int o_turns])), (o_first, .inl (cy 3, 6, .inr (.inl o_first_f))), (o_second, .inl (cy 3, 6, .inr (.inl o_second_f)))]) [0, 1, 2] rfl
    have hD := hD.sub (ws' := [(o, .inr (9, [.int o_width, .int o_height, .ref o_page, .ref o_tape, .int o_tapeLength, va_rf o_font, .ref o_spare, .int o_scale, .ref o_lineFrom, .ref o_lineTo, .ref o_lineWidth, .int o_lines, .int o_at, .int o_end, .int o_good, .ref o_flag, .ref o_px, .ref o_py, .int o_touches, .ref o_first, .ref o_second, .int o_turns])), (o_first, .inl (cy 3, 6, .inr (.inl o_first_f))), (o_second, .inl (cy 3, 6, .inr (.inl o_second_f)))]) [0, 1, 2] (by decide) rfl
    refine W.widen (k := 0) (n := 0) (by decide) (by decide) ?_
    refine lv_istore (lv' := [(21, .int r_2), (19, .long ((((a3 * a6) - (a5 * a4)) + ((a5 * a2) - (a1 * a6))) + ((a1 * a4) - (a3 * a2)))), (17, .long ((a1 * a4) - (a3 * a2))), (15, .long ((a5 * a2) - (a1 * a6))), (13, .long ((a3 * a6) - (a5 * a4))), (0, .ref o), (1, .long a1), (3, .long a2), (5, .long a3), (7, .long a4), (9, .long a5), (11, .long a6)]) hx hb d_Mo_curve_190 hl (by decide) rfl (fun ls hl => ?_)
    refine lv_iload hx hb d_Mo_curve_192 (lv_at hl 0 rfl) ?_
    refine lv_i2l hx hb d_Mo_curve_194 rfl ?_
    refine lv_lload hx hb d_Mo_curve_195 (lv_at hl 4 rfl) ?_
    refine lv_lmul hx hb d_Mo_curve_197 ?_
    refine lv_lconst (v := (0 : Int64)) hx hb d_Mo_curve_198 (by decide) ?_
    refine W.lcmp hx hb d_Mo_curve_199 ?_
    refine lv_if_lt (tgt := 255) hx hb d_Mo_curve_200 (by decide) (fun c_3 => ?_) (fun c_3 => ?_)
    · replace h := (if_pos c_3).symm.trans h
      exact w_Mo_curve_255 C0 o o_page o_tape o_spare o_lineFrom o_lineTo o_lineWidth o_flag o_px o_py o_first o_second o_width o_height o_tapeLength o_font o_scale o_lines o_at o_end o_good a1 a2 a3 a4 a5 a6 uu  a1 a2 a3 a4 a5 a6 o_touches o_turns o_first_f o_second_f h hP hD hS (lv_sub hl [5, 6, 7, 8, 9, 10, 11] rfl)
    · replace h := (if_neg c_3).symm.trans h
      refine lv_iload hx hb d_Mo_curve_203 (lv_at hl 0 rfl) ?_
      refine lv_i2l hx hb d_Mo_curve_205 rfl ?_
      refine lv_lload hx hb d_Mo_curve_206 (lv_at hl 3 rfl) ?_
      refine lv_lmul hx hb d_Mo_curve_208 ?_
      refine lv_lconst (v := (0 : Int64)) hx hb d_Mo_curve_209 (by decide) ?_
      refine W.lcmp hx hb d_Mo_curve_210 ?_
      refine lv_if_lt (tgt := 255) hx hb d_Mo_curve_211 (by decide) (fun c_4 => ?_) (fun c_4 => ?_)
      · replace h := (if_pos c_4).symm.trans h
        exact w_Mo_curve_255 C0 o o_page o_tape o_spare o_lineFrom o_lineTo o_lineWidth o_flag o_px o_py o_first o_second o_width o_height o_tapeLength o_font o_scale o_lines o_at o_end o_good a1 a2 a3 a4 a5 a6 uu  a1 a2 a3 a4 a5 a6 o_touches o_turns o_first_f o_second_f h hP hD hS (lv_sub hl [5, 6, 7, 8, 9, 10, 11] rfl)
      · replace h := (if_neg c_4).symm.trans h
        refine lv_iload hx hb d_Mo_curve_214 (lv_at hl 0 rfl) ?_
        refine lv_i2l hx hb d_Mo_curve_216 rfl ?_
        refine lv_lload hx hb d_Mo_curve_217 (lv_at hl 2 rfl) ?_
        refine lv_lmul hx hb d_Mo_curve_219 ?_
        refine lv_lconst (v := (0 : Int64)) hx hb d_Mo_curve_220 (by decide) ?_
        refine W.lcmp hx hb d_Mo_curve_221 ?_
        refine lv_if_lt (tgt := 255) hx hb d_Mo_curve_222 (by decide) (fun c_5 => ?_) (fun c_5 => ?_)
        · replace h := (if_pos c_5).symm.trans h
          exact w_Mo_curve_255 C0 o o_page o_tape o_spare o_lineFrom o_lineTo o_lineWidth o_flag o_px o_py o_first o_second o_width o_height o_tapeLength o_font o_scale o_lines o_at o_end o_good a1 a2 a3 a4 a5 a6 uu  a1 a2 a3 a4 a5 a6 o_touches o_turns o_first_f o_second_f h hP hD hS (lv_sub hl [5, 6, 7, 8, 9, 10, 11] rfl)
        · replace h := (if_neg c_5).symm.trans h
          refine lv_aload_n hx hb d_Mo_curve_225 rfl (lv_at hl 5 rfl) ?_
          refine lv_iload hx hb d_Mo_curve_226 (lv_at hl 0 rfl) ?_
          refine lv_i2l hx hb d_Mo_curve_228 rfl ?_
          refine lv_lload hx hb d_Mo_curve_229 (lv_at hl 4 rfl) ?_
          refine lv_lmul hx hb d_Mo_curve_231 ?_
          refine lv_iload hx hb d_Mo_curve_232 (lv_at hl 0 rfl) ?_
          refine lv_i2l hx hb d_Mo_curve_234 rfl ?_
          refine lv_lload hx hb d_Mo_curve_235 (lv_at hl 3 rfl) ?_
          refine lv_lmul hx hb d_Mo_curve_237 ?_
          refine lv_iload hx hb d_Mo_curve_238 (lv_at hl 0 rfl) ?_
          refine lv_i2l hx hb d_Mo_curve_240 rfl ?_
          refine lv_lload hx hb d_Mo_curve_241 (lv_at hl 2 rfl) ?_
          refine lv_lmul hx hb d_Mo_curve_243 ?_
          obtain ⟨⟨r_6, n_7, n_8⟩, hq, h⟩ := Option.bind_eq_some_iff.mp h
          dsimp only [unp] at h
          have hPc := hP.sub (ws' := [(o, .inr (9, [.int o_width, .int o_height, .ref o_page, .ref o_tape, .int o_tapeLength, va_rf o_font, .ref o_spare, .int o_scale, .ref o_lineFrom, .ref o_lineTo, .ref o_lineWidth, .int o_lines, .int o_at, .int o_end, .int o_good, .ref o_flag, .ref o_px, .ref o_py, .int o_touches, .ref o_first, .ref o_second, .int o_turns])), (o_first, .inl (cy 3, 6, .inr (.inl o_first_f))), (o_second, .inl (cy 3, 6, .inr (.inl o_second_f)))]) [0, 1, 2] rfl
          have hDc := hD.sub (ws' := [(o, .inr (9, [.int o_width, .int o_height, .ref o_page, .ref o_tape, .int o_tapeLength, va_rf o_font, .ref o_spare, .int o_scale, .ref o_lineFrom, .ref o_lineTo, .ref o_lineWidth, .int o_lines, .int o_at, .int o_end, .int o_good, .ref o_flag, .ref o_px, .ref o_py, .int o_touches, .ref o_first, .ref o_second, .int o_turns])), (o_first, .inl (cy 3, 6, .inr (.inl o_first_f))), (o_second, .inl (cy 3, 6, .inr (.inl o_second_f)))]) [0, 1, 2] (by decide) rfl
          have hFc := va_free (wc := [(o, .inr (9, [.int o_width, .int o_height, .ref o_page, .ref o_tape, .int o_tapeLength, va_rf o_font, .ref o_spare, .int o_scale, .ref o_lineFrom, .ref o_lineTo, .ref o_lineWidth, .int o_lines, .int o_at, .int o_end, .int o_good, .ref o_flag, .ref o_px, .ref o_py, .int o_touches, .ref o_first, .ref o_second, .int o_turns])), (o_first, .inl (cy 3, 6, .inr (.inl o_first_f))), (o_second, .inl (cy 3, 6, .inr (.inl o_second_f)))]) hD hS hA [0, 1, 2] rfl
          refine va_calli (va_runV (As := [.long ((r_2.toInt64) * ((a3 * a6) - (a5 * a4))), .long ((r_2.toInt64) * ((a5 * a2) - (a1 * a6))), .long ((r_2.toInt64) * ((a1 * a4) - (a3 * a2)))]) (rest := []) ⟨hx, hb, hml, hown, htsG⟩ (c_Mo_through l dC dI cy H.size o o_page o_tape o_spare o_lineFrom o_lineTo o_lineWidth o_flag o_px o_py o_first o_second o_width o_height o_tapeLength o_font o_scale o_lines o_at o_end o_good o_touches o_turns o_first_f o_second_f ((r_2.toInt64) * ((a3 * a6) - (a5 * a4))) ((r_2.toInt64) * ((a5 * a2) - (a1 * a6))) ((r_2.toInt64) * ((a1 * a4) - (a3 * a2))) (r_6, n_7, n_8) hq) (cwV 3 htsG (gV mW1120 mW1122 mS_Mo_through mW9 mW1123) rfl rfl rfl (by decide +kernel) ⟨Nat.le_of_ble_eq_true rfl, Nat.le_of_ble_eq_true rfl⟩) ⟨fun a U g mk q => by obtain ⟨q0, q1, qP, qK, qD⟩ := q; exact ⟨q0, q1, qP, va_K.moved (u := U) (U := U.calling g mk a) (Vm.Alike.refl U.vm) qK, qD⟩, va_recv hK hPc (ci := 9) (q0 := 0) rfl rfl, fun U hU hW => ⟨rfl, by rw [hU], by rw [hU]; exact hPc, va_K.moved hW.alike hK, hDc.weaken (fun _ _ _ _ => trivial)⟩⟩ rfl rfl hl.1 rfl (lv_room (Nat.le_of_ble_eq_true rfl)) d_Mo_curve_244 ⟨Nat.le_of_ble_eq_true rfl, Nat.le_of_ble_eq_true rfl⟩) hS (fun q _ h => hFc q h) hFc (fun rr u t H1 locs ht hvm hw hB hz1 hk1 hS => ?_)
          obtain ⟨hP1, hK1, hD1⟩ := hB
          rw [ht] at hP1
          replace hw : r_6 = rr := hw.symm
          subst hw
          obtain ⟨hP, hD⟩ := va_join (wr := []) (w1 := [(o, .inr (9, [.int o_width, .int o_height, .ref o_page, .ref o_tape, .int o_tapeLength, va_rf o_font, .ref o_spare, .int o_scale, .ref o_lineFrom, .ref o_lineTo, .ref o_lineWidth, .int o_lines, .int o_at, .int o_end, .int o_good, .ref o_flag, .ref o_px, .ref o_py, .int o_touches, .ref o_first, .ref o_second, .int o_turns])), (o_first, .inl (cy 3, 6, .inr (.inl n_7))), (o_second, .inl (cy 3, 6, .inr (.inl n_8)))]) hP hD [0, 1, 2] [] rfl rfl (by decide) (by decide) hk1 hFc hP1 hD1
          generalize H1 = H at hP hS ⊢
          have hP := hP.sub (ws' := [(o, .inr (9, [.int o_width, .int o_height, .ref o_page, .ref o_tape, .int o_tapeLength, va_rf o_font, .ref o_spare, .int o_scale, .ref o_lineFrom, .ref o_lineTo, .ref o_lineWidth, .int o_lines, .int o_at, .int o_end, .int o_good, .ref o_flag, .ref o_px, .ref o_py, .int o_touches, .ref o_first, .ref o_second, .int o_turns])), (o_first, .inl (cy 3, 6, .inr (.inl n_7))), (o_second, .inl (cy 3, 6, .inr (.inl n_8)))]) [0, 1, 2] rfl
          have hD := hD.sub (ws' := [(o, .inr (9, [.int o_width, .int o_height, .ref o_page, .ref o_tape, .int o_tapeLength, va_rf o_font, .ref o_spare, .int o_scale, .ref o_lineFrom, .ref o_lineTo, .ref o_lineWidth, .int o_lines, .int o_at, .int o_end, .int o_good, .ref o_flag, .ref o_px, .ref o_py, .int o_touches, .ref o_first, .ref o_second, .int o_turns])), (o_first, .inl (cy 3, 6, .inr (.inl n_7))), (o_second, .inl (cy 3, 6, .inr (.inl n_8)))]) [0, 1, 2] (by decide) rfl
          refine W.widen (k := 0) (n := 0) (by decide) (by decide) ?_
          refine lv_if_eq (tgt := 255) hx hb d_Mo_curve_247 (by decide) (fun c_9 => ?_) (fun c_9 => ?_)
          · replace h := (if_pos c_9).symm.trans h
            exact w_Mo_curve_255 C0 o o_page o_tape o_spare o_lineFrom o_lineTo o_lineWidth o_flag o_px o_py o_first o_second o_width o_height o_tapeLength o_font o_scale o_lines o_at o_end o_good a1 a2 a3 a4 a5 a6 uu  a1 a2 a3 a4 a5 a6 o_touches o_turns n_7 n_8 h hP hD hS (lv_sub hl [5, 6, 7, 8, 9, 10, 11] rfl)
          · replace h := (if_neg c_9).symm.trans h
            refine lv_aload_n hx hb d_Mo_curve_250 rfl (lv_at hl 5 rfl) ?_
            refine lv_iconst (v := (1 : Int32)) hx hb d_Mo_curve_251 (by decide) ?_
            refine va_put (D := (dC, dI)) (ci := 9) (v := .int (1 : Int32)) (ty := .boolean) (C := "GlyphPageModel") (T := F_Mo) (N := 22) hx hb htsG iG_Mo t_Mo t_Mo_ok n_Mo hown hK hP hD hS 0 rfl rfl 18 (by decide) (htsG _ mW874) (fun _ h9 => h9) rfl (by decide +kernel) rfl rfl (Nat.le_of_ble_eq_true rfl) d_Mo_curve_252 (fun H locs hP hD hS => ?_)
            have hP : va_P (dC, dI) classes [(o, .inr (9, [.int o_width, .int o_height, .ref o_page, .ref o_tape, .int o_tapeLength, va_rf o_font, .ref o_spare, .int o_scale, .ref o_lineFrom, .ref o_lineTo, .ref o_lineWidth, .int o_lines, .int o_at, .int o_end, .int o_good, .ref o_flag, .ref o_px, .ref o_py, .int (1 : Int32), .ref o_first, .ref o_second, .int o_turns])), (o_first, .inl (cy 3, 6, .inr (.inl n_7))), (o_second, .inl (cy 3, 6, .inr (.inl n_8)))] H := hP
            have hD : va_D A [(o, .inr (9, [.int o_width, .int o_height, .ref o_page, .ref o_tape, .int o_tapeLength, va_rf o_font, .ref o_spare, .int o_scale, .ref o_lineFrom, .ref o_lineTo, .ref o_lineWidth, .int o_lines, .int o_at, .int o_end, .int o_good, .ref o_flag, .ref o_px, .ref o_py, .int (1 : Int32), .ref o_first, .ref o_second, .int o_turns])), (o_first, .inl (cy 3, 6, .inr (.inl n_7))), (o_second, .inl (cy 3, 6, .inr (.inl n_8)))] := hD
            exact w_Mo_curve_255 C0 o o_page o_tape o_spare o_lineFrom o_lineTo o_lineWidth o_flag o_px o_py o_first o_second o_width o_height o_tapeLength o_font o_scale o_lines o_at o_end o_good a1 a2 a3 a4 a5 a6 uu  a1 a2 a3 a4 a5 a6 (1 : Int32) o_turns n_7 n_8 h hP hD hS (lv_sub hl [5, 6, 7, 8, 9, 10, 11] rfl)
  · replace h := (if_pos c_1).symm.trans h
    refine lv_lload_n hx hb d_Mo_curve_52 rfl (lv_at hl 5 rfl) ?_
    refine lv_lload hx hb d_Mo_curve_53 (lv_at hl 7 rfl) ?_
    refine W.lcmp hx hb d_Mo_curve_55 ?_
    refine lv_if_ne (tgt := 67) hx hb d_Mo_curve_56 (by decide) (fun c_10 => ?_) (fun c_10 => ?_)
    · replace h := (if_neg c_10).symm.trans h
      exact w_Mo_curve_67 C0 o o_page o_tape o_spare o_lineFrom o_lineTo o_lineWidth o_flag o_px o_py o_first o_second o_width o_height o_tapeLength o_font o_scale o_lines o_at o_end o_good a1 a2 a3 a4 a5 a6 uu  a1 a2 a3 a4 a5 a6 ((a3 * a6) - (a5 * a4)) ((a5 * a2) - (a1 * a6)) ((a1 * a4) - (a3 * a2)) o_touches o_turns o_first_f o_second_f h hP hD hS (lv_sub hl [4, 5, 6, 7, 8, 9, 10, 3, 2, 1] rfl)
    · replace h := (if_pos c_10).symm.trans h
      refine lv_lload hx hb d_Mo_curve_59 (lv_at hl 7 rfl) ?_
      refine lv_lload hx hb d_Mo_curve_61 (lv_at hl 9 rfl) ?_
      refine W.lcmp hx hb d_Mo_curve_63 ?_
      refine lv_if_eq (tgt := 71) hx hb d_Mo_curve_64 (by decide) (fun c_11 => ?_) (fun c_11 => ?_)
      · replace h := (if_pos c_11).symm.trans h
        refine lv_iconst (v := (0 : Int32)) hx hb d_Mo_curve_71 (by decide) ?_
        exact w_Mo_curve_72 C0 o o_page o_tape o_spare o_lineFrom o_lineTo o_lineWidth o_flag o_px o_py o_first o_second o_width o_height o_tapeLength o_font o_scale o_lines o_at o_end o_good a1 a2 a3 a4 a5 a6 uu  a1 a2 a3 a4 a5 a6 ((a3 * a6) - (a5 * a4)) ((a5 * a2) - (a1 * a6)) ((a1 * a4) - (a3 * a2)) (0 : Int32) o_touches o_turns o_first_f o_second_f h hP hD hS (lv_sub hl [4, 5, 6, 7, 8, 9, 10, 3, 2, 1] rfl)
      · replace h := (if_neg c_11).symm.trans h
        exact w_Mo_curve_67 C0 o o_page o_tape o_spare o_lineFrom o_lineTo o_lineWidth o_flag o_px o_py o_first o_second o_width o_height o_tapeLength o_font o_scale o_lines o_at o_end o_good a1 a2 a3 a4 a5 a6 uu  a1 a2 a3 a4 a5 a6 ((a3 * a6) - (a5 * a4)) ((a5 * a2) - (a1 * a6)) ((a1 * a4) - (a3 * a2)) o_touches o_turns o_first_f o_second_f h hP hD hS (lv_sub hl [4, 5, 6, 7, 8, 9, 10, 3, 2, 1] rfl)
end
