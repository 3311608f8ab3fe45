theorem mW9 : (Jvm.Cond.initialized "GlyphPageModel") ∈ G := inG (inT1 (List.mem_of_getElem? (i := 9) rfl)) rfl
theorem mW10 : (Jvm.Cond.initialized "GlyphPageModel$Font") ∈ G := inG (inT1 (List.mem_of_getElem? (i := 10) rfl)) rfl
theorem mW774 : (Jvm.Cond.fieldLink "GlyphPageModel$Font" (9 : Nat) "GlyphPageModel$Font" "file" "[B") ∈ G := inG (inT4 (List.mem_of_getElem? (i := 54) rfl)) rfl
theorem mW778 : (Jvm.Cond.fieldLink "GlyphPageModel" (80 : Nat) "GlyphPageModel$Font" "at" "[I") ∈ G := inG (inT4 (List.mem_of_getElem? (i := 58) rfl)) rfl
theorem mW780 : (Jvm.Cond.fieldLink "GlyphPageModel" (96 : Nat) "GlyphPageModel$Font" "length" "[I") ∈ G := inG (inT4 (List.mem_of_getElem? (i := 60) rfl)) rfl
theorem mW781 : (Jvm.Cond.fieldLink "GlyphPageModel" (100 : Nat) "GlyphPageModel$Font" "units" "I") ∈ G := inG (inT4 (List.mem_of_getElem? (i := 61) rfl)) rfl
theorem mW782 : (Jvm.Cond.fieldLink "GlyphPageModel" (103 : Nat) "GlyphPageModel$Font" "form" "I") ∈ G := inG (inT4 (List.mem_of_getElem? (i := 62) rfl)) rfl
theorem mW783 : (Jvm.Cond.fieldLink "GlyphPageModel" (106 : Nat) "GlyphPageModel$Font" "glyphs" "I") ∈ G := inG (inT4 (List.mem_of_getElem? (i := 63) rfl)) rfl
theorem mW784 : (Jvm.Cond.fieldLink "GlyphPageModel" (112 : Nat) "GlyphPageModel$Font" "ascent" "I") ∈ G := inG (inT4 (List.mem_of_getElem? (i := 64) rfl)) rfl
theorem mW785 : (Jvm.Cond.fieldLink "GlyphPageModel" (115 : Nat) "GlyphPageModel$Font" "descent" "I") ∈ G := inG (inT4 (List.mem_of_getElem? (i := 65) rfl)) rfl
theorem mW786 : (Jvm.Cond.fieldLink "GlyphPageModel" (118 : Nat) "GlyphPageModel$Font" "gap" "I") ∈ G := inG (inT4 (List.mem_of_getElem? (i := 66) rfl)) rfl
theorem mW787 : (Jvm.Cond.fieldLink "GlyphPageModel" (121 : Nat) "GlyphPageModel$Font" "metrics" "I") ∈ G := inG (inT4 (List.mem_of_getElem? (i := 67) rfl)) rfl
theorem mW788 : (Jvm.Cond.fieldLink "GlyphPageModel" (139 : Nat) "GlyphPageModel$Font" "map" "I") ∈ G := inG (inT4 (List.mem_of_getElem? (i := 68) rfl)) rfl
theorem mW789 : (Jvm.Cond.fieldLink "GlyphPageModel" (142 : Nat) "GlyphPageModel$Font" "mapLength" "I") ∈ G := inG (inT4 (List.mem_of_getElem? (i := 69) rfl)) rfl
theorem mW790 : (Jvm.Cond.fieldLink "GlyphPageModel" (145 : Nat) "GlyphPageModel$Font" "segments" "I") ∈ G := inG (inT4 (List.mem_of_getElem? (i := 70) rfl)) rfl
theorem mW942 : (Jvm.Cond.methodLink "GlyphPageModel" (73 : Nat) ({ cls := "GlyphPageModel$Font", name := "four", desc := "(I)I" } : Jvm.MethodName)) ∈ G := inG (inT4 (List.mem_of_getElem? (i := 222) rfl)) rfl
theorem mW943 : (Jvm.Cond.instanceMethod ({ cls := "GlyphPageModel$Font", name := "four", desc := "(I)I" } : Jvm.MethodName)) ∈ G := inG (inT4 (List.mem_of_getElem? (i := 223) rfl)) rfl
theorem mW944 : (Jvm.Cond.selects "GlyphPageModel$Font" ({ cls := "GlyphPageModel$Font", name := "four", desc := "(I)I" } : Jvm.MethodName) ({ cls := "GlyphPageModel$Font", name := "four", desc := "(I)I" } : Jvm.MethodName)) ∈ G := inG (inT4 (List.mem_of_getElem? (i := 224) rfl)) rfl
theorem mW945 : (Jvm.Cond.code ({ cls := "GlyphPageModel$Font", name := "four", desc := "(I)I" } : Jvm.MethodName) prog_11_method_5_code (2 : Nat) (Option.some Jvm.ClassFile.FieldType.int)) ∈ G := inG (inT4 (List.mem_of_getElem? (i := 225) rfl)) rfl
theorem mW946 : (Jvm.Cond.methodLink "GlyphPageModel$Font" (50 : Nat) ({ cls := "GlyphPageModel$Font", name := "two", desc := "(I)I" } : Jvm.MethodName)) ∈ G := inG (inT4 (List.mem_of_getElem? (i := 226) rfl)) rfl
theorem mW947 : (Jvm.Cond.instanceMethod ({ cls := "GlyphPageModel$Font", name := "two", desc := "(I)I" } : Jvm.MethodName)) ∈ G := inG (inT4 (List.mem_of_getElem? (i := 227) rfl)) rfl
theorem mW948 : (Jvm.Cond.selects "GlyphPageModel$Font" ({ cls := "GlyphPageModel$Font", name := "two", desc := "(I)I" } : Jvm.MethodName) ({ cls := "GlyphPageModel$Font", name := "two", desc := "(I)I" } : Jvm.MethodName)) ∈ G := inG (inT4 (List.mem_of_getElem? (i := 228) rfl)) rfl
theorem mW949 : (Jvm.Cond.code ({ cls := "GlyphPageModel$Font", name := "two", desc := "(I)I" } : Jvm.MethodName) prog_11_method_3_code (2 : Nat) (Option.some Jvm.ClassFile.FieldType.int)) ∈ G := inG (inT4 (List.mem_of_getElem? (i := 229) rfl)) rfl
theorem mW951 : (Jvm.Cond.methodLink "GlyphPageModel" (77 : Nat) ({ cls := "GlyphPageModel$Font", name := "two", desc := "(I)I" } : Jvm.MethodName)) ∈ G := inG (inT4 (List.mem_of_getElem? (i := 231) rfl)) rfl
theorem mW952 : (Jvm.Cond.methodLink "GlyphPageModel" (83 : Nat) ({ cls := "GlyphPageModel$Font", name := "big", desc := "(I)J" } : Jvm.MethodName)) ∈ G := inG (inT4 (List.mem_of_getElem? (i := 232) rfl)) rfl
theorem mW953 : (Jvm.Cond.instanceMethod ({ cls := "GlyphPageModel$Font", name := "big", desc := "(I)J" } : Jvm.MethodName)) ∈ G := inG (inT4 (List.mem_of_getElem? (i := 233) rfl)) rfl
theorem mW954 : (Jvm.Cond.selects "GlyphPageModel$Font" ({ cls := "GlyphPageModel$Font", name := "big", desc := "(I)J" } : Jvm.MethodName) ({ cls := "GlyphPageModel$Font", name := "big", desc := "(I)J" } : Jvm.MethodName)) ∈ G := inG (inT4 (List.mem_of_getElem? (i := 234) rfl)) rfl
theorem mW955 : (Jvm.Cond.code ({ cls := "GlyphPageModel$Font", name := "big", desc := "(I)J" } : Jvm.MethodName) prog_11_method_6_code (2 : Nat) (Option.some Jvm.ClassFile.FieldType.long)) ∈ G := inG (inT4 (List.mem_of_getElem? (i := 235) rfl)) rfl
theorem mW962 : (Jvm.Cond.methodLink "GlyphPageModel" (66 : Nat) ({ cls := "GlyphPageModel$Font", name := "one", desc := "(I)I" } : Jvm.MethodName)) ∈ G := inG (inT5 (List.mem_of_getElem? (i := 2) rfl)) rfl
theorem mW963 : (Jvm.Cond.instanceMethod ({ cls := "GlyphPageModel$Font", name := "one", desc := "(I)I" } : Jvm.MethodName)) ∈ G := inG (inT5 (List.mem_of_getElem? (i := 3) rfl)) rfl
theorem mW964 : (Jvm.Cond.selects "GlyphPageModel$Font" ({ cls := "GlyphPageModel$Font", name := "one", desc := "(I)I" } : Jvm.MethodName) ({ cls := "GlyphPageModel$Font", name := "one", desc := "(I)I" } : Jvm.MethodName)) ∈ G := inG (inT5 (List.mem_of_getElem? (i := 4) rfl)) rfl
theorem mW965 : (Jvm.Cond.code ({ cls := "GlyphPageModel$Font", name := "one", desc := "(I)I" } : Jvm.MethodName) prog_11_method_2_code (2 : Nat) (Option.some Jvm.ClassFile.FieldType.int)) ∈ G := inG (inT5 (List.mem_of_getElem? (i := 5) rfl)) rfl
theorem mW969 : (Jvm.Cond.constant "GlyphPageModel" (99 : Nat) (1594834165 : Int32)) ∈ G := inG (inT5 (List.mem_of_getElem? (i := 9) rfl)) rfl
theorem mW976 : (Jvm.Cond.methodLink "GlyphPageModel" (109 : Nat) ({ cls := "GlyphPageModel$Font", name := "signed", desc := "(I)I" } : Jvm.MethodName)) ∈ G := inG (inT5 (List.mem_of_getElem? (i := 16) rfl)) rfl
theorem mW977 : (Jvm.Cond.instanceMethod ({ cls := "GlyphPageModel$Font", name := "signed", desc := "(I)I" } : Jvm.MethodName)) ∈ G := inG (inT5 (List.mem_of_getElem? (i := 17) rfl)) rfl
theorem mW978 : (Jvm.Cond.selects "GlyphPageModel$Font" ({ cls := "GlyphPageModel$Font", name := "signed", desc := "(I)I" } : Jvm.MethodName) ({ cls := "GlyphPageModel$Font", name := "signed", desc := "(I)I" } : Jvm.MethodName)) ∈ G := inG (inT5 (List.mem_of_getElem? (i := 18) rfl)) rfl
theorem mW979 : (Jvm.Cond.code ({ cls := "GlyphPageModel$Font", name := "signed", desc := "(I)I" } : Jvm.MethodName) prog_11_method_4_code (2 : Nat) (Option.some Jvm.ClassFile.FieldType.int)) ∈ G := inG (inT5 (List.mem_of_getElem? (i := 19) rfl)) rfl
theorem mW980 : (Jvm.Cond.methodLink "GlyphPageModel" (124 : Nat) ({ cls := "java/lang/Math", name := "abs", desc := "(I)I" } : Jvm.MethodName)) ∈ G := inG (inT5 (List.mem_of_getElem? (i := 20) rfl)) rfl
theorem mW981 : (Jvm.Cond.static ({ cls := "java/lang/Math", name := "abs", desc := "(I)I" } : Jvm.MethodName)) ∈ G := inG (inT5 (List.mem_of_getElem? (i := 21) rfl)) rfl
theorem mW982 : (Jvm.Cond.code ({ cls := "java/lang/Math", name := "abs", desc := "(I)I" } : Jvm.MethodName) prog_13_method_59_code (1 : Nat) (Option.some Jvm.ClassFile.FieldType.int)) ∈ G := inG (inT5 (List.mem_of_getElem? (i := 22) rfl)) rfl
theorem mW989 : (Jvm.Cond.methodLink "GlyphPageModel" (131 : Nat) ({ cls := "GlyphPageModel", name := "begins", desc := "(LGlyphPageModel$Font;I)J" } : Jvm.MethodName)) ∈ G := inG (inT5 (List.mem_of_getElem? (i := 29) rfl)) rfl
theorem mW990 : (Jvm.Cond.static ({ cls := "GlyphPageModel", name := "begins", desc := "(LGlyphPageModel$Font;I)J" } : Jvm.MethodName)) ∈ G := inG (inT5 (List.mem_of_getElem? (i := 30) rfl)) rfl
theorem mW991 : (Jvm.Cond.code ({ cls := "GlyphPageModel", name := "begins", desc := "(LGlyphPageModel$Font;I)J" } : Jvm.MethodName) prog_10_method_11_code (2 : Nat) (Option.some Jvm.ClassFile.FieldType.long)) ∈ G := inG (inT5 (List.mem_of_getElem? (i := 31) rfl)) rfl
theorem mW992 : (Jvm.Cond.constantLong "GlyphPageModel" (129 : Nat) (2 : Int64)) ∈ G := inG (inT5 (List.mem_of_getElem? (i := 32) rfl)) rfl
theorem mW996 : (Jvm.Cond.constantLong "GlyphPageModel" (135 : Nat) (-1 : Int64)) ∈ G := inG (inT5 (List.mem_of_getElem? (i := 36) rfl)) rfl
theorem mW997 : (Jvm.Cond.constantLong "GlyphPageModel" (137 : Nat) (8 : Int64)) ∈ G := inG (inT5 (List.mem_of_getElem? (i := 37) rfl)) rfl
theorem mW1025 : (Jvm.Cond.constantLong "GlyphPageModel" (196 : Nat) (8192 : Int64)) ∈ G := inG (inT5 (List.mem_of_getElem? (i := 65) rfl)) rfl
theorem mW1029 : (Jvm.Cond.constantLong "GlyphPageModel" (162 : Nat) (-32768 : Int64)) ∈ G := inG (inT5 (List.mem_of_getElem? (i := 69) rfl)) rfl
theorem mW1030 : (Jvm.Cond.constantLong "GlyphPageModel" (164 : Nat) (32767 : Int64)) ∈ G := inG (inT5 (List.mem_of_getElem? (i := 70) rfl)) rfl
theorem mW1050 : (Jvm.Cond.constant "GlyphPageModel" (148 : Nat) (65535 : Int32)) ∈ G := inG (inT5 (List.mem_of_getElem? (i := 90) rfl)) rfl
abbrev b_Mf_one : ByteArray := prog_11_method_2_code
def y_Mf_one : MethodName := ⟨"GlyphPageModel$Font", "one", "(I)I"⟩
theorem d_Mf_one_0 : decode b_Mf_one 0 = .ok (.aload_n 0, 1) := by decide +kernel
theorem d_Mf_one_1 : decode b_Mf_one 1 = .ok (.getfield 9, 3) := by decide +kernel
theorem d_Mf_one_4 : decode b_Mf_one 4 = .ok (.iload_n 1, 1) := by decide +kernel
theorem d_Mf_one_5 : decode b_Mf_one 5 = .ok (.baload, 1) := by decide +kernel
theorem d_Mf_one_6 : decode b_Mf_one 6 = .ok (.sipush 255, 3) := by decide +kernel
theorem d_Mf_one_9 : decode b_Mf_one 9 = .ok (.iand, 1) := by decide +kernel
theorem d_Mf_one_10 : decode b_Mf_one 10 = .ok (.ireturn, 1) := by decide +kernel
abbrev b_Mf_two : ByteArray := prog_11_method_3_code
def y_Mf_two : MethodName := ⟨"GlyphPageModel$Font", "two", "(I)I"⟩
theorem d_Mf_two_0 : decode b_Mf_two 0 = .ok (.aload_n 0, 1) := by decide +kernel
theorem d_Mf_two_1 : decode b_Mf_two 1 = .ok (.getfield 9, 3) := by decide +kernel
theorem d_Mf_two_4 : decode b_Mf_two 4 = .ok (.iload_n 1, 1) := by decide +kernel
theorem d_Mf_two_5 : decode b_Mf_two 5 = .ok (.baload, 1) := by decide +kernel
theorem d_Mf_two_6 : decode b_Mf_two 6 = .ok (.sipush 255, 3) := by decide +kernel
theorem d_Mf_two_9 : decode b_Mf_two 9 = .ok (.iand, 1) := by decide +kernel
theorem d_Mf_two_10 : decode b_Mf_two 10 = .ok (.bipush 8, 2) := by decide +kernel
theorem d_Mf_two_12 : decode b_Mf_two 12 = .ok (.ishl, 1) := by decide +kernel
theorem d_Mf_two_13 : decode b_Mf_two 13 = .ok (.aload_n 0, 1) := by decide +kernel
theorem d_Mf_two_14 : decode b_Mf_two 14 = .ok (.getfield 9, 3) := by decide +kernel
theorem d_Mf_two_17 : decode b_Mf_two 17 = .ok (.iload_n 1, 1) := by decide +kernel
theorem d_Mf_two_18 : decode b_Mf_two 18 = .ok (.iconst 1, 1) := by decide +kernel
theorem d_Mf_two_19 : decode b_Mf_two 19 = .ok (.iadd, 1) := by decide +kernel
theorem d_Mf_two_20 : decode b_Mf_two 20 = .ok (.baload, 1) := by decide +kernel
theorem d_Mf_two_21 : decode b_Mf_two 21 = .ok (.sipush 255, 3) := by decide +kernel
theorem d_Mf_two_24 : decode b_Mf_two 24 = .ok (.iand, 1) := by decide +kernel
theorem d_Mf_two_25 : decode b_Mf_two 25 = .ok (.ior, 1) := by decide +kernel
theorem d_Mf_two_26 : decode b_Mf_two 26 = .ok (.ireturn, 1) := by decide +kernel
abbrev b_Mf_signed : ByteArray := prog_11_method_4_code
def y_Mf_signed : MethodName := ⟨"GlyphPageModel$Font", "signed", "(I)I"⟩
theorem d_Mf_signed_0 : decode b_Mf_signed 0 = .ok (.aload_n 0, 1) := by decide +kernel
theorem d_Mf_signed_1 : decode b_Mf_signed 1 = .ok (.iload_n 1, 1) := by decide +kernel
theorem d_Mf_signed_2 : decode b_Mf_signed 2 = .ok (.invokevirtual 50, 3) := by decide +kernel
theorem d_Mf_signed_5 : decode b_Mf_signed 5 = .ok (.i2s, 1) := by decide +kernel
theorem d_Mf_signed_6 : decode b_Mf_signed 6 = .ok (.ireturn, 1) := by decide +kernel
abbrev b_Mf_four : ByteArray := prog_11_method_5_code
def y_Mf_four : MethodName := ⟨"GlyphPageModel$Font", "four", "(I)I"⟩
theorem d_Mf_four_0 : decode b_Mf_four 0 = .ok (.aload_n 0, 1) := by decide +kernel
theorem d_Mf_four_1 : decode b_Mf_four 1 = .ok (.iload_n 1, 1) := by decide +kernel
theorem d_Mf_four_2 : decode b_Mf_four 2 = .ok (.invokevirtual 50, 3) := by decide +kernel
theorem d_Mf_four_5 : decode b_Mf_four 5 = .ok (.bipush 16, 2) := by decide +kernel
theorem d_Mf_four_7 : decode b_Mf_four 7 = .ok (.ishl, 1) := by decide +kernel
theorem d_Mf_four_8 : decode b_Mf_four 8 = .ok (.aload_n 0, 1) := by decide +kernel
theorem d_Mf_four_9 : decode b_Mf_four 9 = .ok (.iload_n 1, 1) := by decide +kernel
theorem d_Mf_four_10 : decode b_Mf_four 10 = .ok (.iconst 2, 1) := by decide +kernel
theorem d_Mf_four_11 : decode b_Mf_four 11 = .ok (.iadd, 1) := by decide +kernel
theorem d_Mf_four_12 : decode b_Mf_four 12 = .ok (.invokevirtual 50, 3) := by decide +kernel
theorem d_Mf_four_15 : decode b_Mf_four 15 = .ok (.ior, 1) := by decide +kernel
theorem d_Mf_four_16 : decode b_Mf_four 16 = .ok (.ireturn, 1) := by decide +kernel
abbrev b_Mf_big : ByteArray := prog_11_method_6_code
def y_Mf_big : MethodName := ⟨"GlyphPageModel$Font", "big", "(I)J"⟩
theorem d_Mf_big_0 : decode b_Mf_big 0 = .ok (.aload_n 0, 1) := by decide +kernel
theorem d_Mf_big_1 : decode b_Mf_big 1 = .ok (.iload_n 1, 1) := by decide +kernel
theorem d_Mf_big_2 : decode b_Mf_big 2 = .ok (.invokevirtual 50, 3) := by decide +kernel
theorem d_Mf_big_5 : decode b_Mf_big 5 = .ok (.i2l, 1) := by decide +kernel
theorem d_Mf_big_6 : decode b_Mf_big 6 = .ok (.bipush 16, 2) := by decide +kernel
theorem d_Mf_big_8 : decode b_Mf_big 8 = .ok (.lshl, 1) := by decide +kernel
theorem d_Mf_big_9 : decode b_Mf_big 9 = .ok (.aload_n 0, 1) := by decide +kernel
theorem d_Mf_big_10 : decode b_Mf_big 10 = .ok (.iload_n 1, 1) := by decide +kernel
theorem d_Mf_big_11 : decode b_Mf_big 11 = .ok (.iconst 2, 1) := by decide +kernel
theorem d_Mf_big_12 : decode b_Mf_big 12 = .ok (.iadd, 1) := by decide +kernel
theorem d_Mf_big_13 : decode b_Mf_big 13 = .ok (.invokevirtual 50, 3) := by decide +kernel
theorem d_Mf_big_16 : decode b_Mf_big 16 = .ok (.i2l, 1) := by decide +kernel
theorem d_Mf_big_17 : decode b_Mf_big 17 = .ok (.lor, 1) := by decide +kernel
theorem d_Mf_big_18 : decode b_Mf_big 18 = .ok (.lreturn, 1) := by decide +kernel
abbrev b_Mo_small : ByteArray := prog_10_method_17_code
def y_Mo_small : MethodName := ⟨"GlyphPageModel", "small", "(J)Z"⟩
theorem d_Mo_small_0 : decode b_Mo_small 0 = .ok (.lload_n 0, 1) := by decide +kernel
theorem d_Mo_small_1 : decode b_Mo_small 1 = .ok (.ldc2_w 162, 3) := by decide +kernel
theorem d_Mo_small_4 : decode b_Mo_small 4 = .ok (.lcmp, 1) := by decide +kernel
theorem d_Mo_small_5 : decode b_Mo_small 5 = .ok (.ifCond .lt 15, 3) := by decide +kernel
theorem d_Mo_small_8 : decode b_Mo_small 8 = .ok (.lload_n 0, 1) := by decide +kernel
theorem d_Mo_small_9 : decode b_Mo_small 9 = .ok (.ldc2_w 164, 3) := by decide +kernel
theorem d_Mo_small_12 : decode b_Mo_small 12 = .ok (.lcmp, 1) := by decide +kernel
theorem d_Mo_small_13 : decode b_Mo_small 13 = .ok (.ifCond .gt 7, 3) := by decide +kernel
theorem d_Mo_small_16 : decode b_Mo_small 16 = .ok (.iconst 1, 1) := by decide +kernel
theorem d_Mo_small_17 : decode b_Mo_small 17 = .ok (.goto 4, 3) := by decide +kernel
theorem d_Mo_small_20 : decode b_Mo_small 20 = .ok (.iconst 0, 1) := by decide +kernel
theorem d_Mo_small_21 : decode b_Mo_small 21 = .ok (.ireturn, 1) := by decide +kernel
abbrev b_Mo_rounded : ByteArray := prog_10_method_20_code
def y_Mo_rounded : MethodName := ⟨"GlyphPageModel", "rounded", "(J)J"⟩
theorem d_Mo_rounded_0 : decode b_Mo_rounded 0 = .ok (.lload_n 0, 1) := by decide +kernel
theorem d_Mo_rounded_1 : decode b_Mo_rounded 1 = .ok (.ldc2_w 196, 3) := by decide +kernel
theorem d_Mo_rounded_4 : decode b_Mo_rounded 4 = .ok (.ladd, 1) := by decide +kernel
theorem d_Mo_rounded_5 : decode b_Mo_rounded 5 = .ok (.bipush 14, 2) := by decide +kernel
theorem d_Mo_rounded_7 : decode b_Mo_rounded 7 = .ok (.lshr, 1) := by decide +kernel
theorem d_Mo_rounded_8 : decode b_Mo_rounded 8 = .ok (.lreturn, 1) := by decide +kernel
abbrev b_Mo_sign : ByteArray := prog_10_method_37_code
def y_Mo_sign : MethodName := ⟨"GlyphPageModel", "sign", "(J)I"⟩
theorem d_Mo_sign_0 : decode b_Mo_sign 0 = .ok (.lload_n 0, 1) := by decide +kernel
theorem d_Mo_sign_1 : decode b_Mo_sign 1 = .ok (.lconst 0, 1) := by decide +kernel
theorem d_Mo_sign_2 : decode b_Mo_sign 2 = .ok (.lcmp, 1) := by decide +kernel
theorem d_Mo_sign_3 : decode b_Mo_sign 3 = .ok (.ifCond .ge 7, 3) := by decide +kernel
theorem d_Mo_sign_6 : decode b_Mo_sign 6 = .ok (.iconst (-1), 1) := by decide +kernel
theorem d_Mo_sign_7 : decode b_Mo_sign 7 = .ok (.goto 14, 3) := by decide +kernel
theorem d_Mo_sign_10 : decode b_Mo_sign 10 = .ok (.lload_n 0, 1) := by decide +kernel
theorem d_Mo_sign_11 : decode b_Mo_sign 11 = .ok (.lconst 0, 1) := by decide +kernel
theorem d_Mo_sign_12 : decode b_Mo_sign 12 = .ok (.lcmp, 1) := by decide +kernel
theorem d_Mo_sign_13 : decode b_Mo_sign 13 = .ok (.ifCond .le 7, 3) := by decide +kernel
theorem d_Mo_sign_16 : decode b_Mo_sign 16 = .ok (.iconst 1, 1) := by decide +kernel
theorem d_Mo_sign_17 : decode b_Mo_sign 17 = .ok (.goto 4, 3) := by decide +kernel
theorem d_Mo_sign_20 : decode b_Mo_sign 20 = .ok (.iconst 0, 1) := by decide +kernel
theorem d_Mo_sign_21 : decode b_Mo_sign 21 = .ok (.ireturn, 1) := by decide +kernel
abbrev b_Mo_zero : ByteArray := prog_10_method_44_code
def y_Mo_zero : MethodName := ⟨"GlyphPageModel", "zero", "(JJJ)Z"⟩
theorem d_Mo_zero_0 : decode b_Mo_zero 0 = .ok (.lload_n 0, 1) := by decide +kernel
theorem d_Mo_zero_1 : decode b_Mo_zero 1 = .ok (.lconst 0, 1) := by decide +kernel
theorem d_Mo_zero_2 : decode b_Mo_zero 2 = .ok (.lcmp, 1) := by decide +kernel
theorem d_Mo_zero_3 : decode b_Mo_zero 3 = .ok (.ifCond .eq 36, 3) := by decide +kernel
theorem d_Mo_zero_6 : decode b_Mo_zero 6 = .ok (.lload 4, 2) := by decide +kernel
theorem d_Mo_zero_8 : decode b_Mo_zero 8 = .ok (.lconst 0, 1) := by decide +kernel
theorem d_Mo_zero_9 : decode b_Mo_zero 9 = .ok (.lcmp, 1) := by decide +kernel
theorem d_Mo_zero_10 : decode b_Mo_zero 10 = .ok (.ifCond .eq 29, 3) := by decide +kernel
theorem d_Mo_zero_13 : decode b_Mo_zero 13 = .ok (.lload_n 0, 1) := by decide +kernel
theorem d_Mo_zero_14 : decode b_Mo_zero 14 = .ok (.lconst 0, 1) := by decide +kernel
theorem d_Mo_zero_15 : decode b_Mo_zero 15 = .ok (.lcmp, 1) := by decide +kernel
theorem d_Mo_zero_16 : decode b_Mo_zero 16 = .ok (.ifCond .le 7, 3) := by decide +kernel
theorem d_Mo_zero_19 : decode b_Mo_zero 19 = .ok (.iconst 1, 1) := by decide +kernel
theorem d_Mo_zero_20 : decode b_Mo_zero 20 = .ok (.goto 4, 3) := by decide +kernel
theorem d_Mo_zero_23 : decode b_Mo_zero 23 = .ok (.iconst 0, 1) := by decide +kernel
theorem d_Mo_zero_24 : decode b_Mo_zero 24 = .ok (.lload 4, 2) := by decide +kernel
theorem d_Mo_zero_26 : decode b_Mo_zero 26 = .ok (.lconst 0, 1) := by decide +kernel
theorem d_Mo_zero_27 : decode b_Mo_zero 27 = .ok (.lcmp, 1) := by decide +kernel
theorem d_Mo_zero_28 : decode b_Mo_zero 28 = .ok (.ifCond .le 7, 3) := by decide +kernel
theorem d_Mo_zero_31 : decode b_Mo_zero 31 = .ok (.iconst 1, 1) := by decide +kernel
theorem d_Mo_zero_32 : decode b_Mo_zero 32 = .ok (.goto 4, 3) := by decide +kernel
theorem d_Mo_zero_35 : decode b_Mo_zero 35 = .ok (.iconst 0, 1) := by decide +kernel
theorem d_Mo_zero_36 : decode b_Mo_zero 36 = .ok (.if_icmp .eq 5, 3) := by decide +kernel
theorem d_Mo_zero_39 : decode b_Mo_zero 39 = .ok (.iconst 1, 1) := by decide +kernel
theorem d_Mo_zero_40 : decode b_Mo_zero 40 = .ok (.ireturn, 1) := by decide +kernel
theorem d_Mo_zero_41 : decode b_Mo_zero 41 = .ok (.lload_n 0, 1) := by decide +kernel
theorem d_Mo_zero_42 : decode b_Mo_zero 42 = .ok (.lconst 0, 1) := by decide +kernel
theorem d_Mo_zero_43 : decode b_Mo_zero 43 = .ok (.lcmp, 1) := by decide +kernel
theorem d_Mo_zero_44 : decode b_Mo_zero 44 = .ok (.ifCond .le 12, 3) := by decide +kernel
theorem d_Mo_zero_47 : decode b_Mo_zero 47 = .ok (.lload_n 2, 1) := by decide +kernel
theorem d_Mo_zero_48 : decode b_Mo_zero 48 = .ok (.lconst 0, 1) := by decide +kernel
theorem d_Mo_zero_49 : decode b_Mo_zero 49 = .ok (.lcmp, 1) := by decide +kernel
theorem d_Mo_zero_50 : decode b_Mo_zero 50 = .ok (.ifCond .ge 27, 3) := by decide +kernel
theorem d_Mo_zero_53 : decode b_Mo_zero 53 = .ok (.goto 9, 3) := by decide +kernel
theorem d_Mo_zero_56 : decode b_Mo_zero 56 = .ok (.lload_n 2, 1) := by decide +kernel
theorem d_Mo_zero_57 : decode b_Mo_zero 57 = .ok (.lconst 0, 1) := by decide +kernel
theorem d_Mo_zero_58 : decode b_Mo_zero 58 = .ok (.lcmp, 1) := by decide +kernel
theorem d_Mo_zero_59 : decode b_Mo_zero 59 = .ok (.ifCond .le 18, 3) := by decide +kernel
theorem d_Mo_zero_62 : decode b_Mo_zero 62 = .ok (.lload_n 2, 1) := by decide +kernel
theorem d_Mo_zero_63 : decode b_Mo_zero 63 = .ok (.lload_n 2, 1) := by decide +kernel
theorem d_Mo_zero_64 : decode b_Mo_zero 64 = .ok (.lmul, 1) := by decide +kernel
theorem d_Mo_zero_65 : decode b_Mo_zero 65 = .ok (.lload_n 0, 1) := by decide +kernel
theorem d_Mo_zero_66 : decode b_Mo_zero 66 = .ok (.lload 4, 2) := by decide +kernel
theorem d_Mo_zero_68 : decode b_Mo_zero 68 = .ok (.lmul, 1) := by decide +kernel
theorem d_Mo_zero_69 : decode b_Mo_zero 69 = .ok (.lcmp, 1) := by decide +kernel
theorem d_Mo_zero_70 : decode b_Mo_zero 70 = .ok (.ifCond .lt 7, 3) := by decide +kernel
theorem d_Mo_zero_73 : decode b_Mo_zero 73 = .ok (.iconst 1, 1) := by decide +kernel
theorem d_Mo_zero_74 : decode b_Mo_zero 74 = .ok (.goto 4, 3) := by decide +kernel
theorem d_Mo_zero_77 : decode b_Mo_zero 77 = .ok (.iconst 0, 1) := by decide +kernel
theorem d_Mo_zero_78 : decode b_Mo_zero 78 = .ok (.ireturn, 1) := by decide +kernel
abbrev b_Mo_sum : ByteArray := prog_10_method_5_code
def y_Mo_sum : MethodName := ⟨"GlyphPageModel", "sum", "(LGlyphPageModel$Font;IIZ)I"⟩
theorem d_Mo_sum_0 : decode b_Mo_sum 0 = .ok (.iconst 0, 1) := by decide +kernel
theorem d_Mo_sum_1 : decode b_Mo_sum 1 = .ok (.istore 4, 2) := by decide +kernel
theorem d_Mo_sum_3 : decode b_Mo_sum 3 = .ok (.iconst 0, 1) := by decide +kernel
theorem d_Mo_sum_4 : decode b_Mo_sum 4 = .ok (.istore 5, 2) := by decide +kernel
theorem d_Mo_sum_6 : decode b_Mo_sum 6 = .ok (.iload 5, 2) := by decide +kernel
theorem d_Mo_sum_8 : decode b_Mo_sum 8 = .ok (.iload_n 2, 1) := by decide +kernel
theorem d_Mo_sum_9 : decode b_Mo_sum 9 = .ok (.if_icmp .ge 54, 3) := by decide +kernel
theorem d_Mo_sum_12 : decode b_Mo_sum 12 = .ok (.iload_n 3, 1) := by decide +kernel
theorem d_Mo_sum_13 : decode b_Mo_sum 13 = .ok (.ifCond .eq 20, 3) := by decide +kernel
theorem d_Mo_sum_16 : decode b_Mo_sum 16 = .ok (.iload 5, 2) := by decide +kernel
theorem d_Mo_sum_18 : decode b_Mo_sum 18 = .ok (.bipush 8, 2) := by decide +kernel
theorem d_Mo_sum_20 : decode b_Mo_sum 20 = .ok (.if_icmp .lt 13, 3) := by decide +kernel
theorem d_Mo_sum_23 : decode b_Mo_sum 23 = .ok (.iload 5, 2) := by decide +kernel
theorem d_Mo_sum_25 : decode b_Mo_sum 25 = .ok (.bipush 12, 2) := by decide +kernel
theorem d_Mo_sum_27 : decode b_Mo_sum 27 = .ok (.if_icmp .ge 6, 3) := by decide +kernel
theorem d_Mo_sum_30 : decode b_Mo_sum 30 = .ok (.goto 27, 3) := by decide +kernel
theorem d_Mo_sum_33 : decode b_Mo_sum 33 = .ok (.iload 4, 2) := by decide +kernel
theorem d_Mo_sum_35 : decode b_Mo_sum 35 = .ok (.aload_n 0, 1) := by decide +kernel
theorem d_Mo_sum_36 : decode b_Mo_sum 36 = .ok (.iload_n 1, 1) := by decide +kernel
theorem d_Mo_sum_37 : decode b_Mo_sum 37 = .ok (.iload 5, 2) := by decide +kernel
theorem d_Mo_sum_39 : decode b_Mo_sum 39 = .ok (.iadd, 1) := by decide +kernel
theorem d_Mo_sum_40 : decode b_Mo_sum 40 = .ok (.invokevirtual 66, 3) := by decide +kernel
theorem d_Mo_sum_43 : decode b_Mo_sum 43 = .ok (.bipush 24, 2) := by decide +kernel
theorem d_Mo_sum_45 : decode b_Mo_sum 45 = .ok (.bipush 8, 2) := by decide +kernel
theorem d_Mo_sum_47 : decode b_Mo_sum 47 = .ok (.iload 5, 2) := by decide +kernel
theorem d_Mo_sum_49 : decode b_Mo_sum 49 = .ok (.iconst 4, 1) := by decide +kernel
theorem d_Mo_sum_50 : decode b_Mo_sum 50 = .ok (.irem, 1) := by decide +kernel
theorem d_Mo_sum_51 : decode b_Mo_sum 51 = .ok (.imul, 1) := by decide +kernel
theorem d_Mo_sum_52 : decode b_Mo_sum 52 = .ok (.isub, 1) := by decide +kernel
theorem d_Mo_sum_53 : decode b_Mo_sum 53 = .ok (.ishl, 1) := by decide +kernel
theorem d_Mo_sum_54 : decode b_Mo_sum 54 = .ok (.iadd, 1) := by decide +kernel
theorem d_Mo_sum_55 : decode b_Mo_sum 55 = .ok (.istore 4, 2) := by decide +kernel
theorem d_Mo_sum_57 : decode b_Mo_sum 57 = .ok (.iinc 5 1, 3) := by decide +kernel
theorem d_Mo_sum_60 : decode b_Mo_sum 60 = .ok (.goto (-54), 3) := by decide +kernel
theorem d_Mo_sum_63 : decode b_Mo_sum 63 = .ok (.iload 4, 2) := by decide +kernel
theorem d_Mo_sum_65 : decode b_Mo_sum 65 = .ok (.ireturn, 1) := by decide +kernel
abbrev b_Mo_head : ByteArray := prog_10_method_7_code
def y_Mo_head : MethodName := ⟨"GlyphPageModel", "head", "(LGlyphPageModel$Font;)Z"⟩
theorem d_Mo_head_0 : decode b_Mo_head 0 = .ok (.aload_n 0, 1) := by decide +kernel
theorem d_Mo_head_1 : decode b_Mo_head 1 = .ok (.getfield 96, 3) := by decide +kernel
theorem d_Mo_head_4 : decode b_Mo_head 4 = .ok (.iconst 2, 1) := by decide +kernel
theorem d_Mo_head_5 : decode b_Mo_head 5 = .ok (.iaload, 1) := by decide +kernel
theorem d_Mo_head_6 : decode b_Mo_head 6 = .ok (.bipush 54, 2) := by decide +kernel
theorem d_Mo_head_8 : decode b_Mo_head 8 = .ok (.if_icmp .lt 21, 3) := by decide +kernel
theorem d_Mo_head_11 : decode b_Mo_head 11 = .ok (.aload_n 0, 1) := by decide +kernel
theorem d_Mo_head_12 : decode b_Mo_head 12 = .ok (.aload_n 0, 1) := by decide +kernel
theorem d_Mo_head_13 : decode b_Mo_head 13 = .ok (.getfield 80, 3) := by decide +kernel
theorem d_Mo_head_16 : decode b_Mo_head 16 = .ok (.iconst 2, 1) := by decide +kernel
theorem d_Mo_head_17 : decode b_Mo_head 17 = .ok (.iaload, 1) := by decide +kernel
theorem d_Mo_head_18 : decode b_Mo_head 18 = .ok (.bipush 12, 2) := by decide +kernel
theorem d_Mo_head_20 : decode b_Mo_head 20 = .ok (.iadd, 1) := by decide +kernel
theorem d_Mo_head_21 : decode b_Mo_head 21 = .ok (.invokevirtual 73, 3) := by decide +kernel
theorem d_Mo_head_24 : decode b_Mo_head 24 = .ok (.ldc 99, 2) := by decide +kernel
theorem d_Mo_head_26 : decode b_Mo_head 26 = .ok (.if_icmp .eq 5, 3) := by decide +kernel
theorem d_Mo_head_29 : decode b_Mo_head 29 = .ok (.iconst 0, 1) := by decide +kernel
theorem d_Mo_head_30 : decode b_Mo_head 30 = .ok (.ireturn, 1) := by decide +kernel
theorem d_Mo_head_31 : decode b_Mo_head 31 = .ok (.aload_n 0, 1) := by decide +kernel
theorem d_Mo_head_32 : decode b_Mo_head 32 = .ok (.aload_n 0, 1) := by decide +kernel
theorem d_Mo_head_33 : decode b_Mo_head 33 = .ok (.aload_n 0, 1) := by decide +kernel
theorem d_Mo_head_34 : decode b_Mo_head 34 = .ok (.getfield 80, 3) := by decide +kernel
theorem d_Mo_head_37 : decode b_Mo_head 37 = .ok (.iconst 2, 1) := by decide +kernel
theorem d_Mo_head_38 : decode b_Mo_head 38 = .ok (.iaload, 1) := by decide +kernel
theorem d_Mo_head_39 : decode b_Mo_head 39 = .ok (.bipush 18, 2) := by decide +kernel
theorem d_Mo_head_41 : decode b_Mo_head 41 = .ok (.iadd, 1) := by decide +kernel
theorem d_Mo_head_42 : decode b_Mo_head 42 = .ok (.invokevirtual 77, 3) := by decide +kernel
theorem d_Mo_head_45 : decode b_Mo_head 45 = .ok (.putfield 100, 3) := by decide +kernel
theorem d_Mo_head_48 : decode b_Mo_head 48 = .ok (.aload_n 0, 1) := by decide +kernel
theorem d_Mo_head_49 : decode b_Mo_head 49 = .ok (.aload_n 0, 1) := by decide +kernel
theorem d_Mo_head_50 : decode b_Mo_head 50 = .ok (.aload_n 0, 1) := by decide +kernel
theorem d_Mo_head_51 : decode b_Mo_head 51 = .ok (.getfield 80, 3) := by decide +kernel
theorem d_Mo_head_54 : decode b_Mo_head 54 = .ok (.iconst 2, 1) := by decide +kernel
theorem d_Mo_head_55 : decode b_Mo_head 55 = .ok (.iaload, 1) := by decide +kernel
theorem d_Mo_head_56 : decode b_Mo_head 56 = .ok (.bipush 50, 2) := by decide +kernel
theorem d_Mo_head_58 : decode b_Mo_head 58 = .ok (.iadd, 1) := by decide +kernel
theorem d_Mo_head_59 : decode b_Mo_head 59 = .ok (.invokevirtual 77, 3) := by decide +kernel
theorem d_Mo_head_62 : decode b_Mo_head 62 = .ok (.putfield 103, 3) := by decide +kernel
theorem d_Mo_head_65 : decode b_Mo_head 65 = .ok (.aload_n 0, 1) := by decide +kernel
theorem d_Mo_head_66 : decode b_Mo_head 66 = .ok (.getfield 100, 3) := by decide +kernel
theorem d_Mo_head_69 : decode b_Mo_head 69 = .ok (.bipush 16, 2) := by decide +kernel
theorem d_Mo_head_71 : decode b_Mo_head 71 = .ok (.if_icmp .lt 25, 3) := by decide +kernel
theorem d_Mo_head_74 : decode b_Mo_head 74 = .ok (.aload_n 0, 1) := by decide +kernel
theorem d_Mo_head_75 : decode b_Mo_head 75 = .ok (.getfield 100, 3) := by decide +kernel
theorem d_Mo_head_78 : decode b_Mo_head 78 = .ok (.sipush 16384, 3) := by decide +kernel
theorem d_Mo_head_81 : decode b_Mo_head 81 = .ok (.if_icmp .gt 15, 3) := by decide +kernel
theorem d_Mo_head_84 : decode b_Mo_head 84 = .ok (.aload_n 0, 1) := by decide +kernel
theorem d_Mo_head_85 : decode b_Mo_head 85 = .ok (.getfield 103, 3) := by decide +kernel
theorem d_Mo_head_88 : decode b_Mo_head 88 = .ok (.iconst 1, 1) := by decide +kernel
theorem d_Mo_head_89 : decode b_Mo_head 89 = .ok (.if_icmp .gt 7, 3) := by decide +kernel
theorem d_Mo_head_92 : decode b_Mo_head 92 = .ok (.iconst 1, 1) := by decide +kernel
theorem d_Mo_head_93 : decode b_Mo_head 93 = .ok (.goto 4, 3) := by decide +kernel
theorem d_Mo_head_96 : decode b_Mo_head 96 = .ok (.iconst 0, 1) := by decide +kernel
theorem d_Mo_head_97 : decode b_Mo_head 97 = .ok (.ireturn, 1) := by decide +kernel
abbrev b_Mo_maxp : ByteArray := prog_10_method_8_code
def y_Mo_maxp : MethodName := ⟨"GlyphPageModel", "maxp", "(LGlyphPageModel$Font;)Z"⟩
theorem d_Mo_maxp_0 : decode b_Mo_maxp 0 = .ok (.aload_n 0, 1) := by decide +kernel
theorem d_Mo_maxp_1 : decode b_Mo_maxp 1 = .ok (.getfield 96, 3) := by decide +kernel
theorem d_Mo_maxp_4 : decode b_Mo_maxp 4 = .ok (.bipush 7, 2) := by decide +kernel
theorem d_Mo_maxp_6 : decode b_Mo_maxp 6 = .ok (.iaload, 1) := by decide +kernel
theorem d_Mo_maxp_7 : decode b_Mo_maxp 7 = .ok (.bipush 6, 2) := by decide +kernel
theorem d_Mo_maxp_9 : decode b_Mo_maxp 9 = .ok (.if_icmp .ge 5, 3) := by decide +kernel
theorem d_Mo_maxp_12 : decode b_Mo_maxp 12 = .ok (.iconst 0, 1) := by decide +kernel
theorem d_Mo_maxp_13 : decode b_Mo_maxp 13 = .ok (.ireturn, 1) := by decide +kernel
theorem d_Mo_maxp_14 : decode b_Mo_maxp 14 = .ok (.aload_n 0, 1) := by decide +kernel
theorem d_Mo_maxp_15 : decode b_Mo_maxp 15 = .ok (.aload_n 0, 1) := by decide +kernel
theorem d_Mo_maxp_16 : decode b_Mo_maxp 16 = .ok (.aload_n 0, 1) := by decide +kernel
theorem d_Mo_maxp_17 : decode b_Mo_maxp 17 = .ok (.getfield 80, 3) := by decide +kernel
theorem d_Mo_maxp_20 : decode b_Mo_maxp 20 = .ok (.bipush 7, 2) := by decide +kernel
theorem d_Mo_maxp_22 : decode b_Mo_maxp 22 = .ok (.iaload, 1) := by decide +kernel
theorem d_Mo_maxp_23 : decode b_Mo_maxp 23 = .ok (.iconst 4, 1) := by decide +kernel
theorem d_Mo_maxp_24 : decode b_Mo_maxp 24 = .ok (.iadd, 1) := by decide +kernel
theorem d_Mo_maxp_25 : decode b_Mo_maxp 25 = .ok (.invokevirtual 77, 3) := by decide +kernel
theorem d_Mo_maxp_28 : decode b_Mo_maxp 28 = .ok (.putfield 106, 3) := by decide +kernel
theorem d_Mo_maxp_31 : decode b_Mo_maxp 31 = .ok (.aload_n 0, 1) := by decide +kernel
theorem d_Mo_maxp_32 : decode b_Mo_maxp 32 = .ok (.getfield 106, 3) := by decide +kernel
theorem d_Mo_maxp_35 : decode b_Mo_maxp 35 = .ok (.iconst 1, 1) := by decide +kernel
theorem d_Mo_maxp_36 : decode b_Mo_maxp 36 = .ok (.if_icmp .lt 16, 3) := by decide +kernel
theorem d_Mo_maxp_39 : decode b_Mo_maxp 39 = .ok (.aload_n 0, 1) := by decide +kernel
theorem d_Mo_maxp_40 : decode b_Mo_maxp 40 = .ok (.getfield 106, 3) := by decide +kernel
theorem d_Mo_maxp_43 : decode b_Mo_maxp 43 = .ok (.bipush 64, 2) := by decide +kernel
theorem d_Mo_maxp_45 : decode b_Mo_maxp 45 = .ok (.if_icmp .gt 7, 3) := by decide +kernel
theorem d_Mo_maxp_48 : decode b_Mo_maxp 48 = .ok (.iconst 1, 1) := by decide +kernel
theorem d_Mo_maxp_49 : decode b_Mo_maxp 49 = .ok (.goto 4, 3) := by decide +kernel
theorem d_Mo_maxp_52 : decode b_Mo_maxp 52 = .ok (.iconst 0, 1) := by decide +kernel
theorem d_Mo_maxp_53 : decode b_Mo_maxp 53 = .ok (.ireturn, 1) := by decide +kernel
abbrev b_Mo_hhea : ByteArray := prog_10_method_9_code
def y_Mo_hhea : MethodName := ⟨"GlyphPageModel", "hhea", "(LGlyphPageModel$Font;)Z"⟩
theorem d_Mo_hhea_0 : decode b_Mo_hhea 0 = .ok (.aload_n 0, 1) := by decide +kernel
theorem d_Mo_hhea_1 : decode b_Mo_hhea 1 = .ok (.getfield 96, 3) := by decide +kernel
theorem d_Mo_hhea_4 : decode b_Mo_hhea 4 = .ok (.iconst 3, 1) := by decide +kernel
theorem d_Mo_hhea_5 : decode b_Mo_hhea 5 = .ok (.iaload, 1) := by decide +kernel
theorem d_Mo_hhea_6 : decode b_Mo_hhea 6 = .ok (.bipush 36, 2) := by decide +kernel
theorem d_Mo_hhea_8 : decode b_Mo_hhea 8 = .ok (.if_icmp .ge 5, 3) := by decide +kernel
theorem d_Mo_hhea_11 : decode b_Mo_hhea 11 = .ok (.iconst 0, 1) := by decide +kernel
theorem d_Mo_hhea_12 : decode b_Mo_hhea 12 = .ok (.ireturn, 1) := by decide +kernel
theorem d_Mo_hhea_13 : decode b_Mo_hhea 13 = .ok (.aload_n 0, 1) := by decide +kernel
theorem d_Mo_hhea_14 : decode b_Mo_hhea 14 = .ok (.aload_n 0, 1) := by decide +kernel
theorem d_Mo_hhea_15 : decode b_Mo_hhea 15 = .ok (.aload_n 0, 1) := by decide +kernel
theorem d_Mo_hhea_16 : decode b_Mo_hhea 16 = .ok (.getfield 80, 3) := by decide +kernel
theorem d_Mo_hhea_19 : decode b_Mo_hhea 19 = .ok (.iconst 3, 1) := by decide +kernel
theorem d_Mo_hhea_20 : decode b_Mo_hhea 20 = .ok (.iaload, 1) := by decide +kernel
theorem d_Mo_hhea_21 : decode b_Mo_hhea 21 = .ok (.iconst 4, 1) := by decide +kernel
theorem d_Mo_hhea_22 : decode b_Mo_hhea 22 = .ok (.iadd, 1) := by decide +kernel
theorem d_Mo_hhea_23 : decode b_Mo_hhea 23 = .ok (.invokevirtual 109, 3) := by decide +kernel
theorem d_Mo_hhea_26 : decode b_Mo_hhea 26 = .ok (.putfield 112, 3) := by decide +kernel
theorem d_Mo_hhea_29 : decode b_Mo_hhea 29 = .ok (.aload_n 0, 1) := by decide +kernel
theorem d_Mo_hhea_30 : decode b_Mo_hhea 30 = .ok (.aload_n 0, 1) := by decide +kernel
theorem d_Mo_hhea_31 : decode b_Mo_hhea 31 = .ok (.aload_n 0, 1) := by decide +kernel
theorem d_Mo_hhea_32 : decode b_Mo_hhea 32 = .ok (.getfield 80, 3) := by decide +kernel
theorem d_Mo_hhea_35 : decode b_Mo_hhea 35 = .ok (.iconst 3, 1) := by decide +kernel
theorem d_Mo_hhea_36 : decode b_Mo_hhea 36 = .ok (.iaload, 1) := by decide +kernel
theorem d_Mo_hhea_37 : decode b_Mo_hhea 37 = .ok (.bipush 6, 2) := by decide +kernel
theorem d_Mo_hhea_39 : decode b_Mo_hhea 39 = .ok (.iadd, 1) := by decide +kernel
theorem d_Mo_hhea_40 : decode b_Mo_hhea 40 = .ok (.invokevirtual 109, 3) := by decide +kernel
theorem d_Mo_hhea_43 : decode b_Mo_hhea 43 = .ok (.putfield 115, 3) := by decide +kernel
theorem d_Mo_hhea_46 : decode b_Mo_hhea 46 = .ok (.aload_n 0, 1) := by decide +kernel
theorem d_Mo_hhea_47 : decode b_Mo_hhea 47 = .ok (.aload_n 0, 1) := by decide +kernel
theorem d_Mo_hhea_48 : decode b_Mo_hhea 48 = .ok (.aload_n 0, 1) := by decide +kernel
theorem d_Mo_hhea_49 : decode b_Mo_hhea 49 = .ok (.getfield 80, 3) := by decide +kernel
theorem d_Mo_hhea_52 : decode b_Mo_hhea 52 = .ok (.iconst 3, 1) := by decide +kernel
theorem d_Mo_hhea_53 : decode b_Mo_hhea 53 = .ok (.iaload, 1) := by decide +kernel
theorem d_Mo_hhea_54 : decode b_Mo_hhea 54 = .ok (.bipush 8, 2) := by decide +kernel
theorem d_Mo_hhea_56 : decode b_Mo_hhea 56 = .ok (.iadd, 1) := by decide +kernel
theorem d_Mo_hhea_57 : decode b_Mo_hhea 57 = .ok (.invokevirtual 109, 3) := by decide +kernel
theorem d_Mo_hhea_60 : decode b_Mo_hhea 60 = .ok (.putfield 118, 3) := by decide +kernel
theorem d_Mo_hhea_63 : decode b_Mo_hhea 63 = .ok (.aload_n 0, 1) := by decide +kernel
theorem d_Mo_hhea_64 : decode b_Mo_hhea 64 = .ok (.aload_n 0, 1) := by decide +kernel
theorem d_Mo_hhea_65 : decode b_Mo_hhea 65 = .ok (.aload_n 0, 1) := by decide +kernel
theorem d_Mo_hhea_66 : decode b_Mo_hhea 66 = .ok (.getfield 80, 3) := by decide +kernel
theorem d_Mo_hhea_69 : decode b_Mo_hhea 69 = .ok (.iconst 3, 1) := by decide +kernel
theorem d_Mo_hhea_70 : decode b_Mo_hhea 70 = .ok (.iaload, 1) := by decide +kernel
theorem d_Mo_hhea_71 : decode b_Mo_hhea 71 = .ok (.bipush 34, 2) := by decide +kernel
theorem d_Mo_hhea_73 : decode b_Mo_hhea 73 = .ok (.iadd, 1) := by decide +kernel
theorem d_Mo_hhea_74 : decode b_Mo_hhea 74 = .ok (.invokevirtual 77, 3) := by decide +kernel
theorem d_Mo_hhea_77 : decode b_Mo_hhea 77 = .ok (.putfield 121, 3) := by decide +kernel
theorem d_Mo_hhea_80 : decode b_Mo_hhea 80 = .ok (.bipush 8, 2) := by decide +kernel
theorem d_Mo_hhea_82 : decode b_Mo_hhea 82 = .ok (.aload_n 0, 1) := by decide +kernel
theorem d_Mo_hhea_83 : decode b_Mo_hhea 83 = .ok (.getfield 100, 3) := by decide +kernel
theorem d_Mo_hhea_86 : decode b_Mo_hhea 86 = .ok (.imul, 1) := by decide +kernel
theorem d_Mo_hhea_87 : decode b_Mo_hhea 87 = .ok (.istore_n 1, 1) := by decide +kernel
theorem d_Mo_hhea_88 : decode b_Mo_hhea 88 = .ok (.aload_n 0, 1) := by decide +kernel
theorem d_Mo_hhea_89 : decode b_Mo_hhea 89 = .ok (.getfield 112, 3) := by decide +kernel
theorem d_Mo_hhea_92 : decode b_Mo_hhea 92 = .ok (.invokestatic 124, 3) := by decide +kernel
theorem d_Mo_hhea_95 : decode b_Mo_hhea 95 = .ok (.iload_n 1, 1) := by decide +kernel
theorem d_Mo_hhea_96 : decode b_Mo_hhea 96 = .ok (.if_icmp .gt 25, 3) := by decide +kernel
theorem d_Mo_hhea_99 : decode b_Mo_hhea 99 = .ok (.aload_n 0, 1) := by decide +kernel
theorem d_Mo_hhea_100 : decode b_Mo_hhea 100 = .ok (.getfield 115, 3) := by decide +kernel
theorem d_Mo_hhea_103 : decode b_Mo_hhea 103 = .ok (.invokestatic 124, 3) := by decide +kernel
theorem d_Mo_hhea_106 : decode b_Mo_hhea 106 = .ok (.iload_n 1, 1) := by decide +kernel
theorem d_Mo_hhea_107 : decode b_Mo_hhea 107 = .ok (.if_icmp .gt 14, 3) := by decide +kernel
theorem d_Mo_hhea_110 : decode b_Mo_hhea 110 = .ok (.aload_n 0, 1) := by decide +kernel
theorem d_Mo_hhea_111 : decode b_Mo_hhea 111 = .ok (.getfield 118, 3) := by decide +kernel
theorem d_Mo_hhea_114 : decode b_Mo_hhea 114 = .ok (.invokestatic 124, 3) := by decide +kernel
theorem d_Mo_hhea_117 : decode b_Mo_hhea 117 = .ok (.iload_n 1, 1) := by decide +kernel
theorem d_Mo_hhea_118 : decode b_Mo_hhea 118 = .ok (.if_icmp .le 5, 3) := by decide +kernel
theorem d_Mo_hhea_121 : decode b_Mo_hhea 121 = .ok (.iconst 0, 1) := by decide +kernel
theorem d_Mo_hhea_122 : decode b_Mo_hhea 122 = .ok (.ireturn, 1) := by decide +kernel
theorem d_Mo_hhea_123 : decode b_Mo_hhea 123 = .ok (.aload_n 0, 1) := by decide +kernel
theorem d_Mo_hhea_124 : decode b_Mo_hhea 124 = .ok (.getfield 121, 3) := by decide +kernel
theorem d_Mo_hhea_127 : decode b_Mo_hhea 127 = .ok (.iconst 1, 1) := by decide +kernel
theorem d_Mo_hhea_128 : decode b_Mo_hhea 128 = .ok (.if_icmp .lt 18, 3) := by decide +kernel
theorem d_Mo_hhea_131 : decode b_Mo_hhea 131 = .ok (.aload_n 0, 1) := by decide +kernel
theorem d_Mo_hhea_132 : decode b_Mo_hhea 132 = .ok (.getfield 121, 3) := by decide +kernel
theorem d_Mo_hhea_135 : decode b_Mo_hhea 135 = .ok (.aload_n 0, 1) := by decide +kernel
theorem d_Mo_hhea_136 : decode b_Mo_hhea 136 = .ok (.getfield 106, 3) := by decide +kernel
theorem d_Mo_hhea_139 : decode b_Mo_hhea 139 = .ok (.if_icmp .gt 7, 3) := by decide +kernel
theorem d_Mo_hhea_142 : decode b_Mo_hhea 142 = .ok (.iconst 1, 1) := by decide +kernel
theorem d_Mo_hhea_143 : decode b_Mo_hhea 143 = .ok (.goto 4, 3) := by decide +kernel
theorem d_Mo_hhea_146 : decode b_Mo_hhea 146 = .ok (.iconst 0, 1) := by decide +kernel
theorem d_Mo_hhea_147 : decode b_Mo_hhea 147 = .ok (.ireturn, 1) := by decide +kernel
abbrev b_Mo_hmtx : ByteArray := prog_10_method_10_code
def y_Mo_hmtx : MethodName := ⟨"GlyphPageModel", "hmtx", "(LGlyphPageModel$Font;)Z"⟩
theorem d_Mo_hmtx_0 : decode b_Mo_hmtx 0 = .ok (.aload_n 0, 1) := by decide +kernel
theorem d_Mo_hmtx_1 : decode b_Mo_hmtx 1 = .ok (.getfield 96, 3) := by decide +kernel
theorem d_Mo_hmtx_4 : decode b_Mo_hmtx 4 = .ok (.iconst 4, 1) := by decide +kernel
theorem d_Mo_hmtx_5 : decode b_Mo_hmtx 5 = .ok (.iaload, 1) := by decide +kernel
theorem d_Mo_hmtx_6 : decode b_Mo_hmtx 6 = .ok (.iconst 4, 1) := by decide +kernel
theorem d_Mo_hmtx_7 : decode b_Mo_hmtx 7 = .ok (.aload_n 0, 1) := by decide +kernel
theorem d_Mo_hmtx_8 : decode b_Mo_hmtx 8 = .ok (.getfield 121, 3) := by decide +kernel
theorem d_Mo_hmtx_11 : decode b_Mo_hmtx 11 = .ok (.imul, 1) := by decide +kernel
theorem d_Mo_hmtx_12 : decode b_Mo_hmtx 12 = .ok (.iconst 2, 1) := by decide +kernel
theorem d_Mo_hmtx_13 : decode b_Mo_hmtx 13 = .ok (.aload_n 0, 1) := by decide +kernel
theorem d_Mo_hmtx_14 : decode b_Mo_hmtx 14 = .ok (.getfield 106, 3) := by decide +kernel
theorem d_Mo_hmtx_17 : decode b_Mo_hmtx 17 = .ok (.aload_n 0, 1) := by decide +kernel
theorem d_Mo_hmtx_18 : decode b_Mo_hmtx 18 = .ok (.getfield 121, 3) := by decide +kernel
theorem d_Mo_hmtx_21 : decode b_Mo_hmtx 21 = .ok (.isub, 1) := by decide +kernel
theorem d_Mo_hmtx_22 : decode b_Mo_hmtx 22 = .ok (.imul, 1) := by decide +kernel
theorem d_Mo_hmtx_23 : decode b_Mo_hmtx 23 = .ok (.iadd, 1) := by decide +kernel
theorem d_Mo_hmtx_24 : decode b_Mo_hmtx 24 = .ok (.if_icmp .ge 5, 3) := by decide +kernel
theorem d_Mo_hmtx_27 : decode b_Mo_hmtx 27 = .ok (.iconst 0, 1) := by decide +kernel
theorem d_Mo_hmtx_28 : decode b_Mo_hmtx 28 = .ok (.ireturn, 1) := by decide +kernel
theorem d_Mo_hmtx_29 : decode b_Mo_hmtx 29 = .ok (.iconst 0, 1) := by decide +kernel
theorem d_Mo_hmtx_30 : decode b_Mo_hmtx 30 = .ok (.istore_n 1, 1) := by decide +kernel
theorem d_Mo_hmtx_31 : decode b_Mo_hmtx 31 = .ok (.iload_n 1, 1) := by decide +kernel
theorem d_Mo_hmtx_32 : decode b_Mo_hmtx 32 = .ok (.aload_n 0, 1) := by decide +kernel
theorem d_Mo_hmtx_33 : decode b_Mo_hmtx 33 = .ok (.getfield 121, 3) := by decide +kernel
theorem d_Mo_hmtx_36 : decode b_Mo_hmtx 36 = .ok (.if_icmp .ge 35, 3) := by decide +kernel
theorem d_Mo_hmtx_39 : decode b_Mo_hmtx 39 = .ok (.aload_n 0, 1) := by decide +kernel
theorem d_Mo_hmtx_40 : decode b_Mo_hmtx 40 = .ok (.aload_n 0, 1) := by decide +kernel
theorem d_Mo_hmtx_41 : decode b_Mo_hmtx 41 = .ok (.getfield 80, 3) := by decide +kernel
theorem d_Mo_hmtx_44 : decode b_Mo_hmtx 44 = .ok (.iconst 4, 1) := by decide +kernel
theorem d_Mo_hmtx_45 : decode b_Mo_hmtx 45 = .ok (.iaload, 1) := by decide +kernel
theorem d_Mo_hmtx_46 : decode b_Mo_hmtx 46 = .ok (.iconst 4, 1) := by decide +kernel
theorem d_Mo_hmtx_47 : decode b_Mo_hmtx 47 = .ok (.iload_n 1, 1) := by decide +kernel
theorem d_Mo_hmtx_48 : decode b_Mo_hmtx 48 = .ok (.imul, 1) := by decide +kernel
theorem d_Mo_hmtx_49 : decode b_Mo_hmtx 49 = .ok (.iadd, 1) := by decide +kernel
theorem d_Mo_hmtx_50 : decode b_Mo_hmtx 50 = .ok (.invokevirtual 77, 3) := by decide +kernel
theorem d_Mo_hmtx_53 : decode b_Mo_hmtx 53 = .ok (.bipush 8, 2) := by decide +kernel
theorem d_Mo_hmtx_55 : decode b_Mo_hmtx 55 = .ok (.aload_n 0, 1) := by decide +kernel
theorem d_Mo_hmtx_56 : decode b_Mo_hmtx 56 = .ok (.getfield 100, 3) := by decide +kernel
theorem d_Mo_hmtx_59 : decode b_Mo_hmtx 59 = .ok (.imul, 1) := by decide +kernel
theorem d_Mo_hmtx_60 : decode b_Mo_hmtx 60 = .ok (.if_icmp .le 5, 3) := by decide +kernel
theorem d_Mo_hmtx_63 : decode b_Mo_hmtx 63 = .ok (.iconst 0, 1) := by decide +kernel
theorem d_Mo_hmtx_64 : decode b_Mo_hmtx 64 = .ok (.ireturn, 1) := by decide +kernel
theorem d_Mo_hmtx_65 : decode b_Mo_hmtx 65 = .ok (.iinc 1 1, 3) := by decide +kernel
theorem d_Mo_hmtx_68 : decode b_Mo_hmtx 68 = .ok (.goto (-37), 3) := by decide +kernel
theorem d_Mo_hmtx_71 : decode b_Mo_hmtx 71 = .ok (.iconst 1, 1) := by decide +kernel
theorem d_Mo_hmtx_72 : decode b_Mo_hmtx 72 = .ok (.ireturn, 1) := by decide +kernel
abbrev b_Mo_begins : ByteArray := prog_10_method_11_code
def y_Mo_begins : MethodName := ⟨"GlyphPageModel", "begins", "(LGlyphPageModel$Font;I)J"⟩
theorem d_Mo_begins_0 : decode b_Mo_begins 0 = .ok (.aload_n 0, 1) := by decide +kernel
theorem d_Mo_begins_1 : decode b_Mo_begins 1 = .ok (.getfield 103, 3) := by decide +kernel
theorem d_Mo_begins_4 : decode b_Mo_begins 4 = .ok (.ifCond .ne 26, 3) := by decide +kernel
theorem d_Mo_begins_7 : decode b_Mo_begins 7 = .ok (.ldc2_w 129, 3) := by decide +kernel
theorem d_Mo_begins_10 : decode b_Mo_begins 10 = .ok (.aload_n 0, 1) := by decide +kernel
theorem d_Mo_begins_11 : decode b_Mo_begins 11 = .ok (.aload_n 0, 1) := by decide +kernel
theorem d_Mo_begins_12 : decode b_Mo_begins 12 = .ok (.getfield 80, 3) := by decide +kernel
theorem d_Mo_begins_15 : decode b_Mo_begins 15 = .ok (.bipush 6, 2) := by decide +kernel
theorem d_Mo_begins_17 : decode b_Mo_begins 17 = .ok (.iaload, 1) := by decide +kernel
theorem d_Mo_begins_18 : decode b_Mo_begins 18 = .ok (.iconst 2, 1) := by decide +kernel
theorem d_Mo_begins_19 : decode b_Mo_begins 19 = .ok (.iload_n 1, 1) := by decide +kernel
theorem d_Mo_begins_20 : decode b_Mo_begins 20 = .ok (.imul, 1) := by decide +kernel
theorem d_Mo_begins_21 : decode b_Mo_begins 21 = .ok (.iadd, 1) := by decide +kernel
theorem d_Mo_begins_22 : decode b_Mo_begins 22 = .ok (.invokevirtual 77, 3) := by decide +kernel
theorem d_Mo_begins_25 : decode b_Mo_begins 25 = .ok (.i2l, 1) := by decide +kernel
theorem d_Mo_begins_26 : decode b_Mo_begins 26 = .ok (.lmul, 1) := by decide +kernel
theorem d_Mo_begins_27 : decode b_Mo_begins 27 = .ok (.goto 18, 3) := by decide +kernel
theorem d_Mo_begins_30 : decode b_Mo_begins 30 = .ok (.aload_n 0, 1) := by decide +kernel
theorem d_Mo_begins_31 : decode b_Mo_begins 31 = .ok (.aload_n 0, 1) := by decide +kernel
theorem d_Mo_begins_32 : decode b_Mo_begins 32 = .ok (.getfield 80, 3) := by decide +kernel
theorem d_Mo_begins_35 : decode b_Mo_begins 35 = .ok (.bipush 6, 2) := by decide +kernel
theorem d_Mo_begins_37 : decode b_Mo_begins 37 = .ok (.iaload, 1) := by decide +kernel
theorem d_Mo_begins_38 : decode b_Mo_begins 38 = .ok (.iconst 4, 1) := by decide +kernel
theorem d_Mo_begins_39 : decode b_Mo_begins 39 = .ok (.iload_n 1, 1) := by decide +kernel
theorem d_Mo_begins_40 : decode b_Mo_begins 40 = .ok (.imul, 1) := by decide +kernel
theorem d_Mo_begins_41 : decode b_Mo_begins 41 = .ok (.iadd, 1) := by decide +kernel
theorem d_Mo_begins_42 : decode b_Mo_begins 42 = .ok (.invokevirtual 83, 3) := by decide +kernel
theorem d_Mo_begins_45 : decode b_Mo_begins 45 = .ok (.lreturn, 1) := by decide +kernel
abbrev b_Mo_loca : ByteArray := prog_10_method_12_code
def y_Mo_loca : MethodName := ⟨"GlyphPageModel", "loca", "(LGlyphPageModel$Font;)Z"⟩
theorem d_Mo_loca_0 : decode b_Mo_loca 0 = .ok (.aload_n 0, 1) := by decide +kernel
theorem d_Mo_loca_1 : decode b_Mo_loca 1 = .ok (.getfield 96, 3) := by decide +kernel
theorem d_Mo_loca_4 : decode b_Mo_loca 4 = .ok (.bipush 6, 2) := by decide +kernel
theorem d_Mo_loca_6 : decode b_Mo_loca 6 = .ok (.iaload, 1) := by decide +kernel
theorem d_Mo_loca_7 : decode b_Mo_loca 7 = .ok (.aload_n 0, 1) := by decide +kernel
theorem d_Mo_loca_8 : decode b_Mo_loca 8 = .ok (.getfield 106, 3) := by decide +kernel
theorem d_Mo_loca_11 : decode b_Mo_loca 11 = .ok (.iconst 1, 1) := by decide +kernel
theorem d_Mo_loca_12 : decode b_Mo_loca 12 = .ok (.iadd, 1) := by decide +kernel
theorem d_Mo_loca_13 : decode b_Mo_loca 13 = .ok (.aload_n 0, 1) := by decide +kernel
theorem d_Mo_loca_14 : decode b_Mo_loca 14 = .ok (.getfield 103, 3) := by decide +kernel
theorem d_Mo_loca_17 : decode b_Mo_loca 17 = .ok (.ifCond .ne 7, 3) := by decide +kernel
theorem d_Mo_loca_20 : decode b_Mo_loca 20 = .ok (.iconst 2, 1) := by decide +kernel
theorem d_Mo_loca_21 : decode b_Mo_loca 21 = .ok (.goto 4, 3) := by decide +kernel
theorem d_Mo_loca_24 : decode b_Mo_loca 24 = .ok (.iconst 4, 1) := by decide +kernel
theorem d_Mo_loca_25 : decode b_Mo_loca 25 = .ok (.imul, 1) := by decide +kernel
theorem d_Mo_loca_26 : decode b_Mo_loca 26 = .ok (.if_icmp .ge 5, 3) := by decide +kernel
theorem d_Mo_loca_29 : decode b_Mo_loca 29 = .ok (.iconst 0, 1) := by decide +kernel
theorem d_Mo_loca_30 : decode b_Mo_loca 30 = .ok (.ireturn, 1) := by decide +kernel
theorem d_Mo_loca_31 : decode b_Mo_loca 31 = .ok (.iconst 1, 1) := by decide +kernel
theorem d_Mo_loca_32 : decode b_Mo_loca 32 = .ok (.istore_n 1, 1) := by decide +kernel
theorem d_Mo_loca_33 : decode b_Mo_loca 33 = .ok (.iload_n 1, 1) := by decide +kernel
theorem d_Mo_loca_34 : decode b_Mo_loca 34 = .ok (.aload_n 0, 1) := by decide +kernel
theorem d_Mo_loca_35 : decode b_Mo_loca 35 = .ok (.getfield 106, 3) := by decide +kernel
theorem d_Mo_loca_38 : decode b_Mo_loca 38 = .ok (.if_icmp .gt 27, 3) := by decide +kernel
theorem d_Mo_loca_41 : decode b_Mo_loca 41 = .ok (.aload_n 0, 1) := by decide +kernel
theorem d_Mo_loca_42 : decode b_Mo_loca 42 = .ok (.iload_n 1, 1) := by decide +kernel
theorem d_Mo_loca_43 : decode b_Mo_loca 43 = .ok (.invokestatic 131, 3) := by decide +kernel
theorem d_Mo_loca_46 : decode b_Mo_loca 46 = .ok (.aload_n 0, 1) := by decide +kernel
theorem d_Mo_loca_47 : decode b_Mo_loca 47 = .ok (.iload_n 1, 1) := by decide +kernel
theorem d_Mo_loca_48 : decode b_Mo_loca 48 = .ok (.iconst 1, 1) := by decide +kernel
theorem d_Mo_loca_49 : decode b_Mo_loca 49 = .ok (.isub, 1) := by decide +kernel
theorem d_Mo_loca_50 : decode b_Mo_loca 50 = .ok (.invokestatic 131, 3) := by decide +kernel
theorem d_Mo_loca_53 : decode b_Mo_loca 53 = .ok (.lcmp, 1) := by decide +kernel
theorem d_Mo_loca_54 : decode b_Mo_loca 54 = .ok (.ifCond .ge 5, 3) := by decide +kernel
theorem d_Mo_loca_57 : decode b_Mo_loca 57 = .ok (.iconst 0, 1) := by decide +kernel
theorem d_Mo_loca_58 : decode b_Mo_loca 58 = .ok (.ireturn, 1) := by decide +kernel
theorem d_Mo_loca_59 : decode b_Mo_loca 59 = .ok (.iinc 1 1, 3) := by decide +kernel
theorem d_Mo_loca_62 : decode b_Mo_loca 62 = .ok (.goto (-29), 3) := by decide +kernel
theorem d_Mo_loca_65 : decode b_Mo_loca 65 = .ok (.aload_n 0, 1) := by decide +kernel
theorem d_Mo_loca_66 : decode b_Mo_loca 66 = .ok (.aload_n 0, 1) := by decide +kernel
theorem d_Mo_loca_67 : decode b_Mo_loca 67 = .ok (.getfield 106, 3) := by decide +kernel
theorem d_Mo_loca_70 : decode b_Mo_loca 70 = .ok (.invokestatic 131, 3) := by decide +kernel
theorem d_Mo_loca_73 : decode b_Mo_loca 73 = .ok (.aload_n 0, 1) := by decide +kernel
theorem d_Mo_loca_74 : decode b_Mo_loca 74 = .ok (.getfield 96, 3) := by decide +kernel
theorem d_Mo_loca_77 : decode b_Mo_loca 77 = .ok (.iconst 1, 1) := by decide +kernel
theorem d_Mo_loca_78 : decode b_Mo_loca 78 = .ok (.iaload, 1) := by decide +kernel
theorem d_Mo_loca_79 : decode b_Mo_loca 79 = .ok (.i2l, 1) := by decide +kernel
theorem d_Mo_loca_80 : decode b_Mo_loca 80 = .ok (.lcmp, 1) := by decide +kernel
theorem d_Mo_loca_81 : decode b_Mo_loca 81 = .ok (.ifCond .gt 7, 3) := by decide +kernel
theorem d_Mo_loca_84 : decode b_Mo_loca 84 = .ok (.iconst 1, 1) := by decide +kernel
theorem d_Mo_loca_85 : decode b_Mo_loca 85 = .ok (.goto 4, 3) := by decide +kernel
theorem d_Mo_loca_88 : decode b_Mo_loca 88 = .ok (.iconst 0, 1) := by decide +kernel
theorem d_Mo_loca_89 : decode b_Mo_loca 89 = .ok (.ireturn, 1) := by decide +kernel
abbrev b_Mo_cmap : ByteArray := prog_10_method_13_code
def y_Mo_cmap : MethodName := ⟨"GlyphPageModel", "cmap", "(LGlyphPageModel$Font;)Z"⟩
theorem d_Mo_cmap_0 : decode b_Mo_cmap 0 = .ok (.aload_n 0, 1) := by decide +kernel
theorem d_Mo_cmap_1 : decode b_Mo_cmap 1 = .ok (.getfield 96, 3) := by decide +kernel
theorem d_Mo_cmap_4 : decode b_Mo_cmap 4 = .ok (.iconst 0, 1) := by decide +kernel
theorem d_Mo_cmap_5 : decode b_Mo_cmap 5 = .ok (.iaload, 1) := by decide +kernel
theorem d_Mo_cmap_6 : decode b_Mo_cmap 6 = .ok (.iconst 4, 1) := by decide +kernel
theorem d_Mo_cmap_7 : decode b_Mo_cmap 7 = .ok (.if_icmp .ge 5, 3) := by decide +kernel
theorem d_Mo_cmap_10 : decode b_Mo_cmap 10 = .ok (.iconst 0, 1) := by decide +kernel
theorem d_Mo_cmap_11 : decode b_Mo_cmap 11 = .ok (.ireturn, 1) := by decide +kernel
theorem d_Mo_cmap_12 : decode b_Mo_cmap 12 = .ok (.aload_n 0, 1) := by decide +kernel
theorem d_Mo_cmap_13 : decode b_Mo_cmap 13 = .ok (.aload_n 0, 1) := by decide +kernel
theorem d_Mo_cmap_14 : decode b_Mo_cmap 14 = .ok (.getfield 80, 3) := by decide +kernel
theorem d_Mo_cmap_17 : decode b_Mo_cmap 17 = .ok (.iconst 0, 1) := by decide +kernel
theorem d_Mo_cmap_18 : decode b_Mo_cmap 18 = .ok (.iaload, 1) := by decide +kernel
theorem d_Mo_cmap_19 : decode b_Mo_cmap 19 = .ok (.iconst 2, 1) := by decide +kernel
theorem d_Mo_cmap_20 : decode b_Mo_cmap 20 = .ok (.iadd, 1) := by decide +kernel
theorem d_Mo_cmap_21 : decode b_Mo_cmap 21 = .ok (.invokevirtual 77, 3) := by decide +kernel
theorem d_Mo_cmap_24 : decode b_Mo_cmap 24 = .ok (.istore_n 1, 1) := by decide +kernel
theorem d_Mo_cmap_25 : decode b_Mo_cmap 25 = .ok (.iconst 4, 1) := by decide +kernel
theorem d_Mo_cmap_26 : decode b_Mo_cmap 26 = .ok (.bipush 8, 2) := by decide +kernel
theorem d_Mo_cmap_28 : decode b_Mo_cmap 28 = .ok (.iload_n 1, 1) := by decide +kernel
theorem d_Mo_cmap_29 : decode b_Mo_cmap 29 = .ok (.imul, 1) := by decide +kernel
theorem d_Mo_cmap_30 : decode b_Mo_cmap 30 = .ok (.iadd, 1) := by decide +kernel
theorem d_Mo_cmap_31 : decode b_Mo_cmap 31 = .ok (.aload_n 0, 1) := by decide +kernel
theorem d_Mo_cmap_32 : decode b_Mo_cmap 32 = .ok (.getfield 96, 3) := by decide +kernel
theorem d_Mo_cmap_35 : decode b_Mo_cmap 35 = .ok (.iconst 0, 1) := by decide +kernel
theorem d_Mo_cmap_36 : decode b_Mo_cmap 36 = .ok (.iaload, 1) := by decide +kernel
theorem d_Mo_cmap_37 : decode b_Mo_cmap 37 = .ok (.if_icmp .le 5, 3) := by decide +kernel
theorem d_Mo_cmap_40 : decode b_Mo_cmap 40 = .ok (.iconst 0, 1) := by decide +kernel
theorem d_Mo_cmap_41 : decode b_Mo_cmap 41 = .ok (.ireturn, 1) := by decide +kernel
theorem d_Mo_cmap_42 : decode b_Mo_cmap 42 = .ok (.ldc2_w 135, 3) := by decide +kernel
theorem d_Mo_cmap_45 : decode b_Mo_cmap 45 = .ok (.lstore_n 2, 1) := by decide +kernel
theorem d_Mo_cmap_46 : decode b_Mo_cmap 46 = .ok (.iload_n 1, 1) := by decide +kernel
theorem d_Mo_cmap_47 : decode b_Mo_cmap 47 = .ok (.iconst 1, 1) := by decide +kernel
theorem d_Mo_cmap_48 : decode b_Mo_cmap 48 = .ok (.isub, 1) := by decide +kernel
theorem d_Mo_cmap_49 : decode b_Mo_cmap 49 = .ok (.istore 4, 2) := by decide +kernel
theorem d_Mo_cmap_51 : decode b_Mo_cmap 51 = .ok (.iload 4, 2) := by decide +kernel
theorem d_Mo_cmap_53 : decode b_Mo_cmap 53 = .ok (.ifCond .lt 56, 3) := by decide +kernel
theorem d_Mo_cmap_56 : decode b_Mo_cmap 56 = .ok (.aload_n 0, 1) := by decide +kernel
theorem d_Mo_cmap_57 : decode b_Mo_cmap 57 = .ok (.getfield 80, 3) := by decide +kernel
theorem d_Mo_cmap_60 : decode b_Mo_cmap 60 = .ok (.iconst 0, 1) := by decide +kernel
theorem d_Mo_cmap_61 : decode b_Mo_cmap 61 = .ok (.iaload, 1) := by decide +kernel
theorem d_Mo_cmap_62 : decode b_Mo_cmap 62 = .ok (.iconst 4, 1) := by decide +kernel
theorem d_Mo_cmap_63 : decode b_Mo_cmap 63 = .ok (.iadd, 1) := by decide +kernel
theorem d_Mo_cmap_64 : decode b_Mo_cmap 64 = .ok (.bipush 8, 2) := by decide +kernel
theorem d_Mo_cmap_66 : decode b_Mo_cmap 66 = .ok (.iload 4, 2) := by decide +kernel
theorem d_Mo_cmap_68 : decode b_Mo_cmap 68 = .ok (.imul, 1) := by decide +kernel
theorem d_Mo_cmap_69 : decode b_Mo_cmap 69 = .ok (.iadd, 1) := by decide +kernel
theorem d_Mo_cmap_70 : decode b_Mo_cmap 70 = .ok (.istore 5, 2) := by decide +kernel
theorem d_Mo_cmap_72 : decode b_Mo_cmap 72 = .ok (.aload_n 0, 1) := by decide +kernel
theorem d_Mo_cmap_73 : decode b_Mo_cmap 73 = .ok (.iload 5, 2) := by decide +kernel
theorem d_Mo_cmap_75 : decode b_Mo_cmap 75 = .ok (.invokevirtual 77, 3) := by decide +kernel
theorem d_Mo_cmap_78 : decode b_Mo_cmap 78 = .ok (.iconst 3, 1) := by decide +kernel
theorem d_Mo_cmap_79 : decode b_Mo_cmap 79 = .ok (.if_icmp .ne 24, 3) := by decide +kernel
theorem d_Mo_cmap_82 : decode b_Mo_cmap 82 = .ok (.aload_n 0, 1) := by decide +kernel
theorem d_Mo_cmap_83 : decode b_Mo_cmap 83 = .ok (.iload 5, 2) := by decide +kernel
theorem d_Mo_cmap_85 : decode b_Mo_cmap 85 = .ok (.iconst 2, 1) := by decide +kernel
theorem d_Mo_cmap_86 : decode b_Mo_cmap 86 = .ok (.iadd, 1) := by decide +kernel
theorem d_Mo_cmap_87 : decode b_Mo_cmap 87 = .ok (.invokevirtual 77, 3) := by decide +kernel
theorem d_Mo_cmap_90 : decode b_Mo_cmap 90 = .ok (.iconst 1, 1) := by decide +kernel
theorem d_Mo_cmap_91 : decode b_Mo_cmap 91 = .ok (.if_icmp .ne 12, 3) := by decide +kernel
theorem d_Mo_cmap_94 : decode b_Mo_cmap 94 = .ok (.aload_n 0, 1) := by decide +kernel
theorem d_Mo_cmap_95 : decode b_Mo_cmap 95 = .ok (.iload 5, 2) := by decide +kernel
theorem d_Mo_cmap_97 : decode b_Mo_cmap 97 = .ok (.iconst 4, 1) := by decide +kernel
theorem d_Mo_cmap_98 : decode b_Mo_cmap 98 = .ok (.iadd, 1) := by decide +kernel
theorem d_Mo_cmap_99 : decode b_Mo_cmap 99 = .ok (.invokevirtual 83, 3) := by decide +kernel
theorem d_Mo_cmap_102 : decode b_Mo_cmap 102 = .ok (.lstore_n 2, 1) := by decide +kernel
theorem d_Mo_cmap_103 : decode b_Mo_cmap 103 = .ok (.iinc 4 (-1), 3) := by decide +kernel
theorem d_Mo_cmap_106 : decode b_Mo_cmap 106 = .ok (.goto (-55), 3) := by decide +kernel
theorem d_Mo_cmap_109 : decode b_Mo_cmap 109 = .ok (.lload_n 2, 1) := by decide +kernel
theorem d_Mo_cmap_110 : decode b_Mo_cmap 110 = .ok (.lconst 0, 1) := by decide +kernel
theorem d_Mo_cmap_111 : decode b_Mo_cmap 111 = .ok (.lcmp, 1) := by decide +kernel
theorem d_Mo_cmap_112 : decode b_Mo_cmap 112 = .ok (.ifCond .lt 19, 3) := by decide +kernel
theorem d_Mo_cmap_115 : decode b_Mo_cmap 115 = .ok (.lload_n 2, 1) := by decide +kernel
theorem d_Mo_cmap_116 : decode b_Mo_cmap 116 = .ok (.ldc2_w 137, 3) := by decide +kernel
theorem d_Mo_cmap_119 : decode b_Mo_cmap 119 = .ok (.ladd, 1) := by decide +kernel
theorem d_Mo_cmap_120 : decode b_Mo_cmap 120 = .ok (.aload_n 0, 1) := by decide +kernel
theorem d_Mo_cmap_121 : decode b_Mo_cmap 121 = .ok (.getfield 96, 3) := by decide +kernel
theorem d_Mo_cmap_124 : decode b_Mo_cmap 124 = .ok (.iconst 0, 1) := by decide +kernel
theorem d_Mo_cmap_125 : decode b_Mo_cmap 125 = .ok (.iaload, 1) := by decide +kernel
theorem d_Mo_cmap_126 : decode b_Mo_cmap 126 = .ok (.i2l, 1) := by decide +kernel
theorem d_Mo_cmap_127 : decode b_Mo_cmap 127 = .ok (.lcmp, 1) := by decide +kernel
theorem d_Mo_cmap_128 : decode b_Mo_cmap 128 = .ok (.ifCond .le 5, 3) := by decide +kernel
theorem d_Mo_cmap_131 : decode b_Mo_cmap 131 = .ok (.iconst 0, 1) := by decide +kernel
theorem d_Mo_cmap_132 : decode b_Mo_cmap 132 = .ok (.ireturn, 1) := by decide +kernel
theorem d_Mo_cmap_133 : decode b_Mo_cmap 133 = .ok (.aload_n 0, 1) := by decide +kernel
theorem d_Mo_cmap_134 : decode b_Mo_cmap 134 = .ok (.aload_n 0, 1) := by decide +kernel
theorem d_Mo_cmap_135 : decode b_Mo_cmap 135 = .ok (.getfield 80, 3) := by decide +kernel
theorem d_Mo_cmap_138 : decode b_Mo_cmap 138 = .ok (.iconst 0, 1) := by decide +kernel
theorem d_Mo_cmap_139 : decode b_Mo_cmap 139 = .ok (.iaload, 1) := by decide +kernel
theorem d_Mo_cmap_140 : decode b_Mo_cmap 140 = .ok (.lload_n 2, 1) := by decide +kernel
theorem d_Mo_cmap_141 : decode b_Mo_cmap 141 = .ok (.l2i, 1) := by decide +kernel
theorem d_Mo_cmap_142 : decode b_Mo_cmap 142 = .ok (.iadd, 1) := by decide +kernel
theorem d_Mo_cmap_143 : decode b_Mo_cmap 143 = .ok (.putfield 139, 3) := by decide +kernel
theorem d_Mo_cmap_146 : decode b_Mo_cmap 146 = .ok (.aload_n 0, 1) := by decide +kernel
theorem d_Mo_cmap_147 : decode b_Mo_cmap 147 = .ok (.aload_n 0, 1) := by decide +kernel
theorem d_Mo_cmap_148 : decode b_Mo_cmap 148 = .ok (.aload_n 0, 1) := by decide +kernel
theorem d_Mo_cmap_149 : decode b_Mo_cmap 149 = .ok (.getfield 139, 3) := by decide +kernel
theorem d_Mo_cmap_152 : decode b_Mo_cmap 152 = .ok (.iconst 2, 1) := by decide +kernel
theorem d_Mo_cmap_153 : decode b_Mo_cmap 153 = .ok (.iadd, 1) := by decide +kernel
theorem d_Mo_cmap_154 : decode b_Mo_cmap 154 = .ok (.invokevirtual 77, 3) := by decide +kernel
theorem d_Mo_cmap_157 : decode b_Mo_cmap 157 = .ok (.putfield 142, 3) := by decide +kernel
theorem d_Mo_cmap_160 : decode b_Mo_cmap 160 = .ok (.aload_n 0, 1) := by decide +kernel
theorem d_Mo_cmap_161 : decode b_Mo_cmap 161 = .ok (.aload_n 0, 1) := by decide +kernel
theorem d_Mo_cmap_162 : decode b_Mo_cmap 162 = .ok (.getfield 139, 3) := by decide +kernel
theorem d_Mo_cmap_165 : decode b_Mo_cmap 165 = .ok (.bipush 6, 2) := by decide +kernel
theorem d_Mo_cmap_167 : decode b_Mo_cmap 167 = .ok (.iadd, 1) := by decide +kernel
theorem d_Mo_cmap_168 : decode b_Mo_cmap 168 = .ok (.invokevirtual 77, 3) := by decide +kernel
theorem d_Mo_cmap_171 : decode b_Mo_cmap 171 = .ok (.istore 4, 2) := by decide +kernel
theorem d_Mo_cmap_173 : decode b_Mo_cmap 173 = .ok (.aload_n 0, 1) := by decide +kernel
theorem d_Mo_cmap_174 : decode b_Mo_cmap 174 = .ok (.iload 4, 2) := by decide +kernel
theorem d_Mo_cmap_176 : decode b_Mo_cmap 176 = .ok (.iconst 2, 1) := by decide +kernel
theorem d_Mo_cmap_177 : decode b_Mo_cmap 177 = .ok (.idiv, 1) := by decide +kernel
theorem d_Mo_cmap_178 : decode b_Mo_cmap 178 = .ok (.putfield 145, 3) := by decide +kernel
theorem d_Mo_cmap_181 : decode b_Mo_cmap 181 = .ok (.aload_n 0, 1) := by decide +kernel
theorem d_Mo_cmap_182 : decode b_Mo_cmap 182 = .ok (.aload_n 0, 1) := by decide +kernel
theorem d_Mo_cmap_183 : decode b_Mo_cmap 183 = .ok (.getfield 139, 3) := by decide +kernel
theorem d_Mo_cmap_186 : decode b_Mo_cmap 186 = .ok (.invokevirtual 77, 3) := by decide +kernel
theorem d_Mo_cmap_189 : decode b_Mo_cmap 189 = .ok (.iconst 4, 1) := by decide +kernel
theorem d_Mo_cmap_190 : decode b_Mo_cmap 190 = .ok (.if_icmp .ne 55, 3) := by decide +kernel
theorem d_Mo_cmap_193 : decode b_Mo_cmap 193 = .ok (.lload_n 2, 1) := by decide +kernel
theorem d_Mo_cmap_194 : decode b_Mo_cmap 194 = .ok (.aload_n 0, 1) := by decide +kernel
theorem d_Mo_cmap_195 : decode b_Mo_cmap 195 = .ok (.getfield 142, 3) := by decide +kernel
theorem d_Mo_cmap_198 : decode b_Mo_cmap 198 = .ok (.i2l, 1) := by decide +kernel
theorem d_Mo_cmap_199 : decode b_Mo_cmap 199 = .ok (.ladd, 1) := by decide +kernel
theorem d_Mo_cmap_200 : decode b_Mo_cmap 200 = .ok (.aload_n 0, 1) := by decide +kernel
theorem d_Mo_cmap_201 : decode b_Mo_cmap 201 = .ok (.getfield 96, 3) := by decide +kernel
theorem d_Mo_cmap_204 : decode b_Mo_cmap 204 = .ok (.iconst 0, 1) := by decide +kernel
theorem d_Mo_cmap_205 : decode b_Mo_cmap 205 = .ok (.iaload, 1) := by decide +kernel
theorem d_Mo_cmap_206 : decode b_Mo_cmap 206 = .ok (.i2l, 1) := by decide +kernel
theorem d_Mo_cmap_207 : decode b_Mo_cmap 207 = .ok (.lcmp, 1) := by decide +kernel
theorem d_Mo_cmap_208 : decode b_Mo_cmap 208 = .ok (.ifCond .gt 37, 3) := by decide +kernel
theorem d_Mo_cmap_211 : decode b_Mo_cmap 211 = .ok (.iload 4, 2) := by decide +kernel
theorem d_Mo_cmap_213 : decode b_Mo_cmap 213 = .ok (.iconst 2, 1) := by decide +kernel
theorem d_Mo_cmap_214 : decode b_Mo_cmap 214 = .ok (.if_icmp .lt 31, 3) := by decide +kernel
theorem d_Mo_cmap_217 : decode b_Mo_cmap 217 = .ok (.iload 4, 2) := by decide +kernel
theorem d_Mo_cmap_219 : decode b_Mo_cmap 219 = .ok (.iconst 2, 1) := by decide +kernel
theorem d_Mo_cmap_220 : decode b_Mo_cmap 220 = .ok (.irem, 1) := by decide +kernel
theorem d_Mo_cmap_221 : decode b_Mo_cmap 221 = .ok (.ifCond .ne 24, 3) := by decide +kernel
theorem d_Mo_cmap_224 : decode b_Mo_cmap 224 = .ok (.bipush 16, 2) := by decide +kernel
theorem d_Mo_cmap_226 : decode b_Mo_cmap 226 = .ok (.bipush 8, 2) := by decide +kernel
theorem d_Mo_cmap_228 : decode b_Mo_cmap 228 = .ok (.aload_n 0, 1) := by decide +kernel
theorem d_Mo_cmap_229 : decode b_Mo_cmap 229 = .ok (.getfield 145, 3) := by decide +kernel
theorem d_Mo_cmap_232 : decode b_Mo_cmap 232 = .ok (.imul, 1) := by decide +kernel
theorem d_Mo_cmap_233 : decode b_Mo_cmap 233 = .ok (.iadd, 1) := by decide +kernel
theorem d_Mo_cmap_234 : decode b_Mo_cmap 234 = .ok (.aload_n 0, 1) := by decide +kernel
theorem d_Mo_cmap_235 : decode b_Mo_cmap 235 = .ok (.getfield 142, 3) := by decide +kernel
theorem d_Mo_cmap_238 : decode b_Mo_cmap 238 = .ok (.if_icmp .gt 7, 3) := by decide +kernel
theorem d_Mo_cmap_241 : decode b_Mo_cmap 241 = .ok (.iconst 1, 1) := by decide +kernel
theorem d_Mo_cmap_242 : decode b_Mo_cmap 242 = .ok (.goto 4, 3) := by decide +kernel
theorem d_Mo_cmap_245 : decode b_Mo_cmap 245 = .ok (.iconst 0, 1) := by decide +kernel
theorem d_Mo_cmap_246 : decode b_Mo_cmap 246 = .ok (.ireturn, 1) := by decide +kernel
abbrev b_Mo_glyphOf : ByteArray := prog_10_method_14_code
def y_Mo_glyphOf : MethodName := ⟨"GlyphPageModel", "glyphOf", "(LGlyphPageModel$Font;I)I"⟩
theorem d_Mo_glyphOf_0 : decode b_Mo_glyphOf 0 = .ok (.aload_n 0, 1) := by decide +kernel
theorem d_Mo_glyphOf_1 : decode b_Mo_glyphOf 1 = .ok (.getfield 145, 3) := by decide +kernel
theorem d_Mo_glyphOf_4 : decode b_Mo_glyphOf 4 = .ok (.istore_n 2, 1) := by decide +kernel
theorem d_Mo_glyphOf_5 : decode b_Mo_glyphOf 5 = .ok (.iconst 0, 1) := by decide +kernel
theorem d_Mo_glyphOf_6 : decode b_Mo_glyphOf 6 = .ok (.istore_n 3, 1) := by decide +kernel
theorem d_Mo_glyphOf_7 : decode b_Mo_glyphOf 7 = .ok (.iload_n 3, 1) := by decide +kernel
theorem d_Mo_glyphOf_8 : decode b_Mo_glyphOf 8 = .ok (.iload_n 2, 1) := by decide +kernel
theorem d_Mo_glyphOf_9 : decode b_Mo_glyphOf 9 = .ok (.if_icmp .ge 28, 3) := by decide +kernel
theorem d_Mo_glyphOf_12 : decode b_Mo_glyphOf 12 = .ok (.aload_n 0, 1) := by decide +kernel
theorem d_Mo_glyphOf_13 : decode b_Mo_glyphOf 13 = .ok (.aload_n 0, 1) := by decide +kernel
theorem d_Mo_glyphOf_14 : decode b_Mo_glyphOf 14 = .ok (.getfield 139, 3) := by decide +kernel
theorem d_Mo_glyphOf_17 : decode b_Mo_glyphOf 17 = .ok (.bipush 14, 2) := by decide +kernel
theorem d_Mo_glyphOf_19 : decode b_Mo_glyphOf 19 = .ok (.iadd, 1) := by decide +kernel
theorem d_Mo_glyphOf_20 : decode b_Mo_glyphOf 20 = .ok (.iconst 2, 1) := by decide +kernel
theorem d_Mo_glyphOf_21 : decode b_Mo_glyphOf 21 = .ok (.iload_n 3, 1) := by decide +kernel
theorem d_Mo_glyphOf_22 : decode b_Mo_glyphOf 22 = .ok (.imul, 1) := by decide +kernel
theorem d_Mo_glyphOf_23 : decode b_Mo_glyphOf 23 = .ok (.iadd, 1) := by decide +kernel
theorem d_Mo_glyphOf_24 : decode b_Mo_glyphOf 24 = .ok (.invokevirtual 77, 3) := by decide +kernel
theorem d_Mo_glyphOf_27 : decode b_Mo_glyphOf 27 = .ok (.iload_n 1, 1) := by decide +kernel
theorem d_Mo_glyphOf_28 : decode b_Mo_glyphOf 28 = .ok (.if_icmp .ge 9, 3) := by decide +kernel
theorem d_Mo_glyphOf_31 : decode b_Mo_glyphOf 31 = .ok (.iinc 3 1, 3) := by decide +kernel
theorem d_Mo_glyphOf_34 : decode b_Mo_glyphOf 34 = .ok (.goto (-27), 3) := by decide +kernel
theorem d_Mo_glyphOf_37 : decode b_Mo_glyphOf 37 = .ok (.iload_n 3, 1) := by decide +kernel
theorem d_Mo_glyphOf_38 : decode b_Mo_glyphOf 38 = .ok (.iload_n 2, 1) := by decide +kernel
theorem d_Mo_glyphOf_39 : decode b_Mo_glyphOf 39 = .ok (.if_icmp .ne 5, 3) := by decide +kernel
theorem d_Mo_glyphOf_42 : decode b_Mo_glyphOf 42 = .ok (.iconst 0, 1) := by decide +kernel
theorem d_Mo_glyphOf_43 : decode b_Mo_glyphOf 43 = .ok (.ireturn, 1) := by decide +kernel
theorem d_Mo_glyphOf_44 : decode b_Mo_glyphOf 44 = .ok (.aload_n 0, 1) := by decide +kernel
theorem d_Mo_glyphOf_45 : decode b_Mo_glyphOf 45 = .ok (.aload_n 0, 1) := by decide +kernel
theorem d_Mo_glyphOf_46 : decode b_Mo_glyphOf 46 = .ok (.getfield 139, 3) := by decide +kernel
theorem d_Mo_glyphOf_49 : decode b_Mo_glyphOf 49 = .ok (.bipush 16, 2) := by decide +kernel
theorem d_Mo_glyphOf_51 : decode b_Mo_glyphOf 51 = .ok (.iadd, 1) := by decide +kernel
theorem d_Mo_glyphOf_52 : decode b_Mo_glyphOf 52 = .ok (.iconst 2, 1) := by decide +kernel
theorem d_Mo_glyphOf_53 : decode b_Mo_glyphOf 53 = .ok (.iload_n 2, 1) := by decide +kernel
theorem d_Mo_glyphOf_54 : decode b_Mo_glyphOf 54 = .ok (.imul, 1) := by decide +kernel
theorem d_Mo_glyphOf_55 : decode b_Mo_glyphOf 55 = .ok (.iadd, 1) := by decide +kernel
theorem d_Mo_glyphOf_56 : decode b_Mo_glyphOf 56 = .ok (.iconst 2, 1) := by decide +kernel
theorem d_Mo_glyphOf_57 : decode b_Mo_glyphOf 57 = .ok (.iload_n 3, 1) := by decide +kernel
theorem d_Mo_glyphOf_58 : decode b_Mo_glyphOf 58 = .ok (.imul, 1) := by decide +kernel
theorem d_Mo_glyphOf_59 : decode b_Mo_glyphOf 59 = .ok (.iadd, 1) := by decide +kernel
theorem d_Mo_glyphOf_60 : decode b_Mo_glyphOf 60 = .ok (.invokevirtual 77, 3) := by decide +kernel
theorem d_Mo_glyphOf_63 : decode b_Mo_glyphOf 63 = .ok (.istore 4, 2) := by decide +kernel
theorem d_Mo_glyphOf_65 : decode b_Mo_glyphOf 65 = .ok (.aload_n 0, 1) := by decide +kernel
theorem d_Mo_glyphOf_66 : decode b_Mo_glyphOf 66 = .ok (.aload_n 0, 1) := by decide +kernel
theorem d_Mo_glyphOf_67 : decode b_Mo_glyphOf 67 = .ok (.getfield 139, 3) := by decide +kernel
theorem d_Mo_glyphOf_70 : decode b_Mo_glyphOf 70 = .ok (.bipush 16, 2) := by decide +kernel
theorem d_Mo_glyphOf_72 : decode b_Mo_glyphOf 72 = .ok (.iadd, 1) := by decide +kernel
theorem d_Mo_glyphOf_73 : decode b_Mo_glyphOf 73 = .ok (.iconst 4, 1) := by decide +kernel
theorem d_Mo_glyphOf_74 : decode b_Mo_glyphOf 74 = .ok (.iload_n 2, 1) := by decide +kernel
theorem d_Mo_glyphOf_75 : decode b_Mo_glyphOf 75 = .ok (.imul, 1) := by decide +kernel
theorem d_Mo_glyphOf_76 : decode b_Mo_glyphOf 76 = .ok (.iadd, 1) := by decide +kernel
theorem d_Mo_glyphOf_77 : decode b_Mo_glyphOf 77 = .ok (.iconst 2, 1) := by decide +kernel
theorem d_Mo_glyphOf_78 : decode b_Mo_glyphOf 78 = .ok (.iload_n 3, 1) := by decide +kernel
theorem d_Mo_glyphOf_79 : decode b_Mo_glyphOf 79 = .ok (.imul, 1) := by decide +kernel
theorem d_Mo_glyphOf_80 : decode b_Mo_glyphOf 80 = .ok (.iadd, 1) := by decide +kernel
theorem d_Mo_glyphOf_81 : decode b_Mo_glyphOf 81 = .ok (.invokevirtual 77, 3) := by decide +kernel
theorem d_Mo_glyphOf_84 : decode b_Mo_glyphOf 84 = .ok (.istore 5, 2) := by decide +kernel
theorem d_Mo_glyphOf_86 : decode b_Mo_glyphOf 86 = .ok (.bipush 16, 2) := by decide +kernel
theorem d_Mo_glyphOf_88 : decode b_Mo_glyphOf 88 = .ok (.bipush 6, 2) := by decide +kernel
theorem d_Mo_glyphOf_90 : decode b_Mo_glyphOf 90 = .ok (.iload_n 2, 1) := by decide +kernel
theorem d_Mo_glyphOf_91 : decode b_Mo_glyphOf 91 = .ok (.imul, 1) := by decide +kernel
theorem d_Mo_glyphOf_92 : decode b_Mo_glyphOf 92 = .ok (.iadd, 1) := by decide +kernel
theorem d_Mo_glyphOf_93 : decode b_Mo_glyphOf 93 = .ok (.iconst 2, 1) := by decide +kernel
theorem d_Mo_glyphOf_94 : decode b_Mo_glyphOf 94 = .ok (.iload_n 3, 1) := by decide +kernel
theorem d_Mo_glyphOf_95 : decode b_Mo_glyphOf 95 = .ok (.imul, 1) := by decide +kernel
theorem d_Mo_glyphOf_96 : decode b_Mo_glyphOf 96 = .ok (.iadd, 1) := by decide +kernel
theorem d_Mo_glyphOf_97 : decode b_Mo_glyphOf 97 = .ok (.istore 6, 2) := by decide +kernel
theorem d_Mo_glyphOf_99 : decode b_Mo_glyphOf 99 = .ok (.aload_n 0, 1) := by decide +kernel
theorem d_Mo_glyphOf_100 : decode b_Mo_glyphOf 100 = .ok (.aload_n 0, 1) := by decide +kernel
theorem d_Mo_glyphOf_101 : decode b_Mo_glyphOf 101 = .ok (.getfield 139, 3) := by decide +kernel
theorem d_Mo_glyphOf_104 : decode b_Mo_glyphOf 104 = .ok (.iload 6, 2) := by decide +kernel
theorem d_Mo_glyphOf_106 : decode b_Mo_glyphOf 106 = .ok (.iadd, 1) := by decide +kernel
theorem d_Mo_glyphOf_107 : decode b_Mo_glyphOf 107 = .ok (.invokevirtual 77, 3) := by decide +kernel
theorem d_Mo_glyphOf_110 : decode b_Mo_glyphOf 110 = .ok (.istore 7, 2) := by decide +kernel
theorem d_Mo_glyphOf_112 : decode b_Mo_glyphOf 112 = .ok (.iload 4, 2) := by decide +kernel
theorem d_Mo_glyphOf_114 : decode b_Mo_glyphOf 114 = .ok (.iload_n 1, 1) := by decide +kernel
theorem d_Mo_glyphOf_115 : decode b_Mo_glyphOf 115 = .ok (.if_icmp .le 5, 3) := by decide +kernel
theorem d_Mo_glyphOf_118 : decode b_Mo_glyphOf 118 = .ok (.iconst 0, 1) := by decide +kernel
theorem d_Mo_glyphOf_119 : decode b_Mo_glyphOf 119 = .ok (.ireturn, 1) := by decide +kernel
theorem d_Mo_glyphOf_120 : decode b_Mo_glyphOf 120 = .ok (.iload_n 1, 1) := by decide +kernel
theorem d_Mo_glyphOf_121 : decode b_Mo_glyphOf 121 = .ok (.iload 5, 2) := by decide +kernel
theorem d_Mo_glyphOf_123 : decode b_Mo_glyphOf 123 = .ok (.iadd, 1) := by decide +kernel
theorem d_Mo_glyphOf_124 : decode b_Mo_glyphOf 124 = .ok (.ldc 148, 2) := by decide +kernel
theorem d_Mo_glyphOf_126 : decode b_Mo_glyphOf 126 = .ok (.iand, 1) := by decide +kernel
theorem d_Mo_glyphOf_127 : decode b_Mo_glyphOf 127 = .ok (.istore 8, 2) := by decide +kernel
theorem d_Mo_glyphOf_129 : decode b_Mo_glyphOf 129 = .ok (.iload 7, 2) := by decide +kernel
theorem d_Mo_glyphOf_131 : decode b_Mo_glyphOf 131 = .ok (.ifCond .eq 58, 3) := by decide +kernel
theorem d_Mo_glyphOf_134 : decode b_Mo_glyphOf 134 = .ok (.iload 6, 2) := by decide +kernel
theorem d_Mo_glyphOf_136 : decode b_Mo_glyphOf 136 = .ok (.iload 7, 2) := by decide +kernel
theorem d_Mo_glyphOf_138 : decode b_Mo_glyphOf 138 = .ok (.iadd, 1) := by decide +kernel
theorem d_Mo_glyphOf_139 : decode b_Mo_glyphOf 139 = .ok (.iconst 2, 1) := by decide +kernel
theorem d_Mo_glyphOf_140 : decode b_Mo_glyphOf 140 = .ok (.iload_n 1, 1) := by decide +kernel
theorem d_Mo_glyphOf_141 : decode b_Mo_glyphOf 141 = .ok (.iload 4, 2) := by decide +kernel
theorem d_Mo_glyphOf_143 : decode b_Mo_glyphOf 143 = .ok (.isub, 1) := by decide +kernel
theorem d_Mo_glyphOf_144 : decode b_Mo_glyphOf 144 = .ok (.imul, 1) := by decide +kernel
theorem d_Mo_glyphOf_145 : decode b_Mo_glyphOf 145 = .ok (.iadd, 1) := by decide +kernel
theorem d_Mo_glyphOf_146 : decode b_Mo_glyphOf 146 = .ok (.istore 9, 2) := by decide +kernel
theorem d_Mo_glyphOf_148 : decode b_Mo_glyphOf 148 = .ok (.iload 9, 2) := by decide +kernel
theorem d_Mo_glyphOf_150 : decode b_Mo_glyphOf 150 = .ok (.iconst 2, 1) := by decide +kernel
theorem d_Mo_glyphOf_151 : decode b_Mo_glyphOf 151 = .ok (.iadd, 1) := by decide +kernel
theorem d_Mo_glyphOf_152 : decode b_Mo_glyphOf 152 = .ok (.aload_n 0, 1) := by decide +kernel
theorem d_Mo_glyphOf_153 : decode b_Mo_glyphOf 153 = .ok (.getfield 142, 3) := by decide +kernel
theorem d_Mo_glyphOf_156 : decode b_Mo_glyphOf 156 = .ok (.if_icmp .le 5, 3) := by decide +kernel
theorem d_Mo_glyphOf_159 : decode b_Mo_glyphOf 159 = .ok (.iconst 0, 1) := by decide +kernel
theorem d_Mo_glyphOf_160 : decode b_Mo_glyphOf 160 = .ok (.ireturn, 1) := by decide +kernel
theorem d_Mo_glyphOf_161 : decode b_Mo_glyphOf 161 = .ok (.aload_n 0, 1) := by decide +kernel
theorem d_Mo_glyphOf_162 : decode b_Mo_glyphOf 162 = .ok (.aload_n 0, 1) := by decide +kernel
theorem d_Mo_glyphOf_163 : decode b_Mo_glyphOf 163 = .ok (.getfield 139, 3) := by decide +kernel
theorem d_Mo_glyphOf_166 : decode b_Mo_glyphOf 166 = .ok (.iload 9, 2) := by decide +kernel
theorem d_Mo_glyphOf_168 : decode b_Mo_glyphOf 168 = .ok (.iadd, 1) := by decide +kernel
theorem d_Mo_glyphOf_169 : decode b_Mo_glyphOf 169 = .ok (.invokevirtual 77, 3) := by decide +kernel
theorem d_Mo_glyphOf_172 : decode b_Mo_glyphOf 172 = .ok (.istore 8, 2) := by decide +kernel
theorem d_Mo_glyphOf_174 : decode b_Mo_glyphOf 174 = .ok (.iload 8, 2) := by decide +kernel
theorem d_Mo_glyphOf_176 : decode b_Mo_glyphOf 176 = .ok (.ifCond .eq 13, 3) := by decide +kernel
theorem d_Mo_glyphOf_179 : decode b_Mo_glyphOf 179 = .ok (.iload 8, 2) := by decide +kernel
theorem d_Mo_glyphOf_181 : decode b_Mo_glyphOf 181 = .ok (.iload 5, 2) := by decide +kernel
theorem d_Mo_glyphOf_183 : decode b_Mo_glyphOf 183 = .ok (.iadd, 1) := by decide +kernel
theorem d_Mo_glyphOf_184 : decode b_Mo_glyphOf 184 = .ok (.ldc 148, 2) := by decide +kernel
theorem d_Mo_glyphOf_186 : decode b_Mo_glyphOf 186 = .ok (.iand, 1) := by decide +kernel
theorem d_Mo_glyphOf_187 : decode b_Mo_glyphOf 187 = .ok (.istore 8, 2) := by decide +kernel
theorem d_Mo_glyphOf_189 : decode b_Mo_glyphOf 189 = .ok (.iload 8, 2) := by decide +kernel
theorem d_Mo_glyphOf_191 : decode b_Mo_glyphOf 191 = .ok (.aload_n 0, 1) := by decide +kernel
theorem d_Mo_glyphOf_192 : decode b_Mo_glyphOf 192 = .ok (.getfield 106, 3) := by decide +kernel
theorem d_Mo_glyphOf_195 : decode b_Mo_glyphOf 195 = .ok (.if_icmp .lt 7, 3) := by decide +kernel
theorem d_Mo_glyphOf_198 : decode b_Mo_glyphOf 198 = .ok (.iconst 0, 1) := by decide +kernel
theorem d_Mo_glyphOf_199 : decode b_Mo_glyphOf 199 = .ok (.goto 5, 3) := by decide +kernel
theorem d_Mo_glyphOf_202 : decode b_Mo_glyphOf 202 = .ok (.iload 8, 2) := by decide +kernel
theorem d_Mo_glyphOf_204 : decode b_Mo_glyphOf 204 = .ok (.ireturn, 1) := by decide +kernel
abbrev b_Mo_kern_fZ : ByteArray := prog_10_method_25_code
def y_Mo_kern_fZ : MethodName := ⟨"GlyphPageModel", "kern", "(LGlyphPageModel$Font;)Z"⟩
theorem d_Mo_kern_fZ_0 : decode b_Mo_kern_fZ 0 = .ok (.aload_n 0, 1) := by decide +kernel
theorem d_Mo_kern_fZ_1 : decode b_Mo_kern_fZ 1 = .ok (.getfield 80, 3) := by decide +kernel
theorem d_Mo_kern_fZ_4 : decode b_Mo_kern_fZ 4 = .ok (.iconst 5, 1) := by decide +kernel
theorem d_Mo_kern_fZ_5 : decode b_Mo_kern_fZ 5 = .ok (.iaload, 1) := by decide +kernel
theorem d_Mo_kern_fZ_6 : decode b_Mo_kern_fZ 6 = .ok (.istore_n 1, 1) := by decide +kernel
theorem d_Mo_kern_fZ_7 : decode b_Mo_kern_fZ 7 = .ok (.iload_n 1, 1) := by decide +kernel
theorem d_Mo_kern_fZ_8 : decode b_Mo_kern_fZ 8 = .ok (.ifCond .ge 5, 3) := by decide +kernel
theorem d_Mo_kern_fZ_11 : decode b_Mo_kern_fZ 11 = .ok (.iconst 1, 1) := by decide +kernel
theorem d_Mo_kern_fZ_12 : decode b_Mo_kern_fZ 12 = .ok (.ireturn, 1) := by decide +kernel
theorem d_Mo_kern_fZ_13 : decode b_Mo_kern_fZ 13 = .ok (.aload_n 0, 1) := by decide +kernel
theorem d_Mo_kern_fZ_14 : decode b_Mo_kern_fZ 14 = .ok (.getfield 96, 3) := by decide +kernel
theorem d_Mo_kern_fZ_17 : decode b_Mo_kern_fZ 17 = .ok (.iconst 5, 1) := by decide +kernel
theorem d_Mo_kern_fZ_18 : decode b_Mo_kern_fZ 18 = .ok (.iaload, 1) := by decide +kernel
theorem d_Mo_kern_fZ_19 : decode b_Mo_kern_fZ 19 = .ok (.bipush 18, 2) := by decide +kernel
theorem d_Mo_kern_fZ_21 : decode b_Mo_kern_fZ 21 = .ok (.if_icmp .lt 34, 3) := by decide +kernel
theorem d_Mo_kern_fZ_24 : decode b_Mo_kern_fZ 24 = .ok (.aload_n 0, 1) := by decide +kernel
theorem d_Mo_kern_fZ_25 : decode b_Mo_kern_fZ 25 = .ok (.iload_n 1, 1) := by decide +kernel
theorem d_Mo_kern_fZ_26 : decode b_Mo_kern_fZ 26 = .ok (.invokevirtual 77, 3) := by decide +kernel
theorem d_Mo_kern_fZ_29 : decode b_Mo_kern_fZ 29 = .ok (.ifCond .ne 26, 3) := by decide +kernel
theorem d_Mo_kern_fZ_32 : decode b_Mo_kern_fZ 32 = .ok (.aload_n 0, 1) := by decide +kernel
theorem d_Mo_kern_fZ_33 : decode b_Mo_kern_fZ 33 = .ok (.iload_n 1, 1) := by decide +kernel
theorem d_Mo_kern_fZ_34 : decode b_Mo_kern_fZ 34 = .ok (.iconst 2, 1) := by decide +kernel
theorem d_Mo_kern_fZ_35 : decode b_Mo_kern_fZ 35 = .ok (.iadd, 1) := by decide +kernel
theorem d_Mo_kern_fZ_36 : decode b_Mo_kern_fZ 36 = .ok (.invokevirtual 77, 3) := by decide +kernel
theorem d_Mo_kern_fZ_39 : decode b_Mo_kern_fZ 39 = .ok (.iconst 1, 1) := by decide +kernel
theorem d_Mo_kern_fZ_40 : decode b_Mo_kern_fZ 40 = .ok (.if_icmp .lt 15, 3) := by decide +kernel
theorem d_Mo_kern_fZ_43 : decode b_Mo_kern_fZ 43 = .ok (.aload_n 0, 1) := by decide +kernel
theorem d_Mo_kern_fZ_44 : decode b_Mo_kern_fZ 44 = .ok (.iload_n 1, 1) := by decide +kernel
theorem d_Mo_kern_fZ_45 : decode b_Mo_kern_fZ 45 = .ok (.bipush 8, 2) := by decide +kernel
theorem d_Mo_kern_fZ_47 : decode b_Mo_kern_fZ 47 = .ok (.iadd, 1) := by decide +kernel
theorem d_Mo_kern_fZ_48 : decode b_Mo_kern_fZ 48 = .ok (.invokevirtual 77, 3) := by decide +kernel
theorem d_Mo_kern_fZ_51 : decode b_Mo_kern_fZ 51 = .ok (.iconst 1, 1) := by decide +kernel
theorem d_Mo_kern_fZ_52 : decode b_Mo_kern_fZ 52 = .ok (.if_icmp .eq 5, 3) := by decide +kernel
theorem d_Mo_kern_fZ_55 : decode b_Mo_kern_fZ 55 = .ok (.iconst 0, 1) := by decide +kernel
theorem d_Mo_kern_fZ_56 : decode b_Mo_kern_fZ 56 = .ok (.ireturn, 1) := by decide +kernel
theorem d_Mo_kern_fZ_57 : decode b_Mo_kern_fZ 57 = .ok (.aload_n 0, 1) := by decide +kernel
theorem d_Mo_kern_fZ_58 : decode b_Mo_kern_fZ 58 = .ok (.iload_n 1, 1) := by decide +kernel
theorem d_Mo_kern_fZ_59 : decode b_Mo_kern_fZ 59 = .ok (.bipush 6, 2) := by decide +kernel
theorem d_Mo_kern_fZ_61 : decode b_Mo_kern_fZ 61 = .ok (.iadd, 1) := by decide +kernel
theorem d_Mo_kern_fZ_62 : decode b_Mo_kern_fZ 62 = .ok (.invokevirtual 77, 3) := by decide +kernel
theorem d_Mo_kern_fZ_65 : decode b_Mo_kern_fZ 65 = .ok (.istore_n 2, 1) := by decide +kernel
theorem d_Mo_kern_fZ_66 : decode b_Mo_kern_fZ 66 = .ok (.aload_n 0, 1) := by decide +kernel
theorem d_Mo_kern_fZ_67 : decode b_Mo_kern_fZ 67 = .ok (.iload_n 1, 1) := by decide +kernel
theorem d_Mo_kern_fZ_68 : decode b_Mo_kern_fZ 68 = .ok (.bipush 10, 2) := by decide +kernel
theorem d_Mo_kern_fZ_70 : decode b_Mo_kern_fZ 70 = .ok (.iadd, 1) := by decide +kernel
theorem d_Mo_kern_fZ_71 : decode b_Mo_kern_fZ 71 = .ok (.invokevirtual 77, 3) := by decide +kernel
theorem d_Mo_kern_fZ_74 : decode b_Mo_kern_fZ 74 = .ok (.istore_n 3, 1) := by decide +kernel
theorem d_Mo_kern_fZ_75 : decode b_Mo_kern_fZ 75 = .ok (.iload_n 2, 1) := by decide +kernel
theorem d_Mo_kern_fZ_76 : decode b_Mo_kern_fZ 76 = .ok (.bipush 14, 2) := by decide +kernel
theorem d_Mo_kern_fZ_78 : decode b_Mo_kern_fZ 78 = .ok (.bipush 6, 2) := by decide +kernel
theorem d_Mo_kern_fZ_80 : decode b_Mo_kern_fZ 80 = .ok (.iload_n 3, 1) := by decide +kernel
theorem d_Mo_kern_fZ_81 : decode b_Mo_kern_fZ 81 = .ok (.imul, 1) := by decide +kernel
theorem d_Mo_kern_fZ_82 : decode b_Mo_kern_fZ 82 = .ok (.iadd, 1) := by decide +kernel
theorem d_Mo_kern_fZ_83 : decode b_Mo_kern_fZ 83 = .ok (.if_icmp .lt 15, 3) := by decide +kernel
theorem d_Mo_kern_fZ_86 : decode b_Mo_kern_fZ 86 = .ok (.iconst 4, 1) := by decide +kernel
theorem d_Mo_kern_fZ_87 : decode b_Mo_kern_fZ 87 = .ok (.iload_n 2, 1) := by decide +kernel
theorem d_Mo_kern_fZ_88 : decode b_Mo_kern_fZ 88 = .ok (.iadd, 1) := by decide +kernel
theorem d_Mo_kern_fZ_89 : decode b_Mo_kern_fZ 89 = .ok (.aload_n 0, 1) := by decide +kernel
theorem d_Mo_kern_fZ_90 : decode b_Mo_kern_fZ 90 = .ok (.getfield 96, 3) := by decide +kernel
theorem d_Mo_kern_fZ_93 : decode b_Mo_kern_fZ 93 = .ok (.iconst 5, 1) := by decide +kernel
theorem d_Mo_kern_fZ_94 : decode b_Mo_kern_fZ 94 = .ok (.iaload, 1) := by decide +kernel
theorem d_Mo_kern_fZ_95 : decode b_Mo_kern_fZ 95 = .ok (.if_icmp .le 5, 3) := by decide +kernel
theorem d_Mo_kern_fZ_98 : decode b_Mo_kern_fZ 98 = .ok (.iconst 0, 1) := by decide +kernel
theorem d_Mo_kern_fZ_99 : decode b_Mo_kern_fZ 99 = .ok (.ireturn, 1) := by decide +kernel
theorem d_Mo_kern_fZ_100 : decode b_Mo_kern_fZ 100 = .ok (.iconst 0, 1) := by decide +kernel
theorem d_Mo_kern_fZ_101 : decode b_Mo_kern_fZ 101 = .ok (.istore 4, 2) := by decide +kernel
theorem d_Mo_kern_fZ_103 : decode b_Mo_kern_fZ 103 = .ok (.iload 4, 2) := by decide +kernel
theorem d_Mo_kern_fZ_105 : decode b_Mo_kern_fZ 105 = .ok (.iload_n 3, 1) := by decide +kernel
theorem d_Mo_kern_fZ_106 : decode b_Mo_kern_fZ 106 = .ok (.if_icmp .ge 75, 3) := by decide +kernel
theorem d_Mo_kern_fZ_109 : decode b_Mo_kern_fZ 109 = .ok (.iload 4, 2) := by decide +kernel
theorem d_Mo_kern_fZ_111 : decode b_Mo_kern_fZ 111 = .ok (.ifCond .le 35, 3) := by decide +kernel
theorem d_Mo_kern_fZ_114 : decode b_Mo_kern_fZ 114 = .ok (.aload_n 0, 1) := by decide +kernel
theorem d_Mo_kern_fZ_115 : decode b_Mo_kern_fZ 115 = .ok (.iload_n 1, 1) := by decide +kernel
theorem d_Mo_kern_fZ_116 : decode b_Mo_kern_fZ 116 = .ok (.bipush 18, 2) := by decide +kernel
theorem d_Mo_kern_fZ_118 : decode b_Mo_kern_fZ 118 = .ok (.iadd, 1) := by decide +kernel
theorem d_Mo_kern_fZ_119 : decode b_Mo_kern_fZ 119 = .ok (.bipush 6, 2) := by decide +kernel
theorem d_Mo_kern_fZ_121 : decode b_Mo_kern_fZ 121 = .ok (.iload 4, 2) := by decide +kernel
theorem d_Mo_kern_fZ_123 : decode b_Mo_kern_fZ 123 = .ok (.imul, 1) := by decide +kernel
theorem d_Mo_kern_fZ_124 : decode b_Mo_kern_fZ 124 = .ok (.iadd, 1) := by decide +kernel
theorem d_Mo_kern_fZ_125 : decode b_Mo_kern_fZ 125 = .ok (.invokevirtual 83, 3) := by decide +kernel
theorem d_Mo_kern_fZ_128 : decode b_Mo_kern_fZ 128 = .ok (.aload_n 0, 1) := by decide +kernel
theorem d_Mo_kern_fZ_129 : decode b_Mo_kern_fZ 129 = .ok (.iload_n 1, 1) := by decide +kernel
theorem d_Mo_kern_fZ_130 : decode b_Mo_kern_fZ 130 = .ok (.bipush 12, 2) := by decide +kernel
theorem d_Mo_kern_fZ_132 : decode b_Mo_kern_fZ 132 = .ok (.iadd, 1) := by decide +kernel
theorem d_Mo_kern_fZ_133 : decode b_Mo_kern_fZ 133 = .ok (.bipush 6, 2) := by decide +kernel
theorem d_Mo_kern_fZ_135 : decode b_Mo_kern_fZ 135 = .ok (.iload 4, 2) := by decide +kernel
theorem d_Mo_kern_fZ_137 : decode b_Mo_kern_fZ 137 = .ok (.imul, 1) := by decide +kernel
theorem d_Mo_kern_fZ_138 : decode b_Mo_kern_fZ 138 = .ok (.iadd, 1) := by decide +kernel
theorem d_Mo_kern_fZ_139 : decode b_Mo_kern_fZ 139 = .ok (.invokevirtual 83, 3) := by decide +kernel
theorem d_Mo_kern_fZ_142 : decode b_Mo_kern_fZ 142 = .ok (.lcmp, 1) := by decide +kernel
theorem d_Mo_kern_fZ_143 : decode b_Mo_kern_fZ 143 = .ok (.ifCond .le 30, 3) := by decide +kernel
theorem d_Mo_kern_fZ_146 : decode b_Mo_kern_fZ 146 = .ok (.aload_n 0, 1) := by decide +kernel
theorem d_Mo_kern_fZ_147 : decode b_Mo_kern_fZ 147 = .ok (.iload_n 1, 1) := by decide +kernel
theorem d_Mo_kern_fZ_148 : decode b_Mo_kern_fZ 148 = .ok (.bipush 22, 2) := by decide +kernel
theorem d_Mo_kern_fZ_150 : decode b_Mo_kern_fZ 150 = .ok (.iadd, 1) := by decide +kernel
theorem d_Mo_kern_fZ_151 : decode b_Mo_kern_fZ 151 = .ok (.bipush 6, 2) := by decide +kernel
theorem d_Mo_kern_fZ_153 : decode b_Mo_kern_fZ 153 = .ok (.iload 4, 2) := by decide +kernel
theorem d_Mo_kern_fZ_155 : decode b_Mo_kern_fZ 155 = .ok (.imul, 1) := by decide +kernel
theorem d_Mo_kern_fZ_156 : decode b_Mo_kern_fZ 156 = .ok (.iadd, 1) := by decide +kernel
theorem d_Mo_kern_fZ_157 : decode b_Mo_kern_fZ 157 = .ok (.invokevirtual 109, 3) := by decide +kernel
theorem d_Mo_kern_fZ_160 : decode b_Mo_kern_fZ 160 = .ok (.invokestatic 124, 3) := by decide +kernel
theorem d_Mo_kern_fZ_163 : decode b_Mo_kern_fZ 163 = .ok (.bipush 8, 2) := by decide +kernel
theorem d_Mo_kern_fZ_165 : decode b_Mo_kern_fZ 165 = .ok (.aload_n 0, 1) := by decide +kernel
theorem d_Mo_kern_fZ_166 : decode b_Mo_kern_fZ 166 = .ok (.getfield 100, 3) := by decide +kernel
theorem d_Mo_kern_fZ_169 : decode b_Mo_kern_fZ 169 = .ok (.imul, 1) := by decide +kernel
theorem d_Mo_kern_fZ_170 : decode b_Mo_kern_fZ 170 = .ok (.if_icmp .le 5, 3) := by decide +kernel
theorem d_Mo_kern_fZ_173 : decode b_Mo_kern_fZ 173 = .ok (.iconst 0, 1) := by decide +kernel
theorem d_Mo_kern_fZ_174 : decode b_Mo_kern_fZ 174 = .ok (.ireturn, 1) := by decide +kernel
theorem d_Mo_kern_fZ_175 : decode b_Mo_kern_fZ 175 = .ok (.iinc 4 1, 3) := by decide +kernel
theorem d_Mo_kern_fZ_178 : decode b_Mo_kern_fZ 178 = .ok (.goto (-75), 3) := by decide +kernel
theorem d_Mo_kern_fZ_181 : decode b_Mo_kern_fZ 181 = .ok (.iconst 1, 1) := by decide +kernel
theorem d_Mo_kern_fZ_182 : decode b_Mo_kern_fZ 182 = .ok (.ireturn, 1) := by decide +kernel
section
variable {p : Program} {l : Launch} {e : Env} {s : State} {m : MethodId} {args : Array Value} {below : List Frame} {meth : Method} {c : Code} {A : Nat → Prop} {dC : Nat → ClassId} {dI : Nat → Nat → Nat} {cy : Nat → ClassId}
def P_Mf_one (o_file_f : Nat → Int32) (a1 : Int32) : Option (Int32) :=
  bd a1 4096 <| some ((o_file_f a1.toNatClampNeg) &&& (255 : Int32))
set_option maxHeartbeats 4000000 in
set_option maxRecDepth 100000 in
theorem c_Mf_one (l : Launch) (dC : Nat → ClassId) (dI : Nat → Nat → Nat) (cy : Nat → ClassId) (sz : Nat) (o : Nat) (o_file : Nat) (o_at : Nat) (o_length : Nat) (o_done : Nat) (o_depth : Nat) (o_parts : Nat) (o_contours : Nat) (o_points : Nat) (o_x : Nat) (o_y : Nat) (o_on : Nat) (o_contour : Nat) (o_size : Int32) (o_units : Int32) (o_form : Int32) (o_glyphs : Int32) (o_ascent : Int32) (o_descent : Int32) (o_gap : Int32) (o_metrics : Int32) (o_map : Int32) (o_mapLength : Int32) (o_segments : Int32) (o_file_f : Nat → Int32) (a1 : Int32) (uu : Int32) (h : P_Mf_one o_file_f a1 = some uu) : Met l y_Mf_one (Cond.code y_Mf_one b_Mf_one 2 (some .int) :: G) ({ frames := 0, cells := 0, slots := 0, locals := 0 } : Room) (va_Pc [.ref o, .int a1] (fun U => U.heap.size = sz ∧ va_P (dC, dI) classes [(o, .inr (8, [.ref o_file, .int o_size, .ref o_at, .ref o_length, .int o_units, .int o_form, .int o_glyphs, .int o_ascent, .int o_descent, .int o_gap, .int o_metrics, .int o_map, .int o_mapLength, .int o_segments, .ref o_done, .ref o_depth, .ref o_parts, .ref o_contours, .ref o_points, .ref o_x, .ref o_y, .ref o_on, .ref o_contour])), (o_file, .inl (cy 1, 4096, .inl o_file_f))] U.heap ∧ va_K (dC, dI) classes (TY cy) U ∧ va_D (fun _ => True) [(o, .inr (8, [.ref o_file, .int o_size, .ref o_at, .ref o_length, .int o_units, .int o_form, .int o_glyphs, .int o_ascent, .int o_descent, .int o_gap, .int o_metrics, .int o_map, .int o_mapLength, .int o_segments, .ref o_done, .ref o_depth, .ref o_parts, .ref o_contours, .ref o_points, .ref o_x, .ref o_y, .ref o_on, .ref o_contour])), (o_file, .inl (cy 1, 4096, .inl o_file_f))])) (va_Qi (fun r (_ : Unit) => r = uu) (fun _ t => va_P (dC, dI) classes [(o, .inr (8, [.ref o_file, .int o_size, .ref o_at, .ref o_length, .int o_units, .int o_form, .int o_glyphs, .int o_ascent, .int o_descent, .int o_gap, .int o_metrics, .int o_map, .int o_mapLength, .int o_segments, .ref o_done, .ref o_depth, .ref o_parts, .ref o_contours, .ref o_points, .ref o_x, .ref o_y, .ref o_on, .ref o_contour])), (o_file, .inl (cy 1, 4096, .inl o_file_f))] t.heap ∧ va_K (dC, dI) classes (TY cy) t ∧ va_D (va_A [(o, .inr (8, [.ref o_file, .int o_size, .ref o_at, .ref o_length, .int o_units, .int o_form, .int o_glyphs, .int o_ascent, .int o_descent, .int o_gap, .int o_metrics, .int o_map, .int o_mapLength, .int o_segments, .ref o_done, .ref o_depth, .ref o_parts, .ref o_contours, .ref o_points, .ref o_x, .ref o_y, .ref o_on, .ref o_contour])), (o_file, .inl (cy 1, 4096, .inl o_file_f))] sz) [(o, .inr (8, [.ref o_file, .int o_size, .ref o_at, .ref o_length, .int o_units, .int o_form, .int o_glyphs, .int o_ascent, .int o_descent, .int o_gap, .int o_metrics, .int o_map, .int o_mapLength, .int o_segments, .ref o_done, .ref o_depth, .ref o_parts, .ref o_contours, .ref o_points, .ref o_x, .ref o_y, .ref o_on, .ref o_contour])), (o_file, .inl (cy 1, 4096, .inl o_file_f))]) (va_A [(o, .inr (8, [.ref o_file, .int o_size, .ref o_at, .ref o_length, .int o_units, .int o_form, .int o_glyphs, .int o_ascent, .int o_descent, .int o_gap, .int o_metrics, .int o_map, .int o_mapLength, .int o_segments, .ref o_done, .ref o_depth, .ref o_parts, .ref o_contours, .ref o_points, .ref o_x, .ref o_y, .ref o_on, .ref o_contour])), (o_file, .inl (cy 1, 4096, .inl o_file_f))] sz)) 0 0 (va_A [(o, .inr (8, [.ref o_file, .int o_size, .ref o_at, .ref o_length, .int o_units, .int o_form, .int o_glyphs, .int o_ascent, .int o_descent, .int o_gap, .int o_metrics, .int o_map, .int o_mapLength, .int o_segments, .ref o_done, .ref o_depth, .ref o_parts, .ref o_contours, .ref o_points, .ref o_x, .ref o_y, .ref o_on, .ref o_contour])), (o_file, .inl (cy 1, 4096, .inl o_file_f))] sz) := by
  refine Met.ofW (cc := b_Mf_one) (maxL := 2) (ret := (some .int)) (by decide) rfl ?_
  intro p e s m args below meth c s₁ B hml hv
  obtain ⟨rfl, hsz, hP, hK, hD0⟩ := hv
  have hx := B.exec
  have hb := B.bytes
  have hr := B.returns
  have hts := atoms_spec (ws := Cond.code y_Mf_one b_Mf_one 2 (some .int) :: G) B.pre
  have htsG : ∀ w ∈ G, w.before _ s = true := fun w hw => hts w (List.mem_cons_of_mem _ hw)
  have hown : s.vm.findClass "GlyphPageModel$Font" = some m.cls := findClass_of_methodNamed B.named
  have hlocks := B.notSynchronized
  subst hsz
  have hD := hD0.self (sz := s.heap.size)
  generalize hAe : va_A [(o, .inr (8, [.ref o_file, .int o_size, .ref o_at, .ref o_length, .int o_units, .int o_form, .int o_glyphs, .int o_ascent, .int o_descent, .int o_gap, .int o_metrics, .int o_map, .int o_mapLength, .int o_segments, .ref o_done, .ref o_depth, .ref o_parts, .ref o_contours, .ref o_points, .ref o_x, .ref o_y, .ref o_on, .ref o_contour])), (o_file, .inl (cy 1, 4096, .inl o_file_f))] s.heap.size = A at hD ⊢
  have hA : ∀ q : Nat, s.heap.size ≤ q → A q := fun q h => by rw [← hAe]; exact Or.inr h
  have hS : va_S A s.heap s.heap [] := va_S.rf
  have hl := lv_entry ([.ref o, .int a1]) (n := 2) (Nat.le_of_ble_eq_true rfl)
  rw [lg_entry_eq]
  generalize (lg_sl ([.ref o, .int a1]) ++ List.replicate (2 - (lg_sl ([.ref o, .int a1])).length) Slot.unset).toArray = ls at hl ⊢
  have hl : lv_has ls 2 [(0, .ref o), (1, .int a1)] := hl
  have C0 : Cx p s m _ meth c A dC dI cy b_Mf_one 2 (some .int) "GlyphPageModel$Font" := ⟨hx, hb, hr, hlocks, hml, hown, htsG, hA, hK⟩
  unfold P_Mf_one at h
  refine lv_aload_n hx hb d_Mf_one_0 rfl (lv_at hl 0 rfl) ?_
  refine va_get (D := (dC, dI)) (ci := 8) (v := .ref o_file) (C := "GlyphPageModel$Font") (T := F_Mf) (N := 23) hx hb htsG iG_Mf hown hK hP 0 rfl rfl 0 (by decide) (htsG _ mW774) (fun _ h9 => h9) rfl d_Mf_one_1 ?_
  refine lv_iload_n hx hb d_Mf_one_4 rfl (lv_at hl 1 rfl) ?_
  obtain ⟨hin_1, h⟩ := bd_some h
  refine va_bald hx hb hK hP 1 1 rfl rfl hin_1 d_Mf_one_5 ?_
  refine lv_sipush (v := (255 : Int32)) hx hb d_Mf_one_6 (by decide) ?_
  refine lv_iand hx hb d_Mf_one_9 ?_
  cases h
  exact W.iret hx hb hr (fun t ht hW => ⟨⟨_, (), rfl, rfl, by rw [ht]; exact hP, va_K.moved hW.alike hK, hD⟩, hS.F ht⟩) hS.2.2 d_Mf_one_10 hlocks
def P_Mf_two (o_file_f : Nat → Int32) (a1 : Int32) : Option (Int32) :=
  bd a1 4096 <| bd (a1 + (1 : Int32)) 4096 <| some ((((o_file_f a1.toNatClampNeg) &&& (255 : Int32)) <<< ((8 : Int32) &&& 31)) ||| ((o_file_f (a1 + (1 : Int32)).toNatClampNeg) &&& (255 : Int32)))
set_option maxHeartbeats 4000000 in
set_option maxRecDepth 100000 in
theorem c_Mf_two (l : Launch) (dC : Nat → ClassId) (dI : Nat → Nat → Nat) (cy : Nat → ClassId) (sz : Nat) (o : Nat) (o_file : Nat) (o_at : Nat) (o_length : Nat) (o_done : Nat) (o_depth : Nat) (o_parts : Nat) (o_contours : Nat) (o_points : Nat) (o_x : Nat) (o_y : Nat) (o_on : Nat) (o_contour : Nat) (o_size : Int32) (o_units : Int32) (o_form : Int32) (o_glyphs : Int32) (o_ascent : Int32) (o_descent : Int32) (o_gap : Int32) (o_metrics : Int32) (o_map : Int32) (o_mapLength : Int32) (o_segments : Int32) (o_file_f : Nat → Int32) (a1 : Int32) (uu : Int32) (h : P_Mf_two o_file_f a1 = some uu) : Met l y_Mf_two (Cond.code y_Mf_two b_Mf_two 2 (some .int) :: G) ({ frames := 0, cells := 0, slots := 0, locals := 0 } : Room) (va_Pc [.ref o, .int a1] (fun U => U.heap.size = sz ∧ va_P (dC, dI) classes [(o, .inr (8, [.ref o_file, .int o_size, .ref o_at, .ref o_length, .int o_units, .int o_form, .int o_glyphs, .int o_ascent, .int o_descent, .int o_gap, .int o_metrics, .int o_map, .int o_mapLength, .int o_segments, .ref o_done, .ref o_depth, .ref o_parts, .ref o_contours, .ref o_points, .ref o_x, .ref o_y, .ref o_on, .ref o_contour])), (o_file, .inl (cy 1, 4096, .inl o_file_f))] U.heap ∧ va_K (dC, dI) classes (TY cy) U ∧ va_D (fun _ => True) [(o, .inr (8, [.ref o_file, .int o_size, .ref o_at, .ref o_length, .int o_units, .int o_form, .int o_glyphs, .int o_ascent, .int o_descent, .int o_gap, .int o_metrics, .int o_map, .int o_mapLength, .int o_segments, .ref o_done, .ref o_depth, .ref o_parts, .ref o_contours, .ref o_points, .ref o_x, .ref o_y, .ref o_on, .ref o_contour])), (o_file, .inl (cy 1, 4096, .inl o_file_f))])) (va_Qi (fun r (_ : Unit) => r = uu) (fun _ t => va_P (dC, dI) classes [(o, .inr (8, [.ref o_file, .int o_size, .ref o_at, .ref o_length, .int o_units, .int o_form, .int o_glyphs, .int o_ascent, .int o_descent, .int o_gap, .int o_metrics, .int o_map, .int o_mapLength, .int o_segments, .ref o_done, .ref o_depth, .ref o_parts, .ref o_contours, .ref o_points, .ref o_x, .ref o_y, .ref o_on, .ref o_contour])), (o_file, .inl (cy 1, 4096, .inl o_file_f))] t.heap ∧ va_K (dC, dI) classes (TY cy) t ∧ va_D (va_A [(o, .inr (8, [.ref o_file, .int o_size, .ref o_at, .ref o_length, .int o_units, .int o_form, .int o_glyphs, .int o_ascent, .int o_descent, .int o_gap, .int o_metrics, .int o_map, .int o_mapLength, .int o_segments, .ref o_done, .ref o_depth, .ref o_parts, .ref o_contours, .ref o_points, .ref o_x, .ref o_y, .ref o_on, .ref o_contour])), (o_file, .inl (cy 1, 4096, .inl o_file_f))] sz) [(o, .inr (8, [.ref o_file, .int o_size, .ref o_at, .ref o_length, .int o_units, .int o_form, .int o_glyphs, .int o_ascent, .int o_descent, .int o_gap, .int o_metrics, .int o_map, .int o_mapLength, .int o_segments, .ref o_done, .ref o_depth, .ref o_parts, .ref o_contours, .ref o_points, .ref o_x, .ref o_y, .ref o_on, .ref o_contour])), (o_file, .inl (cy 1, 4096, .inl o_file_f))]) (va_A [(o, .inr (8, [.ref o_file, .int o_size, .ref o_at, .ref o_length, .int o_units, .int o_form, .int o_glyphs, .int o_ascent, .int o_descent, .int o_gap, .int o_metrics, .int o_map, .int o_mapLength, .int o_segments, .ref o_done, .ref o_depth, .ref o_parts, .ref o_contours, .ref o_points, .ref o_x, .ref o_y, .ref o_on, .ref o_contour])), (o_file, .inl (cy 1, 4096, .inl o_file_f))] sz)) 0 0 (va_A [(o, .inr (8, [.ref o_file, .int o_size, .ref o_at, .ref o_length, .int o_units, .int o_form, .int o_glyphs, .int o_ascent, .int o_descent, .int o_gap, .int o_metrics, .int o_map, .int o_mapLength, .int o_segments, .ref o_done, .ref o_depth, .ref o_parts, .ref o_contours, .ref o_points, .ref o_x, .ref o_y, .ref o_on, .ref o_contour])), (o_file, .inl (cy 1, 4096, .inl o_file_f))] sz) := by
  refine Met.ofW (cc := b_Mf_two) (maxL := 2) (ret := (some .int)) (by decide) rfl ?_
  intro p e s m args below meth c s₁ B hml hv
  obtain ⟨rfl, hsz, hP, hK, hD0⟩ := hv
  have hx := B.exec
  have hb := B.bytes
  have hr := B.returns
  have hts := atoms_spec (ws := Cond.code y_Mf_two b_Mf_two 2 (some .int) :: G) B.pre
  have htsG : ∀ w ∈ G, w.before _ s = true := fun w hw => hts w (List.mem_cons_of_mem _ hw)
  have hown : s.vm.findClass "GlyphPageModel$Font" = some m.cls := findClass_of_methodNamed B.named
  have hlocks := B.notSynchronized
  subst hsz
  have hD := hD0.self (sz := s.heap.size)
  generalize hAe : va_A [(o, .inr (8, [.ref o_file, .int o_size, .ref o_at, .ref o_length, .int o_units, .int o_form, .int o_glyphs, .int o_ascent, .int o_descent, .int o_gap, .int o_metrics, .int o_map, .int o_mapLength, .int o_segments, .ref o_done, .ref o_depth, .ref o_parts, .ref o_contours, .ref o_points, .ref o_x, .ref o_y, .ref o_on, .ref o_contour])), (o_file, .inl (cy 1, 4096, .inl o_file_f))] s.heap.size = A at hD ⊢
  have hA : ∀ q : Nat, s.heap.size ≤ q → A q := fun q h => by rw [← hAe]; exact Or.inr h
  have hS : va_S A s.heap s.heap [] := va_S.rf
  have hl := lv_entry ([.ref o, .int a1]) (n := 2) (Nat.le_of_ble_eq_true rfl)
  rw [lg_entry_eq]
  generalize (lg_sl ([.ref o, .int a1]) ++ List.replicate (2 - (lg_sl ([.ref o, .int a1])).length) Slot.unset).toArray = ls at hl ⊢
  have hl : lv_has ls 2 [(0, .ref o), (1, .int a1)] := hl
  have C0 : Cx p s m _ meth c A dC dI cy b_Mf_two 2 (some .int) "GlyphPageModel$Font" := ⟨hx, hb, hr, hlocks, hml, hown, htsG, hA, hK⟩
  unfold P_Mf_two at h
  refine lv_aload_n hx hb d_Mf_two_0 rfl (lv_at hl 0 rfl) ?_
  refine va_get (D := (dC, dI)) (ci := 8) (v := .ref o_file) (C := "GlyphPageModel$Font") (T := F_Mf) (N := 23) hx hb htsG iG_Mf hown hK hP 0 rfl rfl 0 (by decide) (htsG _ mW774) (fun _ h9 => h9) rfl d_Mf_two_1 ?_
  refine lv_iload_n hx hb d_Mf_two_4 rfl (lv_at hl 1 rfl) ?_
  obtain ⟨hin_1, h⟩ := bd_some h
  refine va_bald hx hb hK hP 1 1 rfl rfl hin_1 d_Mf_two_5 ?_
  refine lv_sipush (v := (255 : Int32)) hx hb d_Mf_two_6 (by decide) ?_
  refine lv_iand hx hb d_Mf_two_9 ?_
  refine lv_bipush (v := (8 : Int32)) hx hb d_Mf_two_10 (by decide) ?_
  refine lv_ishl hx hb d_Mf_two_12 ?_
  refine lv_aload_n hx hb d_Mf_two_13 rfl (lv_at hl 0 rfl) ?_
  refine va_get (D := (dC, dI)) (ci := 8) (v := .ref o_file) (C := "GlyphPageModel$Font") (T := F_Mf) (N := 23) hx hb htsG iG_Mf hown hK hP 0 rfl rfl 0 (by decide) (htsG _ mW774) (fun _ h9 => h9) rfl d_Mf_two_14 ?_
  refine lv_iload_n hx hb d_Mf_two_17 rfl (lv_at hl 1 rfl) ?_
  refine lv_iconst (v := (1 : Int32)) hx hb d_Mf_two_18 (by decide) ?_
  refine lv_iadd hx hb d_Mf_two_19 ?_
  obtain ⟨hin_2, h⟩ := bd_some h
  refine va_bald hx hb hK hP 1 1 rfl rfl hin_2 d_Mf_two_20 ?_
  refine lv_sipush (v := (255 : Int32)) hx hb d_Mf_two_21 (by decide) ?_
  refine lv_iand hx hb d_Mf_two_24 ?_
  refine lv_ior hx hb d_Mf_two_25 ?_
  cases h
  exact W.iret hx hb hr (fun t ht hW => ⟨⟨_, (), rfl, rfl, by rw [ht]; exact hP, va_K.moved hW.alike hK, hD⟩, hS.F ht⟩) hS.2.2 d_Mf_two_26 hlocks
def P_Mf_signed (o_file_f : Nat → Int32) (a1 : Int32) : Option (Int32) :=
  (P_Mf_two o_file_f a1).bind fun r_1 => some (r_1.toInt16.toInt32)
set_option maxHeartbeats 4000000 in
set_option maxRecDepth 100000 in
theorem c_Mf_signed (l : Launch) (dC : Nat → ClassId) (dI : Nat → Nat → Nat) (cy : Nat → ClassId) (sz : Nat) (o : Nat) (o_file : Nat) (o_at : Nat) (o_length : Nat) (o_done : Nat) (o_depth : Nat) (o_parts : Nat) (o_contours : Nat) (o_points : Nat) (o_x : Nat) (o_y : Nat) (o_on : Nat) (o_contour : Nat) (o_size : Int32) (o_units : Int32) (o_form : Int32) (o_glyphs : Int32) (o_ascent : Int32) (o_descent : Int32) (o_gap : Int32) (o_metrics : Int32) (o_map : Int32) (o_mapLength : Int32) (o_segments : Int32) (o_file_f : Nat → Int32) (a1 : Int32) (uu : Int32) (h : P_Mf_signed o_file_f a1 = some uu) : Met l y_Mf_signed (Cond.code y_Mf_signed b_Mf_signed 2 (some .int) :: G) ({ frames := 1, cells := 0, slots := 0, locals := 21 } : Room) (va_Pc [.ref o, .int a1] (fun U => U.heap.size = sz ∧ va_P (dC, dI) classes [(o, .inr (8, [.ref o_file, .int o_size, .ref o_at, .ref o_length, .int o_units, .int o_form, .int o_glyphs, .int o_ascent, .int o_descent, .int o_gap, .int o_metrics, .int o_map, .int o_mapLength, .int o_segments, .ref o_done, .ref o_depth, .ref o_parts, .ref o_contours, .ref o_points, .ref o_x, .ref o_y, .ref o_on, .ref o_contour])), (o_file, .inl (cy 1, 4096, .inl o_file_f))] U.heap ∧ va_K (dC, dI) classes (TY cy) U ∧ va_D (fun _ => True) [(o, .inr (8, [.ref o_file, .int o_size, .ref o_at, .ref o_length, .int o_units, .int o_form, .int o_glyphs, .int o_ascent, .int o_descent, .int o_gap, .int o_metrics, .int o_map, .int o_mapLength, .int o_segments, .ref o_done, .ref o_depth, .ref o_parts, .ref o_contours, .ref o_points, .ref o_x, .ref o_y, .ref o_on, .ref o_contour])), (o_file, .inl (cy 1, 4096, .inl o_file_f))])) (va_Qi (fun r (_ : Unit) => r = uu) (fun _ t => va_P (dC, dI) classes [(o, .inr (8, [.ref o_file, .int o_size, .ref o_at, .ref o_length, .int o_units, .int o_form, .int o_glyphs, .int o_ascent, .int o_descent, .int o_gap, .int o_metrics, .int o_map, .int o_mapLength, .int o_segments, .ref o_done, .ref o_depth, .ref o_parts, .ref o_contours, .ref o_points, .ref o_x, .ref o_y, .ref o_on, .ref o_contour])), (o_file, .inl (cy 1, 4096, .inl o_file_f))] t.heap ∧ va_K (dC, dI) classes (TY cy) t ∧ va_D (va_A [(o, .inr (8, [.ref o_file, .int o_size, .ref o_at, .ref o_length, .int o_units, .int o_form, .int o_glyphs, .int o_ascent, .int o_descent, .int o_gap, .int o_metrics, .int o_map, .int o_mapLength, .int o_segments, .ref o_done, .ref o_depth, .ref o_parts, .ref o_contours, .ref o_points, .ref o_x, .ref o_y, .ref o_on, .ref o_contour])), (o_file, .inl (cy 1, 4096, .inl o_file_f))] sz) [(o, .inr (8, [.ref o_file, .int o_size, .ref o_at, .ref o_length, .int o_units, .int o_form, .int o_glyphs, .int o_ascent, .int o_descent, .int o_gap, .int o_metrics, .int o_map, .int o_mapLength, .int o_segments, .ref o_done, .ref o_depth, .ref o_parts, .ref o_contours, .ref o_points, .ref o_x, .ref o_y, .ref o_on, .ref o_contour])), (o_file, .inl (cy 1, 4096, .inl o_file_f))]) (va_A [(o, .inr (8, [.ref o_file, .int o_size, .ref o_at, .ref o_length, .int o_units, .int o_form, .int o_glyphs, .int o_ascent, .int o_descent, .int o_gap, .int o_metrics, .int o_map, .int o_mapLength, .int o_segments, .ref o_done, .ref o_depth, .ref o_parts, .ref o_contours, .ref o_points, .ref o_x, .ref o_y, .ref o_on, .ref o_contour])), (o_file, .inl (cy 1, 4096, .inl o_file_f))] sz)) 0 0 (va_A [(o, .inr (8, [.ref o_file, .int o_size, .ref o_at, .ref o_length, .int o_units, .int o_form, .int o_glyphs, .int o_ascent, .int o_descent, .int o_gap, .int o_metrics, .int o_map, .int o_mapLength, .int o_segments, .ref o_done, .ref o_depth, .ref o_parts, .ref o_contours, .ref o_points, .ref o_x, .ref o_y, .ref o_on, .ref o_contour])), (o_file, .inl (cy 1, 4096, .inl o_file_f))] sz) := by
  refine Met.ofW (cc := b_Mf_signed) (maxL := 2) (ret := (some .int)) (by decide) rfl ?_
  intro p e s m args below meth c s₁ B hml hv
  obtain ⟨rfl, hsz, hP, hK, hD0⟩ := hv
  have hx := B.exec
  have hb := B.bytes
  have hr := B.returns
  have hts := atoms_spec (ws := Cond.code y_Mf_signed b_Mf_signed 2 (some .int) :: G) B.pre
  have htsG : ∀ w ∈ G, w.before _ s = true := fun w hw => hts w (List.mem_cons_of_mem _ hw)
  have hown : s.vm.findClass "GlyphPageModel$Font" = some m.cls := findClass_of_methodNamed B.named
  have hlocks := B.notSynchronized
  subst hsz
  have hD := hD0.self (sz := s.heap.size)
  generalize hAe : va_A [(o, .inr (8, [.ref o_file, .int o_size, .ref o_at, .ref o_length, .int o_units, .int o_form, .int o_glyphs, .int o_ascent, .int o_descent, .int o_gap, .int o_metrics, .int o_map, .int o_mapLength, .int o_segments, .ref o_done, .ref o_depth, .ref o_parts, .ref o_contours, .ref o_points, .ref o_x, .ref o_y, .ref o_on, .ref o_contour])), (o_file, .inl (cy 1, 4096, .inl o_file_f))] s.heap.size = A at hD ⊢
  have hA : ∀ q : Nat, s.heap.size ≤ q → A q := fun q h => by rw [← hAe]; exact Or.inr h
  have hS : va_S A s.heap s.heap [] := va_S.rf
  have hl := lv_entry ([.ref o, .int a1]) (n := 2) (Nat.le_of_ble_eq_true rfl)
  rw [lg_entry_eq]
  generalize (lg_sl ([.ref o, .int a1]) ++ List.replicate (2 - (lg_sl ([.ref o, .int a1])).length) Slot.unset).toArray = ls at hl ⊢
  have hl : lv_has ls 2 [(0, .ref o), (1, .int a1)] := hl
  have C0 : Cx p s m _ meth c A dC dI cy b_Mf_signed 2 (some .int) "GlyphPageModel$Font" := ⟨hx, hb, hr, hlocks, hml, hown, htsG, hA, hK⟩
  unfold P_Mf_signed at h
  refine lv_aload_n hx hb d_Mf_signed_0 rfl (lv_at hl 0 rfl) ?_
  refine lv_iload_n hx hb d_Mf_signed_1 rfl (lv_at hl 1 rfl) ?_
  obtain ⟨r_1, hq, h⟩ := Option.bind_eq_some_iff.mp h
  try dsimp only at h
  have hPc := hP.sub (ws' := [(o, .inr (8, [.ref o_file, .int o_size, .ref o_at, .ref o_length, .int o_units, .int o_form, .int o_glyphs, .int o_ascent, .int o_descent, .int o_gap, .int o_metrics, .int o_map, .int o_mapLength, .int o_segments, .ref o_done, .ref o_depth, .ref o_parts, .ref o_contours, .ref o_points, .ref o_x, .ref o_y, .ref o_on, .ref o_contour])), (o_file, .inl (cy 1, 4096, .inl o_file_f))]) [0, 1] rfl
  have hDc := hD.sub (ws' := [(o, .inr (8, [.ref o_file, .int o_size, .ref o_at, .ref o_length, .int o_units, .int o_form, .int o_glyphs, .int o_ascent, .int o_descent, .int o_gap, .int o_metrics, .int o_map, .int o_mapLength, .int o_segments, .ref o_done, .ref o_depth, .ref o_parts, .ref o_contours, .ref o_points, .ref o_x, .ref o_y, .ref o_on, .ref o_contour])), (o_file, .inl (cy 1, 4096, .inl o_file_f))]) [0, 1] (by decide) rfl
  have hFc := va_free (wc := [(o, .inr (8, [.ref o_file, .int o_size, .ref o_at, .ref o_length, .int o_units, .int o_form, .int o_glyphs, .int o_ascent, .int o_descent, .int o_gap, .int o_metrics, .int o_map, .int o_mapLength, .int o_segments, .ref o_done, .ref o_depth, .ref o_parts, .ref o_contours, .ref o_points, .ref o_x, .ref o_y, .ref o_on, .ref o_contour])), (o_file, .inl (cy 1, 4096, .inl o_file_f))]) hD hS hA [0, 1] rfl
  refine va_calli (va_runV (As := [.int a1]) (rest := []) ⟨hx, hb, hml, hown, htsG⟩ (c_Mf_two l dC dI cy s.heap.size o o_file o_at o_length o_done o_depth o_parts o_contours o_points o_x o_y o_on o_contour o_size o_units o_form o_glyphs o_ascent o_descent o_gap o_metrics o_map o_mapLength o_segments o_file_f a1 r_1 hq) (cwV 1 htsG (gV mW946 mW947 mW948 mW10 mW949) rfl rfl rfl (by decide +kernel) ⟨Nat.le_of_ble_eq_true rfl, Nat.le_of_ble_eq_true rfl⟩) ⟨fun a U g mk q => by obtain ⟨q0, q1, qP, qK, qD⟩ := q; exact ⟨q0, q1, qP, va_K.moved (u := U) (U := U.calling g mk a) (Vm.Alike.refl U.vm) qK, qD⟩, va_recv hK hPc (ci := 8) (q0 := 0) rfl rfl, fun U hU hW => ⟨rfl, by rw [hU], by rw [hU]; exact hPc, va_K.moved hW.alike hK, hDc.weaken (fun _ _ _ _ => trivial)⟩⟩ rfl rfl hl.1 rfl (lv_room (Nat.le_of_ble_eq_true rfl)) d_Mf_signed_2 ⟨Nat.le_of_ble_eq_true rfl, Nat.le_of_ble_eq_true rfl⟩) hS (fun q _ h => hFc q h) hFc (fun rr u t H1 locs ht hvm hw hB hz1 hk1 hS => ?_)
  obtain ⟨hP1, hK1, hD1⟩ := hB
  rw [ht] at hP1
  replace hw : r_1 = rr := hw.symm
  subst hw
  obtain ⟨hP, hD⟩ := va_join (wr := []) (w1 := [(o, .inr (8, [.ref o_file, .int o_size, .ref o_at, .ref o_length, .int o_units, .int o_form, .int o_glyphs, .int o_ascent, .int o_descent, .int o_gap, .int o_metrics, .int o_map, .int o_mapLength, .int o_segments, .ref o_done, .ref o_depth, .ref o_parts, .ref o_contours, .ref o_points, .ref o_x, .ref o_y, .ref o_on, .ref o_contour])), (o_file, .inl (cy 1, 4096, .inl o_file_f))]) hP hD [0, 1] [] rfl rfl (by decide) (by decide) hk1 hFc hP1 hD1
  generalize H1 = H at hP hS ⊢
  have hP := hP.sub (ws' := [(o, .inr (8, [.ref o_file, .int o_size, .ref o_at, .ref o_length, .int o_units, .int o_form, .int o_glyphs, .int o_ascent, .int o_descent, .int o_gap, .int o_metrics, .int o_map, .int o_mapLength, .int o_segments, .ref o_done, .ref o_depth, .ref o_parts, .ref o_contours, .ref o_points, .ref o_x, .ref o_y, .ref o_on, .ref o_contour])), (o_file, .inl (cy 1, 4096, .inl o_file_f))]) [0, 1] rfl
  have hD := hD.sub (ws' := [(o, .inr (8, [.ref o_file, .int o_size, .ref o_at, .ref o_length, .int o_units, .int o_form, .int o_glyphs, .int o_ascent, .int o_descent, .int o_gap, .int o_metrics, .int o_map, .int o_mapLength, .int o_segments, .ref o_done, .ref o_depth, .ref o_parts, .ref o_contours, .ref o_points, .ref o_x, .ref o_y, .ref o_on, .ref o_contour])), (o_file, .inl (cy 1, 4096, .inl o_file_f))]) [0, 1] (by decide) rfl
  refine W.widen (k := 0) (n := 0) (by decide) (by decide) ?_
  refine lv_i2s hx hb d_Mf_signed_5 rfl ?_
  cases h
  exact W.iret hx hb hr (fun t ht hW => ⟨⟨_, (), rfl, rfl, by rw [ht]; exact hP, va_K.moved hW.alike hK, hD⟩, hS.F ht⟩) hS.2.2 d_Mf_signed_6 hlocks
def P_Mf_four (o_file_f : Nat → Int32) (a1 : Int32) : Option (Int32) :=
  (P_Mf_two o_file_f a1).bind fun r_1 => (P_Mf_two o_file_f (a1 + (2 : Int32))).bind fun r_2 => some ((r_1 <<< ((16 : Int32) &&& 31)) ||| r_2)
set_option maxHeartbeats 4000000 in
set_option maxRecDepth 100000 in
theorem c_Mf_four (l : Launch) (dC : Nat → ClassId) (dI : Nat → Nat → Nat) (cy : Nat → ClassId) (sz : Nat) (o : Nat) (o_file : Nat) (o_at : Nat) (o_length : Nat) (o_done : Nat) (o_depth : Nat) (o_parts : Nat) (o_contours : Nat) (o_points : Nat) (o_x : Nat) (o_y : Nat) (o_on : Nat) (o_contour : Nat) (o_size : Int32) (o_units : Int32) (o_form : Int32) (o_glyphs : Int32) (o_ascent : Int32) (o_descent : Int32) (o_gap : Int32) (o_metrics : Int32) (o_map : Int32) (o_mapLength : Int32) (o_segments : Int32) (o_file_f : Nat → Int32) (a1 : Int32) (uu : Int32) (h : P_Mf_four o_file_f a1 = some uu) : Met l y_Mf_four (Cond.code y_Mf_four b_Mf_four 2 (some .int) :: G) ({ frames := 1, cells := 0, slots := 0, locals := 21 } : Room) (va_Pc [.ref o, .int a1] (fun U => U.heap.size = sz ∧ va_P (dC, dI) classes [(o, .inr (8, [.ref o_file, .int o_size, .ref o_at, .ref o_length, .int o_units, .int o_form, .int o_glyphs, .int o_ascent, .int o_descent, .int o_gap, .int o_metrics, .int o_map, .int o_mapLength, .int o_segments, .ref o_done, .ref o_depth, .ref o_parts, .ref o_contours, .ref o_points, .ref o_x, .ref o_y, .ref o_on, .ref o_contour])), (o_file, .inl (cy 1, 4096, .inl o_file_f))] U.heap ∧ va_K (dC, dI) classes (TY cy) U ∧ va_D (fun _ => True) [(o, .inr (8, [.ref o_file, .int o_size, .ref o_at, .ref o_length, .int o_units, .int o_form, .int o_glyphs, .int o_ascent, .int o_descent, .int o_gap, .int o_metrics, .int o_map, .int o_mapLength, .int o_segments, .ref o_done, .ref o_depth, .ref o_parts, .ref o_contours, .ref o_points, .ref o_x, .ref o_y, .ref o_on, .ref o_contour])), (o_file, .inl (cy 1, 4096, .inl o_file_f))])) (va_Qi (fun r (_ : Unit) => r = uu) (fun _ t => va_P (dC, dI) classes [(o, .inr (8, [.ref o_file, .int o_size, .ref o_at, .ref o_length, .int o_units, .int o_form, .int o_glyphs, .int o_ascent, .int o_descent, .int o_gap, .int o_metrics, .int o_map, .int o_mapLength, .int o_segments, .ref o_done, .ref o_depth, .ref o_parts, .ref o_contours, .ref o_points, .ref o_x, .ref o_y, .ref o_on, .ref o_contour])), (o_file, .inl (cy 1, 4096, .inl o_file_f))] t.heap ∧ va_K (dC, dI) classes (TY cy) t ∧ va_D (va_A [(o, .inr (8, [.ref o_file, .int o_size, .ref o_at, .ref o_length, .int o_units, .int o_form, .int o_glyphs, .int o_ascent, .int o_descent, .int o_gap, .int o_metrics, .int o_map, .int o_mapLength, .int o_segments, .ref o_done, .ref o_depth, .ref o_parts, .ref o_contours, .ref o_points, .ref o_x, .ref o_y, .ref o_on, .ref o_contour])), (o_file, .inl (cy 1, 4096, .inl o_file_f))] sz) [(o, .inr (8, [.ref o_file, .int o_size, .ref o_at, .ref o_length, .int o_units, .int o_form, .int o_glyphs, .int o_ascent, .int o_descent, .int o_gap, .int o_metrics, .int o_map, .int o_mapLength, .int o_segments, .ref o_done, .ref o_depth, .ref o_parts, .ref o_contours, .ref o_points, .ref o_x, .ref o_y, .ref o_on, .ref o_contour])), (o_file, .inl (cy 1, 4096, .inl o_file_f))]) (va_A [(o, .inr (8, [.ref o_file, .int o_size, .ref o_at, .ref o_length, .int o_units, .int o_form, .int o_glyphs, .int o_ascent, .int o_descent, .int o_gap, .int o_metrics, .int o_map, .int o_mapLength, .int o_segments, .ref o_done, .ref o_depth, .ref o_parts, .ref o_contours, .ref o_points, .ref o_x, .ref o_y, .ref o_on, .ref o_contour])), (o_file, .inl (cy 1, 4096, .inl o_file_f))] sz)) 0 0 (va_A [(o, .inr (8, [.ref o_file, .int o_size, .ref o_at, .ref o_length, .int o_units, .int o_form, .int o_glyphs, .int o_ascent, .int o_descent, .int o_gap, .int o_metrics, .int o_map, .int o_mapLength, .int o_segments, .ref o_done, .ref o_depth, .ref o_parts, .ref o_contours, .ref o_points, .ref o_x, .ref o_y, .ref o_on, .ref o_contour])), (o_file, .inl (cy 1, 4096, .inl o_file_f))] sz) := by
  refine Met.ofW (cc := b_Mf_four) (maxL := 2) (ret := (some .int)) (by decide) rfl ?_
  intro p e s m args below meth c s₁ B hml hv
  obtain ⟨rfl, hsz, hP, hK, hD0⟩ := hv
  have hx := B.exec
  have hb := B.bytes
  have hr := B.returns
  have hts := atoms_spec (ws := Cond.code y_Mf_four b_Mf_four 2 (some .int) :: G) B.pre
  have htsG : ∀ w ∈ G, w.before _ s = true := fun w hw => hts w (List.mem_cons_of_mem _ hw)
  have hown : s.vm.findClass "GlyphPageModel$Font" = some m.cls := findClass_of_methodNamed B.named
  have hlocks := B.notSynchronized
  subst hsz
  have hD := hD0.self (sz := s.heap.size)
  generalize hAe : va_A [(o, .inr (8, [.ref o_file, .int o_size, .ref o_at, .ref o_length, .int o_units, .int o_form, .int o_glyphs, .int o_ascent, .int o_descent, .int o_gap, .int o_metrics, .int o_map, .int o_mapLength, .int o_segments, .ref o_done, .ref o_depth, .ref o_parts, .ref o_contours, .ref o_points, .ref o_x, .ref o_y, .ref o_on, .ref o_contour])), (o_file, .inl (cy 1, 4096, .inl o_file_f))] s.heap.size = A at hD ⊢
  have hA : ∀ q : Nat, s.heap.size ≤ q → A q := fun q h => by rw [← hAe]; exact Or.inr h
  have hS : va_S A s.heap s.heap [] := va_S.rf
  have hl := lv_entry ([.ref o, .int a1]) (n := 2) (Nat.le_of_ble_eq_true rfl)
  rw [lg_entry_eq]
  generalize (lg_sl ([.ref o, .int a1]) ++ List.replicate (2 - (lg_sl ([.ref o, .int a1])).length) Slot.unset).toArray = ls at hl ⊢
  have hl : lv_has ls 2 [(0, .ref o), (1, .int a1)] := hl
  have C0 : Cx p s m _ meth c A dC dI cy b_Mf_four 2 (some .int) "GlyphPageModel$Font" := ⟨hx, hb, hr, hlocks, hml, hown, htsG, hA, hK⟩
  unfold P_Mf_four at h
  refine lv_aload_n hx hb d_Mf_four_0 rfl (lv_at hl 0 rfl) ?_
  refine lv_iload_n hx hb d_Mf_four_1 rfl (lv_at hl 1 rfl) ?_
  obtain ⟨r_1, hq, h⟩ := Option.bind_eq_some_iff.mp h
  try dsimp only at h
  have hPc := hP.sub (ws' := [(o, .inr (8, [.ref o_file, .int o_size, .ref o_at, .ref o_length, .int o_units, .int o_form, .int o_glyphs, .int o_ascent, .int o_descent, .int o_gap, .int o_metrics, .int o_map, .int o_mapLength, .int o_segments, .ref o_done, .ref o_depth, .ref o_parts, .ref o_contours, .ref o_points, .ref o_x, .ref o_y, .ref o_on, .ref o_contour])), (o_file, .inl (cy 1, 4096, .inl o_file_f))]) [0, 1] rfl
  have hDc := hD.sub (ws' := [(o, .inr (8, [.ref o_file, .int o_size, .ref o_at, .ref o_length, .int o_units, .int o_form, .int o_glyphs, .int o_ascent, .int o_descent, .int o_gap, .int o_metrics, .int o_map, .int o_mapLength, .int o_segments, .ref o_done, .ref o_depth, .ref o_parts, .ref o_contours, .ref o_points, .ref o_x, .ref o_y, .ref o_on, .ref o_contour])), (o_file, .inl (cy 1, 4096, .inl o_file_f))]) [0, 1] (by decide) rfl
  have hFc := va_free (wc := [(o, .inr (8, [.ref o_file, .int o_size, .ref o_at, .ref o_length, .int o_units, .int o_form, .int o_glyphs, .int o_ascent, .int o_descent, .int o_gap, .int o_metrics, .int o_map, .int o_mapLength, .int o_segments, .ref o_done, .ref o_depth, .ref o_parts, .ref o_contours, .ref o_points, .ref o_x, .ref o_y, .ref o_on, .ref o_contour])), (o_file, .inl (cy 1, 4096, .inl o_file_f))]) hD hS hA [0, 1] rfl
  refine va_calli (va_runV (As := [.int a1]) (rest := []) ⟨hx, hb, hml, hown, htsG⟩ (c_Mf_two l dC dI cy s.heap.size o o_file o_at o_length o_done o_depth o_parts o_contours o_points o_x o_y o_on o_contour o_size o_units o_form o_glyphs o_ascent o_descent o_gap o_metrics o_map o_mapLength o_segments o_file_f a1 r_1 hq) (cwV 1 htsG (gV mW946 mW947 mW948 mW10 mW949) rfl rfl rfl (by decide +kernel) ⟨Nat.le_of_ble_eq_true rfl, Nat.le_of_ble_eq_true rfl⟩) ⟨fun a U g mk q => by obtain ⟨q0, q1, qP, qK, qD⟩ := q; exact ⟨q0, q1, qP, va_K.moved (u := U) (U := U.calling g mk a) (Vm.Alike.refl U.vm) qK, qD⟩, va_recv hK hPc (ci := 8) (q0 := 0) rfl rfl, fun U hU hW => ⟨rfl, by rw [hU], by rw [hU]; exact hPc, va_K.moved hW.alike hK, hDc.weaken (fun _ _ _ _ => trivial)⟩⟩ rfl rfl hl.1 rfl (lv_room (Nat.le_of_ble_eq_true rfl)) d_Mf_four_2 ⟨Nat.le_of_ble_eq_true rfl, Nat.le_of_ble_eq_true rfl⟩) hS (fun q _ h => hFc q h) hFc (fun rr u t H1 locs ht hvm hw hB hz1 hk1 hS => ?_)
  obtain ⟨hP1, hK1, hD1⟩ := hB
  rw [ht] at hP1
  replace hw : r_1 = rr := hw.symm
  subst hw
  obtain ⟨hP, hD⟩ := va_join (wr := []) (w1 := [(o, .inr (8, [.ref o_file, .int o_size, .ref o_at, .ref o_length, .int o_units, .int o_form, .int o_glyphs, .int o_ascent, .int o_descent, .int o_gap, .int o_metrics, .int o_map, .int o_mapLength, .int o_segments, .ref o_done, .ref o_depth, .ref o_parts, .ref o_contours, .ref o_points, .ref o_x, .ref o_y, .ref o_on, .ref o_contour])), (o_file, .inl (cy 1, 4096, .inl o_file_f))]) hP hD [0, 1] [] rfl rfl (by decide) (by decide) hk1 hFc hP1 hD1
  generalize H1 = H at hP hS ⊢
  have hP := hP.sub (ws' := [(o, .inr (8, [.ref o_file, .int o_size, .ref o_at, .ref o_length, .int o_units, .int o_form, .int o_glyphs, .int o_ascent, .int o_descent, .int o_gap, .int o_metrics, .int o_map, .int o_mapLength, .int o_segments, .ref o_done, .ref o_depth, .ref o_parts, .ref o_contours, .ref o_points, .ref o_x, .ref o_y, .ref o_on, .ref o_contour])), (o_file, .inl (cy 1, 4096, .inl o_file_f))]) [0, 1] rfl
  have hD := hD.sub (ws' := [(o, .inr (8, [.ref o_file, .int o_size, .ref o_at, .ref o_length, .int o_units, .int o_form, .int o_glyphs, .int o_ascent, .int o_descent, .int o_gap, .int o_metrics, .int o_map, .int o_mapLength, .int o_segments, .ref o_done, .ref o_depth, .ref o_parts, .ref o_contours, .ref o_points, .ref o_x, .ref o_y, .ref o_on, .ref o_contour])), (o_file, .inl (cy 1, 4096, .inl o_file_f))]) [0, 1] (by decide) rfl
  refine W.widen (k := 0) (n := 0) (by decide) (by decide) ?_
  refine lv_bipush (v := (16 : Int32)) hx hb d_Mf_four_5 (by decide) ?_
  refine lv_ishl hx hb d_Mf_four_7 ?_
  refine lv_aload_n hx hb d_Mf_four_8 rfl (lv_at hl 0 rfl) ?_
  refine lv_iload_n hx hb d_Mf_four_9 rfl (lv_at hl 1 rfl) ?_
  refine lv_iconst (v := (2 : Int32)) hx hb d_Mf_four_10 (by decide) ?_
  refine lv_iadd hx hb d_Mf_four_11 ?_
  obtain ⟨r_2, hq, h⟩ := Option.bind_eq_some_iff.mp h
  try dsimp only at h
  have hPc := hP.sub (ws' := [(o, .inr (8, [.ref o_file, .int o_size, .ref o_at, .ref o_length, .int o_units, .int o_form, .int o_glyphs, .int o_ascent, .int o_descent, .int o_gap, .int o_metrics, .int o_map, .int o_mapLength, .int o_segments, .ref o_done, .ref o_depth, .ref o_parts, .ref o_contours, .ref o_points, .ref o_x, .ref o_y, .ref o_on, .ref o_contour])), (o_file, .inl (cy 1, 4096, .inl o_file_f))]) [0, 1] rfl
  have hDc := hD.sub (ws' := [(o, .inr (8, [.ref o_file, .int o_size, .ref o_at, .ref o_length, .int o_units, .int o_form, .int o_glyphs, .int o_ascent, .int o_descent, .int o_gap, .int o_metrics, .int o_map, .int o_mapLength, .int o_segments, .ref o_done, .ref o_depth, .ref o_parts, .ref o_contours, .ref o_points, .ref o_x, .ref o_y, .ref o_on, .ref o_contour])), (o_file, .inl (cy 1, 4096, .inl o_file_f))]) [0, 1] (by decide) rfl
  have hFc := va_free (wc := [(o, .inr (8, [.ref o_file, .int o_size, .ref o_at, .ref o_length, .int o_units, .int o_form, .int o_glyphs, .int o_ascent, .int o_descent, .int o_gap, .int o_metrics, .int o_map, .int o_mapLength, .int o_segments, .ref o_done, .ref o_depth, .ref o_parts, .ref o_contours, .ref o_points, .ref o_x, .ref o_y, .ref o_on, .ref o_contour])), (o_file, .inl (cy 1, 4096, .inl o_file_f))]) hD hS hA [0, 1] rfl
  refine va_calli (va_runV (As := [.int (a1 + (2 : Int32))]) (rest := [.int (r_1 <<< ((16 : Int32) &&& 31))]) ⟨hx, hb, hml, hown, htsG⟩ (c_Mf_two l dC dI cy H.size o o_file o_at o_length o_done o_depth o_parts o_contours o_points o_x o_y o_on o_contour o_size o_units o_form o_glyphs o_ascent o_descent o_gap o_metrics o_map o_mapLength o_segments o_file_f (a1 + (2 : Int32)) r_2 hq) (cwV 1 htsG (gV mW946 mW947 mW948 mW10 mW949) rfl rfl rfl (by decide +kernel) ⟨Nat.le_of_ble_eq_true rfl, Nat.le_of_ble_eq_true rfl⟩) ⟨fun a U g mk q => by obtain ⟨q0, q1, qP, qK, qD⟩ := q; exact ⟨q0, q1, qP, va_K.moved (u := U) (U := U.calling g mk a) (Vm.Alike.refl U.vm) qK, qD⟩, va_recv hK hPc (ci := 8) (q0 := 0) rfl rfl, fun U hU hW => ⟨rfl, by rw [hU], by rw [hU]; exact hPc, va_K.moved hW.alike hK, hDc.weaken (fun _ _ _ _ => trivial)⟩⟩ rfl rfl hl.1 rfl (lv_room (Nat.le_of_ble_eq_true rfl)) d_Mf_four_12 ⟨Nat.le_of_ble_eq_true rfl, Nat.le_of_ble_eq_true rfl⟩) hS (fun q _ h => hFc q h) hFc (fun rr u t H1 locs ht hvm hw hB hz1 hk1 hS => ?_)
  obtain ⟨hP1, hK1, hD1⟩ := hB
  rw [ht] at hP1
  replace hw : r_2 = rr := hw.symm
  subst hw
  obtain ⟨hP, hD⟩ := va_join (wr := []) (w1 := [(o, .inr (8, [.ref o_file, .int o_size, .ref o_at, .ref o_length, .int o_units, .int o_form, .int o_glyphs, .int o_ascent, .int o_descent, .int o_gap, .int o_metrics, .int o_map, .int o_mapLength, .int o_segments, .ref o_done, .ref o_depth, .ref o_parts, .ref o_contours, .ref o_points, .ref o_x, .ref o_y, .ref o_on, .ref o_contour])), (o_file, .inl (cy 1, 4096, .inl o_file_f))]) hP hD [0, 1] [] rfl rfl (by decide) (by decide) hk1 hFc hP1 hD1
  generalize H1 = H at hP hS ⊢
  have hP := hP.sub (ws' := [(o, .inr (8, [.ref o_file, .int o_size, .ref o_at, .ref o_length, .int o_units, .int o_form, .int o_glyphs, .int o_ascent, .int o_descent, .int o_gap, .int o_metrics, .int o_map, .int o_mapLength, .int o_segments, .ref o_done, .ref o_depth, .ref o_parts, .ref o_contours, .ref o_points, .ref o_x, .ref o_y, .ref o_on, .ref o_contour])), (o_file, .inl (cy 1, 4096, .inl o_file_f))]) [0, 1] rfl
  have hD := hD.sub (ws' := [(o, .inr (8, [.ref o_file, .int o_size, .ref o_at, .ref o_length, .int o_units, .int o_form, .int o_glyphs, .int o_ascent, .int o_descent, .int o_gap, .int o_metrics, .int o_map, .int o_mapLength, .int o_segments, .ref o_done, .ref o_depth, .ref o_parts, .ref o_contours, .ref o_points, .ref o_x, .ref o_y, .ref o_on, .ref o_contour])), (o_file, .inl (cy 1, 4096, .inl o_file_f))]) [0, 1] (by decide) rfl
  refine W.widen (k := 0) (n := 0) (by decide) (by decide) ?_
  refine lv_ior hx hb d_Mf_four_15 ?_
  cases h
  exact W.iret hx hb hr (fun t ht hW => ⟨⟨_, (), rfl, rfl, by rw [ht]; exact hP, va_K.moved hW.alike hK, hD⟩, hS.F ht⟩) hS.2.2 d_Mf_four_16 hlocks
def P_Mf_big (o_file_f : Nat → Int32) (a1 : Int32) : Option (Int64) :=
  (P_Mf_two o_file_f a1).bind fun r_1 => (P_Mf_two o_file_f (a1 + (2 : Int32))).bind fun r_2 => some (((r_1.toInt64) <<< ((16 : Int32).toInt64 &&& 63)) ||| (r_2.toInt64))
set_option maxHeartbeats 4000000 in
set_option maxRecDepth 100000 in
theorem c_Mf_big (l : Launch) (dC : Nat → ClassId) (dI : Nat → Nat → Nat) (cy : Nat → ClassId) (sz : Nat) (o : Nat) (o_file : Nat) (o_at : Nat) (o_length : Nat) (o_done : Nat) (o_depth : Nat) (o_parts : Nat) (o_contours : Nat) (o_points : Nat) (o_x : Nat) (o_y : Nat) (o_on : Nat) (o_contour : Nat) (o_size : Int32) (o_units : Int32) (o_form : Int32) (o_glyphs : Int32) (o_ascent : Int32) (o_descent : Int32) (o_gap : Int32) (o_metrics : Int32) (o_map : Int32) (o_mapLength : Int32) (o_segments : Int32) (o_file_f : Nat → Int32) (a1 : Int32) (uu : Int64) (h : P_Mf_big o_file_f a1 = some uu) : Met l y_Mf_big (Cond.code y_Mf_big b_Mf_big 2 (some .long) :: G) ({ frames := 1, cells := 0, slots := 0, locals := 21 } : Room) (va_Pc [.ref o, .int a1] (fun U => U.heap.size = sz ∧ va_P (dC, dI) classes [(o, .inr (8, [.ref o_file, .int o_size, .ref o_at, .ref o_length, .int o_units, .int o_form, .int o_glyphs, .int o_ascent, .int o_descent, .int o_gap, .int o_metrics, .int o_map, .int o_mapLength, .int o_segments, .ref o_done, .ref o_depth, .ref o_parts, .ref o_contours, .ref o_points, .ref o_x, .ref o_y, .ref o_on, .ref o_contour])), (o_file, .inl (cy 1, 4096, .inl o_file_f))] U.heap ∧ va_K (dC, dI) classes (TY cy) U ∧ va_D (fun _ => True) [(o, .inr (8, [.ref o_file, .int o_size, .ref o_at, .ref o_length, .int o_units, .int o_form, .int o_glyphs, .int o_ascent, .int o_descent, .int o_gap, .int o_metrics, .int o_map, .int o_mapLength, .int o_segments, .ref o_done, .ref o_depth, .ref o_parts, .ref o_contours, .ref o_points, .ref o_x, .ref o_y, .ref o_on, .ref o_contour])), (o_file, .inl (cy 1, 4096, .inl o_file_f))])) (va_Ql (fun r (_ : Unit) => r = uu) (fun _ t => va_P (dC, dI) classes [(o, .inr (8, [.ref o_file, .int o_size, .ref o_at, .ref o_length, .int o_units, .int o_form, .int o_glyphs, .int o_ascent, .int o_descent, .int o_gap, .int o_metrics, .int o_map, .int o_mapLength, .int o_segments, .ref o_done, .ref o_depth, .ref o_parts, .ref o_contours, .ref o_points, .ref o_x, .ref o_y, .ref o_on, .ref o_contour])), (o_file, .inl (cy 1, 4096, .inl o_file_f))] t.heap ∧ va_K (dC, dI) classes (TY cy) t ∧ va_D (va_A [(o, .inr (8, [.ref o_file, .int o_size, .ref o_at, .ref o_length, .int o_units, .int o_form, .int o_glyphs, .int o_ascent, .int o_descent, .int o_gap, .int o_metrics, .int o_map, .int o_mapLength, .int o_segments, .ref o_done, .ref o_depth, .ref o_parts, .ref o_contours, .ref o_points, .ref o_x, .ref o_y, .ref o_on, .ref o_contour])), (o_file, .inl (cy 1, 4096, .inl o_file_f))] sz) [(o, .inr (8, [.ref o_file, .int o_size, .ref o_at, .ref o_length, .int o_units, .int o_form, .int o_glyphs, .int o_ascent, .int o_descent, .int o_gap, .int o_metrics, .int o_map, .int o_mapLength, .int o_segments, .ref o_done, .ref o_depth, .ref o_parts, .ref o_contours, .ref o_points, .ref o_x, .ref o_y, .ref o_on, .ref o_contour])), (o_file, .inl (cy 1, 4096, .inl o_file_f))]) (va_A [(o, .inr (8, [.ref o_file, .int o_size, .ref o_at, .ref o_length, .int o_units, .int o_form, .int o_glyphs, .int o_ascent, .int o_descent, .int o_gap, .int o_metrics, .int o_map, .int o_mapLength, .int o_segments, .ref o_done, .ref o_depth, .ref o_parts, .ref o_contours, .ref o_points, .ref o_x, .ref o_y, .ref o_on, .ref o_contour])), (o_file, .inl (cy 1, 4096, .inl o_file_f))] sz)) 0 0 (va_A [(o, .inr (8, [.ref o_file, .int o_size, .ref o_at, .ref o_length, .int o_units, .int o_form, .int o_glyphs, .int o_ascent, .int o_descent, .int o_gap, .int o_metrics, .int o_map, .int o_mapLength, .int o_segments, .ref o_done, .ref o_depth, .ref o_parts, .ref o_contours, .ref o_points, .ref o_x, .ref o_y, .ref o_on, .ref o_contour])), (o_file, .inl (cy 1, 4096, .inl o_file_f))] sz) := by
  refine Met.ofW (cc := b_Mf_big) (maxL := 2) (ret := (some .long)) (by decide) rfl ?_
  intro p e s m args below meth c s₁ B hml hv
  obtain ⟨rfl, hsz, hP, hK, hD0⟩ := hv
  have hx := B.exec
  have hb := B.bytes
  have hr := B.returns
  have hts := atoms_spec (ws := Cond.code y_Mf_big b_Mf_big 2 (some .long) :: G) B.pre
  have htsG : ∀ w ∈ G, w.before _ s = true := fun w hw => hts w (List.mem_cons_of_mem _ hw)
  have hown : s.vm.findClass "GlyphPageModel$Font" = some m.cls := findClass_of_methodNamed B.named
  have hlocks := B.notSynchronized
  subst hsz
  have hD := hD0.self (sz := s.heap.size)
  generalize hAe : va_A [(o, .inr (8, [.ref o_file, .int o_size, .ref o_at, .ref o_length, .int o_units, .int o_form, .int o_glyphs, .int o_ascent, .int o_descent, .int o_gap, .int o_metrics, .int o_map, .int o_mapLength, .int o_segments, .ref o_done, .ref o_depth, .ref o_parts, .ref o_contours, .ref o_points, .ref o_x, .ref o_y, .ref o_on, .ref o_contour])), (o_file, .inl (cy 1, 4096, .inl o_file_f))] s.heap.size = A at hD ⊢
  have hA : ∀ q : Nat, s.heap.size ≤ q → A q := fun q h => by rw [← hAe]; exact Or.inr h
  have hS : va_S A s.heap s.heap [] := va_S.rf
  have hl := lv_entry ([.ref o, .int a1]) (n := 2) (Nat.le_of_ble_eq_true rfl)
  rw [lg_entry_eq]
  generalize (lg_sl ([.ref o, .int a1]) ++ List.replicate (2 - (lg_sl ([.ref o, .int a1])).length) Slot.unset).toArray = ls at hl ⊢
  have hl : lv_has ls 2 [(0, .ref o), (1, .int a1)] := hl
  have C0 : Cx p s m _ meth c A dC dI cy b_Mf_big 2 (some .long) "GlyphPageModel$Font" := ⟨hx, hb, hr, hlocks, hml, hown, htsG, hA, hK⟩
  unfold P_Mf_big at h
  refine lv_aload_n hx hb d_Mf_big_0 rfl (lv_at hl 0 rfl) ?_
  refine lv_iload_n hx hb d_Mf_big_1 rfl (lv_at hl 1 rfl) ?_
  obtain ⟨r_1, hq, h⟩ := Option.bind_eq_some_iff.mp h
  try dsimp only at h
  have hPc := hP.sub (ws' := [(o, .inr (8, [.ref o_file, .int o_size, .ref o_at, .ref o_length, .int o_units, .int o_form, .int o_glyphs, .int o_ascent, .int o_descent, .int o_gap, .int o_metrics, .int o_map, .int o_mapLength, .int o_segments, .ref o_done, .ref o_depth, .ref o_parts, .ref o_contours, .ref o_points, .ref o_x, .ref o_y, .ref o_on, .ref o_contour])), (o_file, .inl (cy 1, 4096, .inl o_file_f))]) [0, 1] rfl
  have hDc := hD.sub (ws' := [(o, .inr (8, [.ref o_file, .int o_size, .ref o_at, .ref o_length, .int o_units, .int o_form, .int o_glyphs, .int o_ascent, .int o_descent, .int o_gap, .int o_metrics, .int o_map, .int o_mapLength, .int o_segments, .ref o_done, .ref o_depth, .ref o_parts, .ref o_contours, .ref o_points, .ref o_x, .ref o_y, .ref o_on, .ref o_contour])), (o_file, .inl (cy 1, 4096, .inl o_file_f))]) [0, 1] (by decide) rfl
  have hFc := va_free (wc := [(o, .inr (8, [.ref o_file, .int o_size, .ref o_at, .ref o_length, .int o_units, .int o_form, .int o_glyphs, .int o_ascent, .int o_descent, .int o_gap, .int o_metrics, .int o_map, .int o_mapLength, .int o_segments, .ref o_done, .ref o_depth, .ref o_parts, .ref o_contours, .ref o_points, .ref o_x, .ref o_y, .ref o_on, .ref o_contour])), (o_file, .inl (cy 1, 4096, .inl o_file_f))]) hD hS hA [0, 1] rfl
  refine va_calli (va_runV (As := [.int a1]) (rest := []) ⟨hx, hb, hml, hown, htsG⟩ (c_Mf_two l dC dI cy s.heap.size o o_file o_at o_length o_done o_depth o_parts o_contours o_points o_x o_y o_on o_contour o_size o_units o_form o_glyphs o_ascent o_descent o_gap o_metrics o_map o_mapLength o_segments o_file_f a1 r_1 hq) (cwV 1 htsG (gV mW946 mW947 mW948 mW10 mW949) rfl rfl rfl (by decide +kernel) ⟨Nat.le_of_ble_eq_true rfl, Nat.le_of_ble_eq_true rfl⟩) ⟨fun a U g mk q => by obtain ⟨q0, q1, qP, qK, qD⟩ := q; exact ⟨q0, q1, qP, va_K.moved (u := U) (U := U.calling g mk a) (Vm.Alike.refl U.vm) qK, qD⟩, va_recv hK hPc (ci := 8) (q0 := 0) rfl rfl, fun U hU hW => ⟨rfl, by rw [hU], by rw [hU]; exact hPc, va_K.moved hW.alike hK, hDc.weaken (fun _ _ _ _ => trivial)⟩⟩ rfl rfl hl.1 rfl (lv_room (Nat.le_of_ble_eq_true rfl)) d_Mf_big_2 ⟨Nat.le_of_ble_eq_true rfl, Nat.le_of_ble_eq_true rfl⟩) hS (fun q _ h => hFc q h) hFc (fun rr u t H1 locs ht hvm hw hB hz1 hk1 hS => ?_)
  obtain ⟨hP1, hK1, hD1⟩ := hB
  rw [ht] at hP1
  replace hw : r_1 = rr := hw.symm
  subst hw
  obtain ⟨hP, hD⟩ := va_join (wr := []) (w1 := [(o, .inr (8, [.ref o_file, .int o_size, .ref o_at, .ref o_length, .int o_units, .int o_form, .int o_glyphs, .int o_ascent, .int o_descent, .int o_gap, .int o_metrics, .int o_map, .int o_mapLength, .int o_segments, .ref o_done, .ref o_depth, .ref o_parts, .ref o_contours, .ref o_points, .ref o_x, .ref o_y, .ref o_on, .ref o_contour])), (o_file, .inl (cy 1, 4096, .inl o_file_f))]) hP hD [0, 1] [] rfl rfl (by decide) (by decide) hk1 hFc hP1 hD1
  generalize H1 = H at hP hS ⊢
  have hP := hP.sub (ws' := [(o, .inr (8, [.ref o_file, .int o_size, .ref o_at, .ref o_length, .int o_units, .int o_form, .int o_glyphs, .int o_ascent, .int o_descent, .int o_gap, .int o_metrics, .int o_map, .int o_mapLength, .int o_segments, .ref o_done, .ref o_depth, .ref o_parts, .ref o_contours, .ref o_points, .ref o_x, .ref o_y, .ref o_on, .ref o_contour])), (o_file, .inl (cy 1, 4096, .inl o_file_f))]) [0, 1] rfl
  have hD := hD.sub (ws' := [(o, .inr (8, [.ref o_file, .int o_size, .ref o_at, .ref o_length, .int o_units, .int o_form, .int o_glyphs, .int o_ascent, .int o_descent, .int o_gap, .int o_metrics, .int o_map, .int o_mapLength, .int o_segments, .ref o_done, .ref o_depth, .ref o_parts, .ref o_contours, .ref o_points, .ref o_x, .ref o_y, .ref o_on, .ref o_contour])), (o_file, .inl (cy 1, 4096, .inl o_file_f))]) [0, 1] (by decide) rfl
  refine W.widen (k := 0) (n := 0) (by decide) (by decide) ?_
  refine lv_i2l hx hb d_Mf_big_5 rfl ?_
  refine lv_bipush (v := (16 : Int32)) hx hb d_Mf_big_6 (by decide) ?_
  refine lv_lshl hx hb d_Mf_big_8 rfl ?_
  refine lv_aload_n hx hb d_Mf_big_9 rfl (lv_at hl 0 rfl) ?_
  refine lv_iload_n hx hb d_Mf_big_10 rfl (lv_at hl 1 rfl) ?_
  refine lv_iconst (v := (2 : Int32)) hx hb d_Mf_big_11 (by decide) ?_
  refine lv_iadd hx hb d_Mf_big_12 ?_
  obtain ⟨r_2, hq, h⟩ := Option.bind_eq_some_iff.mp h
  try dsimp only at h
  have hPc := hP.sub (ws' := [(o, .inr (8, [.ref o_file, .int o_size, .ref o_at, .ref o_length, .int o_units, .int o_form, .int o_glyphs, .int o_ascent, .int o_descent, .int o_gap, .int o_metrics, .int o_map, .int o_mapLength, .int o_segments, .ref o_done, .ref o_depth, .ref o_parts, .ref o_contours, .ref o_points, .ref o_x, .ref o_y, .ref o_on, .ref o_contour])), (o_file, .inl (cy 1, 4096, .inl o_file_f))]) [0, 1] rfl
  have hDc := hD.sub (ws' := [(o, .inr (8, [.ref o_file, .int o_size, .ref o_at, .ref o_length, .int o_units, .int o_form, .int o_glyphs, .int o_ascent, .int o_descent, .int o_gap, .int o_metrics, .int o_map, .int o_mapLength, .int o_segments, .ref o_done, .ref o_depth, .ref o_parts, .ref o_contours, .ref o_points, .ref o_x, .ref o_y, .ref o_on, .ref o_contour])), (o_file, .inl (cy 1, 4096, .inl o_file_f))]) [0, 1] (by decide) rfl
  have hFc := va_free (wc := [(o, .inr (8, [.ref o_file, .int o_size, .ref o_at, .ref o_length, .int o_units, .int o_form, .int o_glyphs, .int o_ascent, .int o_descent, .int o_gap, .int o_metrics, .int o_map, .int o_mapLength, .int o_segments, .ref o_done, .ref o_depth, .ref o_parts, .ref o_contours, .ref o_points, .ref o_x, .ref o_y, .ref o_on, .ref o_contour])), (o_file, .inl (cy 1, 4096, .inl o_file_f))]) hD hS hA [0, 1] rfl
  refine va_calli (va_runV (As := [.int (a1 + (2 : Int32))]) (rest := [.long ((r_1.toInt64) <<< ((16 : Int32).toInt64 &&& 63))]) ⟨hx, hb, hml, hown, htsG⟩ (c_Mf_two l dC dI cy H.size o o_file o_at o_length o_done o_depth o_parts o_contours o_points o_x o_y o_on o_contour o_size o_units o_form o_glyphs o_ascent o_descent o_gap o_metrics o_map o_mapLength o_segments o_file_f (a1 + (2 : Int32)) r_2 hq) (cwV 1 htsG (gV mW946 mW947 mW948 mW10 mW949) rfl rfl rfl (by decide +kernel) ⟨Nat.le_of_ble_eq_true rfl, Nat.le_of_ble_eq_true rfl⟩) ⟨fun a U g mk q => by obtain ⟨q0, q1, qP, qK, qD⟩ := q; exact ⟨q0, q1, qP, va_K.moved (u := U) (U := U.calling g mk a) (Vm.Alike.refl U.vm) qK, qD⟩, va_recv hK hPc (ci := 8) (q0 := 0) rfl rfl, fun U hU hW => ⟨rfl, by rw [hU], by rw [hU]; exact hPc, va_K.moved hW.alike hK, hDc.weaken (fun _ _ _ _ => trivial)⟩⟩ rfl rfl hl.1 rfl (lv_room (Nat.le_of_ble_eq_true rfl)) d_Mf_big_13 ⟨Nat.le_of_ble_eq_true rfl, Nat.le_of_ble_eq_true rfl⟩) hS (fun q _ h => hFc q h) hFc (fun rr u t H1 locs ht hvm hw hB hz1 hk1 hS => ?_)
  obtain ⟨hP1, hK1, hD1⟩ := hB
  rw [ht] at hP1
  replace hw : r_2 = rr := hw.symm
  subst hw
  obtain ⟨hP, hD⟩ := va_join (wr := []) (w1 := [(o, .inr (8, [.ref o_file, .int o_size, .ref o_at, .ref o_length, .int o_units, .int o_form, .int o_glyphs, .int o_ascent, .int o_descent, .int o_gap, .int o_metrics, .int o_map, .int o_mapLength, .int o_segments, .ref o_done, .ref o_depth, .ref o_parts, .ref o_contours, .ref o_points, .ref o_x, .ref o_y, .ref o_on, .ref o_contour])), (o_file, .inl (cy 1, 4096, .inl o_file_f))]) hP hD [0, 1] [] rfl rfl (by decide) (by decide) hk1 hFc hP1 hD1
  generalize H1 = H at hP hS ⊢
  have hP := hP.sub (ws' := [(o, .inr (8, [.ref o_file, .int o_size, .ref o_at, .ref o_length, .int o_units, .int o_form, .int o_glyphs, .int o_ascent, .int o_descent, .int o_gap, .int o_metrics, .int o_map, .int o_mapLength, .int o_segments, .ref o_done, .ref o_depth, .ref o_parts, .ref o_contours, .ref o_points, .ref o_x, .ref o_y, .ref o_on, .ref o_contour])), (o_file, .inl (cy 1, 4096, .inl o_file_f))]) [0, 1] rfl
  have hD := hD.sub (ws' := [(o, .inr (8, [.ref o_file, .int o_size, .ref o_at, .ref o_length, .int o_units, .int o_form, .int o_glyphs, .int o_ascent, .int o_descent, .int o_gap, .int o_metrics, .int o_map, .int o_mapLength, .int o_segments, .ref o_done, .ref o_depth, .ref o_parts, .ref o_contours, .ref o_points, .ref o_x, .ref o_y, .ref o_on, .ref o_contour])), (o_file, .inl (cy 1, 4096, .inl o_file_f))]) [0, 1] (by decide) rfl
  refine W.widen (k := 0) (n := 0) (by decide) (by decide) ?_
  refine lv_i2l hx hb d_Mf_big_16 rfl ?_
  refine lv_lor hx hb d_Mf_big_17 ?_
  cases h
  exact W.lret hx hb hr (fun t ht hW => ⟨⟨_, (), rfl, rfl, by rw [ht]; exact hP, va_K.moved hW.alike hK, hD⟩, hS.F ht⟩) hS.2.2 d_Mf_big_18 hlocks
def P_Mo_small  (a1 : Int64) : Option (Int32) :=
  if (lg_cmp a1 (-32768 : Int64)) < 0 then (some (0 : Int32)) else (if 0 < (lg_cmp a1 (32767 : Int64)) then (some (0 : Int32)) else (some (1 : Int32)))
set_option maxHeartbeats 4000000 in
set_option maxRecDepth 100000 in
theorem c_Mo_small (l : Launch) (dC : Nat → ClassId) (dI : Nat → Nat → Nat) (cy : Nat → ClassId) (sz : Nat)   (a1 : Int64) (uu : Int32) (h : P_Mo_small a1 = some uu) : Met l y_Mo_small (Cond.code y_Mo_small b_Mo_small 2 (some .boolean) :: G) ({ frames := 0, cells := 0, slots := 0, locals := 0 } : Room) (va_Pc [.long a1] (fun U => U.heap.size = sz ∧ va_P (dC, dI) classes [] U.heap ∧ va_K (dC, dI) classes (TY cy) U ∧ va_D (fun _ => True) [])) (va_Qi (fun r (_ : Unit) => r = uu) (fun _ t => va_P (dC, dI) classes [] t.heap ∧ va_K (dC, dI) classes (TY cy) t ∧ va_D (va_A [] sz) []) (va_A [] sz)) 0 0 (va_A [] sz) := by
  refine Met.ofW (cc := b_Mo_small) (maxL := 2) (ret := (some .boolean)) (by decide) rfl ?_
  intro p e s m args below meth c s₁ B hml hv
  obtain ⟨rfl, hsz, hP, hK, hD0⟩ := hv
  have hx := B.exec
  have hb := B.bytes
  have hr := B.returns
  have hts := atoms_spec (ws := Cond.code y_Mo_small b_Mo_small 2 (some .boolean) :: G) B.pre
  have htsG : ∀ w ∈ G, w.before _ s = true := fun w hw => hts w (List.mem_cons_of_mem _ hw)
  have hown : s.vm.findClass "GlyphPageModel" = some m.cls := findClass_of_methodNamed B.named
  have hlocks := B.notSynchronized
  subst hsz
  have hD := hD0.self (sz := s.heap.size)
  generalize hAe : va_A [] s.heap.size = A at hD ⊢
  have hA : ∀ q : Nat, s.heap.size ≤ q → A q := fun q h => by rw [← hAe]; exact Or.inr h
  have hS : va_S A s.heap s.heap [] := va_S.rf
  have hl := lv_entry ([.long a1]) (n := 2) (Nat.le_of_ble_eq_true rfl)
  rw [lg_entry_eq]
  generalize (lg_sl ([.long a1]) ++ List.replicate (2 - (lg_sl ([.long a1])).length) Slot.unset).toArray = ls at hl ⊢
  have hl : lv_has ls 2 [(0, .long a1)] := hl
  have C0 : Cx p s m _ meth c A dC dI cy b_Mo_small 2 (some .boolean) "GlyphPageModel" := ⟨hx, hb, hr, hlocks, hml, hown, htsG, hA, hK⟩
  unfold P_Mo_small at h
  refine lv_lload_n hx hb d_Mo_small_0 rfl (lv_at hl 0 rfl) ?_
  refine lv_ldc2 hx hb hown (htsG _ mW1029) d_Mo_small_1 ?_
  refine W.lcmp hx hb d_Mo_small_4 ?_
  refine lv_if_lt (tgt := 20) hx hb d_Mo_small_5 (by decide) (fun c_1 => ?_) (fun c_1 => ?_)
  · replace h := (if_pos c_1).symm.trans h
    refine lv_iconst (v := (0 : Int32)) hx hb d_Mo_small_20 (by decide) ?_
    cases h
    exact W.zret (ty := .boolean) hx hb hr rfl (fun t ht hW => ⟨⟨_, (), rfl, rfl, by rw [ht]; exact hP, va_K.moved hW.alike hK, hD⟩, hS.F ht⟩) hS.2.2 d_Mo_small_21 hlocks
  · replace h := (if_neg c_1).symm.trans h
    refine lv_lload_n hx hb d_Mo_small_8 rfl (lv_at hl 0 rfl) ?_
    refine lv_ldc2 hx hb hown (htsG _ mW1030) d_Mo_small_9 ?_
    refine W.lcmp hx hb d_Mo_small_12 ?_
    refine lv_if_gt (tgt := 20) hx hb d_Mo_small_13 (by decide) (fun c_2 => ?_) (fun c_2 => ?_)
    · replace h := (if_pos c_2).symm.trans h
      refine lv_iconst (v := (0 : Int32)) hx hb d_Mo_small_20 (by decide) ?_
      cases h
      exact W.zret (ty := .boolean) hx hb hr rfl (fun t ht hW => ⟨⟨_, (), rfl, rfl, by rw [ht]; exact hP, va_K.moved hW.alike hK, hD⟩, hS.F ht⟩) hS.2.2 d_Mo_small_21 hlocks
    · replace h := (if_neg c_2).symm.trans h
      refine lv_iconst (v := (1 : Int32)) hx hb d_Mo_small_16 (by decide) ?_
      refine lv_goto (tgt := 21) hx hb d_Mo_small_17 (by decide) ?_
      cases h
      exact W.zret (ty := .boolean) hx hb hr rfl (fun t ht hW => ⟨⟨_, (), rfl, rfl, by rw [ht]; exact hP, va_K.moved hW.alike hK, hD⟩, hS.F ht⟩) hS.2.2 d_Mo_small_21 hlocks
def P_Mo_rounded  (a1 : Int64) : Option (Int64) :=
  some ((a1 + (8192 : Int64)) >>> ((14 : Int32).toInt64 &&& 63))
set_option maxHeartbeats 4000000 in
set_option maxRecDepth 100000 in
theorem c_Mo_rounded (l : Launch) (dC : Nat → ClassId) (dI : Nat → Nat → Nat) (cy : Nat → ClassId) (sz : Nat)   (a1 : Int64) (uu : Int64) (h : P_Mo_rounded a1 = some uu) : Met l y_Mo_rounded (Cond.code y_Mo_rounded b_Mo_rounded 2 (some .long) :: G) ({ frames := 0, cells := 0, slots := 0, locals := 0 } : Room) (va_Pc [.long a1] (fun U => U.heap.size = sz ∧ va_P (dC, dI) classes [] U.heap ∧ va_K (dC, dI) classes (TY cy) U ∧ va_D (fun _ => True) [])) (va_Ql (fun r (_ : Unit) => r = uu) (fun _ t => va_P (dC, dI) classes [] t.heap ∧ va_K (dC, dI) classes (TY cy) t ∧ va_D (va_A [] sz) []) (va_A [] sz)) 0 0 (va_A [] sz) := by
  refine Met.ofW (cc := b_Mo_rounded) (maxL := 2) (ret := (some .long)) (by decide) rfl ?_
  intro p e s m args below meth c s₁ B hml hv
  obtain ⟨rfl, hsz, hP, hK, hD0⟩ := hv
  have hx := B.exec
  have hb := B.bytes
  have hr := B.returns
  have hts := atoms_spec (ws := Cond.code y_Mo_rounded b_Mo_rounded 2 (some .long) :: G) B.pre
  have htsG : ∀ w ∈ G, w.before _ s = true := fun w hw => hts w (List.mem_cons_of_mem _ hw)
  have hown : s.vm.findClass "GlyphPageModel" = some m.cls := findClass_of_methodNamed B.named
  have hlocks := B.notSynchronized
  subst hsz
  have hD := hD0.self (sz := s.heap.size)
  generalize hAe : va_A [] s.heap.size = A at hD ⊢
  have hA : ∀ q : Nat, s.heap.size ≤ q → A q := fun q h => by rw [← hAe]; exact Or.inr h
  have hS : va_S A s.heap s.heap [] := va_S.rf
  have hl := lv_entry ([.long a1]) (n := 2) (Nat.le_of_ble_eq_true rfl)
  rw [lg_entry_eq]
  generalize (lg_sl ([.long a1]) ++ List.replicate (2 - (lg_sl ([.long a1])).length) Slot.unset).toArray = ls at hl ⊢
  have hl : lv_has ls 2 [(0, .long a1)] := hl
  have C0 : Cx p s m _ meth c A dC dI cy b_Mo_rounded 2 (some .long) "GlyphPageModel" := ⟨hx, hb, hr, hlocks, hml, hown, htsG, hA, hK⟩
  unfold P_Mo_rounded at h
  refine lv_lload_n hx hb d_Mo_rounded_0 rfl (lv_at hl 0 rfl) ?_
  refine lv_ldc2 hx hb hown (htsG _ mW1025) d_Mo_rounded_1 ?_
  refine lv_ladd hx hb d_Mo_rounded_4 ?_
  refine lv_bipush (v := (14 : Int32)) hx hb d_Mo_rounded_5 (by decide) ?_
  refine lv_lshr hx hb d_Mo_rounded_7 rfl ?_
  cases h
  exact W.lret hx hb hr (fun t ht hW => ⟨⟨_, (), rfl, rfl, by rw [ht]; exact hP, va_K.moved hW.alike hK, hD⟩, hS.F ht⟩) hS.2.2 d_Mo_rounded_8 hlocks
def P_Mo_sign  (a1 : Int64) : Option (Int32) :=
  if 0 ≤ (lg_cmp a1 (0 : Int64)) then (if (lg_cmp a1 (0 : Int64)) ≤ 0 then (some (0 : Int32)) else (some (1 : Int32))) else (some (-1 : Int32))
set_option maxHeartbeats 4000000 in
set_option maxRecDepth 100000 in
theorem c_Mo_sign (l : Launch) (dC : Nat → ClassId) (dI : Nat → Nat → Nat) (cy : Nat → ClassId) (sz : Nat)   (a1 : Int64) (uu : Int32) (h : P_Mo_sign a1 = some uu) : Met l y_Mo_sign (Cond.code y_Mo_sign b_Mo_sign 2 (some .int) :: G) ({ frames := 0, cells := 0, slots := 0, locals := 0 } : Room) (va_Pc [.long a1] (fun U => U.heap.size = sz ∧ va_P (dC, dI) classes [] U.heap ∧ va_K (dC, dI) classes (TY cy) U ∧ va_D (fun _ => True) [])) (va_Qi (fun r (_ : Unit) => r = uu) (fun _ t => va_P (dC, dI) classes [] t.heap ∧ va_K (dC, dI) classes (TY cy) t ∧ va_D (va_A [] sz) []) (va_A [] sz)) 0 0 (va_A [] sz) := by
  refine Met.ofW (cc := b_Mo_sign) (maxL := 2) (ret := (some .int)) (by decide) rfl ?_
  intro p e s m args below meth c s₁ B hml hv
  obtain ⟨rfl, hsz, hP, hK, hD0⟩ := hv
  have hx := B.exec
  have hb := B.bytes
  have hr := B.returns
  have hts := atoms_spec (ws := Cond.code y_Mo_sign b_Mo_sign 2 (some .int) :: G) B.pre
  have htsG : ∀ w ∈ G, w.before _ s = true := fun w hw => hts w (List.mem_cons_of_mem _ hw)
  have hown : s.vm.findClass "GlyphPageModel" = some m.cls := findClass_of_methodNamed B.named
  have hlocks := B.notSynchronized
  subst hsz
  have hD := hD0.self (sz := s.heap.size)
  generalize hAe : va_A [] s.heap.size = A at hD ⊢
  have hA : ∀ q : Nat, s.heap.size ≤ q → A q := fun q h => by rw [← hAe]; exact Or.inr h
  have hS : va_S A s.heap s.heap [] := va_S.rf
  have hl := lv_entry ([.long a1]) (n := 2) (Nat.le_of_ble_eq_true rfl)
  rw [lg_entry_eq]
  generalize (lg_sl ([.long a1]) ++ List.replicate (2 - (lg_sl ([.long a1])).length) Slot.unset).toArray = ls at hl ⊢
  have hl : lv_has ls 2 [(0, .long a1)] := hl
  have C0 : Cx p s m _ meth c A dC dI cy b_Mo_sign 2 (some .int) "GlyphPageModel" := ⟨hx, hb, hr, hlocks, hml, hown, htsG, hA, hK⟩
  unfold P_Mo_sign at h
  refine lv_lload_n hx hb d_Mo_sign_0 rfl (lv_at hl 0 rfl) ?_
  refine lv_lconst (v := (0 : Int64)) hx hb d_Mo_sign_1 (by decide) ?_
  refine W.lcmp hx hb d_Mo_sign_2 ?_
  refine lv_if_ge (tgt := 10) hx hb d_Mo_sign_3 (by decide) (fun c_1 => ?_) (fun c_1 => ?_)
  · replace h := (if_pos c_1).symm.trans h
    refine lv_lload_n hx hb d_Mo_sign_10 rfl (lv_at hl 0 rfl) ?_
    refine lv_lconst (v := (0 : Int64)) hx hb d_Mo_sign_11 (by decide) ?_
    refine W.lcmp hx hb d_Mo_sign_12 ?_
    refine lv_if_le (tgt := 20) hx hb d_Mo_sign_13 (by decide) (fun c_2 => ?_) (fun c_2 => ?_)
    · replace h := (if_pos c_2).symm.trans h
      refine lv_iconst (v := (0 : Int32)) hx hb d_Mo_sign_20 (by decide) ?_
      cases h
      exact W.iret hx hb hr (fun t ht hW => ⟨⟨_, (), rfl, rfl, by rw [ht]; exact hP, va_K.moved hW.alike hK, hD⟩, hS.F ht⟩) hS.2.2 d_Mo_sign_21 hlocks
    · replace h := (if_neg c_2).symm.trans h
      refine lv_iconst (v := (1 : Int32)) hx hb d_Mo_sign_16 (by decide) ?_
      refine lv_goto (tgt := 21) hx hb d_Mo_sign_17 (by decide) ?_
      cases h
      exact W.iret hx hb hr (fun t ht hW => ⟨⟨_, (), rfl, rfl, by rw [ht]; exact hP, va_K.moved hW.alike hK, hD⟩, hS.F ht⟩) hS.2.2 d_Mo_sign_21 hlocks
  · replace h := (if_neg c_1).symm.trans h
    refine lv_iconst (v := (-1 : Int32)) hx hb d_Mo_sign_6 (by decide) ?_
    refine lv_goto (tgt := 21) hx hb d_Mo_sign_7 (by decide) ?_
    cases h
    exact W.iret hx hb hr (fun t ht hW => ⟨⟨_, (), rfl, rfl, by rw [ht]; exact hP, va_K.moved hW.alike hK, hD⟩, hS.F ht⟩) hS.2.2 d_Mo_sign_21 hlocks
def P_Mo_zero_62   (x0 : Int64) (x2 : Int64) (x4 : Int64) : Option (Int32) :=
  if (lg_cmp (x2 * x2) (x0 * x4)) < 0 then (some (0 : Int32)) else (some (1 : Int32))
set_option maxHeartbeats 4000000 in
set_option maxRecDepth 100000 in
theorem w_Mo_zero_62 (C0 : Cx p s m args meth c A dC dI cy b_Mo_zero 6 (some .boolean) "GlyphPageModel") (a1 : Int64) (a2 : Int64) (a3 : Int64) (uu : Int32)  (x0 : Int64) (x2 : Int64) (x4 : Int64) {H : Heap} {locs : List Loc} {ls : Array Slot} (h : P_Mo_zero_62 x0 x2 x4 = some uu) : va_P (dC, dI) classes [] H → va_D A [] → va_S A s.heap H locs → lv_has ls 6 [(0, .long x0), (2, .long x2), (4, .long x4)] → W p l e ({ frames := 0, cells := 0, slots := 0, locals := 0 } : Room) s m args below meth c H locs 0 0 (MQ below (va_Qi (fun r (_ : Unit) => r = uu) (fun _ t => va_P (dC, dI) classes [] t.heap ∧ va_K (dC, dI) classes (TY cy) t ∧ va_D A []) A) args s 0 0 A) (F0 m 62 ls []) := by
  intro hP hD hS hl
  obtain ⟨hx, hb, hr, hlocks, hml, hown, htsG, hA, hK⟩ := id C0
  unfold P_Mo_zero_62 at h
  refine lv_lload_n hx hb d_Mo_zero_62 rfl (lv_at hl 1 rfl) ?_
  refine lv_lload_n hx hb d_Mo_zero_63 rfl (lv_at hl 1 rfl) ?_
  refine lv_lmul hx hb d_Mo_zero_64 ?_
  refine lv_lload_n hx hb d_Mo_zero_65 rfl (lv_at hl 0 rfl) ?_
  refine lv_lload hx hb d_Mo_zero_66 (lv_at hl 2 rfl) ?_
  refine lv_lmul hx hb d_Mo_zero_68 ?_
  refine W.lcmp hx hb d_Mo_zero_69 ?_
  refine lv_if_lt (tgt := 77) hx hb d_Mo_zero_70 (by decide) (fun c_1 => ?_) (fun c_1 => ?_)
  · replace h := (if_pos c_1).symm.trans h
    refine lv_iconst (v := (0 : Int32)) hx hb d_Mo_zero_77 (by decide) ?_
    cases h
    exact W.zret (ty := .boolean) hx hb hr rfl (fun t ht hW => ⟨⟨_, (), rfl, rfl, by rw [ht]; exact hP, va_K.moved hW.alike hK, hD⟩, hS.F ht⟩) hS.2.2 d_Mo_zero_78 hlocks
  · replace h := (if_neg c_1).symm.trans h
    refine lv_iconst (v := (1 : Int32)) hx hb d_Mo_zero_73 (by decide) ?_
    refine lv_goto (tgt := 78) hx hb d_Mo_zero_74 (by decide) ?_
    cases h
    exact W.zret (ty := .boolean) hx hb hr rfl (fun t ht hW => ⟨⟨_, (), rfl, rfl, by rw [ht]; exact hP, va_K.moved hW.alike hK, hD⟩, hS.F ht⟩) hS.2.2 d_Mo_zero_78 hlocks
def P_Mo_zero_36   (x0 : Int64) (x2 : Int64) (x4 : Int64) (k0 : Int32) (k1 : Int32) : Option (Int32) :=
  if k1 = k0 then (if (lg_cmp x0 (0 : Int64)) ≤ 0 then (if (lg_cmp x2 (0 : Int64)) ≤ 0 then (some (0 : Int32)) else (P_Mo_zero_62 x0 x2 x4)) else (if 0 ≤ (lg_cmp x2 (0 : Int64)) then (some (0 : Int32)) else (P_Mo_zero_62 x0 x2 x4))) else (some (1 : Int32))
set_option maxHeartbeats 4000000 in
set_option maxRecDepth 100000 in
theorem w_Mo_zero_36 (C0 : Cx p s m args meth c A dC dI cy b_Mo_zero 6 (some .boolean) "GlyphPageModel") (a1 : Int64) (a2 : Int64) (a3 : Int64) (uu : Int32)  (x0 : Int64) (x2 : Int64) (x4 : Int64) (k0 : Int32) (k1 : Int32) {H : Heap} {locs : List Loc} {ls : Array Slot} (h : P_Mo_zero_36 x0 x2 x4 k0 k1 = some uu) : va_P (dC, dI) classes [] H → va_D A [] → va_S A s.heap H locs → lv_has ls 6 [(0, .long x0), (2, .long x2), (4, .long x4)] → W p l e ({ frames := 0, cells := 0, slots := 0, locals := 0 } : Room) s m args below meth c H locs 0 0 (MQ below (va_Qi (fun r (_ : Unit) => r = uu) (fun _ t => va_P (dC, dI) classes [] t.heap ∧ va_K (dC, dI) classes (TY cy) t ∧ va_D A []) A) args s 0 0 A) (F0 m 36 ls [.int k0, .int k1]) := by
  intro hP hD hS hl
  obtain ⟨hx, hb, hr, hlocks, hml, hown, htsG, hA, hK⟩ := id C0
  unfold P_Mo_zero_36 at h
  refine lv_icmp_eq (tgt := 41) hx hb d_Mo_zero_36 (by decide) (fun c_1 => ?_) (fun c_1 => ?_)
  · replace h := (if_pos c_1).symm.trans h
    refine lv_lload_n hx hb d_Mo_zero_41 rfl (lv_at hl 0 rfl) ?_
    refine lv_lconst (v := (0 : Int64)) hx hb d_Mo_zero_42 (by decide) ?_
    refine W.lcmp hx hb d_Mo_zero_43 ?_
    refine lv_if_le (tgt := 56) hx hb d_Mo_zero_44 (by decide) (fun c_2 => ?_) (fun c_2 => ?_)
    · replace h := (if_pos c_2).symm.trans h
      refine lv_lload_n hx hb d_Mo_zero_56 rfl (lv_at hl 1 rfl) ?_
      refine lv_lconst (v := (0 : Int64)) hx hb d_Mo_zero_57 (by decide) ?_
      refine W.lcmp hx hb d_Mo_zero_58 ?_
      refine lv_if_le (tgt := 77) hx hb d_Mo_zero_59 (by decide) (fun c_3 => ?_) (fun c_3 => ?_)
      · replace h := (if_pos c_3).symm.trans h
        refine lv_iconst (v := (0 : Int32)) hx hb d_Mo_zero_77 (by decide) ?_
        cases h
        exact W.zret (ty := .boolean) hx hb hr rfl (fun t ht hW => ⟨⟨_, (), rfl, rfl, by rw [ht]; exact hP, va_K.moved hW.alike hK, hD⟩, hS.F ht⟩) hS.2.2 d_Mo_zero_78 hlocks
      · replace h := (if_neg c_3).symm.trans h
        exact w_Mo_zero_62 C0 a1 a2 a3 uu  x0 x2 x4 h hP hD hS (lv_sub hl [0, 1, 2] rfl)
    · replace h := (if_neg c_2).symm.trans h
      refine lv_lload_n hx hb d_Mo_zero_47 rfl (lv_at hl 1 rfl) ?_
      refine lv_lconst (v := (0 : Int64)) hx hb d_Mo_zero_48 (by decide) ?_
      refine W.lcmp hx hb d_Mo_zero_49 ?_
      refine lv_if_ge (tgt := 77) hx hb d_Mo_zero_50 (by decide) (fun c_4 => ?_) (fun c_4 => ?_)
      · replace h := (if_pos c_4).symm.trans h
        refine lv_iconst (v := (0 : Int32)) hx hb d_Mo_zero_77 (by decide) ?_
        cases h
        exact W.zret (ty := .boolean) hx hb hr rfl (fun t ht hW => ⟨⟨_, (), rfl, rfl, by rw [ht]; exact hP, va_K.moved hW.alike hK, hD⟩, hS.F ht⟩) hS.2.2 d_Mo_zero_78 hlocks
      · replace h := (if_neg c_4).symm.trans h
        refine lv_goto (tgt := 62) hx hb d_Mo_zero_53 (by decide) ?_
        exact w_Mo_zero_62 C0 a1 a2 a3 uu  x0 x2 x4 h hP hD hS (lv_sub hl [0, 1, 2] rfl)
  · replace h := (if_neg c_1).symm.trans h
    refine lv_iconst (v := (1 : Int32)) hx hb d_Mo_zero_39 (by decide) ?_
    cases h
    exact W.zret (ty := .boolean) hx hb hr rfl (fun t ht hW => ⟨⟨_, (), rfl, rfl, by rw [ht]; exact hP, va_K.moved hW.alike hK, hD⟩, hS.F ht⟩) hS.2.2 d_Mo_zero_40 hlocks
def P_Mo_zero_24   (x0 : Int64) (x2 : Int64) (x4 : Int64) (k0 : Int32) : Option (Int32) :=
  if (lg_cmp x4 (0 : Int64)) ≤ 0 then (P_Mo_zero_36 x0 x2 x4 (0 : Int32) k0) else (P_Mo_zero_36 x0 x2 x4 (1 : Int32) k0)
set_option maxHeartbeats 4000000 in
set_option maxRecDepth 100000 in
theorem w_Mo_zero_24 (C0 : Cx p s m args meth c A dC dI cy b_Mo_zero 6 (some .boolean) "GlyphPageModel") (a1 : Int64) (a2 : Int64) (a3 : Int64) (uu : Int32)  (x0 : Int64) (x2 : Int64) (x4 : Int64) (k0 : Int32) {H : Heap} {locs : List Loc} {ls : Array Slot} (h : P_Mo_zero_24 x0 x2 x4 k0 = some uu) : va_P (dC, dI) classes [] H → va_D A [] → va_S A s.heap H locs → lv_has ls 6 [(0, .long x0), (2, .long x2), (4, .long x4)] → W p l e ({ frames := 0, cells := 0, slots := 0, locals := 0 } : Room) s m args below meth c H locs 0 0 (MQ below (va_Qi (fun r (_ : Unit) => r = uu) (fun _ t => va_P (dC, dI) classes [] t.heap ∧ va_K (dC, dI) classes (TY cy) t ∧ va_D A []) A) args s 0 0 A) (F0 m 24 ls [.int k0]) := by
  intro hP hD hS hl
  obtain ⟨hx, hb, hr, hlocks, hml, hown, htsG, hA, hK⟩ := id C0
  unfold P_Mo_zero_24 at h
  refine lv_lload hx hb d_Mo_zero_24 (lv_at hl 2 rfl) ?_
  refine lv_lconst (v := (0 : Int64)) hx hb d_Mo_zero_26 (by decide) ?_
  refine W.lcmp hx hb d_Mo_zero_27 ?_
  refine lv_if_le (tgt := 35) hx hb d_Mo_zero_28 (by decide) (fun c_1 => ?_) (fun c_1 => ?_)
  · replace h := (if_pos c_1).symm.trans h
    refine lv_iconst (v := (0 : Int32)) hx hb d_Mo_zero_35 (by decide) ?_
    exact w_Mo_zero_36 C0 a1 a2 a3 uu  x0 x2 x4 (0 : Int32) k0 h hP hD hS (lv_sub hl [0, 1, 2] rfl)
  · replace h := (if_neg c_1).symm.trans h
    refine lv_iconst (v := (1 : Int32)) hx hb d_Mo_zero_31 (by decide) ?_
    refine lv_goto (tgt := 36) hx hb d_Mo_zero_32 (by decide) ?_
    exact w_Mo_zero_36 C0 a1 a2 a3 uu  x0 x2 x4 (1 : Int32) k0 h hP hD hS (lv_sub hl [0, 1, 2] rfl)
def P_Mo_zero  (a1 : Int64) (a2 : Int64) (a3 : Int64) : Option (Int32) :=
  if (lg_cmp a1 (0 : Int64)) = 0 then (some (1 : Int32)) else (if (lg_cmp a3 (0 : Int64)) = 0 then (some (1 : Int32)) else (if (lg_cmp a1 (0 : Int64)) ≤ 0 then (P_Mo_zero_24 a1 a2 a3 (0 : Int32)) else (P_Mo_zero_24 a1 a2 a3 (1 : Int32))))
set_option maxHeartbeats 4000000 in
set_option maxRecDepth 100000 in
theorem c_Mo_zero (l : Launch) (dC : Nat → ClassId) (dI : Nat → Nat → Nat) (cy : Nat → ClassId) (sz : Nat)   (a1 : Int64) (a2 : Int64) (a3 : Int64) (uu : Int32) (h : P_Mo_zero a1 a2 a3 = some uu) : Met l y_Mo_zero (Cond.code y_Mo_zero b_Mo_zero 6 (some .boolean) :: G) ({ frames := 0, cells := 0, slots := 0, locals := 0 } : Room) (va_Pc [.long a1, .long a2, .long a3] (fun U => U.heap.size = sz ∧ va_P (dC, dI) classes [] U.heap ∧ va_K (dC, dI) classes (TY cy) U ∧ va_D (fun _ => True) [])) (va_Qi (fun r (_ : Unit) => r = uu) (fun _ t => va_P (dC, dI) classes [] t.heap ∧ va_K (dC, dI) classes (TY cy) t ∧ va_D (va_A [] sz) []) (va_A [] sz)) 0 0 (va_A [] sz) := by
  refine Met.ofW (cc := b_Mo_zero) (maxL := 6) (ret := (some .boolean)) (by decide) rfl ?_
  intro p e s m args below meth c s₁ B hml hv
  obtain ⟨rfl, hsz, hP, hK, hD0⟩ := hv
  have hx := B.exec
  have hb := B.bytes
  have hr := B.returns
  have hts := atoms_spec (ws := Cond.code y_Mo_zero b_Mo_zero 6 (some .boolean) :: G) B.pre
  have htsG : ∀ w ∈ G, w.before _ s = true := fun w hw => hts w (List.mem_cons_of_mem _ hw)
  have hown : s.vm.findClass "GlyphPageModel" = some m.cls := findClass_of_methodNamed B.named
  have hlocks := B.notSynchronized
  subst hsz
  have hD := hD0.self (sz := s.heap.size)
  generalize hAe : va_A [] s.heap.size = A at hD ⊢
  have hA : ∀ q : Nat, s.heap.size ≤ q → A q := fun q h => by rw [← hAe]; exact Or.inr h
  have hS : va_S A s.heap s.heap [] := va_S.rf
  have hl := lv_entry ([.long a1, .long a2, .long a3]) (n := 6) (Nat.le_of_ble_eq_true rfl)
  rw [lg_entry_eq]
  generalize (lg_sl ([.long a1, .long a2, .long a3]) ++ List.replicate (6 - (lg_sl ([.long a1, .long a2, .long a3])).length) Slot.unset).toArray = ls at hl ⊢
  have hl : lv_has ls 6 [(0, .long a1), (2, .long a2), (4, .long a3)] := hl
  have C0 : Cx p s m _ meth c A dC dI cy b_Mo_zero 6 (some .boolean) "GlyphPageModel" := ⟨hx, hb, hr, hlocks, hml, hown, htsG, hA, hK⟩
  unfold P_Mo_zero at h
  refine lv_lload_n hx hb d_Mo_zero_0 rfl (lv_at hl 0 rfl) ?_
  refine lv_lconst (v := (0 : Int64)) hx hb d_Mo_zero_1 (by decide) ?_
  refine W.lcmp hx hb d_Mo_zero_2 ?_
  refine lv_if_eq (tgt := 39) hx hb d_Mo_zero_3 (by decide) (fun c_1 => ?_) (fun c_1 => ?_)
  · replace h := (if_pos c_1).symm.trans h
    refine lv_iconst (v := (1 : Int32)) hx hb d_Mo_zero_39 (by decide) ?_
    cases h
    exact W.zret (ty := .boolean) hx hb hr rfl (fun t ht hW => ⟨⟨_, (), rfl, rfl, by rw [ht]; exact hP, va_K.moved hW.alike hK, hD⟩, hS.F ht⟩) hS.2.2 d_Mo_zero_40 hlocks
  · replace h := (if_neg c_1).symm.trans h
    refine lv_lload hx hb d_Mo_zero_6 (lv_at hl 2 rfl) ?_
    refine lv_lconst (v := (0 : Int64)) hx hb d_Mo_zero_8 (by decide) ?_
    refine W.lcmp hx hb d_Mo_zero_9 ?_
    refine lv_if_eq (tgt := 39) hx hb d_Mo_zero_10 (by decide) (fun c_2 => ?_) (fun c_2 => ?_)
    · replace h := (if_pos c_2).symm.trans h
      refine lv_iconst (v := (1 : Int32)) hx hb d_Mo_zero_39 (by decide) ?_
      cases h
      exact W.zret (ty := .boolean) hx hb hr rfl (fun t ht hW => ⟨⟨_, (), rfl, rfl, by rw [ht]; exact hP, va_K.moved hW.alike hK, hD⟩, hS.F ht⟩) hS.2.2 d_Mo_zero_40 hlocks
    · replace h := (if_neg c_2).symm.trans h
      refine lv_lload_n hx hb d_Mo_zero_13 rfl (lv_at hl 0 rfl) ?_
      refine lv_lconst (v := (0 : Int64)) hx hb d_Mo_zero_14 (by decide) ?_
      refine W.lcmp hx hb d_Mo_zero_15 ?_
      refine lv_if_le (tgt := 23) hx hb d_Mo_zero_16 (by decide) (fun c_3 => ?_) (fun c_3 => ?_)
      · replace h := (if_pos c_3).symm.trans h
        refine lv_iconst (v := (0 : Int32)) hx hb d_Mo_zero_23 (by decide) ?_
        exact w_Mo_zero_24 C0 a1 a2 a3 uu  a1 a2 a3 (0 : Int32) h hP hD hS (lv_sub hl [0, 1, 2] rfl)
      · replace h := (if_neg c_3).symm.trans h
        refine lv_iconst (v := (1 : Int32)) hx hb d_Mo_zero_19 (by decide) ?_
        refine lv_goto (tgt := 24) hx hb d_Mo_zero_20 (by decide) ?_
        exact w_Mo_zero_24 C0 a1 a2 a3 uu  a1 a2 a3 (1 : Int32) h hP hD hS (lv_sub hl [0, 1, 2] rfl)
def P_Mo_sum_57 (a1_file_f : Nat → Int32) (z6 : Int32 × Int32 × Int32 × Int32 × Int32 → Option (Int32)) (x1 : Int32) (x2 : Int32) (x3 : Int32) (x4 : Int32) (x5 : Int32) : Option (Int32) :=
  z6 (x1, x2, x3, x4, (x5 + (1 : Int32)))
set_option maxHeartbeats 4000000 in
set_option maxRecDepth 100000 in
theorem w_Mo_sum_57 (C0 : Cx p s m args meth c A dC dI cy b_Mo_sum 6 (some .int) "GlyphPageModel") (a1 : Nat) (a1_file : Nat) (a1_at : Nat) (a1_length : Nat) (a1_done : Nat) (a1_depth : Nat) (a1_parts : Nat) (a1_contours : Nat) (a1_points : Nat) (a1_x : Nat) (a1_y : Nat) (a1_on : Nat) (a1_contour : Nat) (a1_size : Int32) (a1_units : Int32) (a1_form : Int32) (a1_glyphs : Int32) (a1_ascent : Int32) (a1_descent : Int32) (a1_gap : Int32) (a1_metrics : Int32) (a1_map : Int32) (a1_mapLength : Int32) (a1_segments : Int32) (a1_file_f : Nat → Int32) (a2 : Int32) (a3 : Int32) (a4 : Int32) (uu : Int32) (z6 : Int32 × Int32 × Int32 × Int32 × Int32 → Option (Int32)) (hz6 : ∀ (x1 : Int32) (x2 : Int32) (x3 : Int32) (x4 : Int32) (x5 : Int32) (H : Heap) (locs : List Loc) (ls : Array Slot), z6 (x1, x2, x3, x4, x5) = some uu → va_P (dC, dI) classes [(a1, .inr (8, [.ref a1_file, .int a1_size, .ref a1_at, .ref a1_length, .int a1_units, .int a1_form, .int a1_glyphs, .int a1_ascent, .int a1_descent, .int a1_gap, .int a1_metrics, .int a1_map, .int a1_mapLength, .int a1_segments, .ref a1_done, .ref a1_depth, .ref a1_parts, .ref a1_contours, .ref a1_points, .ref a1_x, .ref a1_y, .ref a1_on, .ref a1_contour])), (a1_file, .inl (cy 1, 4096, .inl a1_file_f))] H → va_D A [(a1, .inr (8, [.ref a1_file, .int a1_size, .ref a1_at, .ref a1_length, .int a1_units, .int a1_form, .int a1_glyphs, .int a1_ascent, .int a1_descent, .int a1_gap, .int a1_metrics, .int a1_map, .int a1_mapLength, .int a1_segments, .ref a1_done, .ref a1_depth, .ref a1_parts, .ref a1_contours, .ref a1_points, .ref a1_x, .ref a1_y, .ref a1_on, .ref a1_contour])), (a1_file, .inl (cy 1, 4096, .inl a1_file_f))] → va_S A s.heap H locs → lv_has ls 6 [(0, .ref a1), (1, .int x1), (2, .int x2), (3, .int x3), (4, .int x4), (5, .int x5)] → W p l e ({ frames := 1, cells := 0, slots := 0, locals := 21 } : Room) s m args below meth c H locs 0 0 (MQ below (va_Qi (fun r (_ : Unit) => r = uu) (fun _ t => va_P (dC, dI) classes [(a1, .inr (8, [.ref a1_file, .int a1_size, .ref a1_at, .ref a1_length, .int a1_units, .int a1_form, .int a1_glyphs, .int a1_ascent, .int a1_descent, .int a1_gap, .int a1_metrics, .int a1_map, .int a1_mapLength, .int a1_segments, .ref a1_done, .ref a1_depth, .ref a1_parts, .ref a1_contours, .ref a1_points, .ref a1_x, .ref a1_y, .ref a1_on, .ref a1_contour])), (a1_file, .inl (cy 1, 4096, .inl a1_file_f))] t.heap ∧ va_K (dC, dI) classes (TY cy) t ∧ va_D A [(a1, .inr (8, [.ref a1_file, .int a1_size, .ref a1_at, .ref a1_length, .int a1_units, .int a1_form, .int a1_glyphs, .int a1_ascent, .int a1_descent, .int a1_gap, .int a1_metrics, .int a1_map, .int a1_mapLength, .int a1_segments, .ref a1_done, .ref a1_depth, .ref a1_parts, .ref a1_contours, .ref a1_points, .ref a1_x, .ref a1_y, .ref a1_on, .ref a1_contour])), (a1_file, .inl (cy 1, 4096, .inl a1_file_f))]) A) args s 0 0 A) (F0 m 6 ls [])) (x1 : Int32) (x2 : Int32) (x3 : Int32) (x4 : Int32) (x5 : Int32) {H : Heap} {locs : List Loc} {ls : Array Slot} (h : P_Mo_sum_57 a1_file_f z6 x1 x2 x3 x4 x5 = some uu) : va_P (dC, dI) classes [(a1, .inr (8, [.ref a1_file, .int a1_size, .ref a1_at, .ref a1_length, .int a1_units, .int a1_form, .int a1_glyphs, .int a1_ascent, .int a1_descent, .int a1_gap, .int a1_metrics, .int a1_map, .int a1_mapLength, .int a1_segments, .ref a1_done, .ref a1_depth, .ref a1_parts, .ref a1_contours, .ref a1_points, .ref a1_x, .ref a1_y, .ref a1_on, .ref a1_contour])), (a1_file, .inl (cy 1, 4096, .inl a1_file_f))] H → va_D A [(a1, .inr (8, [.ref a1_file, .int a1_size, .ref a1_at, .ref a1_length, .int a1_units, .int a1_form, .int a1_glyphs, .int a1_ascent, .int a1_descent, .int a1_gap, .int a1_metrics, .int a1_map, .int a1_mapLength, .int a1_segments, .ref a1_done, .ref a1_depth, .ref a1_parts, .ref a1_contours, .ref a1_points, .ref a1_x, .ref a1_y, .ref a1_on, .ref a1_contour])), (a1_file, .inl (cy 1, 4096, .inl a1_file_f))] → va_S A s.heap H locs → lv_has ls 6 [(0, .ref a1), (1, .int x1), (2, .int x2), (3, .int x3), (4, .int x4), (5, .int x5)] → W p l e ({ frames := 1, cells := 0, slots := 0, locals := 21 } : Room) s m args below meth c H locs 0 0 (MQ below (va_Qi (fun r (_ : Unit) => r = uu) (fun _ t => va_P (dC, dI) classes [(a1, .inr (8, [.ref a1_file, .int a1_size, .ref a1_at, .ref a1_length, .int a1_units, .int a1_form, .int a1_glyphs, .int a1_ascent, .int a1_descent, .int a1_gap, .int a1_metrics, .int a1_map, .int a1_mapLength, .int a1_segments, .ref a1_done, .ref a1_depth, .ref a1_parts, .ref a1_contours, .ref a1_points, .ref a1_x, .ref a1_y, .ref a1_on, .ref a1_contour])), (a1_file, .inl (cy 1, 4096, .inl a1_file_f))] t.heap ∧ va_K (dC, dI) classes (TY cy) t ∧ va_D A [(a1, .inr (8, [.ref a1_file, .int a1_size, .ref a1_at, .ref a1_length, .int a1_units, .int a1_form, .int a1_glyphs, .int a1_ascent, .int a1_descent, .int a1_gap, .int a1_metrics, .int a1_map, .int a1_mapLength, .int a1_segments, .ref a1_done, .ref a1_depth, .ref a1_parts, .ref a1_contours, .ref a1_points, .ref a1_x, .ref a1_y, .ref a1_on, .ref a1_contour])), (a1_file, .inl (cy 1, 4096, .inl a1_file_f))]) A) args s 0 0 A) (F0 m 57 ls []) := by
  intro hP hD hS hl
  obtain ⟨hx, hb, hr, hlocks, hml, hown, htsG, hA, hK⟩ := id C0
  unfold P_Mo_sum_57 at h
  refine lv_iinc (v := (x5 + (1 : Int32))) (lv' := [(5, .int (x5 + (1 : Int32))), (0, .ref a1), (1, .int x1), (2, .int x2), (3, .int x3), (4, .int x4)]) hx hb d_Mo_sum_57 hl (k := 5) rfl rfl (by decide) rfl (fun ls hl => ?_)
  refine lv_goto (tgt := 6) hx hb d_Mo_sum_60 (by decide) ?_
  exact hz6 x1 x2 x3 x4 (x5 + (1 : Int32)) _ _ _ h hP hD hS (lv_sub hl [1, 2, 3, 4, 5, 0] rfl)
def P_Mo_sum_33 (a1_file_f : Nat → Int32) (z6 : Int32 × Int32 × Int32 × Int32 × Int32 → Option (Int32)) (x1 : Int32) (x2 : Int32) (x3 : Int32) (x4 : Int32) (x5 : Int32) : Option (Int32) :=
  (P_Mf_one a1_file_f (x1 + x5)).bind fun r_1 => P_Mo_sum_57 a1_file_f z6 x1 x2 x3 (x4 + (r_1 <<< (((24 : Int32) - ((8 : Int32) * (x5 - x5 / (4 : Int32) * (4 : Int32)))) &&& 31))) x5
set_option maxHeartbeats 4000000 in
set_option maxRecDepth 100000 in
theorem w_Mo_sum_33 (C0 : Cx p s m args meth c A dC dI cy b_Mo_sum 6 (some .int) "GlyphPageModel") (a1 : Nat) (a1_file : Nat) (a1_at : Nat) (a1_length : Nat) (a1_done : Nat) (a1_depth : Nat) (a1_parts : Nat) (a1_contours : Nat) (a1_points : Nat) (a1_x : Nat) (a1_y : Nat) (a1_on : Nat) (a1_contour : Nat) (a1_size : Int32) (a1_units : Int32) (a1_form : Int32) (a1_glyphs : Int32) (a1_ascent : Int32) (a1_descent : Int32) (a1_gap : Int32) (a1_metrics : Int32) (a1_map : Int32) (a1_mapLength : Int32) (a1_segments : Int32) (a1_file_f : Nat → Int32) (a2 : Int32) (a3 : Int32) (a4 : Int32) (uu : Int32) (z6 : Int32 × Int32 × Int32 × Int32 × Int32 → Option (Int32)) (hz6 : ∀ (x1 : Int32) (x2 : Int32) (x3 : Int32) (x4 : Int32) (x5 : Int32) (H : Heap) (locs : List Loc) (ls : Array Slot), z6 (x1, x2, x3, x4, x5) = some uu → va_P (dC, dI) classes [(a1, .inr (8, [.ref a1_file, .int a1_size, .ref a1_at, .ref a1_length, .int a1_units, .int a1_form, .int a1_glyphs, .int a1_ascent, .int a1_descent, .int a1_gap, .int a1_metrics, .int a1_map, .int a1_mapLength, .int a1_segments, .ref a1_done, .ref a1_depth, .ref a1_parts, .ref a1_contours, .ref a1_points, .ref a1_x, .ref a1_y, .ref a1_on, .ref a1_contour])), (a1_file, .inl (cy 1, 4096, .inl a1_file_f))] H → va_D A [(a1, .inr (8, [.ref a1_file, .int a1_size, .ref a1_at, .ref a1_length, .int a1_units, .int a1_form, .int a1_glyphs, .int a1_ascent, .int a1_descent, .int a1_gap, .int a1_metrics, .int a1_map, .int a1_mapLength, .int a1_segments, .ref a1_done, .ref a1_depth, .ref a1_parts, .ref a1_contours, .ref a1_points, .ref a1_x, .ref a1_y, .ref a1_on, .ref a1_contour])), (a1_file, .inl (cy 1, 4096, .inl a1_file_f))] → va_S A s.heap H locs → lv_has ls 6 [(0, .ref a1), (1, .int x1), (2, .int x2), (3, .int x3), (4, .int x4), (5, .int x5)] → W p l e ({ frames := 1, cells := 0, slots := 0, locals := 21 } : Room) s m args below meth c H locs 0 0 (MQ below (va_Qi (fun r (_ : Unit) => r = uu) (fun _ t => va_P (dC, dI) classes [(a1, .inr (8, [.ref a1_file, .int a1_size, .ref a1_at, .ref a1_length, .int a1_units, .int a1_form, .int a1_glyphs, .int a1_ascent, .int a1_descent, .int a1_gap, .int a1_metrics, .int a1_map, .int a1_mapLength, .int a1_segments, .ref a1_done, .ref a1_depth, .ref a1_parts, .ref a1_contours, .ref a1_points, .ref a1_x, .ref a1_y, .ref a1_on, .ref a1_contour])), (a1_file, .inl (cy 1, 4096, .inl a1_file_f))] t.heap ∧ va_K (dC, dI) classes (TY cy) t ∧ va_D A [(a1, .inr (8, [.ref a1_file, .int a1_size, .ref a1_at, .ref a1_length, .int a1_units, .int a1_form, .int a1_glyphs, .int a1_ascent, .int a1_descent, .int a1_gap, .int a1_metrics, .int a1_map, .int a1_mapLength, .int a1_segments, .ref a1_done, .ref a1_depth, .ref a1_parts, .ref a1_contours, .ref a1_points, .ref a1_x, .ref a1_y, .ref a1_on, .ref a1_contour])), (a1_file, .inl (cy 1, 4096, .inl a1_file_f))]) A) args s 0 0 A) (F0 m 6 ls [])) (x1 : Int32) (x2 : Int32) (x3 : Int32) (x4 : Int32) (x5 : Int32) {H : Heap} {locs : List Loc} {ls : Array Slot} (h : P_Mo_sum_33 a1_file_f z6 x1 x2 x3 x4 x5 = some uu) : va_P (dC, dI) classes [(a1, .inr (8, [.ref a1_file, .int a1_size, .ref a1_at, .ref a1_length, .int a1_units, .int a1_form, .int a1_glyphs, .int a1_ascent, .int a1_descent, .int a1_gap, .int a1_metrics, .int a1_map, .int a1_mapLength, .int a1_segments, .ref a1_done, .ref a1_depth, .ref a1_parts, .ref a1_contours, .ref a1_points, .ref a1_x, .ref a1_y, .ref a1_on, .ref a1_contour])), (a1_file, .inl (cy 1, 4096, .inl a1_file_f))] H → va_D A [(a1, .inr (8, [.ref a1_file, .int a1_size, .ref a1_at, .ref a1_length, .int a1_units, .int a1_form, .int a1_glyphs, .int a1_ascent, .int a1_descent, .int a1_gap, .int a1_metrics, .int a1_map, .int a1_mapLength, .int a1_segments, .ref a1_done, .ref a1_depth, .ref a1_parts, .ref a1_contours, .ref a1_points, .ref a1_x, .ref a1_y, .ref a1_on, .ref a1_contour])), (a1_file, .inl (cy 1, 4096, .inl a1_file_f))] → va_S A s.heap H locs → lv_has ls 6 [(0, .ref a1), (1, .int x1), (2, .int x2), (3, .int x3), (4, .int x4), (5, .int x5)] → W p l e ({ frames := 1, cells := 0, slots := 0, locals := 21 } : Room) s m args below meth c H locs 0 0 (MQ below (va_Qi (fun r (_ : Unit) => r = uu) (fun _ t => va_P (dC, dI) classes [(a1, .inr (8, [.ref a1_file, .int a1_size, .ref a1_at, .ref a1_length, .int a1_units, .int a1_form, .int a1_glyphs, .int a1_ascent, .int a1_descent, .int a1_gap, .int a1_metrics, .int a1_map, .int a1_mapLength, .int a1_segments, .ref a1_done, .ref a1_depth, .ref a1_parts, .ref a1_contours, .ref a1_points, .ref a1_x, .ref a1_y, .ref a1_on, .ref a1_contour])), (a1_file, .inl (cy 1, 4096, .inl a1_file_f))] t.heap ∧ va_K (dC, dI) classes (TY cy) t ∧ va_D A [(a1, .inr (8, [.ref a1_file, .int a1_size, .ref a1_at, .ref a1_length, .int a1_units, .int a1_form, .int a1_glyphs, .int a1_ascent, .int a1_descent, .int a1_gap, .int a1_metrics, .int a1_map, .int a1_mapLength, .int a1_segments, .ref a1_done, .ref a1_depth, .ref a1_parts, .ref a1_contours, .ref a1_points, .ref a1_x, .ref a1_y, .ref a1_on, .ref a1_contour])), (a1_file, .inl (cy 1, 4096, .inl a1_file_f))]) A) args s 0 0 A) (F0 m 33 ls []) := by
  intro hP hD hS hl
  obtain ⟨hx, hb, hr, hlocks, hml, hown, htsG, hA, hK⟩ := id C0
  unfold P_Mo_sum_33 at h
  refine lv_iload hx hb d_Mo_sum_33 (lv_at hl 4 rfl) ?_
  refine lv_aload_n hx hb d_Mo_sum_35 rfl (lv_at hl 0 rfl) ?_
  refine lv_iload_n hx hb d_Mo_sum_36 rfl (lv_at hl 1 rfl) ?_
  refine lv_iload hx hb d_Mo_sum_37 (lv_at hl 5 rfl) ?_
  refine lv_iadd hx hb d_Mo_sum_39 ?_
  obtain ⟨r_1, hq, h⟩ := Option.bind_eq_some_iff.mp h
  try dsimp only at h
  have hPc := hP.sub (ws' := [(a1, .inr (8, [.ref a1_file, .int a1_size, .ref a1_at, .ref a1_length, .int a1_units, .int a1_form, .int a1_glyphs, .int a1_ascent, .int a1_descent, .int a1_gap, .int a1_metrics, .int a1_map, .int a1_mapLength, .int a1_segments, .ref a1_done, .ref a1_depth, .ref a1_parts, .ref a1_contours, .ref a1_points, .ref a1_x, .ref a1_y, .ref a1_on, .ref a1_contour])), (a1_file, .inl (cy 1, 4096, .inl a1_file_f))]) [0, 1] rfl
  have hDc := hD.sub (ws' := [(a1, .inr (8, [.ref a1_file, .int a1_size, .ref a1_at, .ref a1_length, .int a1_units, .int a1_form, .int a1_glyphs, .int a1_ascent, .int a1_descent, .int a1_gap, .int a1_metrics, .int a1_map, .int a1_mapLength, .int a1_segments, .ref a1_done, .ref a1_depth, .ref a1_parts, .ref a1_contours, .ref a1_points, .ref a1_x, .ref a1_y, .ref a1_on, .ref a1_contour])), (a1_file, .inl (cy 1, 4096, .inl a1_file_f))]) [0, 1] (by decide) rfl
  have hFc := va_free (wc := [(a1, .inr (8, [.ref a1_file, .int a1_size, .ref a1_at, .ref a1_length, .int a1_units, .int a1_form, .int a1_glyphs, .int a1_ascent, .int a1_descent, .int a1_gap, .int a1_metrics, .int a1_map, .int a1_mapLength, .int a1_segments, .ref a1_done, .ref a1_depth, .ref a1_parts, .ref a1_contours, .ref a1_points, .ref a1_x, .ref a1_y, .ref a1_on, .ref a1_contour])), (a1_file, .inl (cy 1, 4096, .inl a1_file_f))]) hD hS hA [0, 1] rfl
  refine va_calli (va_runV (As := [.int (x1 + x5)]) (rest := [.int x4]) ⟨hx, hb, hml, hown, htsG⟩ (c_Mf_one l dC dI cy H.size a1 a1_file a1_at a1_length a1_done a1_depth a1_parts a1_contours a1_points a1_x a1_y a1_on a1_contour a1_size a1_units a1_form a1_glyphs a1_ascent a1_descent a1_gap a1_metrics a1_map a1_mapLength a1_segments a1_file_f (x1 + x5) r_1 hq) (cwV 1 htsG (gV mW962 mW963 mW964 mW10 mW965) rfl rfl rfl (by decide +kernel) ⟨Nat.le_of_ble_eq_true rfl, Nat.le_of_ble_eq_true rfl⟩) ⟨fun a U g mk q => by obtain ⟨q0, q1, qP, qK, qD⟩ := q; exact ⟨q0, q1, qP, va_K.moved (u := U) (U := U.calling g mk a) (Vm.Alike.refl U.vm) qK, qD⟩, va_recv hK hPc (ci := 8) (q0 := 0) rfl rfl, fun U hU hW => ⟨rfl, by rw [hU], by rw [hU]; exact hPc, va_K.moved hW.alike hK, hDc.weaken (fun _ _ _ _ => trivial)⟩⟩ rfl rfl hl.1 rfl (lv_room (Nat.le_of_ble_eq_true rfl)) d_Mo_sum_40 ⟨Nat.le_of_ble_eq_true rfl, Nat.le_of_ble_eq_true rfl⟩) hS (fun q _ h => hFc q h) hFc (fun rr u t H1 locs ht hvm hw hB hz1 hk1 hS => ?_)
  obtain ⟨hP1, hK1, hD1⟩ := hB
  rw [ht] at hP1
  replace hw : r_1 = rr := hw.symm
  subst hw
  obtain ⟨hP, hD⟩ := va_join (wr := []) (w1 := [(a1, .inr (8, [.ref a1_file, .int a1_size, .ref a1_at, .ref a1_length, .int a1_units, .int a1_form, .int a1_glyphs, .int a1_ascent, .int a1_descent, .int a1_gap, .int a1_metrics, .int a1_map, .int a1_mapLength, .int a1_segments, .ref a1_done, .ref a1_depth, .ref a1_parts, .ref a1_contours, .ref a1_points, .ref a1_x, .ref a1_y, .ref a1_on, .ref a1_contour])), (a1_file, .inl (cy 1, 4096, .inl a1_file_f))]) hP hD [0, 1] [] rfl rfl (by decide) (by decide) hk1 hFc hP1 hD1
  generalize H1 = H at hP hS ⊢
  have hP := hP.sub (ws' := [(a1, .inr (8, [.ref a1_file, .int a1_size, .ref a1_at, .ref a1_length, .int a1_units, .int a1_form, .int a1_glyphs, .int a1_ascent, .int a1_descent, .int a1_gap, .int a1_metrics, .int a1_map, .int a1_mapLength, .int a1_segments, .ref a1_done, .ref a1_depth, .ref a1_parts, .ref a1_contours, .ref a1_points, .ref a1_x, .ref a1_y, .ref a1_on, .ref a1_contour])), (a1_file, .inl (cy 1, 4096, .inl a1_file_f))]) [0, 1] rfl
  have hD := hD.sub (ws' := [(a1, .inr (8, [.ref a1_file, .int a1_size, .ref a1_at, .ref a1_length, .int a1_units, .int a1_form, .int a1_glyphs, .int a1_ascent, .int a1_descent, .int a1_gap, .int a1_metrics, .int a1_map, .int a1_mapLength, .int a1_segments, .ref a1_done, .ref a1_depth, .ref a1_parts, .ref a1_contours, .ref a1_points, .ref a1_x, .ref a1_y, .ref a1_on, .ref a1_contour])), (a1_file, .inl (cy 1, 4096, .inl a1_file_f))]) [0, 1] (by decide) rfl
  refine W.widen (k := 0) (n := 0) (by decide) (by decide) ?_
  refine lv_bipush (v := (24 : Int32)) hx hb d_Mo_sum_43 (by decide) ?_
  refine lv_bipush (v := (8 : Int32)) hx hb d_Mo_sum_45 (by decide) ?_
  refine lv_iload hx hb d_Mo_sum_47 (lv_at hl 5 rfl) ?_
  refine lv_iconst (v := (4 : Int32)) hx hb d_Mo_sum_49 (by decide) ?_
  refine lv_irem hx hb d_Mo_sum_50 (by decide) ?_
  refine lv_imul hx hb d_Mo_sum_51 ?_
  refine lv_isub hx hb d_Mo_sum_52 ?_
  refine lv_ishl hx hb d_Mo_sum_53 ?_
  refine lv_iadd hx hb d_Mo_sum_54 ?_
  refine lv_istore (lv' := [(4, .int (x4 + (r_1 <<< (((24 : Int32) - ((8 : Int32) * (x5 - x5 / (4 : Int32) * (4 : Int32)))) &&& 31)))), (0, .ref a1), (1, .int x1), (2, .int x2), (3, .int x3), (5, .int x5)]) hx hb d_Mo_sum_55 hl (by decide) rfl (fun ls hl => ?_)
  exact w_Mo_sum_57 C0 a1 a1_file a1_at a1_length a1_done a1_depth a1_parts a1_contours a1_points a1_x a1_y a1_on a1_contour a1_size a1_units a1_form a1_glyphs a1_ascent a1_descent a1_gap a1_metrics a1_map a1_mapLength a1_segments a1_file_f a2 a3 a4 uu z6 hz6 x1 x2 x3 (x4 + (r_1 <<< (((24 : Int32) - ((8 : Int32) * (x5 - x5 / (4 : Int32) * (4 : Int32)))) &&& 31))) x5 h hP hD hS (lv_sub hl [1, 2, 3, 4, 0, 5] rfl)
def P_Mo_sum_6b (a1_file_f : Nat → Int32)  (z6 : Int32 × Int32 × Int32 × Int32 × Int32 → Option (Int32)) (x1 : Int32) (x2 : Int32) (x3 : Int32) (x4 : Int32) (x5 : Int32) : Option (Int32) :=
  if x2 ≤ x5 then (some x4) else (if x3 = 0 then (P_Mo_sum_33 a1_file_f z6 x1 x2 x3 x4 x5) else (if x5 < (8 : Int32) then (P_Mo_sum_33 a1_file_f z6 x1 x2 x3 x4 x5) else (if (12 : Int32) ≤ x5 then (P_Mo_sum_33 a1_file_f z6 x1 x2 x3 x4 x5) else (P_Mo_sum_57 a1_file_f z6 x1 x2 x3 x4 x5))))
def L_Mo_sum_6 (a1_file_f : Nat → Int32)  : (Int32 × Int32 × Int32 × Int32 × Int32 → Option (Int32)) → (Int32 × Int32 × Int32 × Int32 × Int32) → Option (Int32) :=
  fun z => unp fun x1 => unp fun x2 => unp fun x3 => unp fun x4 x5 => P_Mo_sum_6b a1_file_f z x1 x2 x3 x4 x5
def P_Mo_sum_6 (a1_file_f : Nat → Int32)  (x1 : Int32) (x2 : Int32) (x3 : Int32) (x4 : Int32) (x5 : Int32) : Option (Int32) :=
  lp (L_Mo_sum_6 a1_file_f) fuel (x1, x2, x3, x4, x5)
theorem e_Mo_sum_6 (a1_file_f : Nat → Int32)  (n : Nat) (x1 : Int32) (x2 : Int32) (x3 : Int32) (x4 : Int32) (x5 : Int32) : lp (L_Mo_sum_6 a1_file_f) (n + 1) (x1, x2, x3, x4, x5) = P_Mo_sum_6b a1_file_f (lp (L_Mo_sum_6 a1_file_f) n) x1 x2 x3 x4 x5 := rfl
set_option maxHeartbeats 4000000 in
set_option maxRecDepth 100000 in
theorem w_Mo_sum_6b (C0 : Cx p s m args meth c A dC dI cy b_Mo_sum 6 (some .int) "GlyphPageModel") (a1 : Nat) (a1_file : Nat) (a1_at : Nat) (a1_length : Nat) (a1_done : Nat) (a1_depth : Nat) (a1_parts : Nat) (a1_contours : Nat) (a1_points : Nat) (a1_x : Nat) (a1_y : Nat) (a1_on : Nat) (a1_contour : Nat) (a1_size : Int32) (a1_units : Int32) (a1_form : Int32) (a1_glyphs : Int32) (a1_ascent : Int32) (a1_descent : Int32) (a1_gap : Int32) (a1_metrics : Int32) (a1_map : Int32) (a1_mapLength : Int32) (a1_segments : Int32) (a1_file_f : Nat → Int32) (a2 : Int32) (a3 : Int32) (a4 : Int32) (uu : Int32)  (z6 : Int32 × Int32 × Int32 × Int32 × Int32 → Option (Int32)) (hz6 : ∀ (x1 : Int32) (x2 : Int32) (x3 : Int32) (x4 : Int32) (x5 : Int32) (H : Heap) (locs : List Loc) (ls : Array Slot), z6 (x1, x2, x3, x4, x5) = some uu → va_P (dC, dI) classes [(a1, .inr (8, [.ref a1_file, .int a1_size, .ref a1_at, .ref a1_length, .int a1_units, .int a1_form, .int a1_glyphs, .int a1_ascent, .int a1_descent, .int a1_gap, .int a1_metrics, .int a1_map, .int a1_mapLength, .int a1_segments, .ref a1_done, .ref a1_depth, .ref a1_parts, .ref a1_contours, .ref a1_points, .ref a1_x, .ref a1_y, .ref a1_on, .ref a1_contour])), (a1_file, .inl (cy 1, 4096, .inl a1_file_f))] H → va_D A [(a1, .inr (8, [.ref a1_file, .int a1_size, .ref a1_at, .ref a1_length, .int a1_units, .int a1_form, .int a1_glyphs, .int a1_ascent, .int a1_descent, .int a1_gap, .int a1_metrics, .int a1_map, .int a1_mapLength, .int a1_segments, .ref a1_done, .ref a1_depth, .ref a1_parts, .ref a1_contours, .ref a1_points, .ref a1_x, .ref a1_y, .ref a1_on, .ref a1_contour])), (a1_file, .inl (cy 1, 4096, .inl a1_file_f))] → va_S A s.heap H locs → lv_has ls 6 [(0, .ref a1), (1, .int x1), (2, .int x2), (3, .int x3), (4, .int x4), (5, .int x5)] → W p l e ({ frames := 1, cells := 0, slots := 0, locals := 21 } : Room) s m args below meth c H locs 0 0 (MQ below (va_Qi (fun r (_ : Unit) => r = uu) (fun _ t => va_P (dC, dI) classes [(a1, .inr (8, [.ref a1_file, .int a1_size, .ref a1_at, .ref a1_length, .int a1_units, .int a1_form, .int a1_glyphs, .int a1_ascent, .int a1_descent, .int a1_gap, .int a1_metrics, .int a1_map, .int a1_mapLength, .int a1_segments, .ref a1_done, .ref a1_depth, .ref a1_parts, .ref a1_contours, .ref a1_points, .ref a1_x, .ref a1_y, .ref a1_on, .ref a1_contour])), (a1_file, .inl (cy 1, 4096, .inl a1_file_f))] t.heap ∧ va_K (dC, dI) classes (TY cy) t ∧ va_D A [(a1, .inr (8, [.ref a1_file, .int a1_size, .ref a1_at, .ref a1_length, .int a1_units, .int a1_form, .int a1_glyphs, .int a1_ascent, .int a1_descent, .int a1_gap, .int a1_metrics, .int a1_map, .int a1_mapLength, .int a1_segments, .ref a1_done, .ref a1_depth, .ref a1_parts, .ref a1_contours, .ref a1_points, .ref a1_x, .ref a1_y, .ref a1_on, .ref a1_contour])), (a1_file, .inl (cy 1, 4096, .inl a1_file_f))]) A) args s 0 0 A) (F0 m 6 ls [])) (x1 : Int32) (x2 : Int32) (x3 : Int32) (x4 : Int32) (x5 : Int32) {H : Heap} {locs : List Loc} {ls : Array Slot} (h : P_Mo_sum_6b a1_file_f z6 x1 x2 x3 x4 x5 = some uu) : va_P (dC, dI) classes [(a1, .inr (8, [.ref a1_file, .int a1_size, .ref a1_at, .ref a1_length, .int a1_units, .int a1_form, .int a1_glyphs, .int a1_ascent, .int a1_descent, .int a1_gap, .int a1_metrics, .int a1_map, .int a1_mapLength, .int a1_segments, .ref a1_done, .ref a1_depth, .ref a1_parts, .ref a1_contours, .ref a1_points, .ref a1_x, .ref a1_y, .ref a1_on, .ref a1_contour])), (a1_file, .inl (cy 1, 4096, .inl a1_file_f))] H → va_D A [(a1, .inr (8, [.ref a1_file, .int a1_size, .ref a1_at, .ref a1_length, .int a1_units, .int a1_form, .int a1_glyphs, .int a1_ascent, .int a1_descent, .int a1_gap, .int a1_metrics, .int a1_map, .int a1_mapLength, .int a1_segments, .ref a1_done, .ref a1_depth, .ref a1_parts, .ref a1_contours, .ref a1_points, .ref a1_x, .ref a1_y, .ref a1_on, .ref a1_contour])), (a1_file, .inl (cy 1, 4096, .inl a1_file_f))] → va_S A s.heap H locs → lv_has ls 6 [(0, .ref a1), (1, .int x1), (2, .int x2), (3, .int x3), (4, .int x4), (5, .int x5)] → W p l e ({ frames := 1, cells := 0, slots := 0, locals := 21 } : Room) s m args below meth c H locs 0 0 (MQ below (va_Qi (fun r (_ : Unit) => r = uu) (fun _ t => va_P (dC, dI) classes [(a1, .inr (8, [.ref a1_file, .int a1_size, .ref a1_at, .ref a1_length, .int a1_units, .int a1_form, .int a1_glyphs, .int a1_ascent, .int a1_descent, .int a1_gap, .int a1_metrics, .int a1_map, .int a1_mapLength, .int a1_segments, .ref a1_done, .ref a1_depth, .ref a1_parts, .ref a1_contours, .ref a1_points, .ref a1_x, .ref a1_y, .ref a1_on, .ref a1_contour])), (a1_file, .inl (cy 1, 4096, .inl a1_file_f))] t.heap ∧ va_K (dC, dI) classes (TY cy) t ∧ va_D A [(a1, .inr (8, [.ref a1_file, .int a1_size, .ref a1_at, .ref a1_length, .int a1_units, .int a1_form, .int a1_glyphs, .int a1_ascent, .int a1_descent, .int a1_gap, .int a1_metrics, .int a1_map, .int a1_mapLength, .int a1_segments, .ref a1_done, .ref a1_depth, .ref a1_parts, .ref a1_contours, .ref a1_points, .ref a1_x, .ref a1_y, .ref a1_on, .ref a1_contour])), (a1_file, .inl (cy 1, 4096, .inl a1_file_f))]) A) args s 0 0 A) (F0 m 6 ls []) := by
  intro hP hD hS hl
  obtain ⟨hx, hb, hr, hlocks, hml, hown, htsG, hA, hK⟩ := id C0
  unfold P_Mo_sum_6b at h
  refine lv_iload hx hb d_Mo_sum_6 (lv_at hl 5 rfl) ?_
  refine lv_iload_n hx hb d_Mo_sum_8 rfl (lv_at hl 2 rfl) ?_
  refine lv_icmp_ge (tgt := 63) hx hb d_Mo_sum_9 (by decide) (fun c_1 => ?_) (fun c_1 => ?_)
  · replace h := (if_pos c_1).symm.trans h
    refine lv_iload hx hb d_Mo_sum_63 (lv_at hl 4 rfl) ?_
    cases h
    exact W.iret hx hb hr (fun t ht hW => ⟨⟨_, (), rfl, rfl, by rw [ht]; exact hP, va_K.moved hW.alike hK, hD⟩, hS.F ht⟩) hS.2.2 d_Mo_sum_65 hlocks
  · replace h := (if_neg c_1).symm.trans h
    refine lv_iload_n hx hb d_Mo_sum_12 rfl (lv_at hl 3 rfl) ?_
    refine lv_if_eq (tgt := 33) hx hb d_Mo_sum_13 (by decide) (fun c_2 => ?_) (fun c_2 => ?_)
    · replace h := (if_pos c_2).symm.trans h
      exact w_Mo_sum_33 C0 a1 a1_file a1_at a1_length a1_done a1_depth a1_parts a1_contours a1_points a1_x a1_y a1_on a1_contour a1_size a1_units a1_form a1_glyphs a1_ascent a1_descent a1_gap a1_metrics a1_map a1_mapLength a1_segments a1_file_f a2 a3 a4 uu z6 hz6 x1 x2 x3 x4 x5 h hP hD hS (lv_sub hl [0, 1, 2, 3, 4, 5] rfl)
    · replace h := (if_neg c_2).symm.trans h
      refine lv_iload hx hb d_Mo_sum_16 (lv_at hl 5 rfl) ?_
      refine lv_bipush (v := (8 : Int32)) hx hb d_Mo_sum_18 (by decide) ?_
      refine lv_icmp_lt (tgt := 33) hx hb d_Mo_sum_20 (by decide) (fun c_3 => ?_) (fun c_3 => ?_)
      · replace h := (if_pos c_3).symm.trans h
        exact w_Mo_sum_33 C0 a1 a1_file a1_at a1_length a1_done a1_depth a1_parts a1_contours a1_points a1_x a1_y a1_on a1_contour a1_size a1_units a1_form a1_glyphs a1_ascent a1_descent a1_gap a1_metrics a1_map a1_mapLength a1_segments a1_file_f a2 a3 a4 uu z6 hz6 x1 x2 x3 x4 x5 h hP hD hS (lv_sub hl [0, 1, 2, 3, 4, 5] rfl)
      · replace h := (if_neg c_3).symm.trans h
        refine lv_iload hx hb d_Mo_sum_23 (lv_at hl 5 rfl) ?_
        refine lv_bipush (v := (12 : Int32)) hx hb d_Mo_sum_25 (by decide) ?_
        refine lv_icmp_ge (tgt := 33) hx hb d_Mo_sum_27 (by decide) (fun c_4 => ?_) (fun c_4 => ?_)
        · replace h := (if_pos c_4).symm.trans h
          exact w_Mo_sum_33 C0 a1 a1_file a1_at a1_length a1_done a1_depth a1_parts a1_contours a1_points a1_x a1_y a1_on a1_contour a1_size a1_units a1_form a1_glyphs a1_ascent a1_descent a1_gap a1_metrics a1_map a1_mapLength a1_segments a1_file_f a2 a3 a4 uu z6 hz6 x1 x2 x3 x4 x5 h hP hD hS (lv_sub hl [0, 1, 2, 3, 4, 5] rfl)
        · replace h := (if_neg c_4).symm.trans h
          refine lv_goto (tgt := 57) hx hb d_Mo_sum_30 (by decide) ?_
          exact w_Mo_sum_57 C0 a1 a1_file a1_at a1_length a1_done a1_depth a1_parts a1_contours a1_points a1_x a1_y a1_on a1_contour a1_size a1_units a1_form a1_glyphs a1_ascent a1_descent a1_gap a1_metrics a1_map a1_mapLength a1_segments a1_file_f a2 a3 a4 uu z6 hz6 x1 x2 x3 x4 x5 h hP hD hS (lv_sub hl [0, 1, 2, 3, 4, 5] rfl)
theorem w_Mo_sum_6 (C0 : Cx p s m args meth c A dC dI cy b_Mo_sum 6 (some .int) "GlyphPageModel") (a1 : Nat) (a1_file : Nat) (a1_at : Nat) (a1_length : Nat) (a1_done : Nat) (a1_depth : Nat) (a1_parts : Nat) (a1_contours : Nat) (a1_points : Nat) (a1_x : Nat) (a1_y : Nat) (a1_on : Nat) (a1_contour : Nat) (a1_size : Int32) (a1_units : Int32) (a1_form : Int32) (a1_glyphs : Int32) (a1_ascent : Int32) (a1_descent : Int32) (a1_gap : Int32) (a1_metrics : Int32) (a1_map : Int32) (a1_mapLength : Int32) (a1_segments : Int32) (a1_file_f : Nat → Int32) (a2 : Int32) (a3 : Int32) (a4 : Int32) (uu : Int32)  (x1 : Int32) (x2 : Int32) (x3 : Int32) (x4 : Int32) (x5 : Int32) {H : Heap} {locs : List Loc} {ls : Array Slot} (h : P_Mo_sum_6 a1_file_f x1 x2 x3 x4 x5 = some uu) : va_P (dC, dI) classes [(a1, .inr (8, [.ref a1_file, .int a1_size, .ref a1_at, .ref a1_length, .int a1_units, .int a1_form, .int a1_glyphs, .int a1_ascent, .int a1_descent, .int a1_gap, .int a1_metrics, .int a1_map, .int a1_mapLength, .int a1_segments, .ref a1_done, .ref a1_depth, .ref a1_parts, .ref a1_contours, .ref a1_points, .ref a1_x, .ref a1_y, .ref a1_on, .ref a1_contour])), (a1_file, .inl (cy 1, 4096, .inl a1_file_f))] H → va_D A [(a1, .inr (8, [.ref a1_file, .int a1_size, .ref a1_at, .ref a1_length, .int a1_units, .int a1_form, .int a1_glyphs, .int a1_ascent, .int a1_descent, .int a1_gap, .int a1_metrics, .int a1_map, .int a1_mapLength, .int a1_segments, .ref a1_done, .ref a1_depth, .ref a1_parts, .ref a1_contours, .ref a1_points, .ref a1_x, .ref a1_y, .ref a1_on, .ref a1_contour])), (a1_file, .inl (cy 1, 4096, .inl a1_file_f))] → va_S A s.heap H locs → lv_has ls 6 [(0, .ref a1), (1, .int x1), (2, .int x2), (3, .int x3), (4, .int x4), (5, .int x5)] → W p l e ({ frames := 1, cells := 0, slots := 0, locals := 21 } : Room) s m args below meth c H locs 0 0 (MQ below (va_Qi (fun r (_ : Unit) => r = uu) (fun _ t => va_P (dC, dI) classes [(a1, .inr (8, [.ref a1_file, .int a1_size, .ref a1_at, .ref a1_length, .int a1_units, .int a1_form, .int a1_glyphs, .int a1_ascent, .int a1_descent, .int a1_gap, .int a1_metrics, .int a1_map, .int a1_mapLength, .int a1_segments, .ref a1_done, .ref a1_depth, .ref a1_parts, .ref a1_contours, .ref a1_points, .ref a1_x, .ref a1_y, .ref a1_on, .ref a1_contour])), (a1_file, .inl (cy 1, 4096, .inl a1_file_f))] t.heap ∧ va_K (dC, dI) classes (TY cy) t ∧ va_D A [(a1, .inr (8, [.ref a1_file, .int a1_size, .ref a1_at, .ref a1_length, .int a1_units, .int a1_form, .int a1_glyphs, .int a1_ascent, .int a1_descent, .int a1_gap, .int a1_metrics, .int a1_map, .int a1_mapLength, .int a1_segments, .ref a1_done, .ref a1_depth, .ref a1_parts, .ref a1_contours, .ref a1_points, .ref a1_x, .ref a1_y, .ref a1_on, .ref a1_contour])), (a1_file, .inl (cy 1, 4096, .inl a1_file_f))]) A) args s 0 0 A) (F0 m 6 ls []) := by
  have key : ∀ (n : Nat) (x1 : Int32) (x2 : Int32) (x3 : Int32) (x4 : Int32) (x5 : Int32) (H : Heap) (locs : List Loc) (ls : Array Slot), lp (L_Mo_sum_6 a1_file_f) n (x1, x2, x3, x4, x5) = some uu → va_P (dC, dI) classes [(a1, .inr (8, [.ref a1_file, .int a1_size, .ref a1_at, .ref a1_length, .int a1_units, .int a1_form, .int a1_glyphs, .int a1_ascent, .int a1_descent, .int a1_gap, .int a1_metrics, .int a1_map, .int a1_mapLength, .int a1_segments, .ref a1_done, .ref a1_depth, .ref a1_parts, .ref a1_contours, .ref a1_points, .ref a1_x, .ref a1_y, .ref a1_on, .ref a1_contour])), (a1_file, .inl (cy 1, 4096, .inl a1_file_f))] H → va_D A [(a1, .inr (8, [.ref a1_file, .int a1_size, .ref a1_at, .ref a1_length, .int a1_units, .int a1_form, .int a1_glyphs, .int a1_ascent, .int a1_descent, .int a1_gap, .int a1_metrics, .int a1_map, .int a1_mapLength, .int a1_segments, .ref a1_done, .ref a1_depth, .ref a1_parts, .ref a1_contours, .ref a1_points, .ref a1_x, .ref a1_y, .ref a1_on, .ref a1_contour])), (a1_file, .inl (cy 1, 4096, .inl a1_file_f))] → va_S A s.heap H locs → lv_has ls 6 [(0, .ref a1), (1, .int x1), (2, .int x2), (3, .int x3), (4, .int x4), (5, .int x5)] → W p l e ({ frames := 1, cells := 0, slots := 0, locals := 21 } : Room) s m args below meth c H locs 0 0 (MQ below (va_Qi (fun r (_ : Unit) => r = uu) (fun _ t => va_P (dC, dI) classes [(a1, .inr (8, [.ref a1_file, .int a1_size, .ref a1_at, .ref a1_length, .int a1_units, .int a1_form, .int a1_glyphs, .int a1_ascent, .int a1_descent, .int a1_gap, .int a1_metrics, .int a1_map, .int a1_mapLength, .int a1_segments, .ref a1_done, .ref a1_depth, .ref a1_parts, .ref a1_contours, .ref a1_points, .ref a1_x, .ref a1_y, .ref a1_on, .ref a1_contour])), (a1_file, .inl (cy 1, 4096, .inl a1_file_f))] t.heap ∧ va_K (dC, dI) classes (TY cy) t ∧ va_D A [(a1, .inr (8, [.ref a1_file, .int a1_size, .ref a1_at, .ref a1_length, .int a1_units, .int a1_form, .int a1_glyphs, .int a1_ascent, .int a1_descent, .int a1_gap, .int a1_metrics, .int a1_map, .int a1_mapLength, .int a1_segments, .ref a1_done, .ref a1_depth, .ref a1_parts, .ref a1_contours, .ref a1_points, .ref a1_x, .ref a1_y, .ref a1_on, .ref a1_contour])), (a1_file, .inl (cy 1, 4096, .inl a1_file_f))]) A) args s 0 0 A) (F0 m 6 ls []) := by
    intro n
    induction n with
    | zero => intro x1 x2 x3 x4 x5 H locs ls h; cases h
    | succ n ih => intro x1 x2 x3 x4 x5 H locs ls h; exact w_Mo_sum_6b C0 a1 a1_file a1_at a1_length a1_done a1_depth a1_parts a1_contours a1_points a1_x a1_y a1_on a1_contour a1_size a1_units a1_form a1_glyphs a1_ascent a1_descent a1_gap a1_metrics a1_map a1_mapLength a1_segments a1_file_f a2 a3 a4 uu  (lp (L_Mo_sum_6 a1_file_f) n) ih x1 x2 x3 x4 x5 ((e_Mo_sum_6 a1_file_f n x1 x2 x3 x4 x5).symm.trans h)
  exact key fuel x1 x2 x3 x4 x5 H locs ls h
def P_Mo_sum (a1_file_f : Nat → Int32) (a2 : Int32) (a3 : Int32) (a4 : Int32) : Option (Int32) :=
  P_Mo_sum_6 a1_file_f a2 a3 a4 (0 : Int32) (0 : Int32)
set_option maxHeartbeats 4000000 in
set_option maxRecDepth 100000 in
theorem c_Mo_sum (l : Launch) (dC : Nat → ClassId) (dI : Nat → Nat → Nat) (cy : Nat → ClassId) (sz : Nat) (a1 : Nat) (a1_file : Nat) (a1_at : Nat) (a1_length : Nat) (a1_done : Nat) (a1_depth : Nat) (a1_parts : Nat) (a1_contours : Nat) (a1_points : Nat) (a1_x : Nat) (a1_y : Nat) (a1_on : Nat) (a1_contour : Nat) (a1_size : Int32) (a1_units : Int32) (a1_form : Int32) (a1_glyphs : Int32) (a1_ascent : Int32) (a1_descent : Int32) (a1_gap : Int32) (a1_metrics : Int32) (a1_map : Int32) (a1_mapLength : Int32) (a1_segments : Int32) (a1_file_f : Nat → Int32) (a2 : Int32) (a3 : Int32) (a4 : Int32) (uu : Int32) (h : P_Mo_sum a1_file_f a2 a3 a4 = some uu) : Met l y_Mo_sum (Cond.code y_Mo_sum b_Mo_sum 6 (some .int) :: G) ({ frames := 1, cells := 0, slots := 0, locals := 21 } : Room) (va_Pc [.ref a1, .int a2, .int a3, .int a4] (fun U => U.heap.size = sz ∧ va_P (dC, dI) classes [(a1, .inr (8, [.ref a1_file, .int a1_size, .ref a1_at, .ref a1_length, .int a1_units, .int a1_form, .int a1_glyphs, .int a1_ascent, .int a1_descent, .int a1_gap, .int a1_metrics, .int a1_map, .int a1_mapLength, .int a1_segments, .ref a1_done, .ref a1_depth, .ref a1_parts, .ref a1_contours, .ref a1_points, .ref a1_x, .ref a1_y, .ref a1_on, .ref a1_contour])), (a1_file, .inl (cy 1, 4096, .inl a1_file_f))] U.heap ∧ va_K (dC, dI) classes (TY cy) U ∧ va_D (fun _ => True) [(a1, .inr (8, [.ref a1_file, .int a1_size, .ref a1_at, .ref a1_length, .int a1_units, .int a1_form, .int a1_glyphs, .int a1_ascent, .int a1_descent, .int a1_gap, .int a1_metrics, .int a1_map, .int a1_mapLength, .int a1_segments, .ref a1_done, .ref a1_depth, .ref a1_parts, .ref a1_contours, .ref a1_points, .ref a1_x, .ref a1_y, .ref a1_on, .ref a1_contour])), (a1_file, .inl (cy 1, 4096, .inl a1_file_f))])) (va_Qi (fun r (_ : Unit) => r = uu) (fun _ t => va_P (dC, dI) classes [(a1, .inr (8, [.ref a1_file, .int a1_size, .ref a1_at, .ref a1_length, .int a1_units, .int a1_form, .int a1_glyphs, .int a1_ascent, .int a1_descent, .int a1_gap, .int a1_metrics, .int a1_map, .int a1_mapLength, .int a1_segments, .ref a1_done, .ref a1_depth, .ref a1_parts, .ref a1_contours, .ref a1_points, .ref a1_x, .ref a1_y, .ref a1_on, .ref a1_contour])), (a1_file, .inl (cy 1, 4096, .inl a1_file_f))] t.heap ∧ va_K (dC, dI) classes (TY cy) t ∧ va_D (va_A [(a1, .inr (8, [.ref a1_file, .int a1_size, .ref a1_at, .ref a1_length, .int a1_units, .int a1_form, .int a1_glyphs, .int a1_ascent, .int a1_descent, .int a1_gap, .int a1_metrics, .int a1_map, .int a1_mapLength, .int a1_segments, .ref a1_done, .ref a1_depth, .ref a1_parts, .ref a1_contours, .ref a1_points, .ref a1_x, .ref a1_y, .ref a1_on, .ref a1_contour])), (a1_file, .inl (cy 1, 4096, .inl a1_file_f))] sz) [(a1, .inr (8, [.ref a1_file, .int a1_size, .ref a1_at, .ref a1_length, .int a1_units, .int a1_form, .int a1_glyphs, .int a1_ascent, .int a1_descent, .int a1_gap, .int a1_metrics, .int a1_map, .int a1_mapLength, .int a1_segments, .ref a1_done, .ref a1_depth, .ref a1_parts, .ref a1_contours, .ref a1_points, .ref a1_x, .ref a1_y, .ref a1_on, .ref a1_contour])), (a1_file, .inl (cy 1, 4096, .inl a1_file_f))]) (va_A [(a1, .inr (8, [.ref a1_file, .int a1_size, .ref a1_at, .ref a1_length, .int a1_units, .int a1_form, .int a1_glyphs, .int a1_ascent, .int a1_descent, .int a1_gap, .int a1_metrics, .int a1_map, .int a1_mapLength, .int a1_segments, .ref a1_done, .ref a1_depth, .ref a1_parts, .ref a1_contours, .ref a1_points, .ref a1_x, .ref a1_y, .ref a1_on, .ref a1_contour])), (a1_file, .inl (cy 1, 4096, .inl a1_file_f))] sz)) 0 0 (va_A [(a1, .inr (8, [.ref a1_file, .int a1_size, .ref a1_at, .ref a1_length, .int a1_units, .int a1_form, .int a1_glyphs, .int a1_ascent, .int a1_descent, .int a1_gap, .int a1_metrics, .int a1_map, .int a1_mapLength, .int a1_segments, .ref a1_done, .ref a1_depth, .ref a1_parts, .ref a1_contours, .ref a1_points, .ref a1_x, .ref a1_y, .ref a1_on, .ref a1_contour])), (a1_file, .inl (cy 1, 4096, .inl a1_file_f))] sz) := by
  refine Met.ofW (cc := b_Mo_sum) (maxL := 6) (ret := (some .int)) (by decide) rfl ?_
  intro p e s m args below meth c s₁ B hml hv
  obtain ⟨rfl, hsz, hP, hK, hD0⟩ := hv
  have hx := B.exec
  have hb := B.bytes
  have hr := B.returns
  have hts := atoms_spec (ws := Cond.code y_Mo_sum b_Mo_sum 6 (some .int) :: G) B.pre
  have htsG : ∀ w ∈ G, w.before _ s = true := fun w hw => hts w (List.mem_cons_of_mem _ hw)
  have hown : s.vm.findClass "GlyphPageModel" = some m.cls := findClass_of_methodNamed B.named
  have hlocks := B.notSynchronized
  subst hsz
  have hD := hD0.self (sz := s.heap.size)
  generalize hAe : va_A [(a1, .inr (8, [.ref a1_file, .int a1_size, .ref a1_at, .ref a1_length, .int a1_units, .int a1_form, .int a1_glyphs, .int a1_ascent, .int a1_descent, .int a1_gap, .int a1_metrics, .int a1_map, .int a1_mapLength, .int a1_segments, .ref a1_done, .ref a1_depth, .ref a1_parts, .ref a1_contours, .ref a1_points, .ref a1_x, .ref a1_y, .ref a1_on, .ref a1_contour])), (a1_file, .inl (cy 1, 4096, .inl a1_file_f))] s.heap.size = A at hD ⊢
  have hA : ∀ q : Nat, s.heap.size ≤ q → A q := fun q h => by rw [← hAe]; exact Or.inr h
  have hS : va_S A s.heap s.heap [] := va_S.rf
  have hl := lv_entry ([.ref a1, .int a2, .int a3, .int a4]) (n := 6) (Nat.le_of_ble_eq_true rfl)
  rw [lg_entry_eq]
  generalize (lg_sl ([.ref a1, .int a2, .int a3, .int a4]) ++ List.replicate (6 - (lg_sl ([.ref a1, .int a2, .int a3, .int a4])).length) Slot.unset).toArray = ls at hl ⊢
  have hl : lv_has ls 6 [(0, .ref a1), (1, .int a2), (2, .int a3), (3, .int a4)] := hl
  have C0 : Cx p s m _ meth c A dC dI cy b_Mo_sum 6 (some .int) "GlyphPageModel" := ⟨hx, hb, hr, hlocks, hml, hown, htsG, hA, hK⟩
  unfold P_Mo_sum at h
  refine lv_iconst (v := (0 : Int32)) hx hb d_Mo_sum_0 (by decide) ?_
  refine lv_istore (lv' := [(4, .int (0 : Int32)), (0, .ref a1), (1, .int a2), (2, .int a3), (3, .int a4)]) hx hb d_Mo_sum_1 hl (by decide) rfl (fun ls hl => ?_)
  refine lv_iconst (v := (0 : Int32)) hx hb d_Mo_sum_3 (by decide) ?_
  refine lv_istore (lv' := [(5, .int (0 : Int32)), (4, .int (0 : Int32)), (0, .ref a1), (1, .int a2), (2, .int a3), (3, .int a4)]) hx hb d_Mo_sum_4 hl (by decide) rfl (fun ls hl => ?_)
  exact w_Mo_sum_6 C0 a1 a1_file a1_at a1_length a1_done a1_depth a1_parts a1_contours a1_points a1_x a1_y a1_on a1_contour a1_size a1_units a1_form a1_glyphs a1_ascent a1_descent a1_gap a1_metrics a1_map a1_mapLength a1_segments a1_file_f a2 a3 a4 uu  a2 a3 a4 (0 : Int32) (0 : Int32) h hP hD hS (lv_sub hl [2, 3, 4, 5, 1, 0] rfl)
def P_Mo_head (a1_units : Int32) (a1_form : Int32) (a1_file_f : Nat → Int32) (a1_at_f : Nat → Int32) (a1_length_f : Nat → Int32)  : Option (Int32 × Int32 × Int32) :=
  bd (2 : Int32) 8 <| if (a1_length_f (2 : Int32).toNatClampNeg) < (54 : Int32) then (some ((0 : Int32), a1_units, a1_form)) else (bd (2 : Int32) 8 <| (P_Mf_four a1_file_f ((a1_at_f (2 : Int32).toNatClampNeg) + (12 : Int32))).bind fun r_4 => if r_4 = (1594834165 : Int32) then (bd (2 : Int32) 8 <| (P_Mf_two a1_file_f ((a1_at_f (2 : Int32).toNatClampNeg) + (18 : Int32))).bind fun r_7 => bd (2 : Int32) 8 <| (P_Mf_two a1_file_f ((a1_at_f (2 : Int32).toNatClampNeg) + (50 : Int32))).bind fun r_9 => if r_7 < (16 : Int32) then (some ((0 : Int32), r_7, r_9)) else (if (16384 : Int32) < r_7 then (some ((0 : Int32), r_7, r_9)) else (if (1 : Int32) < r_9 then (some ((0 : Int32), r_7, r_9)) else (some ((1 : Int32), r_7, r_9))))) else (some ((0 : Int32), a1_units, a1_form)))
set_option maxHeartbeats 4000000 in
set_option maxRecDepth 100000 in
theorem c_Mo_head (l : Launch) (dC : Nat → ClassId) (dI : Nat → Nat → Nat) (cy : Nat → ClassId) (sz : Nat) (a1 : Nat) (a1_file : Nat) (a1_at : Nat) (a1_length : Nat) (a1_done : Nat) (a1_depth : Nat) (a1_parts : Nat) (a1_contours : Nat) (a1_points : Nat) (a1_x : Nat) (a1_y : Nat) (a1_on : Nat) (a1_contour : Nat) (a1_size : Int32) (a1_units : Int32) (a1_form : Int32) (a1_glyphs : Int32) (a1_ascent : Int32) (a1_descent : Int32) (a1_gap : Int32) (a1_metrics : Int32) (a1_map : Int32) (a1_mapLength : Int32) (a1_segments : Int32) (a1_file_f : Nat → Int32) (a1_at_f : Nat → Int32) (a1_length_f : Nat → Int32)  (uu : Int32 × Int32 × Int32) (h : P_Mo_head a1_units a1_form a1_file_f a1_at_f a1_length_f = some uu) : Met l y_Mo_head (Cond.code y_Mo_head b_Mo_head 1 (some .boolean) :: G) ({ frames := 2, cells := 0, slots := 0, locals := 42 } : Room) (va_Pc [.ref a1] (fun U => U.heap.size = sz ∧ va_P (dC, dI) classes [(a1, .inr (8, [.ref a1_file, .int a1_size, .ref a1_at, .ref a1_length, .int a1_units, .int a1_form, .int a1_glyphs, .int a1_ascent, .int a1_descent, .int a1_gap, .int a1_metrics, .int a1_map, .int a1_mapLength, .int a1_segments, .ref a1_done, .ref a1_depth, .ref a1_parts, .ref a1_contours, .ref a1_points, .ref a1_x, .ref a1_y, .ref a1_on, .ref a1_contour])), (a1_file, .inl (cy 1, 4096, .inl a1_file_f)), (a1_at, .inl (cy 0, 8, .inl a1_at_f)), (a1_length, .inl (cy 0, 8, .inl a1_length_f))] U.heap ∧ va_K (dC, dI) classes (TY cy) U ∧ va_D (fun _ => True) [(a1, .inr (8, [.ref a1_file, .int a1_size, .ref a1_at, .ref a1_length, .int a1_units, .int a1_form, .int a1_glyphs, .int a1_ascent, .int a1_descent, .int a1_gap, .int a1_metrics, .int a1_map, .int a1_mapLength, .int a1_segments, .ref a1_done, .ref a1_depth, .ref a1_parts, .ref a1_contours, .ref a1_points, .ref a1_x, .ref a1_y, .ref a1_on, .ref a1_contour])), (a1_file, .inl (cy 1, 4096, .inl a1_file_f)), (a1_at, .inl (cy 0, 8, .inl a1_at_f)), (a1_length, .inl (cy 0, 8, .inl a1_length_f))])) (va_Qi (fun r (_ : Unit) => r = uu.1) (fun _ t => va_P (dC, dI) classes [(a1, .inr (8, [.ref a1_file, .int a1_size, .ref a1_at, .ref a1_length, .int uu.2.1, .int uu.2.2, .int a1_glyphs, .int a1_ascent, .int a1_descent, .int a1_gap, .int a1_metrics, .int a1_map, .int a1_mapLength, .int a1_segments, .ref a1_done, .ref a1_depth, .ref a1_parts, .ref a1_contours, .ref a1_points, .ref a1_x, .ref a1_y, .ref a1_on, .ref a1_contour])), (a1_file, .inl (cy 1, 4096, .inl a1_file_f)), (a1_at, .inl (cy 0, 8, .inl a1_at_f)), (a1_length, .inl (cy 0, 8, .inl a1_length_f))] t.heap ∧ va_K (dC, dI) classes (TY cy) t ∧ va_D (va_A [(a1, .inr (8, [.ref a1_file, .int a1_size, .ref a1_at, .ref a1_length, .int a1_units, .int a1_form, .int a1_glyphs, .int a1_ascent, .int a1_descent, .int a1_gap, .int a1_metrics, .int a1_map, .int a1_mapLength, .int a1_segments, .ref a1_done, .ref a1_depth, .ref a1_parts, .ref a1_contours, .ref a1_points, .ref a1_x, .ref a1_y, .ref a1_on, .ref a1_contour])), (a1_file, .inl (cy 1, 4096, .inl a1_file_f)), (a1_at, .inl (cy 0, 8, .inl a1_at_f)), (a1_length, .inl (cy 0, 8, .inl a1_length_f))] sz) [(a1, .inr (8, [.ref a1_file, .int a1_size, .ref a1_at, .ref a1_length, .int uu.2.1, .int uu.2.2, .int a1_glyphs, .int a1_ascent, .int a1_descent, .int a1_gap, .int a1_metrics, .int a1_map, .int a1_mapLength, .int a1_segments, .ref a1_done, .ref a1_depth, .ref a1_parts, .ref a1_contours, .ref a1_points, .ref a1_x, .ref a1_y, .ref a1_on, .ref a1_contour])), (a1_file, .inl (cy 1, 4096, .inl a1_file_f)), (a1_at, .inl (cy 0, 8, .inl a1_at_f)), (a1_length, .inl (cy 0, 8, .inl a1_length_f))]) (va_A [(a1, .inr (8, [.ref a1_file, .int a1_size, .ref a1_at, .ref a1_length, .int a1_units, .int a1_form, .int a1_glyphs, .int a1_ascent, .int a1_descent, .int a1_gap, .int a1_metrics, .int a1_map, .int a1_mapLength, .int a1_segments, .ref a1_done, .ref a1_depth, .ref a1_parts, .ref a1_contours, .ref a1_points, .ref a1_x, .ref a1_y, .ref a1_on, .ref a1_contour])), (a1_file, .inl (cy 1, 4096, .inl a1_file_f)), (a1_at, .inl (cy 0, 8, .inl a1_at_f)), (a1_length, .inl (cy 0, 8, .inl a1_length_f))] sz)) 0 0 (va_A [(a1, .inr (8, [.ref a1_file, .int a1_size, .ref a1_at, .ref a1_length, .int a1_units, .int a1_form, .int a1_glyphs, .int a1_ascent, .int a1_descent, .int a1_gap, .int a1_metrics, .int a1_map, .int a1_mapLength, .int a1_segments, .ref a1_done, .ref a1_depth, .ref a1_parts, .ref a1_contours, .ref a1_points, .ref a1_x, .ref a1_y, .ref a1_on, .ref a1_contour])), (a1_file, .inl (cy 1, 4096, .inl a1_file_f)), (a1_at, .inl (cy 0, 8, .inl a1_at_f)), (a1_length, .inl (cy 0, 8, .inl a1_length_f))] sz) := by
  refine Met.ofW (cc := b_Mo_head) (maxL := 1) (ret := (some .boolean)) (by decide) rfl ?_
  intro p e s m args below meth c s₁ B hml hv
  obtain ⟨rfl, hsz, hP, hK, hD0⟩ := hv
  have hx := B.exec
  have hb := B.bytes
  have hr := B.returns
  have hts := atoms_spec (ws := Cond.code y_Mo_head b_Mo_head 1 (some .boolean) :: G) B.pre
  have htsG : ∀ w ∈ G, w.before _ s = true := fun w hw => hts w (List.mem_cons_of_mem _ hw)
  have hown : s.vm.findClass "GlyphPageModel" = some m.cls := findClass_of_methodNamed B.named
  have hlocks := B.notSynchronized
  subst hsz
  have hD := hD0.self (sz := s.heap.size)
  generalize hAe : va_A [(a1, .inr (8, [.ref a1_file, .int a1_size, .ref a1_at, .ref a1_length, .int a1_units, .int a1_form, .int a1_glyphs, .int a1_ascent, .int a1_descent, .int a1_gap, .int a1_metrics, .int a1_map, .int a1_mapLength, .int a1_segments, .ref a1_done, .ref a1_depth, .ref a1_parts, .ref a1_contours, .ref a1_points, .ref a1_x, .ref a1_y, .ref a1_on, .ref a1_contour])), (a1_file, .inl (cy 1, 4096, .inl a1_file_f)), (a1_at, .inl (cy 0, 8, .inl a1_at_f)), (a1_length, .inl (cy 0, 8, .inl a1_length_f))] s.heap.size = A at hD ⊢
  have hA : ∀ q : Nat, s.heap.size ≤ q → A q := fun q h => by rw [← hAe]; exact Or.inr h
  have hS : va_S A s.heap s.heap [] := va_S.rf
  have hl := lv_entry ([.ref a1]) (n := 1) (Nat.le_of_ble_eq_true rfl)
  rw [lg_entry_eq]
  generalize (lg_sl ([.ref a1]) ++ List.replicate (1 - (lg_sl ([.ref a1])).length) Slot.unset).toArray = ls at hl ⊢
  have hl : lv_has ls 1 [(0, .ref a1)] := hl
  have C0 : Cx p s m _ meth c A dC dI cy b_Mo_head 1 (some .boolean) "GlyphPageModel" := ⟨hx, hb, hr, hlocks, hml, hown, htsG, hA, hK⟩
  unfold P_Mo_head at h
  refine lv_aload_n hx hb d_Mo_head_0 rfl (lv_at hl 0 rfl) ?_
  refine va_get (D := (dC, dI)) (ci := 8) (v := .ref a1_length) (C := "GlyphPageModel$Font") (T := F_Mf) (N := 23) hx hb htsG iG_Mf hown hK hP 0 rfl rfl 3 (by decide) (htsG _ mW780) (fun _ h9 => h9) rfl d_Mo_head_1 ?_
  refine lv_iconst (v := (2 : Int32)) hx hb d_Mo_head_4 (by decide) ?_
  obtain ⟨hin_1, h⟩ := bd_some h
  refine va_iald hx hb hK hP 3 0 rfl rfl hin_1 d_Mo_head_5 ?_
  refine lv_bipush (v := (54 : Int32)) hx hb d_Mo_head_6 (by decide) ?_
  refine lv_icmp_lt (tgt := 29) hx hb d_Mo_head_8 (by decide) (fun c_2 => ?_) (fun c_2 => ?_)
  · replace h := (if_pos c_2).symm.trans h
    refine lv_iconst (v := (0 : Int32)) hx hb d_Mo_head_29 (by decide) ?_
    cases h
    exact W.zret (ty := .boolean) hx hb hr rfl (fun t ht hW => ⟨⟨_, (), rfl, rfl, by rw [ht]; exact hP, va_K.moved hW.alike hK, hD⟩, hS.F ht⟩) hS.2.2 d_Mo_head_30 hlocks
  · replace h := (if_neg c_2).symm.trans h
    refine lv_aload_n hx hb d_Mo_head_11 rfl (lv_at hl 0 rfl) ?_
    refine lv_aload_n hx hb d_Mo_head_12 rfl (lv_at hl 0 rfl) ?_
    refine va_get (D := (dC, dI)) (ci := 8) (v := .ref a1_at) (C := "GlyphPageModel$Font") (T := F_Mf) (N := 23) hx hb htsG iG_Mf hown hK hP 0 rfl rfl 2 (by decide) (htsG _ mW778) (fun _ h9 => h9) rfl d_Mo_head_13 ?_
    refine lv_iconst (v := (2 : Int32)) hx hb d_Mo_head_16 (by decide) ?_
    obtain ⟨hin_3, h⟩ := bd_some h
    refine va_iald hx hb hK hP 2 0 rfl rfl hin_3 d_Mo_head_17 ?_
    refine lv_bipush (v := (12 : Int32)) hx hb d_Mo_head_18 (by decide) ?_
    refine lv_iadd hx hb d_Mo_head_20 ?_
    obtain ⟨r_4, hq, h⟩ := Option.bind_eq_some_iff.mp h
    try dsimp only at h
    have hPc := hP.sub (ws' := [(a1, .inr (8, [.ref a1_file, .int a1_size, .ref a1_at, .ref a1_length, .int a1_units, .int a1_form, .int a1_glyphs, .int a1_ascent, .int a1_descent, .int a1_gap, .int a1_metrics, .int a1_map, .int a1_mapLength, .int a1_segments, .ref a1_done, .ref a1_depth, .ref a1_parts, .ref a1_contours, .ref a1_points, .ref a1_x, .ref a1_y, .ref a1_on, .ref a1_contour])), (a1_file, .inl (cy 1, 4096, .inl a1_file_f))]) [0, 1] rfl
    have hDc := hD.sub (ws' := [(a1, .inr (8, [.ref a1_file, .int a1_size, .ref a1_at, .ref a1_length, .int a1_units, .int a1_form, .int a1_glyphs, .int a1_ascent, .int a1_descent, .int a1_gap, .int a1_metrics, .int a1_map, .int a1_mapLength, .int a1_segments, .ref a1_done, .ref a1_depth, .ref a1_parts, .ref a1_contours, .ref a1_points, .ref a1_x, .ref a1_y, .ref a1_on, .ref a1_contour])), (a1_file, .inl (cy 1, 4096, .inl a1_file_f))]) [0, 1] (by decide) rfl
    have hFc := va_free (wc := [(a1, .inr (8, [.ref a1_file, .int a1_size, .ref a1_at, .ref a1_length, .int a1_units, .int a1_form, .int a1_glyphs, .int a1_ascent, .int a1_descent, .int a1_gap, .int a1_metrics, .int a1_map, .int a1_mapLength, .int a1_segments, .ref a1_done, .ref a1_depth, .ref a1_parts, .ref a1_contours, .ref a1_points, .ref a1_x, .ref a1_y, .ref a1_on, .ref a1_contour])), (a1_file, .inl (cy 1, 4096, .inl a1_file_f))]) hD hS hA [0, 1] rfl
    refine va_calli (va_runV (As := [.int ((a1_at_f (2 : Int32).toNatClampNeg) + (12 : Int32))]) (rest := []) ⟨hx, hb, hml, hown, htsG⟩ (c_Mf_four l dC dI cy s.heap.size a1 a1_file a1_at a1_length a1_done a1_depth a1_parts a1_contours a1_points a1_x a1_y a1_on a1_contour a1_size a1_units a1_form a1_glyphs a1_ascent a1_descent a1_gap a1_metrics a1_map a1_mapLength a1_segments a1_file_f ((a1_at_f (2 : Int32).toNatClampNeg) + (12 : Int32)) r_4 hq) (cwV 1 htsG (gV mW942 mW943 mW944 mW10 mW945) rfl rfl rfl (by decide +kernel) ⟨Nat.le_of_ble_eq_true rfl, Nat.le_of_ble_eq_true rfl⟩) ⟨fun a U g mk q => by obtain ⟨q0, q1, qP, qK, qD⟩ := q; exact ⟨q0, q1, qP, va_K.moved (u := U) (U := U.calling g mk a) (Vm.Alike.refl U.vm) qK, qD⟩, va_recv hK hPc (ci := 8) (q0 := 0) rfl rfl, fun U hU hW => ⟨rfl, by rw [hU], by rw [hU]; exact hPc, va_K.moved hW.alike hK, hDc.weaken (fun _ _ _ _ => trivial)⟩⟩ rfl rfl hl.1 rfl (lv_room (Nat.le_of_ble_eq_true rfl)) d_Mo_head_21 ⟨Nat.le_of_ble_eq_true rfl, Nat.le_of_ble_eq_true rfl⟩) hS (fun q _ h => hFc q h) hFc (fun rr u t H1 locs ht hvm hw hB hz1 hk1 hS => ?_)
    obtain ⟨hP1, hK1, hD1⟩ := hB
    rw [ht] at hP1
    replace hw : r_4 = rr := hw.symm
    subst hw
    obtain ⟨hP, hD⟩ := va_join (wr := [(a1_at, .inl (cy 0, 8, .inl a1_at_f)), (a1_length, .inl (cy 0, 8, .inl a1_length_f))]) (w1 := [(a1, .inr (8, [.ref a1_file, .int a1_size, .ref a1_at, .ref a1_length, .int a1_units, .int a1_form, .int a1_glyphs, .int a1_ascent, .int a1_descent, .int a1_gap, .int a1_metrics, .int a1_map, .int a1_mapLength, .int a1_segments, .ref a1_done, .ref a1_depth, .ref a1_parts, .ref a1_contours, .ref a1_points, .ref a1_x, .ref a1_y, .ref a1_on, .ref a1_contour])), (a1_file, .inl (cy 1, 4096, .inl a1_file_f))]) hP hD [0, 1] [2, 3] rfl rfl (by decide) (by decide) hk1 hFc hP1 hD1
    generalize H1 = H at hP hS ⊢
    have hP := hP.sub (ws' := [(a1, .inr (8, [.ref a1_file, .int a1_size, .ref a1_at, .ref a1_length, .int a1_units, .int a1_form, .int a1_glyphs, .int a1_ascent, .int a1_descent, .int a1_gap, .int a1_metrics, .int a1_map, .int a1_mapLength, .int a1_segments, .ref a1_done, .ref a1_depth, .ref a1_parts, .ref a1_contours, .ref a1_points, .ref a1_x, .ref a1_y, .ref a1_on, .ref a1_contour])), (a1_file, .inl (cy 1, 4096, .inl a1_file_f)), (a1_at, .inl (cy 0, 8, .inl a1_at_f)), (a1_length, .inl (cy 0, 8, .inl a1_length_f))]) [2, 3, 0, 1] rfl
    have hD := hD.sub (ws' := [(a1, .inr (8, [.ref a1_file, .int a1_size, .ref a1_at, .ref a1_length, .int a1_units, .int a1_form, .int a1_glyphs, .int a1_ascent, .int a1_descent, .int a1_gap, .int a1_metrics, .int a1_map, .int a1_mapLength, .int a1_segments, .ref a1_done, .ref a1_depth, .ref a1_parts, .ref a1_contours, .ref a1_points, .ref a1_x, .ref a1_y, .ref a1_on, .ref a1_contour])), (a1_file, .inl (cy 1, 4096, .inl a1_file_f)), (a1_at, .inl (cy 0, 8, .inl a1_at_f)), (a1_length, .inl (cy 0, 8, .inl a1_length_f))]) [2, 3, 0, 1] (by decide) rfl
    refine W.widen (k := 0) (n := 0) (by decide) (by decide) ?_
    refine lv_ldc hx hb hown (htsG _ mW969) d_Mo_head_24 ?_
    refine lv_icmp_eq (tgt := 31) hx hb d_Mo_head_26 (by decide) (fun c_5 => ?_) (fun c_5 => ?_)
    · replace h := (if_pos c_5).symm.trans h
      refine lv_aload_n hx hb d_Mo_head_31 rfl (lv_at hl 0 rfl) ?_
      refine lv_aload_n hx hb d_Mo_head_32 rfl (lv_at hl 0 rfl) ?_
      refine lv_aload_n hx hb d_Mo_head_33 rfl (lv_at hl 0 rfl) ?_
      refine va_get (D := (dC, dI)) (ci := 8) (v := .ref a1_at) (C := "GlyphPageModel$Font") (T := F_Mf) (N := 23) hx hb htsG iG_Mf hown hK hP 0 rfl rfl 2 (by decide) (htsG _ mW778) (fun _ h9 => h9) rfl d_Mo_head_34 ?_
      refine lv_iconst (v := (2 : Int32)) hx hb d_Mo_head_37 (by decide) ?_
      obtain ⟨hin_6, h⟩ := bd_some h
      refine va_iald hx hb hK hP 2 0 rfl rfl hin_6 d_Mo_head_38 ?_
      refine lv_bipush (v := (18 : Int32)) hx hb d_Mo_head_39 (by decide) ?_
      refine lv_iadd hx hb d_Mo_head_41 ?_
      obtain ⟨r_7, hq, h⟩ := Option.bind_eq_some_iff.mp h
      try dsimp only at h
      have hPc := hP.sub (ws' := [(a1, .inr (8, [.ref a1_file, .int a1_size, .ref a1_at, .ref a1_length, .int a1_units, .int a1_form, .int a1_glyphs, .int a1_ascent, .int a1_descent, .int a1_gap, .int a1_metrics, .int a1_map, .int a1_mapLength, .int a1_segments, .ref a1_done, .ref a1_depth, .ref a1_parts, .ref a1_contours, .ref a1_points, .ref a1_x, .ref a1_y, .ref a1_on, .ref a1_contour])), (a1_file, .inl (cy 1, 4096, .inl a1_file_f))]) [0, 1] rfl
      have hDc := hD.sub (ws' := [(a1, .inr (8, [.ref a1_file, .int a1_size, .ref a1_at, .ref a1_length, .int a1_units, .int a1_form, .int a1_glyphs, .int a1_ascent, .int a1_descent, .int a1_gap, .int a1_metrics, .int a1_map, .int a1_mapLength, .int a1_segments, .ref a1_done, .ref a1_depth, .ref a1_parts, .ref a1_contours, .ref a1_points, .ref a1_x, .ref a1_y, .ref a1_on, .ref a1_contour])), (a1_file, .inl (cy 1, 4096, .inl a1_file_f))]) [0, 1] (by decide) rfl
      have hFc := va_free (wc := [(a1, .inr (8, [.ref a1_file, .int a1_size, .ref a1_at, .ref a1_length, .int a1_units, .int a1_form, .int a1_glyphs, .int a1_ascent, .int a1_descent, .int a1_gap, .int a1_metrics, .int a1_map, .int a1_mapLength, .int a1_segments, .ref a1_done, .ref a1_depth, .ref a1_parts, .ref a1_contours, .ref a1_points, .ref a1_x, .ref a1_y, .ref a1_on, .ref a1_contour])), (a1_file, .inl (cy 1, 4096, .inl a1_file_f))]) hD hS hA [0, 1] rfl
      refine va_calli (va_runV (As := [.int ((a1_at_f (2 : Int32).toNatClampNeg) + (18 : Int32))]) (rest := [.ref a1]) ⟨hx, hb, hml, hown, htsG⟩ (c_Mf_two l dC dI cy H.size a1 a1_file a1_at a1_length a1_done a1_depth a1_parts a1_contours a1_points a1_x a1_y a1_on a1_contour a1_size a1_units a1_form a1_glyphs a1_ascent a1_descent a1_gap a1_metrics a1_map a1_mapLength a1_segments a1_file_f ((a1_at_f (2 : Int32).toNatClampNeg) + (18 : Int32)) r_7 hq) (cwV 1 htsG (gV mW951 mW947 mW948 mW10 mW949) rfl rfl rfl (by decide +kernel) ⟨Nat.le_of_ble_eq_true rfl, Nat.le_of_ble_eq_true rfl⟩) ⟨fun a U g mk q => by obtain ⟨q0, q1, qP, qK, qD⟩ := q; exact ⟨q0, q1, qP, va_K.moved (u := U) (U := U.calling g mk a) (Vm.Alike.refl U.vm) qK, qD⟩, va_recv hK hPc (ci := 8) (q0 := 0) rfl rfl, fun U hU hW => ⟨rfl, by rw [hU], by rw [hU]; exact hPc, va_K.moved hW.alike hK, hDc.weaken (fun _ _ _ _ => trivial)⟩⟩ rfl rfl hl.1 rfl (lv_room (Nat.le_of_ble_eq_true rfl)) d_Mo_head_42 ⟨Nat.le_of_ble_eq_true rfl, Nat.le_of_ble_eq_true rfl⟩) hS (fun q _ h => hFc q h) hFc (fun rr u t H1 locs ht hvm hw hB hz1 hk1 hS => ?_)
      obtain ⟨hP1, hK1, hD1⟩ := hB
      rw [ht] at hP1
      replace hw : r_7 = rr := hw.symm
      subst hw
      obtain ⟨hP, hD⟩ := va_join (wr := [(a1_at, .inl (cy 0, 8, .inl a1_at_f)), (a1_length, .inl (cy 0, 8, .inl a1_length_f))]) (w1 := [(a1, .inr (8, [.ref a1_file, .int a1_size, .ref a1_at, .ref a1_length, .int a1_units, .int a1_form, .int a1_glyphs, .int a1_ascent, .int a1_descent, .int a1_gap, .int a1_metrics, .int a1_map, .int a1_mapLength, .int a1_segments, .ref a1_done, .ref a1_depth, .ref a1_parts, .ref a1_contours, .ref a1_points, .ref a1_x, .ref a1_y, .ref a1_on, .ref a1_contour])), (a1_file, .inl (cy 1, 4096, .inl a1_file_f))]) hP hD [0, 1] [2, 3] rfl rfl (by decide) (by decide) hk1 hFc hP1 hD1
      generalize H1 = H at hP hS ⊢
      have hP := hP.sub (ws' := [(a1, .inr (8, [.ref a1_file, .int a1_size, .ref a1_at, .ref a1_length, .int a1_units, .int a1_form, .int a1_glyphs, .int a1_ascent, .int a1_descent, .int a1_gap, .int a1_metrics, .int a1_map, .int a1_mapLength, .int a1_segments, .ref a1_done, .ref a1_depth, .ref a1_parts, .ref a1_contours, .ref a1_points, .ref a1_x, .ref a1_y, .ref a1_on, .ref a1_contour])), (a1_file, .inl (cy 1, 4096, .inl a1_file_f)), (a1_at, .inl (cy 0, 8, .inl a1_at_f)), (a1_length, .inl (cy 0, 8, .inl a1_length_f))]) [2, 3, 0, 1] rfl
      have hD := hD.sub (ws' := [(a1, .inr (8, [.ref a1_file, .int a1_size, .ref a1_at, .ref a1_length, .int a1_units, .int a1_form, .int a1_glyphs, .int a1_ascent, .int a1_descent, .int a1_gap, .int a1_metrics, .int a1_map, .int a1_mapLength, .int a1_segments, .ref a1_done, .ref a1_depth, .ref a1_parts, .ref a1_contours, .ref a1_points, .ref a1_x, .ref a1_y, .ref a1_on, .ref a1_contour])), (a1_file, .inl (cy 1, 4096, .inl a1_file_f)), (a1_at, .inl (cy 0, 8, .inl a1_at_f)), (a1_length, .inl (cy 0, 8, .inl a1_length_f))]) [2, 3, 0, 1] (by decide) rfl
      refine W.widen (k := 0) (n := 0) (by decide) (by decide) ?_
      refine va_put (D := (dC, dI)) (ci := 8) (v := .int r_7) (ty := .int) (C := "GlyphPageModel$Font") (T := F_Mf) (N := 23) hx hb htsG iG_Mf t_Mf t_Mf_ok n_Mf hown hK hP hD hS 0 rfl rfl 4 (by decide) (htsG _ mW781) (fun _ h9 => h9) rfl (by decide +kernel) rfl rfl (Nat.le_of_ble_eq_true rfl) d_Mo_head_45 (fun H locs hP hD hS => ?_)
      have hP : va_P (dC, dI) classes [(a1, .inr (8, [.ref a1_file, .int a1_size, .ref a1_at, .ref a1_length, .int r_7, .int a1_form, .int a1_glyphs, .int a1_ascent, .int a1_descent, .int a1_gap, .int a1_metrics, .int a1_map, .int a1_mapLength, .int a1_segments, .ref a1_done, .ref a1_depth, .ref a1_parts, .ref a1_contours, .ref a1_points, .ref a1_x, .ref a1_y, .ref a1_on, .ref a1_contour])), (a1_file, .inl (cy 1, 4096, .inl a1_file_f)), (a1_at, .inl (cy 0, 8, .inl a1_at_f)), (a1_length, .inl (cy 0, 8, .inl a1_length_f))] H := hP
      have hD : va_D A [(a1, .inr (8, [.ref a1_file, .int a1_size, .ref a1_at, .ref a1_length, .int r_7, .int a1_form, .int a1_glyphs, .int a1_ascent, .int a1_descent, .int a1_gap, .int a1_metrics, .int a1_map, .int a1_mapLength, .int a1_segments, .ref a1_done, .ref a1_depth, .ref a1_parts, .ref a1_contours, .ref a1_points, .ref a1_x, .ref a1_y, .ref a1_on, .ref a1_contour])), (a1_file, .inl (cy 1, 4096, .inl a1_file_f)), (a1_at, .inl (cy 0, 8, .inl a1_at_f)), (a1_length, .inl (cy 0, 8, .inl a1_length_f))] := hD
      refine lv_aload_n hx hb d_Mo_head_48 rfl (lv_at hl 0 rfl) ?_
      refine lv_aload_n hx hb d_Mo_head_49 rfl (lv_at hl 0 rfl) ?_
      refine lv_aload_n hx hb d_Mo_head_50 rfl (lv_at hl 0 rfl) ?_
      refine va_get (D := (dC, dI)) (ci := 8) (v := .ref a1_at) (C := "GlyphPageModel$Font") (T := F_Mf) (N := 23) hx hb htsG iG_Mf hown hK hP 0 rfl rfl 2 (by decide) (htsG _ mW778) (fun _ h9 => h9) rfl d_Mo_head_51 ?_
      refine lv_iconst (v := (2 : Int32)) hx hb d_Mo_head_54 (by decide) ?_
      obtain ⟨hin_8, h⟩ := bd_some h
      refine va_iald hx hb hK hP 2 0 rfl rfl hin_8 d_Mo_head_55 ?_
      refine lv_bipush (v := (50 : Int32)) hx hb d_Mo_head_56 (by decide) ?_
      refine lv_iadd hx hb d_Mo_head_58 ?_
      obtain ⟨r_9, hq, h⟩ := Option.bind_eq_some_iff.mp h
      try dsimp only at h
      have hPc := hP.sub (ws' := [(a1, .inr (8, [.ref a1_file, .int a1_size, .ref a1_at, .ref a1_length, .int r_7, .int a1_form, .int a1_glyphs, .int a1_ascent, .int a1_descent, .int a1_gap, .int a1_metrics, .int a1_map, .int a1_mapLength, .int a1_segments, .ref a1_done, .ref a1_depth, .ref a1_parts, .ref a1_contours, .ref a1_points, .ref a1_x, .ref a1_y, .ref a1_on, .ref a1_contour])), (a1_file, .inl (cy 1, 4096, .inl a1_file_f))]) [0, 1] rfl
      have hDc := hD.sub (ws' := [(a1, .inr (8, [.ref a1_file, .int a1_size, .ref a1_at, .ref a1_length, .int r_7, .int a1_form, .int a1_glyphs, .int a1_ascent, .int a1_descent, .int a1_gap, .int a1_metrics, .int a1_map, .int a1_mapLength, .int a1_segments, .ref a1_done, .ref a1_depth, .ref a1_parts, .ref a1_contours, .ref a1_points, .ref a1_x, .ref a1_y, .ref a1_on, .ref a1_contour])), (a1_file, .inl (cy 1, 4096, .inl a1_file_f))]) [0, 1] (by decide) rfl
      have hFc := va_free (wc := [(a1, .inr (8, [.ref a1_file, .int a1_size, .ref a1_at, .ref a1_length, .int r_7, .int a1_form, .int a1_glyphs, .int a1_ascent, .int a1_descent, .int a1_gap, .int a1_metrics, .int a1_map, .int a1_mapLength, .int a1_segments, .ref a1_done, .ref a1_depth, .ref a1_parts, .ref a1_contours, .ref a1_points, .ref a1_x, .ref a1_y, .ref a1_on, .ref a1_contour])), (a1_file, .inl (cy 1, 4096, .inl a1_file_f))]) hD hS hA [0, 1] rfl
      refine va_calli (va_runV (As := [.int ((a1_at_f (2 : Int32).toNatClampNeg) + (50 : Int32))]) (rest := [.ref a1]) ⟨hx, hb, hml, hown, htsG⟩ (c_Mf_two l dC dI cy H.size a1 a1_file a1_at a1_length a1_done a1_depth a1_parts a1_contours a1_points a1_x a1_y a1_on a1_contour a1_size r_7 a1_form a1_glyphs a1_ascent a1_descent a1_gap a1_metrics a1_map a1_mapLength a1_segments a1_file_f ((a1_at_f (2 : Int32).toNatClampNeg) + (50 : Int32)) r_9 hq) (cwV 1 htsG (gV mW951 mW947 mW948 mW10 mW949) rfl rfl rfl (by decide +kernel) ⟨Nat.le_of_ble_eq_true rfl, Nat.le_of_ble_eq_true rfl⟩) ⟨fun a U g mk q => by obtain ⟨q0, q1, qP, qK, qD⟩ := q; exact ⟨q0, q1, qP, va_K.moved (u := U) (U := U.calling g mk a) (Vm.Alike.refl U.vm) qK, qD⟩, va_recv hK hPc (ci := 8) (q0 := 0) rfl rfl, fun U hU hW => ⟨rfl, by rw [hU], by rw [hU]; exact hPc, va_K.moved hW.alike hK, hDc.weaken (fun _ _ _ _ => trivial)⟩⟩ rfl rfl hl.1 rfl (lv_room (Nat.le_of_ble_eq_true rfl)) d_Mo_head_59 ⟨Nat.le_of_ble_eq_true rfl, Nat.le_of_ble_eq_true rfl⟩) hS (fun q _ h => hFc q h) hFc (fun rr u t H1 locs ht hvm hw hB hz1 hk1 hS => ?_)
      obtain ⟨hP1, hK1, hD1⟩ := hB
      rw [ht] at hP1
      replace hw : r_9 = rr := hw.symm
      subst hw
      obtain ⟨hP, hD⟩ := va_join (wr := [(a1_at, .inl (cy 0, 8, .inl a1_at_f)), (a1_length, .inl (cy 0, 8, .inl a1_length_f))]) (w1 := [(a1, .inr (8, [.ref a1_file, .int a1_size, .ref a1_at, .ref a1_length, .int r_7, .int a1_form, .int a1_glyphs, .int a1_ascent, .int a1_descent, .int a1_gap, .int a1_metrics, .int a1_map, .int a1_mapLength, .int a1_segments, .ref a1_done, .ref a1_depth, .ref a1_parts, .ref a1_contours, .ref a1_points, .ref a1_x, .ref a1_y, .ref a1_on, .ref a1_contour])), (a1_file, .inl (cy 1, 4096, .inl a1_file_f))]) hP hD [0, 1] [2, 3] rfl rfl (by decide) (by decide) hk1 hFc hP1 hD1
      generalize H1 = H at hP hS ⊢
      have hP := hP.sub (ws' := [(a1, .inr (8, [.ref a1_file, .int a1_size, .ref a1_at, .ref a1_length, .int r_7, .int a1_form, .int a1_glyphs, .int a1_ascent, .int a1_descent, .int a1_gap, .int a1_metrics, .int a1_map, .int a1_mapLength, .int a1_segments, .ref a1_done, .ref a1_depth, .ref a1_parts, .ref a1_contours, .ref a1_points, .ref a1_x, .ref a1_y, .ref a1_on, .ref a1_contour])), (a1_file, .inl (cy 1, 4096, .inl a1_file_f)), (a1_at, .inl (cy 0, 8, .inl a1_at_f)), (a1_length, .inl (cy 0, 8, .inl a1_length_f))]) [2, 3, 0, 1] rfl
      have hD := hD.sub (ws' := [(a1, .inr (8, [.ref a1_file, .int a1_size, .ref a1_at, .ref a1_length, .int r_7, .int a1_form, .int a1_glyphs, .int a1_ascent, .int a1_descent, .int a1_gap, .int a1_metrics, .int a1_map, .int a1_mapLength, .int a1_segments, .ref a1_done, .ref a1_depth, .ref a1_parts, .ref a1_contours, .ref a1_points, .ref a1_x, .ref a1_y, .ref a1_on, .ref a1_contour])), (a1_file, .inl (cy 1, 4096, .inl a1_file_f)), (a1_at, .inl (cy 0, 8, .inl a1_at_f)), (a1_length, .inl (cy 0, 8, .inl a1_length_f))]) [2, 3, 0, 1] (by decide) rfl
      refine W.widen (k := 0) (n := 0) (by decide) (by decide) ?_
      refine va_put (D := (dC, dI)) (ci := 8) (v := .int r_9) (ty := .int) (C := "GlyphPageModel$Font") (T := F_Mf) (N := 23) hx hb htsG iG_Mf t_Mf t_Mf_ok n_Mf hown hK hP hD hS 0 rfl rfl 5 (by decide) (htsG _ mW782) (fun _ h9 => h9) rfl (by decide +kernel) rfl rfl (Nat.le_of_ble_eq_true rfl) d_Mo_head_62 (fun H locs hP hD hS => ?_)
      have hP : va_P (dC, dI) classes [(a1, .inr (8, [.ref a1_file, .int a1_size, .ref a1_at, .ref a1_length, .int r_7, .int r_9, .int a1_glyphs, .int a1_ascent, .int a1_descent, .int a1_gap, .int a1_metrics, .int a1_map, .int a1_mapLength, .int a1_segments, .ref a1_done, .ref a1_depth, .ref a1_parts, .ref a1_contours, .ref a1_points, .ref a1_x, .ref a1_y, .ref a1_on, .ref a1_contour])), (a1_file, .inl (cy 1, 4096, .inl a1_file_f)), (a1_at, .inl (cy 0, 8, .inl a1_at_f)), (a1_length, .inl (cy 0, 8, .inl a1_length_f))] H := hP
      have hD : va_D A [(a1, .inr (8, [.ref a1_file, .int a1_size, .ref a1_at, .ref a1_length, .int r_7, .int r_9, .int a1_glyphs, .int a1_ascent, .int a1_descent, .int a1_gap, .int a1_metrics, .int a1_map, .int a1_mapLength, .int a1_segments, .ref a1_done, .ref a1_depth, .ref a1_parts, .ref a1_contours, .ref a1_points, .ref a1_x, .ref a1_y, .ref a1_on, .ref a1_contour])), (a1_file, .inl (cy 1, 4096, .inl a1_file_f)), (a1_at, .inl (cy 0, 8, .inl a1_at_f)), (a1_length, .inl (cy 0, 8, .inl a1_length_f))] := hD
      refine lv_aload_n hx hb d_Mo_head_65 rfl (lv_at hl 0 rfl) ?_
      refine va_get (D := (dC, dI)) (ci := 8) (v := .int r_7) (C := "GlyphPageModel$Font") (T := F_Mf) (N := 23) hx hb htsG iG_Mf hown hK hP 0 rfl rfl 4 (by decide) (htsG _ mW781) (fun _ h9 => h9) rfl d_Mo_head_66 ?_
      refine lv_bipush (v := (16 : Int32)) hx hb d_Mo_head_69 (by decide) ?_
      refine lv_icmp_lt (tgt := 96) hx hb d_Mo_head_71 (by decide) (fun c_10 => ?_) (fun c_10 => ?_)
      · replace h := (if_pos c_10).symm.trans h
        refine lv_iconst (v := (0 : Int32)) hx hb d_Mo_head_96 (by decide) ?_
        cases h
        exact W.zret (ty := .boolean) hx hb hr rfl (fun t ht hW => ⟨⟨_, (), rfl, rfl, by rw [ht]; exact hP, va_K.moved hW.alike hK, hD⟩, hS.F ht⟩) hS.2.2 d_Mo_head_97 hlocks
      · replace h := (if_neg c_10).symm.trans h
        refine lv_aload_n hx hb d_Mo_head_74 rfl (lv_at hl 0 rfl) ?_
        refine va_get (D := (dC, dI)) (ci := 8) (v := .int r_7) (C := "GlyphPageModel$Font") (T := F_Mf) (N := 23) hx hb htsG iG_Mf hown hK hP 0 rfl rfl 4 (by decide) (htsG _ mW781) (fun _ h9 => h9) rfl d_Mo_head_75 ?_
        refine lv_sipush (v := (16384 : Int32)) hx hb d_Mo_head_78 (by decide) ?_
        refine lv_icmp_gt (tgt := 96) hx hb d_Mo_head_81 (by decide) (fun c_11 => ?_) (fun c_11 => ?_)
        · replace h := (if_pos c_11).symm.trans h
          refine lv_iconst (v := (0 : Int32)) hx hb d_Mo_head_96 (by decide) ?_
          cases h
          exact W.zret (ty := .boolean) hx hb hr rfl (fun t ht hW => ⟨⟨_, (), rfl, rfl, by rw [ht]; exact hP, va_K.moved hW.alike hK, hD⟩, hS.F ht⟩) hS.2.2 d_Mo_head_97 hlocks
        · replace h := (if_neg c_11).symm.trans h
          refine lv_aload_n hx hb d_Mo_head_84 rfl (lv_at hl 0 rfl) ?_
          refine va_get (D := (dC, dI)) (ci := 8) (v := .int r_9) (C := "GlyphPageModel$Font") (T := F_Mf) (N := 23) hx hb htsG iG_Mf hown hK hP 0 rfl rfl 5 (by decide) (htsG _ mW782) (fun _ h9 => h9) rfl d_Mo_head_85 ?_
          refine lv_iconst (v := (1 : Int32)) hx hb d_Mo_head_88 (by decide) ?_
          refine lv_icmp_gt (tgt := 96) hx hb d_Mo_head_89 (by decide) (fun c_12 => ?_) (fun c_12 => ?_)
          · replace h := (if_pos c_12).symm.trans h
            refine lv_iconst (v := (0 : Int32)) hx hb d_Mo_head_96 (by decide) ?_
            cases h
            exact W.zret (ty := .boolean) hx hb hr rfl (fun t ht hW => ⟨⟨_, (), rfl, rfl, by rw [ht]; exact hP, va_K.moved hW.alike hK, hD⟩, hS.F ht⟩) hS.2.2 d_Mo_head_97 hlocks
          · replace h := (if_neg c_12).symm.trans h
            refine lv_iconst (v := (1 : Int32)) hx hb d_Mo_head_92 (by decide) ?_
            refine lv_goto (tgt := 97) hx hb d_Mo_head_93 (by decide) ?_
            cases h
            exact W.zret (ty := .boolean) hx hb hr rfl (fun t ht hW => ⟨⟨_, (), rfl, rfl, by rw [ht]; exact hP, va_K.moved hW.alike hK, hD⟩, hS.F ht⟩) hS.2.2 d_Mo_head_97 hlocks
    · replace h := (if_neg c_5).symm.trans h
      refine lv_iconst (v := (0 : Int32)) hx hb d_Mo_head_29 (by decide) ?_
      cases h
      exact W.zret (ty := .boolean) hx hb hr rfl (fun t ht hW => ⟨⟨_, (), rfl, rfl, by rw [ht]; exact hP, va_K.moved hW.alike hK, hD⟩, hS.F ht⟩) hS.2.2 d_Mo_head_30 hlocks
def P_Mo_maxp (a1_glyphs : Int32) (a1_file_f : Nat → Int32) (a1_at_f : Nat → Int32) (a1_length_f : Nat → Int32)  : Option (Int32 × Int32) :=
  bd (7 : Int32) 8 <| if (6 : Int32) ≤ (a1_length_f (7 : Int32).toNatClampNeg) then (bd (7 : Int32) 8 <| (P_Mf_two a1_file_f ((a1_at_f (7 : Int32).toNatClampNeg) + (4 : Int32))).bind fun r_4 => if r_4 < (1 : Int32) then (some ((0 : Int32), r_4)) else (if (64 : Int32) < r_4 then (some ((0 : Int32), r_4)) else (some ((1 : Int32), r_4)))) else (some ((0 : Int32), a1_glyphs))
set_option maxHeartbeats 4000000 in
set_option maxRecDepth 100000 in
theorem c_Mo_maxp (l : Launch) (dC : Nat → ClassId) (dI : Nat → Nat → Nat) (cy : Nat → ClassId) (sz : Nat) (a1 : Nat) (a1_file : Nat) (a1_at : Nat) (a1_length : Nat) (a1_done : Nat) (a1_depth : Nat) (a1_parts : Nat) (a1_contours : Nat) (a1_points : Nat) (a1_x : Nat) (a1_y : Nat) (a1_on : Nat) (a1_contour : Nat) (a1_size : Int32) (a1_units : Int32) (a1_form : Int32) (a1_glyphs : Int32) (a1_ascent : Int32) (a1_descent : Int32) (a1_gap : Int32) (a1_metrics : Int32) (a1_map : Int32) (a1_mapLength : Int32) (a1_segments : Int32) (a1_file_f : Nat → Int32) (a1_at_f : Nat → Int32) (a1_length_f : Nat → Int32)  (uu : Int32 × Int32) (h : P_Mo_maxp a1_glyphs a1_file_f a1_at_f a1_length_f = some uu) : Met l y_Mo_maxp (Cond.code y_Mo_maxp b_Mo_maxp 1 (some .boolean) :: G) ({ frames := 1, cells := 0, slots := 0, locals := 21 } : Room) (va_Pc [.ref a1] (fun U => U.heap.size = sz ∧ va_P (dC, dI) classes [(a1, .inr (8, [.ref a1_file, .int a1_size, .ref a1_at, .ref a1_length, .int a1_units, .int a1_form, .int a1_glyphs, .int a1_ascent, .int a1_descent, .int a1_gap, .int a1_metrics, .int a1_map, .int a1_mapLength, .int a1_segments, .ref a1_done, .ref a1_depth, .ref a1_parts, .ref a1_contours, .ref a1_points, .ref a1_x, .ref a1_y, .ref a1_on, .ref a1_contour])), (a1_file, .inl (cy 1, 4096, .inl a1_file_f)), (a1_at, .inl (cy 0, 8, .inl a1_at_f)), (a1_length, .inl (cy 0, 8, .inl a1_length_f))] U.heap ∧ va_K (dC, dI) classes (TY cy) U ∧ va_D (fun _ => True) [(a1, .inr (8, [.ref a1_file, .int a1_size, .ref a1_at, .ref a1_length, .int a1_units, .int a1_form, .int a1_glyphs, .int a1_ascent, .int a1_descent, .int a1_gap, .int a1_metrics, .int a1_map, .int a1_mapLength, .int a1_segments, .ref a1_done, .ref a1_depth, .ref a1_parts, .ref a1_contours, .ref a1_points, .ref a1_x, .ref a1_y, .ref a1_on, .ref a1_contour])), (a1_file, .inl (cy 1, 4096, .inl a1_file_f)), (a1_at, .inl (cy 0, 8, .inl a1_at_f)), (a1_length, .inl (cy 0, 8, .inl a1_length_f))])) (va_Qi (fun r (_ : Unit) => r = uu.1) (fun _ t => va_P (dC, dI) classes [(a1, .inr (8, [.ref a1_file, .int a1_size, .ref a1_at, .ref a1_length, .int a1_units, .int a1_form, .int uu.2, .int a1_ascent, .int a1_descent, .int a1_gap, .int a1_metrics, .int a1_map, .int a1_mapLength, .int a1_segments, .ref a1_done, .ref a1_depth, .ref a1_parts, .ref a1_contours, .ref a1_points, .ref a1_x, .ref a1_y, .ref a1_on, .ref a1_contour])), (a1_file, .inl (cy 1, 4096, .inl a1_file_f)), (a1_at, .inl (cy 0, 8, .inl a1_at_f)), (a1_length, .inl (cy 0, 8, .inl a1_length_f))] t.heap ∧ va_K (dC, dI) classes (TY cy) t ∧ va_D (va_A [(a1, .inr (8, [.ref a1_file, .int a1_size, .ref a1_at, .ref a1_length, .int a1_units, .int a1_form, .int a1_glyphs, .int a1_ascent, .int a1_descent, .int a1_gap, .int a1_metrics, .int a1_map, .int a1_mapLength, .int a1_segments, .ref a1_done, .ref a1_depth, .ref a1_parts, .ref a1_contours, .ref a1_points, .ref a1_x, .ref a1_y, .ref a1_on, .ref a1_contour])), (a1_file, .inl (cy 1, 4096, .inl a1_file_f)), (a1_at, .inl (cy 0, 8, .inl a1_at_f)), (a1_length, .inl (cy 0, 8, .inl a1_length_f))] sz) [(a1, .inr (8, [.ref a1_file, .int a1_size, .ref a1_at, .ref a1_length, .int a1_units, .int a1_form, .int uu.2, .int a1_ascent, .int a1_descent, .int a1_gap, .int a1_metrics, .int a1_map, .int a1_mapLength, .int a1_segments, .ref a1_done, .ref a1_depth, .ref a1_parts, .ref a1_contours, .ref a1_points, .ref a1_x, .ref a1_y, .ref a1_on, .ref a1_contour])), (a1_file, .inl (cy 1, 4096, .inl a1_file_f)), (a1_at, .inl (cy 0, 8, .inl a1_at_f)), (a1_length, .inl (cy 0, 8, .inl a1_length_f))]) (va_A [(a1, .inr (8, [.ref a1_file, .int a1_size, .ref a1_at, .ref a1_length, .int a1_units, .int a1_form, .int a1_glyphs, .int a1_ascent, .int a1_descent, .int a1_gap, .int a1_metrics, .int a1_map, .int a1_mapLength, .int a1_segments, .ref a1_done, .ref a1_depth, .ref a1_parts, .ref a1_contours, .ref a1_points, .ref a1_x, .ref a1_y, .ref a1_on, .ref a1_contour])), (a1_file, .inl (cy 1, 4096, .inl a1_file_f)), (a1_at, .inl (cy 0, 8, .inl a1_at_f)), (a1_length, .inl (cy 0, 8, .inl a1_length_f))] sz)) 0 0 (va_A [(a1, .inr (8, [.ref a1_file, .int a1_size, .ref a1_at, .ref a1_length, .int a1_units, .int a1_form, .int a1_glyphs, .int a1_ascent, .int a1_descent, .int a1_gap, .int a1_metrics, .int a1_map, .int a1_mapLength, .int a1_segments, .ref a1_done, .ref a1_depth, .ref a1_parts, .ref a1_contours, .ref a1_points, .ref a1_x, .ref a1_y, .ref a1_on, .ref a1_contour])), (a1_file, .inl (cy 1, 4096, .inl a1_file_f)), (a1_at, .inl (cy 0, 8, .inl a1_at_f)), (a1_length, .inl (cy 0, 8, .inl a1_length_f))] sz) := by
  refine Met.ofW (cc := b_Mo_maxp) (maxL := 1) (ret := (some .boolean)) (by decide) rfl ?_
  intro p e s m args below meth c s₁ B hml hv
  obtain ⟨rfl, hsz, hP, hK, hD0⟩ := hv
  have hx := B.exec
  have hb := B.bytes
  have hr := B.returns
  have hts := atoms_spec (ws := Cond.code y_Mo_maxp b_Mo_maxp 1 (some .boolean) :: G) B.pre
  have htsG : ∀ w ∈ G, w.before _ s = true := fun w hw => hts w (List.mem_cons_of_mem _ hw)
  have hown : s.vm.findClass "GlyphPageModel" = some m.cls := findClass_of_methodNamed B.named
  have hlocks := B.notSynchronized
  subst hsz
  have hD := hD0.self (sz := s.heap.size)
  generalize hAe : va_A [(a1, .inr (8, [.ref a1_file, .int a1_size, .ref a1_at, .ref a1_length, .int a1_units, .int a1_form, .int a1_glyphs, .int a1_ascent, .int a1_descent, .int a1_gap, .int a1_metrics, .int a1_map, .int a1_mapLength, .int a1_segments, .ref a1_done, .ref a1_depth, .ref a1_parts, .ref a1_contours, .ref a1_points, .ref a1_x, .ref a1_y, .ref a1_on, .ref a1_contour])), (a1_file, .inl (cy 1, 4096, .inl a1_file_f)), (a1_at, .inl (cy 0, 8, .inl a1_at_f)), (a1_length, .inl (cy 0, 8, .inl a1_length_f))] s.heap.size = A at hD ⊢
  have hA : ∀ q : Nat, s.heap.size ≤ q → A q := fun q h => by rw [← hAe]; exact Or.inr h
  have hS : va_S A s.heap s.heap [] := va_S.rf
  have hl := lv_entry ([.ref a1]) (n := 1) (Nat.le_of_ble_eq_true rfl)
  rw [lg_entry_eq]
  generalize (lg_sl ([.ref a1]) ++ List.replicate (1 - (lg_sl ([.ref a1])).length) Slot.unset).toArray = ls at hl ⊢
  have hl : lv_has ls 1 [(0, .ref a1)] := hl
  have C0 : Cx p s m _ meth c A dC dI cy b_Mo_maxp 1 (some .boolean) "GlyphPageModel" := ⟨hx, hb, hr, hlocks, hml, hown, htsG, hA, hK⟩
  unfold P_Mo_maxp at h
  refine lv_aload_n hx hb d_Mo_maxp_0 rfl (lv_at hl 0 rfl) ?_
  refine va_get (D := (dC, dI)) (ci := 8) (v := .ref a1_length) (C := "GlyphPageModel$Font") (T := F_Mf) (N := 23) hx hb htsG iG_Mf hown hK hP 0 rfl rfl 3 (by decide) (htsG _ mW780) (fun _ h9 => h9) rfl d_Mo_maxp_1 ?_
  refine lv_bipush (v := (7 : Int32)) hx hb d_Mo_maxp_4 (by decide) ?_
  obtain ⟨hin_1, h⟩ := bd_some h
  refine va_iald hx hb hK hP 3 0 rfl rfl hin_1 d_Mo_maxp_6 ?_
  refine lv_bipush (v := (6 : Int32)) hx hb d_Mo_maxp_7 (by decide) ?_
  refine lv_icmp_ge (tgt := 14) hx hb d_Mo_maxp_9 (by decide) (fun c_2 => ?_) (fun c_2 => ?_)
  · replace h := (if_pos c_2).symm.trans h
    refine lv_aload_n hx hb d_Mo_maxp_14 rfl (lv_at hl 0 rfl) ?_
    refine lv_aload_n hx hb d_Mo_maxp_15 rfl (lv_at hl 0 rfl) ?_
    refine lv_aload_n hx hb d_Mo_maxp_16 rfl (lv_at hl 0 rfl) ?_
    refine va_get (D := (dC, dI)) (ci := 8) (v := .ref a1_at) (C := "GlyphPageModel$Font") (T := F_Mf) (N := 23) hx hb htsG iG_Mf hown hK hP 0 rfl rfl 2 (by decide) (htsG _ mW778) (fun _ h9 => h9) rfl d_Mo_maxp_17 ?_
    refine lv_bipush (v := (7 : Int32)) hx hb d_Mo_maxp_20 (by decide) ?_
    obtain ⟨hin_3, h⟩ := bd_some h
    refine va_iald hx hb hK hP 2 0 rfl rfl hin_3 d_Mo_maxp_22 ?_
    refine lv_iconst (v := (4 : Int32)) hx hb d_Mo_maxp_23 (by decide) ?_
    refine lv_iadd hx hb d_Mo_maxp_24 ?_
    obtain ⟨r_4, hq, h⟩ := Option.bind_eq_some_iff.mp h
    try dsimp only at h
    have hPc := hP.sub (ws' := [(a1, .inr (8, [.ref a1_file, .int a1_size, .ref a1_at, .ref a1_length, .int a1_units, .int a1_form, .int a1_glyphs, .int a1_ascent, .int a1_descent, .int a1_gap, .int a1_metrics, .int a1_map, .int a1_mapLength, .int a1_segments, .ref a1_done, .ref a1_depth, .ref a1_parts, .ref a1_contours, .ref a1_points, .ref a1_x, .ref a1_y, .ref a1_on, .ref a1_contour])), (a1_file, .inl (cy 1, 4096, .inl a1_file_f))]) [0, 1] rfl
    have hDc := hD.sub (ws' := [(a1, .inr (8, [.ref a1_file, .int a1_size, .ref a1_at, .ref a1_length, .int a1_units, .int a1_form, .int a1_glyphs, .int a1_ascent, .int a1_descent, .int a1_gap, .int a1_metrics, .int a1_map, .int a1_mapLength, .int a1_segments, .ref a1_done, .ref a1_depth, .ref a1_parts, .ref a1_contours, .ref a1_points, .ref a1_x, .ref a1_y, .ref a1_on, .ref a1_contour])), (a1_file, .inl (cy 1, 4096, .inl a1_file_f))]) [0, 1] (by decide) rfl
    have hFc := va_free (wc := [(a1, .inr (8, [.ref a1_file, .int a1_size, .ref a1_at, .ref a1_length, .int a1_units, .int a1_form, .int a1_glyphs, .int a1_ascent, .int a1_descent, .int a1_gap, .int a1_metrics, .int a1_map, .int a1_mapLength, .int a1_segments, .ref a1_done, .ref a1_depth, .ref a1_parts, .ref a1_contours, .ref a1_points, .ref a1_x, .ref a1_y, .ref a1_on, .ref a1_contour])), (a1_file, .inl (cy 1, 4096, .inl a1_file_f))]) hD hS hA [0, 1] rfl
    refine va_calli (va_runV (As := [.int ((a1_at_f (7 : Int32).toNatClampNeg) + (4 : Int32))]) (rest := [.ref a1]) ⟨hx, hb, hml, hown, htsG⟩ (c_Mf_two l dC dI cy s.heap.size a1 a1_file a1_at a1_length a1_done a1_depth a1_parts a1_contours a1_points a1_x a1_y a1_on a1_contour a1_size a1_units a1_form a1_glyphs a1_ascent a1_descent a1_gap a1_metrics a1_map a1_mapLength a1_segments a1_file_f ((a1_at_f (7 : Int32).toNatClampNeg) + (4 : Int32)) r_4 hq) (cwV 1 htsG (gV mW951 mW947 mW948 mW10 mW949) rfl rfl rfl (by decide +kernel) ⟨Nat.le_of_ble_eq_true rfl, Nat.le_of_ble_eq_true rfl⟩) ⟨fun a U g mk q => by obtain ⟨q0, q1, qP, qK, qD⟩ := q; exact ⟨q0, q1, qP, va_K.moved (u := U) (U := U.calling g mk a) (Vm.Alike.refl U.vm) qK, qD⟩, va_recv hK hPc (ci := 8) (q0 := 0) rfl rfl, fun U hU hW => ⟨rfl, by rw [hU], by rw [hU]; exact hPc, va_K.moved hW.alike hK, hDc.weaken (fun _ _ _ _ => trivial)⟩⟩ rfl rfl hl.1 rfl (lv_room (Nat.le_of_ble_eq_true rfl)) d_Mo_maxp_25 ⟨Nat.le_of_ble_eq_true rfl, Nat.le_of_ble_eq_true rfl⟩) hS (fun q _ h => hFc q h) hFc (fun rr u t H1 locs ht hvm hw hB hz1 hk1 hS => ?_)
    obtain ⟨hP1, hK1, hD1⟩ := hB
    rw [ht] at hP1
    replace hw : r_4 = rr := hw.symm
    subst hw
    obtain ⟨hP, hD⟩ := va_join (wr := [(a1_at, .inl (cy 0, 8, .inl a1_at_f)), (a1_length, .inl (cy 0, 8, .inl a1_length_f))]) (w1 := [(a1, .inr (8, [.ref a1_file, .int a1_size, .ref a1_at, .ref a1_length, .int a1_units, .int a1_form, .int a1_glyphs, .int a1_ascent, .int a1_descent, .int a1_gap, .int a1_metrics, .int a1_map, .int a1_mapLength, .int a1_segments, .ref a1_done, .ref a1_depth, .ref a1_parts, .ref a1_contours, .ref a1_points, .ref a1_x, .ref a1_y, .ref a1_on, .ref a1_contour])), (a1_file, .inl (cy 1, 4096, .inl a1_file_f))]) hP hD [0, 1] [2, 3] rfl rfl (by decide) (by decide) hk1 hFc hP1 hD1
    generalize H1 = H at hP hS ⊢
    have hP := hP.sub (ws' := [(a1, .inr (8, [.ref a1_file, .int a1_size, .ref a1_at, .ref a1_length, .int a1_units, .int a1_form, .int a1_glyphs, .int a1_ascent, .int a1_descent, .int a1_gap, .int a1_metrics, .int a1_map, .int a1_mapLength, .int a1_segments, .ref a1_done, .ref a1_depth, .ref a1_parts, .ref a1_contours, .ref a1_points, .ref a1_x, .ref a1_y, .ref a1_on, .ref a1_contour])), (a1_file, .inl (cy 1, 4096, .inl a1_file_f)), (a1_at, .inl (cy 0, 8, .inl a1_at_f)), (a1_length, .inl (cy 0, 8, .inl a1_length_f))]) [2, 3, 0, 1] rfl
    have hD := hD.sub (ws' := [(a1, .inr (8, [.ref a1_file, .int a1_size, .ref a1_at, .ref a1_length, .int a1_units, .int a1_form, .int a1_glyphs, .int a1_ascent, .int a1_descent, .int a1_gap, .int a1_metrics, .int a1_map, .int a1_mapLength, .int a1_segments, .ref a1_done, .ref a1_depth, .ref a1_parts, .ref a1_contours, .ref a1_points, .ref a1_x, .ref a1_y, .ref a1_on, .ref a1_contour])), (a1_file, .inl (cy 1, 4096, .inl a1_file_f)), (a1_at, .inl (cy 0, 8, .inl a1_at_f)), (a1_length, .inl (cy 0, 8, .inl a1_length_f))]) [2, 3, 0, 1] (by decide) rfl
    refine W.widen (k := 0) (n := 0) (by decide) (by decide) ?_
    refine va_put (D := (dC, dI)) (ci := 8) (v := .int r_4) (ty := .int) (C := "GlyphPageModel$Font") (T := F_Mf) (N := 23) hx hb htsG iG_Mf t_Mf t_Mf_ok n_Mf hown hK hP hD hS 0 rfl rfl 6 (by decide) (htsG _ mW783) (fun _ h9 => h9) rfl (by decide +kernel) rfl rfl (Nat.le_of_ble_eq_true rfl) d_Mo_maxp_28 (fun H locs hP hD hS => ?_)
    have hP : va_P (dC, dI) classes [(a1, .inr (8, [.ref a1_file, .int a1_size, .ref a1_at, .ref a1_length, .int a1_units, .int a1_form, .int r_4, .int a1_ascent, .int a1_descent, .int a1_gap, .int a1_metrics, .int a1_map, .int a1_mapLength, .int a1_segments, .ref a1_done, .ref a1_depth, .ref a1_parts, .ref a1_contours, .ref a1_points, .ref a1_x, .ref a1_y, .ref a1_on, .ref a1_contour])), (a1_file, .inl (cy 1, 4096, .inl a1_file_f)), (a1_at, .inl (cy 0, 8, .inl a1_at_f)), (a1_length, .inl (cy 0, 8, .inl a1_length_f))] H := hP
    have hD : va_D A [(a1, .inr (8, [.ref a1_file, .int a1_size, .ref a1_at, .ref a1_length, .int a1_units, .int a1_form, .int r_4, .int a1_ascent, .int a1_descent, .int a1_gap, .int a1_metrics, .int a1_map, .int a1_mapLength, .int a1_segments, .ref a1_done, .ref a1_depth, .ref a1_parts, .ref a1_contours, .ref a1_points, .ref a1_x, .ref a1_y, .ref a1_on, .ref a1_contour])), (a1_file, .inl (cy 1, 4096, .inl a1_file_f)), (a1_at, .inl (cy 0, 8, .inl a1_at_f)), (a1_length, .inl (cy 0, 8, .inl a1_length_f))] := hD
    refine lv_aload_n hx hb d_Mo_maxp_31 rfl (lv_at hl 0 rfl) ?_
    refine va_get (D := (dC, dI)) (ci := 8) (v := .int r_4) (C := "GlyphPageModel$Font") (T := F_Mf) (N := 23) hx hb htsG iG_Mf hown hK hP 0 rfl rfl 6 (by decide) (htsG _ mW783) (fun _ h9 => h9) rfl d_Mo_maxp_32 ?_
    refine lv_iconst (v := (1 : Int32)) hx hb d_Mo_maxp_35 (by decide) ?_
    refine lv_icmp_lt (tgt := 52) hx hb d_Mo_maxp_36 (by decide) (fun c_5 => ?_) (fun c_5 => ?_)
    · replace h := (if_pos c_5).symm.trans h
      refine lv_iconst (v := (0 : Int32)) hx hb d_Mo_maxp_52 (by decide) ?_
      cases h
      exact W.zret (ty := .boolean) hx hb hr rfl (fun t ht hW => ⟨⟨_, (), rfl, rfl, by rw [ht]; exact hP, va_K.moved hW.alike hK, hD⟩, hS.F ht⟩) hS.2.2 d_Mo_maxp_53 hlocks
    · replace h := (if_neg c_5).symm.trans h
      refine lv_aload_n hx hb d_Mo_maxp_39 rfl (lv_at hl 0 rfl) ?_
      refine va_get (D := (dC, dI)) (ci := 8) (v := .int r_4) (C := "GlyphPageModel$Font") (T := F_Mf) (N := 23) hx hb htsG iG_Mf hown hK hP 0 rfl rfl 6 (by decide) (htsG _ mW783) (fun _ h9 => h9) rfl d_Mo_maxp_40 ?_
      refine lv_bipush (v := (64 : Int32)) hx hb d_Mo_maxp_43 (by decide) ?_
      refine lv_icmp_gt (tgt := 52) hx hb d_Mo_maxp_45 (by decide) (fun c_6 => ?_) (fun c_6 => ?_)
      · replace h := (if_pos c_6).symm.trans h
        refine lv_iconst (v := (0 : Int32)) hx hb d_Mo_maxp_52 (by decide) ?_
        cases h
        exact W.zret (ty := .boolean) hx hb hr rfl (fun t ht hW => ⟨⟨_, (), rfl, rfl, by rw [ht]; exact hP, va_K.moved hW.alike hK, hD⟩, hS.F ht⟩) hS.2.2 d_Mo_maxp_53 hlocks
      · replace h := (if_neg c_6).symm.trans h
        refine lv_iconst (v := (1 : Int32)) hx hb d_Mo_maxp_48 (by decide) ?_
        refine lv_goto (tgt := 53) hx hb d_Mo_maxp_49 (by decide) ?_
        cases h
        exact W.zret (ty := .boolean) hx hb hr rfl (fun t ht hW => ⟨⟨_, (), rfl, rfl, by rw [ht]; exact hP, va_K.moved hW.alike hK, hD⟩, hS.F ht⟩) hS.2.2 d_Mo_maxp_53 hlocks
  · replace h := (if_neg c_2).symm.trans h
    refine lv_iconst (v := (0 : Int32)) hx hb d_Mo_maxp_12 (by decide) ?_
    cases h
    exact W.zret (ty := .boolean) hx hb hr rfl (fun t ht hW => ⟨⟨_, (), rfl, rfl, by rw [ht]; exact hP, va_K.moved hW.alike hK, hD⟩, hS.F ht⟩) hS.2.2 d_Mo_maxp_13 hlocks
def P_Mo_hhea (a1_units : Int32) (a1_glyphs : Int32) (a1_ascent : Int32) (a1_descent : Int32) (a1_gap : Int32) (a1_metrics : Int32) (a1_file_f : Nat → Int32) (a1_at_f : Nat → Int32) (a1_length_f : Nat → Int32)  : Option (Int32 × Int32 × Int32 × Int32 × Int32) :=
  bd (3 : Int32) 8 <| if (36 : Int32) ≤ (a1_length_f (3 : Int32).toNatClampNeg) then (bd (3 : Int32) 8 <| (P_Mf_signed a1_file_f ((a1_at_f (3 : Int32).toNatClampNeg) + (4 : Int32))).bind fun r_4 => bd (3 : Int32) 8 <| (P_Mf_signed a1_file_f ((a1_at_f (3 : Int32).toNatClampNeg) + (6 : Int32))).bind fun r_6 => bd (3 : Int32) 8 <| (P_Mf_signed a1_file_f ((a1_at_f (3 : Int32).toNatClampNeg) + (8 : Int32))).bind fun r_8 => bd (3 : Int32) 8 <| (P_Mf_two a1_file_f ((a1_at_f (3 : Int32).toNatClampNeg) + (34 : Int32))).bind fun r_10 => (P_Jm_abs_II r_4).bind fun r_11 => if ((8 : Int32) * a1_units) < r_11 then (some ((0 : Int32), r_4, r_6, r_8, r_10)) else ((P_Jm_abs_II r_6).bind fun r_13 => if ((8 : Int32) * a1_units) < r_13 then (some ((0 : Int32), r_4, r_6, r_8, r_10)) else ((P_Jm_abs_II r_8).bind fun r_15 => if r_15 ≤ ((8 : Int32) * a1_units) then (if r_10 < (1 : Int32) then (some ((0 : Int32), r_4, r_6, r_8, r_10)) else (if a1_glyphs < r_10 then (some ((0 : Int32), r_4, r_6, r_8, r_10)) else (some ((1 : Int32), r_4, r_6, r_8, r_10)))) else (some ((0 : Int32), r_4, r_6, r_8, r_10))))) else (some ((0 : Int32), a1_ascent, a1_descent, a1_gap, a1_metrics))
set_option maxHeartbeats 4000000 in
set_option maxRecDepth 100000 in
theorem c_Mo_hhea (l : Launch) (dC : Nat → ClassId) (dI : Nat → Nat → Nat) (cy : Nat → ClassId) (sz : Nat) (a1 : Nat) (a1_file : Nat) (a1_at : Nat) (a1_length : Nat) (a1_done : Nat) (a1_depth : Nat) (a1_parts : Nat) (a1_contours : Nat) (a1_points : Nat) (a1_x : Nat) (a1_y : Nat) (a1_on : Nat) (a1_contour : Nat) (a1_size : Int32) (a1_units : Int32) (a1_form : Int32) (a1_glyphs : Int32) (a1_ascent : Int32) (a1_descent : Int32) (a1_gap : Int32) (a1_metrics : Int32) (a1_map : Int32) (a1_mapLength : Int32) (a1_segments : Int32) (a1_file_f : Nat → Int32) (a1_at_f : Nat → Int32) (a1_length_f : Nat → Int32)  (uu : Int32 × Int32 × Int32 × Int32 × Int32) (h : P_Mo_hhea a1_units a1_glyphs a1_ascent a1_descent a1_gap a1_metrics a1_file_f a1_at_f a1_length_f = some uu) : Met l y_Mo_hhea (Cond.code y_Mo_hhea b_Mo_hhea 2 (some .boolean) :: G) ({ frames := 2, cells := 0, slots := 0, locals := 42 } : Room) (va_Pc [.ref a1] (fun U => U.heap.size = sz ∧ va_P (dC, dI) classes [(a1, .inr (8, [.ref a1_file, .int a1_size, .ref a1_at, .ref a1_length, .int a1_units, .int a1_form, .int a1_glyphs, .int a1_ascent, .int a1_descent, .int a1_gap, .int a1_metrics, .int a1_map, .int a1_mapLength, .int a1_segments, .ref a1_done, .ref a1_depth, .ref a1_parts, .ref a1_contours, .ref a1_points, .ref a1_x, .ref a1_y, .ref a1_on, .ref a1_contour])), (a1_file, .inl (cy 1, 4096, .inl a1_file_f)), (a1_at, .inl (cy 0, 8, .inl a1_at_f)), (a1_length, .inl (cy 0, 8, .inl a1_length_f))] U.heap ∧ va_K (dC, dI) classes (TY cy) U ∧ va_D (fun _ => True) [(a1, .inr (8, [.ref a1_file, .int a1_size, .ref a1_at, .ref a1_length, .int a1_units, .int a1_form, .int a1_glyphs, .int a1_ascent, .int a1_descent, .int a1_gap, .int a1_metrics, .int a1_map, .int a1_mapLength, .int a1_segments, .ref a1_done, .ref a1_depth, .ref a1_parts, .ref a1_contours, .ref a1_points, .ref a1_x, .ref a1_y, .ref a1_on, .ref a1_contour])), (a1_file, .inl (cy 1, 4096, .inl a1_file_f)), (a1_at, .inl (cy 0, 8, .inl a1_at_f)), (a1_length, .inl (cy 0, 8, .inl a1_length_f))])) (va_Qi (fun r (_ : Unit) => r = uu.1) (fun _ t => va_P (dC, dI) classes [(a1, .inr (8, [.ref a1_file, .int a1_size, .ref a1_at, .ref a1_length, .int a1_units, .int a1_form, .int a1_glyphs, .int uu.2.1, .int uu.2.2.1, .int uu.2.2.2.1, .int uu.2.2.2.2, .int a1_map, .int a1_mapLength, .int a1_segments, .ref a1_done, .ref a1_depth, .ref a1_parts, .ref a1_contours, .ref a1_points, .ref a1_x, .ref a1_y, .ref a1_on, .ref a1_contour])), (a1_file, .inl (cy 1, 4096, .inl a1_file_f)), (a1_at, .inl (cy 0, 8, .inl a1_at_f)), (a1_length, .inl (cy 0, 8, .inl a1_length_f))] t.heap ∧ va_K (dC, dI) classes (TY cy) t ∧ va_D (va_A [(a1, .inr (8, [.ref a1_file, .int a1_size, .ref a1_at, .ref a1_length, .int a1_units, .int a1_form, .int a1_glyphs, .int a1_ascent, .int a1_descent, .int a1_gap, .int a1_metrics, .int a1_map, .int a1_mapLength, .int a1_segments, .ref a1_done, .ref a1_depth, .ref a1_parts, .ref a1_contours, .ref a1_points, .ref a1_x, .ref a1_y, .ref a1_on, .ref a1_contour])), (a1_file, .inl (cy 1, 4096, .inl a1_file_f)), (a1_at, .inl (cy 0, 8, .inl a1_at_f)), (a1_length, .inl (cy 0, 8, .inl a1_length_f))] sz) [(a1, .inr (8, [.ref a1_file, .int a1_size, .ref a1_at, .ref a1_length, .int a1_units, .int a1_form, .int a1_glyphs, .int uu.2.1, .int uu.2.2.1, .int uu.2.2.2.1, .int uu.2.2.2.2, .int a1_map, .int a1_mapLength, .int a1_segments, .ref a1_done, .ref a1_depth, .ref a1_parts, .ref a1_contours, .ref a1_points, .ref a1_x, .ref a1_y, .ref a1_on, .ref a1_contour])), (a1_file, .inl (cy 1, 4096, .inl a1_file_f)), (a1_at, .inl (cy 0, 8, .inl a1_at_f)), (a1_length, .inl (cy 0, 8, .inl a1_length_f))]) (va_A [(a1, .inr (8, [.ref a1_file, .int a1_size, .ref a1_at, .ref a1_length, .int a1_units, .int a1_form, .int a1_glyphs, .int a1_ascent, .int a1_descent, .int a1_gap, .int a1_metrics, .int a1_map, .int a1_mapLength, .int a1_segments, .ref a1_done, .ref a1_depth, .ref a1_parts, .ref a1_contours, .ref a1_points, .ref a1_x, .ref a1_y, .ref a1_on, .ref a1_contour])), (a1_file, .inl (cy 1, 4096, .inl a1_file_f)), (a1_at, .inl (cy 0, 8, .inl a1_at_f)), (a1_length, .inl (cy 0, 8, .inl a1_length_f))] sz)) 0 0 (va_A [(a1, .inr (8, [.ref a1_file, .int a1_size, .ref a1_at, .ref a1_length, .int a1_units, .int a1_form, .int a1_glyphs, .int a1_ascent, .int a1_descent, .int a1_gap, .int a1_metrics, .int a1_map, .int a1_mapLength, .int a1_segments, .ref a1_done, .ref a1_depth, .ref a1_parts, .ref a1_contours, .ref a1_points, .ref a1_x, .ref a1_y, .ref a1_on, .ref a1_contour])), (a1_file, .inl (cy 1, 4096, .inl a1_file_f)), (a1_at, .inl (cy 0, 8, .inl a1_at_f)), (a1_length, .inl (cy 0, 8, .inl a1_length_f))] sz) := by
  refine Met.ofW (cc := b_Mo_hhea) (maxL := 2) (ret := (some .boolean)) (by decide) rfl ?_
  intro p e s m args below meth c s₁ B hml hv
  obtain ⟨rfl, hsz, hP, hK, hD0⟩ := hv
  have hx := B.exec
  have hb := B.bytes
  have hr := B.returns
  have hts := atoms_spec (ws := Cond.code y_Mo_hhea b_Mo_hhea 2 (some .boolean) :: G) B.pre
  have htsG : ∀ w ∈ G, w.before _ s = true := fun w hw => hts w (List.mem_cons_of_mem _ hw)
  have hown : s.vm.findClass "GlyphPageModel" = some m.cls := findClass_of_methodNamed B.named
  have hlocks := B.notSynchronized
  subst hsz
  have hD := hD0.self (sz := s.heap.size)
  generalize hAe : va_A [(a1, .inr (8, [.ref a1_file, .int a1_size, .ref a1_at, .ref a1_length, .int a1_units, .int a1_form, .int a1_glyphs, .int a1_ascent, .int a1_descent, .int a1_gap, .int a1_metrics, .int a1_map, .int a1_mapLength, .int a1_segments, .ref a1_done, .ref a1_depth, .ref a1_parts, .ref a1_contours, .ref a1_points, .ref a1_x, .ref a1_y, .ref a1_on, .ref a1_contour])), (a1_file, .inl (cy 1, 4096, .inl a1_file_f)), (a1_at, .inl (cy 0, 8, .inl a1_at_f)), (a1_length, .inl (cy 0, 8, .inl a1_length_f))] s.heap.size = A at hD ⊢
  have hA : ∀ q : Nat, s.heap.size ≤ q → A q := fun q h => by rw [← hAe]; exact Or.inr h
  have hS : va_S A s.heap s.heap [] := va_S.rf
  have hl := lv_entry ([.ref a1]) (n := 2) (Nat.le_of_ble_eq_true rfl)
  rw [lg_entry_eq]
  generalize (lg_sl ([.ref a1]) ++ List.replicate (2 - (lg_sl ([.ref a1])).length) Slot.unset).toArray = ls at hl ⊢
  have hl : lv_has ls 2 [(0, .ref a1)] := hl
  have C0 : Cx p s m _ meth c A dC dI cy b_Mo_hhea 2 (some .boolean) "GlyphPageModel" := ⟨hx, hb, hr, hlocks, hml, hown, htsG, hA, hK⟩
  unfold P_Mo_hhea at h
  refine lv_aload_n hx hb d_Mo_hhea_0 rfl (lv_at hl 0 rfl) ?_
  refine va_get (D := (dC, dI)) (ci := 8) (v := .ref a1_length) (C := "GlyphPageModel$Font") (T := F_Mf) (N := 23) hx hb htsG iG_Mf hown hK hP 0 rfl rfl 3 (by decide) (htsG _ mW780) (fun _ h9 => h9) rfl d_Mo_hhea_1 ?_
  refine lv_iconst (v := (3 : Int32)) hx hb d_Mo_hhea_4 (by decide) ?_
  obtain ⟨hin_1, h⟩ := bd_some h
  refine va_iald hx hb hK hP 3 0 rfl rfl hin_1 d_Mo_hhea_5 ?_
  refine lv_bipush (v := (36 : Int32)) hx hb d_Mo_hhea_6 (by decide) ?_
  refine lv_icmp_ge (tgt := 13) hx hb d_Mo_hhea_8 (by decide) (fun c_2 => ?_) (fun c_2 => ?_)
  · replace h := (if_pos c_2).symm.trans h
    refine lv_aload_n hx hb d_Mo_hhea_13 rfl (lv_at hl 0 rfl) ?_
    refine lv_aload_n hx hb d_Mo_hhea_14 rfl (lv_at hl 0 rfl) ?_
    refine lv_aload_n hx hb d_Mo_hhea_15 rfl (lv_at hl 0 rfl) ?_
    refine va_get (D := (dC, dI)) (ci := 8) (v := .ref a1_at) (C := "GlyphPageModel$Font") (T := F_Mf) (N := 23) hx hb htsG iG_Mf hown hK hP 0 rfl rfl 2 (by decide) (htsG _ mW778) (fun _ h9 => h9) rfl d_Mo_hhea_16 ?_
    refine lv_iconst (v := (3 : Int32)) hx hb d_Mo_hhea_19 (by decide) ?_
    obtain ⟨hin_3, h⟩ := bd_some h
    refine va_iald hx hb hK hP 2 0 rfl rfl hin_3 d_Mo_hhea_20 ?_
    refine lv_iconst (v := (4 : Int32)) hx hb d_Mo_hhea_21 (by decide) ?_
    refine lv_iadd hx hb d_Mo_hhea_22 ?_
    obtain ⟨r_4, hq, h⟩ := Option.bind_eq_some_iff.mp h
    try dsimp only at h
    have hPc := hP.sub (ws' := [(a1, .inr (8, [.ref a1_file, .int a1_size, .ref a1_at, .ref a1_length, .int a1_units, .int a1_form, .int a1_glyphs, .int a1_ascent, .int a1_descent, .int a1_gap, .int a1_metrics, .int a1_map, .int a1_mapLength, .int a1_segments, .ref a1_done, .ref a1_depth, .ref a1_parts, .ref a1_contours, .ref a1_points, .ref a1_x, .ref a1_y, .ref a1_on, .ref a1_contour])), (a1_file, .inl (cy 1, 4096, .inl a1_file_f))]) [0, 1] rfl
    have hDc := hD.sub (ws' := [(a1, .inr (8, [.ref a1_file, .int a1_size, .ref a1_at, .ref a1_length, .int a1_units, .int a1_form, .int a1_glyphs, .int a1_ascent, .int a1_descent, .int a1_gap, .int a1_metrics, .int a1_map, .int a1_mapLength, .int a1_segments, .ref a1_done, .ref a1_depth, .ref a1_parts, .ref a1_contours, .ref a1_points, .ref a1_x, .ref a1_y, .ref a1_on, .ref a1_contour])), (a1_file, .inl (cy 1, 4096, .inl a1_file_f))]) [0, 1] (by decide) rfl
    have hFc := va_free (wc := [(a1, .inr (8, [.ref a1_file, .int a1_size, .ref a1_at, .ref a1_length, .int a1_units, .int a1_form, .int a1_glyphs, .int a1_ascent, .int a1_descent, .int a1_gap, .int a1_metrics, .int a1_map, .int a1_mapLength, .int a1_segments, .ref a1_done, .ref a1_depth, .ref a1_parts, .ref a1_contours, .ref a1_points, .ref a1_x, .ref a1_y, .ref a1_on, .ref a1_contour])), (a1_file, .inl (cy 1, 4096, .inl a1_file_f))]) hD hS hA [0, 1] rfl
    refine va_calli (va_runV (As := [.int ((a1_at_f (3 : Int32).toNatClampNeg) + (4 : Int32))]) (rest := [.ref a1]) ⟨hx, hb, hml, hown, htsG⟩ (c_Mf_signed l dC dI cy s.heap.size a1 a1_file a1_at a1_length a1_done a1_depth a1_parts a1_contours a1_points a1_x a1_y a1_on a1_contour a1_size a1_units a1_form a1_glyphs a1_ascent a1_descent a1_gap a1_metrics a1_map a1_mapLength a1_segments a1_file_f ((a1_at_f (3 : Int32).toNatClampNeg) + (4 : Int32)) r_4 hq) (cwV 1 htsG (gV mW976 mW977 mW978 mW10 mW979) rfl rfl rfl (by decide +kernel) ⟨Nat.le_of_ble_eq_true rfl, Nat.le_of_ble_eq_true rfl⟩) ⟨fun a U g mk q => by obtain ⟨q0, q1, qP, qK, qD⟩ := q; exact ⟨q0, q1, qP, va_K.moved (u := U) (U := U.calling g mk a) (Vm.Alike.refl U.vm) qK, qD⟩, va_recv hK hPc (ci := 8) (q0 := 0) rfl rfl, fun U hU hW => ⟨rfl, by rw [hU], by rw [hU]; exact hPc, va_K.moved hW.alike hK, hDc.weaken (fun _ _ _ _ => trivial)⟩⟩ rfl rfl hl.1 rfl (lv_room (Nat.le_of_ble_eq_true rfl)) d_Mo_hhea_23 ⟨Nat.le_of_ble_eq_true rfl, Nat.le_of_ble_eq_true rfl⟩) hS (fun q _ h => hFc q h) hFc (fun rr u t H1 locs ht hvm hw hB hz1 hk1 hS => ?_)
    obtain ⟨hP1, hK1, hD1⟩ := hB
    rw [ht] at hP1
    replace hw : r_4 = rr := hw.symm
    subst hw
    obtain ⟨hP, hD⟩ := va_join (wr := [(a1_at, .inl (cy 0, 8, .inl a1_at_f)), (a1_length, .inl (cy 0, 8, .inl a1_length_f))]) (w1 := [(a1, .inr (8, [.ref a1_file, .int a1_size, .ref a1_at, .ref a1_length, .int a1_units, .int a1_form, .int a1_glyphs, .int a1_ascent, .int a1_descent, .int a1_gap, .int a1_metrics, .int a1_map, .int a1_mapLength, .int a1_segments, .ref a1_done, .ref a1_depth, .ref a1_parts, .ref a1_contours, .ref a1_points, .ref a1_x, .ref a1_y, .ref a1_on, .ref a1_contour])), (a1_file, .inl (cy 1, 4096, .inl a1_file_f))]) hP hD [0, 1] [2, 3] rfl rfl (by decide) (by decide) hk1 hFc hP1 hD1
    generalize H1 = H at hP hS ⊢
    have hP := hP.sub (ws' := [(a1, .inr (8, [.ref a1_file, .int a1_size, .ref a1_at, .ref a1_length, .int a1_units, .int a1_form, .int a1_glyphs, .int a1_ascent, .int a1_descent, .int a1_gap, .int a1_metrics, .int a1_map, .int a1_mapLength, .int a1_segments, .ref a1_done, .ref a1_depth, .ref a1_parts, .ref a1_contours, .ref a1_points, .ref a1_x, .ref a1_y, .ref a1_on, .ref a1_contour])), (a1_file, .inl (cy 1, 4096, .inl a1_file_f)), (a1_at, .inl (cy 0, 8, .inl a1_at_f)), (a1_length, .inl (cy 0, 8, .inl a1_length_f))]) [2, 3, 0, 1] rfl
    have hD := hD.sub (ws' := [(a1, .inr (8, [.ref a1_file, .int a1_size, .ref a1_at, .ref a1_length, .int a1_units, .int a1_form, .int a1_glyphs, .int a1_ascent, .int a1_descent, .int a1_gap, .int a1_metrics, .int a1_map, .int a1_mapLength, .int a1_segments, .ref a1_done, .ref a1_depth, .ref a1_parts, .ref a1_contours, .ref a1_points, .ref a1_x, .ref a1_y, .ref a1_on, .ref a1_contour])), (a1_file, .inl (cy 1, 4096, .inl a1_file_f)), (a1_at, .inl (cy 0, 8, .inl a1_at_f)), (a1_length, .inl (cy 0, 8, .inl a1_length_f))]) [2, 3, 0, 1] (by decide) rfl
    refine W.widen (k := 0) (n := 0) (by decide) (by decide) ?_
    refine va_put (D := (dC, dI)) (ci := 8) (v := .int r_4) (ty := .int) (C := "GlyphPageModel$Font") (T := F_Mf) (N := 23) hx hb htsG iG_Mf t_Mf t_Mf_ok n_Mf hown hK hP hD hS 0 rfl rfl 7 (by decide) (htsG _ mW784) (fun _ h9 => h9) rfl (by decide +kernel) rfl rfl (Nat.le_of_ble_eq_true rfl) d_Mo_hhea_26 (fun H locs hP hD hS => ?_)
    have hP : va_P (dC, dI) classes [(a1, .inr (8, [.ref a1_file, .int a1_size, .ref a1_at, .ref a1_length, .int a1_units, .int a1_form, .int a1_glyphs, .int r_4, .int a1_descent, .int a1_gap, .int a1_metrics, .int a1_map, .int a1_mapLength, .int a1_segments, .ref a1_done, .ref a1_depth, .ref a1_parts, .ref a1_contours, .ref a1_points, .ref a1_x, .ref a1_y, .ref a1_on, .ref a1_contour])), (a1_file, .inl (cy 1, 4096, .inl a1_file_f)), (a1_at, .inl (cy 0, 8, .inl a1_at_f)), (a1_length, .inl (cy 0, 8, .inl a1_length_f))] H := hP
    have hD : va_D A [(a1, .inr (8, [.ref a1_file, .int a1_size, .ref a1_at, .ref a1_length, .int a1_units, .int a1_form, .int a1_glyphs, .int r_4, .int a1_descent, .int a1_gap, .int a1_metrics, .int a1_map, .int a1_mapLength, .int a1_segments, .ref a1_done, .ref a1_depth, .ref a1_parts, .ref a1_contours, .ref a1_points, .ref a1_x, .ref a1_y, .ref a1_on, .ref a1_contour])), (a1_file, .inl (cy 1, 4096, .inl a1_file_f)), (a1_at, .inl (cy 0, 8, .inl a1_at_f)), (a1_length, .inl (cy 0, 8, .inl a1_length_f))] := hD
    refine lv_aload_n hx hb d_Mo_hhea_29 rfl (lv_at hl 0 rfl) ?_
    refine lv_aload_n hx hb d_Mo_hhea_30 rfl (lv_at hl 0 rfl) ?_
    refine lv_aload_n hx hb d_Mo_hhea_31 rfl (lv_at hl 0 rfl) ?_
    refine va_get (D := (dC, dI)) (ci := 8) (v := .ref a1_at) (C := "GlyphPageModel$Font") (T := F_Mf) (N := 23) hx hb htsG iG_Mf hown hK hP 0 rfl rfl 2 (by decide) (htsG _ mW778) (fun _ h9 => h9) rfl d_Mo_hhea_32 ?_
    refine lv_iconst (v := (3 : Int32)) hx hb d_Mo_hhea_35 (by decide) ?_
    obtain ⟨hin_5, h⟩ := bd_some h
    refine va_iald hx hb hK hP 2 0 rfl rfl hin_5 d_Mo_hhea_36 ?_
    refine lv_bipush (v := (6 : Int32)) hx hb d_Mo_hhea_37 (by decide) ?_
    refine lv_iadd hx hb d_Mo_hhea_39 ?_
    obtain ⟨r_6, hq, h⟩ := Option.bind_eq_some_iff.mp h
    try dsimp only at h
    have hPc := hP.sub (ws' := [(a1, .inr (8, [.ref a1_file, .int a1_size, .ref a1_at, .ref a1_length, .int a1_units, .int a1_form, .int a1_glyphs, .int r_4, .int a1_descent, .int a1_gap, .int a1_metrics, .int a1_map, .int a1_mapLength, .int a1_segments, .ref a1_done, .ref a1_depth, .ref a1_parts, .ref a1_contours, .ref a1_points, .ref a1_x, .ref a1_y, .ref a1_on, .ref a1_contour])), (a1_file, .inl (cy 1, 4096, .inl a1_file_f))]) [0, 1] rfl
    have hDc := hD.sub (ws' := [(a1, .inr (8, [.ref a1_file, .int a1_size, .ref a1_at, .ref a1_length, .int a1_units, .int a1_form, .int a1_glyphs, .int r_4, .int a1_descent, .int a1_gap, .int a1_metrics, .int a1_map, .int a1_mapLength, .int a1_segments, .ref a1_done, .ref a1_depth, .ref a1_parts, .ref a1_contours, .ref a1_points, .ref a1_x, .ref a1_y, .ref a1_on, .ref a1_contour])), (a1_file, .inl (cy 1, 4096, .inl a1_file_f))]) [0, 1] (by decide) rfl
    have hFc := va_free (wc := [(a1, .inr (8, [.ref a1_file, .int a1_size, .ref a1_at, .ref a1_length, .int a1_units, .int a1_form, .int a1_glyphs, .int r_4, .int a1_descent, .int a1_gap, .int a1_metrics, .int a1_map, .int a1_mapLength, .int a1_segments, .ref a1_done, .ref a1_depth, .ref a1_parts, .ref a1_contours, .ref a1_points, .ref a1_x, .ref a1_y, .ref a1_on, .ref a1_contour])), (a1_file, .inl (cy 1, 4096, .inl a1_file_f))]) hD hS hA [0, 1] rfl
    refine va_calli (va_runV (As := [.int ((a1_at_f (3 : Int32).toNatClampNeg) + (6 : Int32))]) (rest := [.ref a1]) ⟨hx, hb, hml, hown, htsG⟩ (c_Mf_signed l dC dI cy H.size a1 a1_file a1_at a1_length a1_done a1_depth a1_parts a1_contours a1_points a1_x a1_y a1_on a1_contour a1_size a1_units a1_form a1_glyphs r_4 a1_descent a1_gap a1_metrics a1_map a1_mapLength a1_segments a1_file_f ((a1_at_f (3 : Int32).toNatClampNeg) + (6 : Int32)) r_6 hq) (cwV 1 htsG (gV mW976 mW977 mW978 mW10 mW979) rfl rfl rfl (by decide +kernel) ⟨Nat.le_of_ble_eq_true rfl, Nat.le_of_ble_eq_true rfl⟩) ⟨fun a U g mk q => by obtain ⟨q0, q1, qP, qK, qD⟩ := q; exact ⟨q0, q1, qP, va_K.moved (u := U) (U := U.calling g mk a) (Vm.Alike.refl U.vm) qK, qD⟩, va_recv hK hPc (ci := 8) (q0 := 0) rfl rfl, fun U hU hW => ⟨rfl, by rw [hU], by rw [hU]; exact hPc, va_K.moved hW.alike hK, hDc.weaken (fun _ _ _ _ => trivial)⟩⟩ rfl rfl hl.1 rfl (lv_room (Nat.le_of_ble_eq_true rfl)) d_Mo_hhea_40 ⟨Nat.le_of_ble_eq_true rfl, Nat.le_of_ble_eq_true rfl⟩) hS (fun q _ h => hFc q h) hFc (fun rr u t H1 locs ht hvm hw hB hz1 hk1 hS => ?_)
    obtain ⟨hP1, hK1, hD1⟩ := hB
    rw [ht] at hP1
    replace hw : r_6 = rr := hw.symm
    subst hw
    obtain ⟨hP, hD⟩ := va_join (wr := [(a1_at, .inl (cy 0, 8, .inl a1_at_f)), (a1_length, .inl (cy 0, 8, .inl a1_length_f))]) (w1 := [(a1, .inr (8, [.ref a1_file, .int a1_size, .ref a1_at, .ref a1_length, .int a1_units, .int a1_form, .int a1_glyphs, .int r_4, .int a1_descent, .int a1_gap, .int a1_metrics, .int a1_map, .int a1_mapLength, .int a1_segments, .ref a1_done, .ref a1_depth, .ref a1_parts, .ref a1_contours, .ref a1_points, .ref a1_x, .ref a1_y, .ref a1_on, .ref a1_contour])), (a1_file, .inl (cy 1, 4096, .inl a1_file_f))]) hP hD [0, 1] [2, 3] rfl rfl (by decide) (by decide) hk1 hFc hP1 hD1
    generalize H1 = H at hP hS ⊢
    have hP := hP.sub (ws' := [(a1, .inr (8, [.ref a1_file, .int a1_size, .ref a1_at, .ref a1_length, .int a1_units, .int a1_form, .int a1_glyphs, .int r_4, .int a1_descent, .int a1_gap, .int a1_metrics, .int a1_map, .int a1_mapLength, .int a1_segments, .ref a1_done, .ref a1_depth, .ref a1_parts, .ref a1_contours, .ref a1_points, .ref a1_x, .ref a1_y, .ref a1_on, .ref a1_contour])), (a1_file, .inl (cy 1, 4096, .inl a1_file_f)), (a1_at, .inl (cy 0, 8, .inl a1_at_f)), (a1_length, .inl (cy 0, 8, .inl a1_length_f))]) [2, 3, 0, 1] rfl
    have hD := hD.sub (ws' := [(a1, .inr (8, [.ref a1_file, .int a1_size, .ref a1_at, .ref a1_length, .int a1_units, .int a1_form, .int a1_glyphs, .int r_4, .int a1_descent, .int a1_gap, .int a1_metrics, .int a1_map, .int a1_mapLength, .int a1_segments, .ref a1_done, .ref a1_depth, .ref a1_parts, .ref a1_contours, .ref a1_points, .ref a1_x, .ref a1_y, .ref a1_on, .ref a1_contour])), (a1_file, .inl (cy 1, 4096, .inl a1_file_f)), (a1_at, .inl (cy 0, 8, .inl a1_at_f)), (a1_length, .inl (cy 0, 8, .inl a1_length_f))]) [2, 3, 0, 1] (by decide) rfl
    refine W.widen (k := 0) (n := 0) (by decide) (by decide) ?_
    refine va_put (D := (dC, dI)) (ci := 8) (v := .int r_6) (ty := .int) (C := "GlyphPageModel$Font") (T := F_Mf) (N := 23) hx hb htsG iG_Mf t_Mf t_Mf_ok n_Mf hown hK hP hD hS 0 rfl rfl 8 (by decide) (htsG _ mW785) (fun _ h9 => h9) rfl (by decide +kernel) rfl rfl (Nat.le_of_ble_eq_true rfl) d_Mo_hhea_43 (fun H locs hP hD hS => ?_)
    have hP : va_P (dC, dI) classes [(a1, .inr (8, [.ref a1_file, .int a1_size, .ref a1_at, .ref a1_length, .int a1_units, .int a1_form, .int a1_glyphs, .int r_4, .int r_6, .int a1_gap, .int a1_metrics, .int a1_map, .int a1_mapLength, .int a1_segments, .ref a1_done, .ref a1_depth, .ref a1_parts, .ref a1_contours, .ref a1_points, .ref a1_x, .ref a1_y, .ref a1_on, .ref a1_contour])), (a1_file, .inl (cy 1, 4096, .inl a1_file_f)), (a1_at, .inl (cy 0, 8, .inl a1_at_f)), (a1_length, .inl (cy 0, 8, .inl a1_length_f))] H := hP
    have hD : va_D A [(a1, .inr (8, [.ref a1_file, .int a1_size, .ref a1_at, .ref a1_length, .int a1_units, .int a1_form, .int a1_glyphs, .int r_4, .int r_6, .int a1_gap, .int a1_metrics, .int a1_map, .int a1_mapLength, .int a1_segments, .ref a1_done, .ref a1_depth, .ref a1_parts, .ref a1_contours, .ref a1_points, .ref a1_x, .ref a1_y, .ref a1_on, .ref a1_contour])), (a1_file, .inl (cy 1, 4096, .inl a1_file_f)), (a1_at, .inl (cy 0, 8, .inl a1_at_f)), (a1_length, .inl (cy 0, 8, .inl a1_length_f))] := hD
    refine lv_aload_n hx hb d_Mo_hhea_46 rfl (lv_at hl 0 rfl) ?_
    refine lv_aload_n hx hb d_Mo_hhea_47 rfl (lv_at hl 0 rfl) ?_
    refine lv_aload_n hx hb d_Mo_hhea_48 rfl (lv_at hl 0 rfl) ?_
    refine va_get (D := (dC, dI)) (ci := 8) (v := .ref a1_at) (C := "GlyphPageModel$Font") (T := F_Mf) (N := 23) hx hb htsG iG_Mf hown hK hP 0 rfl rfl 2 (by decide) (htsG _ mW778) (fun _ h9 => h9) rfl d_Mo_hhea_49 ?_
    refine lv_iconst (v := (3 : Int32)) hx hb d_Mo_hhea_52 (by decide) ?_
    obtain ⟨hin_7, h⟩ := bd_some h
    refine va_iald hx hb hK hP 2 0 rfl rfl hin_7 d_Mo_hhea_53 ?_
    refine lv_bipush (v := (8 : Int32)) hx hb d_Mo_hhea_54 (by decide) ?_
    refine lv_iadd hx hb d_Mo_hhea_56 ?_
    obtain ⟨r_8, hq, h⟩ := Option.bind_eq_some_iff.mp h
    try dsimp only at h
    have hPc := hP.sub (ws' := [(a1, .inr (8, [.ref a1_file, .int a1_size, .ref a1_at, .ref a1_length, .int a1_units, .int a1_form, .int a1_glyphs, .int r_4, .int r_6, .int a1_gap, .int a1_metrics, .int a1_map, .int a1_mapLength, .int a1_segments, .ref a1_done, .ref a1_depth, .ref a1_parts, .ref a1_contours, .ref a1_points, .ref a1_x, .ref a1_y, .ref a1_on, .ref a1_contour])), (a1_file, .inl (cy 1, 4096, .inl a1_file_f))]) [0, 1] rfl
    have hDc := hD.sub (ws' := [(a1, .inr (8, [.ref a1_file, .int a1_size, .ref a1_at, .ref a1_length, .int a1_units, .int a1_form, .int a1_glyphs, .int r_4, .int r_6, .int a1_gap, .int a1_metrics, .int a1_map, .int a1_mapLength, .int a1_segments, .ref a1_done, .ref a1_depth, .ref a1_parts, .ref a1_contours, .ref a1_points, .ref a1_x, .ref a1_y, .ref a1_on, .ref a1_contour])), (a1_file, .inl (cy 1, 4096, .inl a1_file_f))]) [0, 1] (by decide) rfl
    have hFc := va_free (wc := [(a1, .inr (8, [.ref a1_file, .int a1_size, .ref a1_at, .ref a1_length, .int a1_units, .int a1_form, .int a1_glyphs, .int r_4, .int r_6, .int a1_gap, .int a1_metrics, .int a1_map, .int a1_mapLength, .int a1_segments, .ref a1_done, .ref a1_depth, .ref a1_parts, .ref a1_contours, .ref a1_points, .ref a1_x, .ref a1_y, .ref a1_on, .ref a1_contour])), (a1_file, .inl (cy 1, 4096, .inl a1_file_f))]) hD hS hA [0, 1] rfl
    refine va_calli (va_runV (As := [.int ((a1_at_f (3 : Int32).toNatClampNeg) + (8 : Int32))]) (rest := [.ref a1]) ⟨hx, hb, hml, hown, htsG⟩ (c_Mf_signed l dC dI cy H.size a1 a1_file a1_at a1_length a1_done a1_depth a1_parts a1_contours a1_points a1_x a1_y a1_on a1_contour a1_size a1_units a1_form a1_glyphs r_4 r_6 a1_gap a1_metrics a1_map a1_mapLength a1_segments a1_file_f ((a1_at_f (3 : Int32).toNatClampNeg) + (8 : Int32)) r_8 hq) (cwV 1 htsG (gV mW976 mW977 mW978 mW10 mW979) rfl rfl rfl (by decide +kernel) ⟨Nat.le_of_ble_eq_true rfl, Nat.le_of_ble_eq_true rfl⟩) ⟨fun a U g mk q => by obtain ⟨q0, q1, qP, qK, qD⟩ := q; exact ⟨q0, q1, qP, va_K.moved (u := U) (U := U.calling g mk a) (Vm.Alike.refl U.vm) qK, qD⟩, va_recv hK hPc (ci := 8) (q0 := 0) rfl rfl, fun U hU hW => ⟨rfl, by rw [hU], by rw [hU]; exact hPc, va_K.moved hW.alike hK, hDc.weaken (fun _ _ _ _ => trivial)⟩⟩ rfl rfl hl.1 rfl (lv_room (Nat.le_of_ble_eq_true rfl)) d_Mo_hhea_57 ⟨Nat.le_of_ble_eq_true rfl, Nat.le_of_ble_eq_true rfl⟩) hS (fun q _ h => hFc q h) hFc (fun rr u t H1 locs ht hvm hw hB hz1 hk1 hS => ?_)
    obtain ⟨hP1, hK1, hD1⟩ := hB
    rw [ht] at hP1
    replace hw : r_8 = rr := hw.symm
    subst hw
    obtain ⟨hP, hD⟩ := va_join (wr := [(a1_at, .inl (cy 0, 8, .inl a1_at_f)), (a1_length, .inl (cy 0, 8, .inl a1_length_f))]) (w1 := [(a1, .inr (8, [.ref a1_file, .int a1_size, .ref a1_at, .ref a1_length, .int a1_units, .int a1_form, .int a1_glyphs, .int r_4, .int r_6, .int a1_gap, .int a1_metrics, .int a1_map, .int a1_mapLength, .int a1_segments, .ref a1_done, .ref a1_depth, .ref a1_parts, .ref a1_contours, .ref a1_points, .ref a1_x, .ref a1_y, .ref a1_on, .ref a1_contour])), (a1_file, .inl (cy 1, 4096, .inl a1_file_f))]) hP hD [0, 1] [2, 3] rfl rfl (by decide) (by decide) hk1 hFc hP1 hD1
    generalize H1 = H at hP hS ⊢
    have hP := hP.sub (ws' := [(a1, .inr (8, [.ref a1_file, .int a1_size, .ref a1_at, .ref a1_length, .int a1_units, .int a1_form, .int a1_glyphs, .int r_4, .int r_6, .int a1_gap, .int a1_metrics, .int a1_map, .int a1_mapLength, .int a1_segments, .ref a1_done, .ref a1_depth, .ref a1_parts, .ref a1_contours, .ref a1_points, .ref a1_x, .ref a1_y, .ref a1_on, .ref a1_contour])), (a1_file, .inl (cy 1, 4096, .inl a1_file_f)), (a1_at, .inl (cy 0, 8, .inl a1_at_f)), (a1_length, .inl (cy 0, 8, .inl a1_length_f))]) [2, 3, 0, 1] rfl
    have hD := hD.sub (ws' := [(a1, .inr (8, [.ref a1_file, .int a1_size, .ref a1_at, .ref a1_length, .int a1_units, .int a1_form, .int a1_glyphs, .int r_4, .int r_6, .int a1_gap, .int a1_metrics, .int a1_map, .int a1_mapLength, .int a1_segments, .ref a1_done, .ref a1_depth, .ref a1_parts, .ref a1_contours, .ref a1_points, .ref a1_x, .ref a1_y, .ref a1_on, .ref a1_contour])), (a1_file, .inl (cy 1, 4096, .inl a1_file_f)), (a1_at, .inl (cy 0, 8, .inl a1_at_f)), (a1_length, .inl (cy 0, 8, .inl a1_length_f))]) [2, 3, 0, 1] (by decide) rfl
    refine W.widen (k := 0) (n := 0) (by decide) (by decide) ?_
    refine va_put (D := (dC, dI)) (ci := 8) (v := .int r_8) (ty := .int) (C := "GlyphPageModel$Font") (T := F_Mf) (N := 23) hx hb htsG iG_Mf t_Mf t_Mf_ok n_Mf hown hK hP hD hS 0 rfl rfl 9 (by decide) (htsG _ mW786) (fun _ h9 => h9) rfl (by decide +kernel) rfl rfl (Nat.le_of_ble_eq_true rfl) d_Mo_hhea_60 (fun H locs hP hD hS => ?_)
    have hP : va_P (dC, dI) classes [(a1, .inr (8, [.ref a1_file, .int a1_size, .ref a1_at, .ref a1_length, .int a1_units, .int a1_form, .int a1_glyphs, .int r_4, .int r_6, .int r_8, .int a1_metrics, .int a1_map, .int a1_mapLength, .int a1_segments, .ref a1_done, .ref a1_depth, .ref a1_parts, .ref a1_contours, .ref a1_points, .ref a1_x, .ref a1_y, .ref a1_on, .ref a1_contour])), (a1_file, .inl (cy 1, 4096, .inl a1_file_f)), (a1_at, .inl (cy 0, 8, .inl a1_at_f)), (a1_length, .inl (cy 0, 8, .inl a1_length_f))] H := hP
    have hD : va_D A [(a1, .inr (8, [.ref a1_file, .int a1_size, .ref a1_at, .ref a1_length, .int a1_units, .int a1_form, .int a1_glyphs, .int r_4, .int r_6, .int r_8, .int a1_metrics, .int a1_map, .int a1_mapLength, .int a1_segments, .ref a1_done, .ref a1_depth, .ref a1_parts, .ref a1_contours, .ref a1_points, .ref a1_x, .ref a1_y, .ref a1_on, .ref a1_contour])), (a1_file, .inl (cy 1, 4096, .inl a1_file_f)), (a1_at, .inl (cy 0, 8, .inl a1_at_f)), (a1_length, .inl (cy 0, 8, .inl a1_length_f))] := hD
    refine lv_aload_n hx hb d_Mo_hhea_63 rfl (lv_at hl 0 rfl) ?_
    refine lv_aload_n hx hb d_Mo_hhea_64 rfl (lv_at hl 0 rfl) ?_
    refine lv_aload_n hx hb d_Mo_hhea_65 rfl (lv_at hl 0 rfl) ?_
    refine va_get (D := (dC, dI)) (ci := 8) (v := .ref a1_at) (C := "GlyphPageModel$Font") (T := F_Mf) (N := 23) hx hb htsG iG_Mf hown hK hP 0 rfl rfl 2 (by decide) (htsG _ mW778) (fun _ h9 => h9) rfl d_Mo_hhea_66 ?_
    refine lv_iconst (v := (3 : Int32)) hx hb d_Mo_hhea_69 (by decide) ?_
    obtain ⟨hin_9, h⟩ := bd_some h
    refine va_iald hx hb hK hP 2 0 rfl rfl hin_9 d_Mo_hhea_70 ?_
    refine lv_bipush (v := (34 : Int32)) hx hb d_Mo_hhea_71 (by decide) ?_
    refine lv_iadd hx hb d_Mo_hhea_73 ?_
    obtain ⟨r_10, hq, h⟩ := Option.bind_eq_some_iff.mp h
    try dsimp only at h
    have hPc := hP.sub (ws' := [(a1, .inr (8, [.ref a1_file, .int a1_size, .ref a1_at, .ref a1_length, .int a1_units, .int a1_form, .int a1_glyphs, .int r_4, .int r_6, .int r_8, .int a1_metrics, .int a1_map, .int a1_mapLength, .int a1_segments, .ref a1_done, .ref a1_depth, .ref a1_parts, .ref a1_contours, .ref a1_points, .ref a1_x, .ref a1_y, .ref a1_on, .ref a1_contour])), (a1_file, .inl (cy 1, 4096, .inl a1_file_f))]) [0, 1] rfl
    have hDc := hD.sub (ws' := [(a1, .inr (8, [.ref a1_file, .int a1_size, .ref a1_at, .ref a1_length, .int a1_units, .int a1_form, .int a1_glyphs, .int r_4, .int r_6, .int r_8, .int a1_metrics, .int a1_map, .int a1_mapLength, .int a1_segments, .ref a1_done, .ref a1_depth, .ref a1_parts, .ref a1_contours, .ref a1_points, .ref a1_x, .ref a1_y, .ref a1_on, .ref a1_contour])), (a1_file, .inl (cy 1, 4096, .inl a1_file_f))]) [0, 1] (by decide) rfl
    have hFc := va_free (wc := [(a1, .inr (8, [.ref a1_file, .int a1_size, .ref a1_at, .ref a1_length, .int a1_units, .int a1_form, .int a1_glyphs, .int r_4, .int r_6, .int r_8, .int a1_metrics, .int a1_map, .int a1_mapLength, .int a1_segments, .ref a1_done, .ref a1_depth, .ref a1_parts, .ref a1_contours, .ref a1_points, .ref a1_x, .ref a1_y, .ref a1_on, .ref a1_contour])), (a1_file, .inl (cy 1, 4096, .inl a1_file_f))]) hD hS hA [0, 1] rfl
    refine va_calli (va_runV (As := [.int ((a1_at_f (3 : Int32).toNatClampNeg) + (34 : Int32))]) (rest := [.ref a1]) ⟨hx, hb, hml, hown, htsG⟩ (c_Mf_two l dC dI cy H.size a1 a1_file a1_at a1_length a1_done a1_depth a1_parts a1_contours a1_points a1_x a1_y a1_on a1_contour a1_size a1_units a1_form a1_glyphs r_4 r_6 r_8 a1_metrics a1_map a1_mapLength a1_segments a1_file_f ((a1_at_f (3 : Int32).toNatClampNeg) + (34 : Int32)) r_10 hq) (cwV 1 htsG (gV mW951 mW947 mW948 mW10 mW949) rfl rfl rfl (by decide +kernel) ⟨Nat.le_of_ble_eq_true rfl, Nat.le_of_ble_eq_true rfl⟩) ⟨fun a U g mk q => by obtain ⟨q0, q1, qP, qK, qD⟩ := q; exact ⟨q0, q1, qP, va_K.moved (u := U) (U := U.calling g mk a) (Vm.Alike.refl U.vm) qK, qD⟩, va_recv hK hPc (ci := 8) (q0 := 0) rfl rfl, fun U hU hW => ⟨rfl, by rw [hU], by rw [hU]; exact hPc, va_K.moved hW.alike hK, hDc.weaken (fun _ _ _ _ => trivial)⟩⟩ rfl rfl hl.1 rfl (lv_room (Nat.le_of_ble_eq_true rfl)) d_Mo_hhea_74 ⟨Nat.le_of_ble_eq_true rfl, Nat.le_of_ble_eq_true rfl⟩) hS (fun q _ h => hFc q h) hFc (fun rr u t H1 locs ht hvm hw hB hz1 hk1 hS => ?_)
    obtain ⟨hP1, hK1, hD1⟩ := hB
    rw [ht] at hP1
    replace hw : r_10 = rr := hw.symm
    subst hw
    obtain ⟨hP, hD⟩ := va_join (wr := [(a1_at, .inl (cy 0, 8, .inl a1_at_f)), (a1_length, .inl (cy 0, 8, .inl a1_length_f))]) (w1 := [(a1, .inr (8, [.ref a1_file, .int a1_size, .ref a1_at, .ref a1_length, .int a1_units, .int a1_form, .int a1_glyphs, .int r_4, .int r_6, .int r_8, .int a1_metrics, .int a1_map, .int a1_mapLength, .int a1_segments, .ref a1_done, .ref a1_depth, .ref a1_parts, .ref a1_contours, .ref a1_points, .ref a1_x, .ref a1_y, .ref a1_on, .ref a1_contour])), (a1_file, .inl (cy 1, 4096, .inl a1_file_f))]) hP hD [0, 1] [2, 3] rfl rfl (by decide) (by decide) hk1 hFc hP1 hD1
    generalize H1 = H at hP hS ⊢
    have hP := hP.sub (ws' := [(a1, .inr (8, [.ref a1_file, .int a1_size, .ref a1_at, .ref a1_length, .int a1_units, .int a1_form, .int a1_glyphs, .int r_4, .int r_6, .int r_8, .int a1_metrics, .int a1_map, .int a1_mapLength, .int a1_segments, .ref a1_done, .ref a1_depth, .ref a1_parts, .ref a1_contours, .ref a1_points, .ref a1_x, .ref a1_y, .ref a1_on, .ref a1_contour])), (a1_file, .inl (cy 1, 4096, .inl a1_file_f)), (a1_at, .inl (cy 0, 8, .inl a1_at_f)), (a1_length, .inl (cy 0, 8, .inl a1_length_f))]) [2, 3, 0, 1] rfl
    have hD := hD.sub (ws' := [(a1, .inr (8, [.ref a1_file, .int a1_size, .ref a1_at, .ref a1_length, .int a1_units, .int a1_form, .int a1_glyphs, .int r_4, .int r_6, .int r_8, .int a1_metrics, .int a1_map, .int a1_mapLength, .int a1_segments, .ref a1_done, .ref a1_depth, .ref a1_parts, .ref a1_contours, .ref a1_points, .ref a1_x, .ref a1_y, .ref a1_on, .ref a1_contour])), (a1_file, .inl (cy 1, 4096, .inl a1_file_f)), (a1_at, .inl (cy 0, 8, .inl a1_at_f)), (a1_length, .inl (cy 0, 8, .inl a1_length_f))]) [2, 3, 0, 1] (by decide) rfl
    refine W.widen (k := 0) (n := 0) (by decide) (by decide) ?_
    refine va_put (D := (dC, dI)) (ci := 8) (v := .int r_10) (ty := .int) (C := "GlyphPageModel$Font") (T := F_Mf) (N := 23) hx hb htsG iG_Mf t_Mf t_Mf_ok n_Mf hown hK hP hD hS 0 rfl rfl 10 (by decide) (htsG _ mW787) (fun _ h9 => h9) rfl (by decide +kernel) rfl rfl (Nat.le_of_ble_eq_true rfl) d_Mo_hhea_77 (fun H locs hP hD hS => ?_)
    have hP : va_P (dC, dI) classes [(a1, .inr (8, [.ref a1_file, .int a1_size, .ref a1_at, .ref a1_length, .int a1_units, .int a1_form, .int a1_glyphs, .int r_4, .int r_6, .int r_8, .int r_10, .int a1_map, .int a1_mapLength, .int a1_segments, .ref a1_done, .ref a1_depth, .ref a1_parts, .ref a1_contours, .ref a1_points, .ref a1_x, .ref a1_y, .ref a1_on, .ref a1_contour])), (a1_file, .inl (cy 1, 4096, .inl a1_file_f)), (a1_at, .inl (cy 0, 8, .inl a1_at_f)), (a1_length, .inl (cy 0, 8, .inl a1_length_f))] H := hP
    have hD : va_D A [(a1, .inr (8, [.ref a1_file, .int a1_size, .ref a1_at, .ref a1_length, .int a1_units, .int a1_form, .int a1_glyphs, .int r_4, .int r_6, .int r_8, .int r_10, .int a1_map, .int a1_mapLength, .int a1_segments, .ref a1_done, .ref a1_depth, .ref a1_parts, .ref a1_contours, .ref a1_points, .ref a1_x, .ref a1_y, .ref a1_on, .ref a1_contour])), (a1_file, .inl (cy 1, 4096, .inl a1_file_f)), (a1_at, .inl (cy 0, 8, .inl a1_at_f)), (a1_length, .inl (cy 0, 8, .inl a1_length_f))] := hD
    refine lv_bipush (v := (8 : Int32)) hx hb d_Mo_hhea_80 (by decide) ?_
    refine lv_aload_n hx hb d_Mo_hhea_82 rfl (lv_at hl 0 rfl) ?_
    refine va_get (D := (dC, dI)) (ci := 8) (v := .int a1_units) (C := "GlyphPageModel$Font") (T := F_Mf) (N := 23) hx hb htsG iG_Mf hown hK hP 0 rfl rfl 4 (by decide) (htsG _ mW781) (fun _ h9 => h9) rfl d_Mo_hhea_83 ?_
    refine lv_imul hx hb d_Mo_hhea_86 ?_
    refine lv_istore_n (lv' := [(1, .int ((8 : Int32) * a1_units)), (0, .ref a1)]) hx hb d_Mo_hhea_87 rfl hl (by decide) rfl (fun ls hl => ?_)
    refine lv_aload_n hx hb d_Mo_hhea_88 rfl (lv_at hl 1 rfl) ?_
    refine va_get (D := (dC, dI)) (ci := 8) (v := .int r_4) (C := "GlyphPageModel$Font") (T := F_Mf) (N := 23) hx hb htsG iG_Mf hown hK hP 0 rfl rfl 7 (by decide) (htsG _ mW784) (fun _ h9 => h9) rfl d_Mo_hhea_89 ?_
    obtain ⟨r_11, hq, h⟩ := Option.bind_eq_some_iff.mp h
    try dsimp only at h
    have hPc := hP.sub (ws' := []) [] rfl
    have hDc := hD.sub (ws' := []) [] (by decide) rfl
    have hFc := va_free (wc := []) hD hS hA [] rfl
    refine va_calli (va_runS (As := [.int r_4]) (rest := []) ⟨hx, hb, hml, hown, htsG⟩ (c_Jm_abs_II l dC dI cy H.size r_4 r_11 hq) (va_cwS 1 htsG (gS mW980 mW981 mW8 mW982) rfl rfl rfl (by decide +kernel) ⟨Nat.le_of_ble_eq_true rfl, Nat.le_of_ble_eq_true rfl⟩) ⟨fun a U g mk q => by obtain ⟨q0, q1, qP, qK, qD⟩ := q; exact ⟨q0, q1, qP, va_K.moved (u := U) (U := U.calling g mk a) (Vm.Alike.refl U.vm) qK, qD⟩, fun U hU hW => ⟨rfl, by rw [hU], by rw [hU]; exact hPc, va_K.moved hW.alike hK, hDc.weaken (fun _ _ _ _ => trivial)⟩⟩ rfl rfl hl.1 rfl (lv_room (Nat.le_of_ble_eq_true rfl)) d_Mo_hhea_92 ⟨Nat.le_of_ble_eq_true rfl, Nat.le_of_ble_eq_true rfl⟩) hS (fun q _ h => hFc q h) hFc (fun rr u t H1 locs ht hvm hw hB hz1 hk1 hS => ?_)
    obtain ⟨hP1, hK1, hD1⟩ := hB
    rw [ht] at hP1
    replace hw : r_11 = rr := hw.symm
    subst hw
    obtain ⟨hP, hD⟩ := va_join (wr := [(a1, .inr (8, [.ref a1_file, .int a1_size, .ref a1_at, .ref a1_length, .int a1_units, .int a1_form, .int a1_glyphs, .int r_4, .int r_6, .int r_8, .int r_10, .int a1_map, .int a1_mapLength, .int a1_segments, .ref a1_done, .ref a1_depth, .ref a1_parts, .ref a1_contours, .ref a1_points, .ref a1_x, .ref a1_y, .ref a1_on, .ref a1_contour])), (a1_file, .inl (cy 1, 4096, .inl a1_file_f)), (a1_at, .inl (cy 0, 8, .inl a1_at_f)), (a1_length, .inl (cy 0, 8, .inl a1_length_f))]) (w1 := []) hP hD [] [0, 1, 2, 3] rfl rfl (by decide) (by decide) hk1 hFc hP1 hD1
    generalize H1 = H at hP hS ⊢
    have hP := hP.sub (ws' := [(a1, .inr (8, [.ref a1_file, .int a1_size, .ref a1_at, .ref a1_length, .int a1_units, .int a1_form, .int a1_glyphs, .int r_4, .int r_6, .int r_8, .int r_10, .int a1_map, .int a1_mapLength, .int a1_segments, .ref a1_done, .ref a1_depth, .ref a1_parts, .ref a1_contours, .ref a1_points, .ref a1_x, .ref a1_y, .ref a1_on, .ref a1_contour])), (a1_file, .inl (cy 1, 4096, .inl a1_file_f)), (a1_at, .inl (cy 0, 8, .inl a1_at_f)), (a1_length, .inl (cy 0, 8, .inl a1_length_f))]) [0, 1, 2, 3] rfl
    have hD := hD.sub (ws' := [(a1, .inr (8, [.ref a1_file, .int a1_size, .ref a1_at, .ref a1_length, .int a1_units, .int a1_form, .int a1_glyphs, .int r_4, .int r_6, .int r_8, .int r_10, .int a1_map, .int a1_mapLength, .int a1_segments, .ref a1_done, .ref a1_depth, .ref a1_parts, .ref a1_contours, .ref a1_points, .ref a1_x, .ref a1_y, .ref a1_on, .ref a1_contour])), (a1_file, .inl (cy 1, 4096, .inl a1_file_f)), (a1_at, .inl (cy 0, 8, .inl a1_at_f)), (a1_length, .inl (cy 0, 8, .inl a1_length_f))]) [0, 1, 2, 3] (by decide) rfl
    refine W.widen (k := 0) (n := 0) (by decide) (by decide) ?_
    refine lv_iload_n hx hb d_Mo_hhea_95 rfl (lv_at hl 0 rfl) ?_
    refine lv_icmp_gt (tgt := 121) hx hb d_Mo_hhea_96 (by decide) (fun c_12 => ?_) (fun c_12 => ?_)
    · replace h := (if_pos c_12).symm.trans h
      refine lv_iconst (v := (0 : Int32)) hx hb d_Mo_hhea_121 (by decide) ?_
      cases h
      exact W.zret (ty := .boolean) hx hb hr rfl (fun t ht hW => ⟨⟨_, (), rfl, rfl, by rw [ht]; exact hP, va_K.moved hW.alike hK, hD⟩, hS.F ht⟩) hS.2.2 d_Mo_hhea_122 hlocks
    · replace h := (if_neg c_12).symm.trans h
      refine lv_aload_n hx hb d_Mo_hhea_99 rfl (lv_at hl 1 rfl) ?_
      refine va_get (D := (dC, dI)) (ci := 8) (v := .int r_6) (C := "GlyphPageModel$Font") (T := F_Mf) (N := 23) hx hb htsG iG_Mf hown hK hP 0 rfl rfl 8 (by decide) (htsG _ mW785) (fun _ h9 => h9) rfl d_Mo_hhea_100 ?_
      obtain ⟨r_13, hq, h⟩ := Option.bind_eq_some_iff.mp h
      try dsimp only at h
      have hPc := hP.sub (ws' := []) [] rfl
      have hDc := hD.sub (ws' := []) [] (by decide) rfl
      have hFc := va_free (wc := []) hD hS hA [] rfl
      refine va_calli (va_runS (As := [.int r_6]) (rest := []) ⟨hx, hb, hml, hown, htsG⟩ (c_Jm_abs_II l dC dI cy H.size r_6 r_13 hq) (va_cwS 1 htsG (gS mW980 mW981 mW8 mW982) rfl rfl rfl (by decide +kernel) ⟨Nat.le_of_ble_eq_true rfl, Nat.le_of_ble_eq_true rfl⟩) ⟨fun a U g mk q => by obtain ⟨q0, q1, qP, qK, qD⟩ := q; exact ⟨q0, q1, qP, va_K.moved (u := U) (U := U.calling g mk a) (Vm.Alike.refl U.vm) qK, qD⟩, fun U hU hW => ⟨rfl, by rw [hU], by rw [hU]; exact hPc, va_K.moved hW.alike hK, hDc.weaken (fun _ _ _ _ => trivial)⟩⟩ rfl rfl hl.1 rfl (lv_room (Nat.le_of_ble_eq_true rfl)) d_Mo_hhea_103 ⟨Nat.le_of_ble_eq_true rfl, Nat.le_of_ble_eq_true rfl⟩) hS (fun q _ h => hFc q h) hFc (fun rr u t H1 locs ht hvm hw hB hz1 hk1 hS => ?_)
      obtain ⟨hP1, hK1, hD1⟩ := hB
      rw [ht] at hP1
      replace hw : r_13 = rr := hw.symm
      subst hw
      obtain ⟨hP, hD⟩ := va_join (wr := [(a1, .inr (8, [.ref a1_file, .int a1_size, .ref a1_at, .ref a1_length, .int a1_units, .int a1_form, .int a1_glyphs, .int r_4, .int r_6, .int r_8, .int r_10, .int a1_map, .int a1_mapLength, .int a1_segments, .ref a1_done, .ref a1_depth, .ref a1_parts, .ref a1_contours, .ref a1_points, .ref a1_x, .ref a1_y, .ref a1_on, .ref a1_contour])), (a1_file, .inl (cy 1, 4096, .inl a1_file_f)), (a1_at, .inl (cy 0, 8, .inl a1_at_f)), (a1_length, .inl (cy 0, 8, .inl a1_length_f))]) (w1 := []) hP hD [] [0, 1, 2, 3] rfl rfl (by decide) (by decide) hk1 hFc hP1 hD1
      generalize H1 = H at hP hS ⊢
      have hP := hP.sub (ws' := [(a1, .inr (8, [.ref a1_file, .int a1_size, .ref a1_at, .ref a1_length, .int a1_units, .int a1_form, .int a1_glyphs, .int r_4, .int r_6, .int r_8, .int r_10, .int a1_map, .int a1_mapLength, .int a1_segments, .ref a1_done, .ref a1_depth, .ref a1_parts, .ref a1_contours, .ref a1_points, .ref a1_x, .ref a1_y, .ref a1_on, .ref a1_contour])), (a1_file, .inl (cy 1, 4096, .inl a1_file_f)), (a1_at, .inl (cy 0, 8, .inl a1_at_f)), (a1_length, .inl (cy 0, 8, .inl a1_length_f))]) [0, 1, 2, 3] rfl
      have hD := hD.sub (ws' := [(a1, .inr (8, [.ref a1_file, .int a1_size, .ref a1_at, .ref a1_length, .int a1_units, .int a1_form, .int a1_glyphs, .int r_4, .int r_6, .int r_8, .int r_10, .int a1_map, .int a1_mapLength, .int a1_segments, .ref a1_done, .ref a1_depth, .ref a1_parts, .ref a1_contours, .ref a1_points, .ref a1_x, .ref a1_y, .ref a1_on, .ref a1_contour])), (a1_file, .inl (cy 1, 4096, .inl a1_file_f)), (a1_at, .inl (cy 0, 8, .inl a1_at_f)), (a1_length, .inl (cy 0, 8, .inl a1_length_f))]) [0, 1, 2, 3] (by decide) rfl
      refine W.widen (k := 0) (n := 0) (by decide) (by decide) ?_
      refine lv_iload_n hx hb d_Mo_hhea_106 rfl (lv_at hl 0 rfl) ?_
      refine lv_icmp_gt (tgt := 121) hx hb d_Mo_hhea_107 (by decide) (fun c_14 => ?_) (fun c_14 => ?_)
      · replace h := (if_pos c_14).symm.trans h
        refine lv_iconst (v := (0 : Int32)) hx hb d_Mo_hhea_121 (by decide) ?_
        cases h
        exact W.zret (ty := .boolean) hx hb hr rfl (fun t ht hW => ⟨⟨_, (), rfl, rfl, by rw [ht]; exact hP, va_K.moved hW.alike hK, hD⟩, hS.F ht⟩) hS.2.2 d_Mo_hhea_122 hlocks
      · replace h := (if_neg c_14).symm.trans h
        refine lv_aload_n hx hb d_Mo_hhea_110 rfl (lv_at hl 1 rfl) ?_
        refine va_get (D := (dC, dI)) (ci := 8) (v := .int r_8) (C := "GlyphPageModel$Font") (T := F_Mf) (N := 23) hx hb htsG iG_Mf hown hK hP 0 rfl rfl 9 (by decide) (htsG _ mW786) (fun _ h9 => h9) rfl d_Mo_hhea_111 ?_
        obtain ⟨r_15, hq, h⟩ := Option.bind_eq_some_iff.mp h
        try dsimp only at h
        have hPc := hP.sub (ws' := []) [] rfl
        have hDc := hD.sub (ws' := []) [] (by decide) rfl
        have hFc := va_free (wc := []) hD hS hA [] rfl
        refine va_calli (va_runS (As := [.int r_8]) (rest := []) ⟨hx, hb, hml, hown, htsG⟩ (c_Jm_abs_II l dC dI cy H.size r_8 r_15 hq) (va_cwS 1 htsG (gS mW980 mW981 mW8 mW982) rfl rfl rfl (by decide +kernel) ⟨Nat.le_of_ble_eq_true rfl, Nat.le_of_ble_eq_true rfl⟩) ⟨fun a U g mk q => by obtain ⟨q0, q1, qP, qK, qD⟩ := q; exact ⟨q0, q1, qP, va_K.moved (u := U) (U := U.calling g mk a) (Vm.Alike.refl U.vm) qK, qD⟩, fun U hU hW => ⟨rfl, by rw [hU], by rw [hU]; exact hPc, va_K.moved hW.alike hK, hDc.weaken (fun _ _ _ _ => trivial)⟩⟩ rfl rfl hl.1 rfl (lv_room (Nat.le_of_ble_eq_true rfl)) d_Mo_hhea_114 ⟨Nat.le_of_ble_eq_true rfl, Nat.le_of_ble_eq_true rfl⟩) hS (fun q _ h => hFc q h) hFc (fun rr u t H1 locs ht hvm hw hB hz1 hk1 hS => ?_)
        obtain ⟨hP1, hK1, hD1⟩ := hB
        rw [ht] at hP1
        replace hw : r_15 = rr := hw.symm
        subst hw
        obtain ⟨hP, hD⟩ := va_join (wr := [(a1, .inr (8, [.ref a1_file, .int a1_size, .ref a1_at, .ref a1_length, .int a1_units, .int a1_form, .int a1_glyphs, .int r_4, .int r_6, .int r_8, .int r_10, .int a1_map, .int a1_mapLength, .int a1_segments, .ref a1_done, .ref a1_depth, .ref a1_parts, .ref a1_contours, .ref a1_points, .ref a1_x, .ref a1_y, .ref a1_on, .ref a1_contour])), (a1_file, .inl (cy 1, 4096, .inl a1_file_f)), (a1_at, .inl (cy 0, 8, .inl a1_at_f)), (a1_length, .inl (cy 0, 8, .inl a1_length_f))]) (w1 := []) hP hD [] [0, 1, 2, 3] rfl rfl (by decide) (by decide) hk1 hFc hP1 hD1
        generalize H1 = H at hP hS ⊢
        have hP := hP.sub (ws' := [(a1, .inr (8, [.ref a1_file, .int a1_size, .ref a1_at, .ref a1_length, .int a1_units, .int a1_form, .int a1_glyphs, .int r_4, .int r_6, .int r_8, .int r_10, .int a1_map, .int a1_mapLength, .int a1_segments, .ref a1_done, .ref a1_depth, .ref a1_parts, .ref a1_contours, .ref a1_points, .ref a1_x, .ref a1_y, .ref a1_on, .ref a1_contour])), (a1_file, .inl (cy 1, 4096, .inl a1_file_f)), (a1_at, .inl (cy 0, 8, .inl a1_at_f)), (a1_length, .inl (cy 0, 8, .inl a1_length_f))]) [0, 1, 2, 3] rfl
        have hD := hD.sub (ws' := [(a1, .inr (8, [.ref a1_file, .int a1_size, .ref a1_at, .ref a1_length, .int a1_units, .int a1_form, .int a1_glyphs, .int r_4, .int r_6, .int r_8, .int r_10, .int a1_map, .int a1_mapLength, .int a1_segments, .ref a1_done, .ref a1_depth, .ref a1_parts, .ref a1_contours, .ref a1_points, .ref a1_x, .ref a1_y, .ref a1_on, .ref a1_contour])), (a1_file, .inl (cy 1, 4096, .inl a1_file_f)), (a1_at, .inl (cy 0, 8, .inl a1_at_f)), (a1_length, .inl (cy 0, 8, .inl a1_length_f))]) [0, 1, 2, 3] (by decide) rfl
        refine W.widen (k := 0) (n := 0) (by decide) (by decide) ?_
        refine lv_iload_n hx hb d_Mo_hhea_117 rfl (lv_at hl 0 rfl) ?_
        refine lv_icmp_le (tgt := 123) hx hb d_Mo_hhea_118 (by decide) (fun c_16 => ?_) (fun c_16 => ?_)
        · replace h := (if_pos c_16).symm.trans h
          refine lv_aload_n hx hb d_Mo_hhea_123 rfl (lv_at hl 1 rfl) ?_
          refine va_get (D := (dC, dI)) (ci := 8) (v := .int r_10) (C := "GlyphPageModel$Font") (T := F_Mf) (N := 23) hx hb htsG iG_Mf hown hK hP 0 rfl rfl 10 (by decide) (htsG _ mW787) (fun _ h9 => h9) rfl d_Mo_hhea_124 ?_
          refine lv_iconst (v := (1 : Int32)) hx hb d_Mo_hhea_127 (by decide) ?_
          refine lv_icmp_lt (tgt := 146) hx hb d_Mo_hhea_128 (by decide) (fun c_17 => ?_) (fun c_17 => ?_)
          · replace h := (if_pos c_17).symm.trans h
            refine lv_iconst (v := (0 : Int32)) hx hb d_Mo_hhea_146 (by decide) ?_
            cases h
            exact W.zret (ty := .boolean) hx hb hr rfl (fun t ht hW => ⟨⟨_, (), rfl, rfl, by rw [ht]; exact hP, va_K.moved hW.alike hK, hD⟩, hS.F ht⟩) hS.2.2 d_Mo_hhea_147 hlocks
          · replace h := (if_neg c_17).symm.trans h
            refine lv_aload_n hx hb d_Mo_hhea_131 rfl (lv_at hl 1 rfl) ?_
            refine va_get (D := (dC, dI)) (ci := 8) (v := .int r_10) (C := "GlyphPageModel$Font") (T := F_Mf) (N := 23) hx hb htsG iG_Mf hown hK hP 0 rfl rfl 10 (by decide) (htsG _ mW787) (fun _ h9 => h9) rfl d_Mo_hhea_132 ?_
            refine lv_aload_n hx hb d_Mo_hhea_135 rfl (lv_at hl 1 rfl) ?_
            refine va_get (D := (dC, dI)) (ci := 8) (v := .int a1_glyphs) (C := "GlyphPageModel$Font") (T := F_Mf) (N := 23) hx hb htsG iG_Mf hown hK hP 0 rfl rfl 6 (by decide) (htsG _ mW783) (fun _ h9 => h9) rfl d_Mo_hhea_136 ?_
            refine lv_icmp_gt (tgt := 146) hx hb d_Mo_hhea_139 (by decide) (fun c_18 => ?_) (fun c_18 => ?_)
            · replace h := (if_pos c_18).symm.trans h
              refine lv_iconst (v := (0 : Int32)) hx hb d_Mo_hhea_146 (by decide) ?_
              cases h
              exact W.zret (ty := .boolean) hx hb hr rfl (fun t ht hW => ⟨⟨_, (), rfl, rfl, by rw [ht]; exact hP, va_K.moved hW.alike hK, hD⟩, hS.F ht⟩) hS.2.2 d_Mo_hhea_147 hlocks
            · replace h := (if_neg c_18).symm.trans h
              refine lv_iconst (v := (1 : Int32)) hx hb d_Mo_hhea_142 (by decide) ?_
              refine lv_goto (tgt := 147) hx hb d_Mo_hhea_143 (by decide) ?_
              cases h
              exact W.zret (ty := .boolean) hx hb hr rfl (fun t ht hW => ⟨⟨_, (), rfl, rfl, by rw [ht]; exact hP, va_K.moved hW.alike hK, hD⟩, hS.F ht⟩) hS.2.2 d_Mo_hhea_147 hlocks
        · replace h := (if_neg c_16).symm.trans h
          refine lv_iconst (v := (0 : Int32)) hx hb d_Mo_hhea_121 (by decide) ?_
          cases h
          exact W.zret (ty := .boolean) hx hb hr rfl (fun t ht hW => ⟨⟨_, (), rfl, rfl, by rw [ht]; exact hP, va_K.moved hW.alike hK, hD⟩, hS.F ht⟩) hS.2.2 d_Mo_hhea_122 hlocks
  · replace h := (if_neg c_2).symm.trans h
    refine lv_iconst (v := (0 : Int32)) hx hb d_Mo_hhea_11 (by decide) ?_
    cases h
    exact W.zret (ty := .boolean) hx hb hr rfl (fun t ht hW => ⟨⟨_, (), rfl, rfl, by rw [ht]; exact hP, va_K.moved hW.alike hK, hD⟩, hS.F ht⟩) hS.2.2 d_Mo_hhea_12 hlocks
def P_Mo_hmtx_31b (a1_units : Int32) (a1_glyphs : Int32) (a1_metrics : Int32) (a1_file_f : Nat → Int32) (a1_at_f : Nat → Int32) (a1_length_f : Nat → Int32)  (z31 : Int32 → Option (Int32)) (x1 : Int32) : Option (Int32) :=
  if a1_metrics ≤ x1 then (some (1 : Int32)) else (bd (4 : Int32) 8 <| (P_Mf_two a1_file_f ((a1_at_f (4 : Int32).toNatClampNeg) + ((4 : Int32) * x1))).bind fun r_3 => if r_3 ≤ ((8 : Int32) * a1_units) then (z31 (x1 + (1 : Int32))) else (some (0 : Int32)))
def L_Mo_hmtx_31 (a1_units : Int32) (a1_glyphs : Int32) (a1_metrics : Int32) (a1_file_f : Nat → Int32) (a1_at_f : Nat → Int32) (a1_length_f : Nat → Int32)  : (Int32 → Option (Int32)) → Int32 → Option (Int32) :=
  fun z => fun x1 => P_Mo_hmtx_31b a1_units a1_glyphs a1_metrics a1_file_f a1_at_f a1_length_f z x1
def P_Mo_hmtx_31 (a1_units : Int32) (a1_glyphs : Int32) (a1_metrics : Int32) (a1_file_f : Nat → Int32) (a1_at_f : Nat → Int32) (a1_length_f : Nat → Int32)  (x1 : Int32) : Option (Int32) :=
  lp (L_Mo_hmtx_31 a1_units a1_glyphs a1_metrics a1_file_f a1_at_f a1_length_f) fuel x1
theorem e_Mo_hmtx_31 (a1_units : Int32) (a1_glyphs : Int32) (a1_metrics : Int32) (a1_file_f : Nat → Int32) (a1_at_f : Nat → Int32) (a1_length_f : Nat → Int32)  (n : Nat) (x1 : Int32) : lp (L_Mo_hmtx_31 a1_units a1_glyphs a1_metrics a1_file_f a1_at_f a1_length_f) (n + 1) x1 = P_Mo_hmtx_31b a1_units a1_glyphs a1_metrics a1_file_f a1_at_f a1_length_f (lp (L_Mo_hmtx_31 a1_units a1_glyphs a1_metrics a1_file_f a1_at_f a1_length_f) n) x1 := rfl
set_option maxHeartbeats 4000000 in
set_option maxRecDepth 100000 in
theorem w_Mo_hmtx_31b (C0 : Cx p s m args meth c A dC dI cy b_Mo_hmtx 2 (some .boolean) "GlyphPageModel") (a1 : Nat) (a1_file : Nat) (a1_at : Nat) (a1_length : Nat) (a1_done : Nat) (a1_depth : Nat) (a1_parts : Nat) (a1_contours : Nat) (a1_points : Nat) (a1_x : Nat) (a1_y : Nat) (a1_on : Nat) (a1_contour : Nat) (a1_size : Int32) (a1_units : Int32) (a1_form : Int32) (a1_glyphs : Int32) (a1_ascent : Int32) (a1_descent : Int32) (a1_gap : Int32) (a1_metrics : Int32) (a1_map : Int32) (a1_mapLength : Int32) (a1_segments : Int32) (a1_file_f : Nat → Int32) (a1_at_f : Nat → Int32) (a1_length_f : Nat → Int32) (uu : Int32)  (z31 : Int32 → Option (Int32)) (hz31 : ∀ (x1 : Int32) (H : Heap) (locs : List Loc) (ls : Array Slot), z31 x1 = some uu → va_P (dC, dI) classes [(a1, .inr (8, [.ref a1_file, .int a1_size, .ref a1_at, .ref a1_length, .int a1_units, .int a1_form, .int a1_glyphs, .int a1_ascent, .int a1_descent, .int a1_gap, .int a1_metrics, .int a1_map, .int a1_mapLength, .int a1_segments, .ref a1_done, .ref a1_depth, .ref a1_parts, .ref a1_contours, .ref a1_points, .ref a1_x, .ref a1_y, .ref a1_on, .ref a1_contour])), (a1_file, .inl (cy 1, 4096, .inl a1_file_f)), (a1_at, .inl (cy 0, 8, .inl a1_at_f)), (a1_length, .inl (cy 0, 8, .inl a1_length_f))] H → va_D A [(a1, .inr (8, [.ref a1_file, .int a1_size, .ref a1_at, .ref a1_length, .int a1_units, .int a1_form, .int a1_glyphs, .int a1_ascent, .int a1_descent, .int a1_gap, .int a1_metrics, .int a1_map, .int a1_mapLength, .int a1_segments, .ref a1_done, .ref a1_depth, .ref a1_parts, .ref a1_contours, .ref a1_points, .ref a1_x, .ref a1_y, .ref a1_on, .ref a1_contour])), (a1_file, .inl (cy 1, 4096, .inl a1_file_f)), (a1_at, .inl (cy 0, 8, .inl a1_at_f)), (a1_length, .inl (cy 0, 8, .inl a1_length_f))] → va_S A s.heap H locs → lv_has ls 2 [(0, .ref a1), (1, .int x1)] → W p l e ({ frames := 1, cells := 0, slots := 0, locals := 21 } : Room) s m args below meth c H locs 0 0 (MQ below (va_Qi (fun r (_ : Unit) => r = uu) (fun _ t => va_P (dC, dI) classes [(a1, .inr (8, [.ref a1_file, .int a1_size, .ref a1_at, .ref a1_length, .int a1_units, .int a1_form, .int a1_glyphs, .int a1_ascent, .int a1_descent, .int a1_gap, .int a1_metrics, .int a1_map, .int a1_mapLength, .int a1_segments, .ref a1_done, .ref a1_depth, .ref a1_parts, .ref a1_contours, .ref a1_points, .ref a1_x, .ref a1_y, .ref a1_on, .ref a1_contour])), (a1_file, .inl (cy 1, 4096, .inl a1_file_f)), (a1_at, .inl (cy 0, 8, .inl a1_at_f)), (a1_length, .inl (cy 0, 8, .inl a1_length_f))] t.heap ∧ va_K (dC, dI) classes (TY cy) t ∧ va_D A [(a1, .inr (8, [.ref a1_file, .int a1_size, .ref a1_at, .ref a1_length, .int a1_units, .int a1_form, .int a1_glyphs, .int a1_ascent, .int a1_descent, .int a1_gap, .int a1_metrics, .int a1_map, .int a1_mapLength, .int a1_segments, .ref a1_done, .ref a1_depth, .ref a1_parts, .ref a1_contours, .ref a1_points, .ref a1_x, .ref a1_y, .ref a1_on, .ref a1_contour])), (a1_file, .inl (cy 1, 4096, .inl a1_file_f)), (a1_at, .inl (cy 0, 8, .inl a1_at_f)), (a1_length, .inl (cy 0, 8, .inl a1_length_f))]) A) args s 0 0 A) (F0 m 31 ls [])) (x1 : Int32) {H : Heap} {locs : List Loc} {ls : Array Slot} (h : P_Mo_hmtx_31b a1_units a1_glyphs a1_metrics a1_file_f a1_at_f a1_length_f z31 x1 = some uu) : va_P (dC, dI) classes [(a1, .inr (8, [.ref a1_file, .int a1_size, .ref a1_at, .ref a1_length, .int a1_units, .int a1_form, .int a1_glyphs, .int a1_ascent, .int a1_descent, .int a1_gap, .int a1_metrics, .int a1_map, .int a1_mapLength, .int a1_segments, .ref a1_done, .ref a1_depth, .ref a1_parts, .ref a1_contours, .ref a1_points, .ref a1_x, .ref a1_y, .ref a1_on, .ref a1_contour])), (a1_file, .inl (cy 1, 4096, .inl a1_file_f)), (a1_at, .inl (cy 0, 8, .inl a1_at_f)), (a1_length, .inl (cy 0, 8, .inl a1_length_f))] H → va_D A [(a1, .inr (8, [.ref a1_file, .int a1_size, .ref a1_at, .ref a1_length, .int a1_units, .int a1_form, .int a1_glyphs, .int a1_ascent, .int a1_descent, .int a1_gap, .int a1_metrics, .int a1_map, .int a1_mapLength, .int a1_segments, .ref a1_done, .ref a1_depth, .ref a1_parts, .ref a1_contours, .ref a1_points, .ref a1_x, .ref a1_y, .ref a1_on, .ref a1_contour])), (a1_file, .inl (cy 1, 4096, .inl a1_file_f)), (a1_at, .inl (cy 0, 8, .inl a1_at_f)), (a1_length, .inl (cy 0, 8, .inl a1_length_f))] → va_S A s.heap H locs → lv_has ls 2 [(0, .ref a1), (1, .int x1)] → W p l e ({ frames := 1, cells := 0, slots := 0, locals := 21 } : Room) s m args below meth c H locs 0 0 (MQ below (va_Qi (fun r (_ : Unit) => r = uu) (fun _ t => va_P (dC, dI) classes [(a1, .inr (8, [.ref a1_file, .int a1_size, .ref a1_at, .ref a1_length, .int a1_units, .int a1_form, .int a1_glyphs, .int a1_ascent, .int a1_descent, .int a1_gap, .int a1_metrics, .int a1_map, .int a1_mapLength, .int a1_segments, .ref a1_done, .ref a1_depth, .ref a1_parts, .ref a1_contours, .ref a1_points, .ref a1_x, .ref a1_y, .ref a1_on, .ref a1_contour])), (a1_file, .inl (cy 1, 4096, .inl a1_file_f)), (a1_at, .inl (cy 0, 8, .inl a1_at_f)), (a1_length, .inl (cy 0, 8, .inl a1_length_f))] t.heap ∧ va_K (dC, dI) classes (TY cy) t ∧ va_D A [(a1, .inr (8, [.ref a1_file, .int a1_size, .ref a1_at, .ref a1_length, .int a1_units, .int a1_form, .int a1_glyphs, .int a1_ascent, .int a1_descent, .int a1_gap, .int a1_metrics, .int a1_map, .int a1_mapLength, .int a1_segments, .ref a1_done, .ref a1_depth, .ref a1_parts, .ref a1_contours, .ref a1_points, .ref a1_x, .ref a1_y, .ref a1_on, .ref a1_contour])), (a1_file, .inl (cy 1, 4096, .inl a1_file_f)), (a1_at, .inl (cy 0, 8, .inl a1_at_f)), (a1_length, .inl (cy 0, 8, .inl a1_length_f))]) A) args s 0 0 A) (F0 m 31 ls []) := by
  intro hP hD hS hl
  obtain ⟨hx, hb, hr, hlocks, hml, hown, htsG, hA, hK⟩ := id C0
  unfold P_Mo_hmtx_31b at h
  refine lv_iload_n hx hb d_Mo_hmtx_31 rfl (lv_at hl 1 rfl) ?_
  refine lv_aload_n hx hb d_Mo_hmtx_32 rfl (lv_at hl 0 rfl) ?_
  refine va_get (D := (dC, dI)) (ci := 8) (v := .int a1_metrics) (C := "GlyphPageModel$Font") (T := F_Mf) (N := 23) hx hb htsG iG_Mf hown hK hP 0 rfl rfl 10 (by decide) (htsG _ mW787) (fun _ h9 => h9) rfl d_Mo_hmtx_33 ?_
  refine lv_icmp_ge (tgt := 71) hx hb d_Mo_hmtx_36 (by decide) (fun c_1 => ?_) (fun c_1 => ?_)
  · replace h := (if_pos c_1).symm.trans h
    refine lv_iconst (v := (1 : Int32)) hx hb d_Mo_hmtx_71 (by decide) ?_
    cases h
    exact W.zret (ty := .boolean) hx hb hr rfl (fun t ht hW => ⟨⟨_, (), rfl, rfl, by rw [ht]; exact hP, va_K.moved hW.alike hK, hD⟩, hS.F ht⟩) hS.2.2 d_Mo_hmtx_72 hlocks
  · replace h := (if_neg c_1).symm.trans h
    refine lv_aload_n hx hb d_Mo_hmtx_39 rfl (lv_at hl 0 rfl) ?_
    refine lv_aload_n hx hb d_Mo_hmtx_40 rfl (lv_at hl 0 rfl) ?_
    refine va_get (D := (dC, dI)) (ci := 8) (v := .ref a1_at) (C := "GlyphPageModel$Font") (T := F_Mf) (N := 23) hx hb htsG iG_Mf hown hK hP 0 rfl rfl 2 (by decide) (htsG _ mW778) (fun _ h9 => h9) rfl d_Mo_hmtx_41 ?_
    refine lv_iconst (v := (4 : Int32)) hx hb d_Mo_hmtx_44 (by decide) ?_
    obtain ⟨hin_2, h⟩ := bd_some h
    refine va_iald hx hb hK hP 2 0 rfl rfl hin_2 d_Mo_hmtx_45 ?_
    refine lv_iconst (v := (4 : Int32)) hx hb d_Mo_hmtx_46 (by decide) ?_
    refine lv_iload_n hx hb d_Mo_hmtx_47 rfl (lv_at hl 1 rfl) ?_
    refine lv_imul hx hb d_Mo_hmtx_48 ?_
    refine lv_iadd hx hb d_Mo_hmtx_49 ?_
    obtain ⟨r_3, hq, h⟩ := Option.bind_eq_some_iff.mp h
    try dsimp only at h
    have hPc := hP.sub (ws' := [(a1, .inr (8, [.ref a1_file, .int a1_size, .ref a1_at, .ref a1_length, .int a1_units, .int a1_form, .int a1_glyphs, .int a1_ascent, .int a1_descent, .int a1_gap, .int a1_metrics, .int a1_map, .int a1_mapLength, .int a1_segments, .ref a1_done, .ref a1_depth, .ref a1_parts, .ref a1_contours, .ref a1_points, .ref a1_x, .ref a1_y, .ref a1_on, .ref a1_contour])), (a1_file, .inl (cy 1, 4096, .inl a1_file_f))]) [0, 1] rfl
    have hDc := hD.sub (ws' := [(a1, .inr (8, [.ref a1_file, .int a1_size, .ref a1_at, .ref a1_length, .int a1_units, .int a1_form, .int a1_glyphs, .int a1_ascent, .int a1_descent, .int a1_gap, .int a1_metrics, .int a1_map, .int a1_mapLength, .int a1_segments, .ref a1_done, .ref a1_depth, .ref a1_parts, .ref a1_contours, .ref a1_points, .ref a1_x, .ref a1_y, .ref a1_on, .ref a1_contour])), (a1_file, .inl (cy 1, 4096, .inl a1_file_f))]) [0, 1] (by decide) rfl
    have hFc := va_free (wc := [(a1, .inr (8, [.ref a1_file, .int a1_size, .ref a1_at, .ref a1_length, .int a1_units, .int a1_form, .int a1_glyphs, .int a1_ascent, .int a1_descent, .int a1_gap, .int a1_metrics, .int a1_map, .int a1_mapLength, .int a1_segments, .ref a1_done, .ref a1_depth, .ref a1_parts, .ref a1_contours, .ref a1_points, .ref a1_x, .ref a1_y, .ref a1_on, .ref a1_contour])), (a1_file, .inl (cy 1, 4096, .inl a1_file_f))]) hD hS hA [0, 1] rfl
    refine va_calli (va_runV (As := [.int ((a1_at_f (4 : Int32).toNatClampNeg) + ((4 : Int32) * x1))]) (rest := []) ⟨hx, hb, hml, hown, htsG⟩ (c_Mf_two l dC dI cy H.size a1 a1_file a1_at a1_length a1_done a1_depth a1_parts a1_contours a1_points a1_x a1_y a1_on a1_contour a1_size a1_units a1_form a1_glyphs a1_ascent a1_descent a1_gap a1_metrics a1_map a1_mapLength a1_segments a1_file_f ((a1_at_f (4 : Int32).toNatClampNeg) + ((4 : Int32) * x1)) r_3 hq) (cwV 1 htsG (gV mW951 mW947 mW948 mW10 mW949) rfl rfl rfl (by decide +kernel) ⟨Nat.le_of_ble_eq_true rfl, Nat.le_of_ble_eq_true rfl⟩) ⟨fun a U g mk q => by obtain ⟨q0, q1, qP, qK, qD⟩ := q; exact ⟨q0, q1, qP, va_K.moved (u := U) (U := U.calling g mk a) (Vm.Alike.refl U.vm) qK, qD⟩, va_recv hK hPc (ci := 8) (q0 := 0) rfl rfl, fun U hU hW => ⟨rfl, by rw [hU], by rw [hU]; exact hPc, va_K.moved hW.alike hK, hDc.weaken (fun _ _ _ _ => trivial)⟩⟩ rfl rfl hl.1 rfl (lv_room (Nat.le_of_ble_eq_true rfl)) d_Mo_hmtx_50 ⟨Nat.le_of_ble_eq_true rfl, Nat.le_of_ble_eq_true rfl⟩) hS (fun q _ h => hFc q h) hFc (fun rr u t H1 locs ht hvm hw hB hz1 hk1 hS => ?_)
    obtain ⟨hP1, hK1, hD1⟩ := hB
    rw [ht] at hP1
    replace hw : r_3 = rr := hw.symm
    subst hw
    obtain ⟨hP, hD⟩ := va_join (wr := [(a1_at, .inl (cy 0, 8, .inl a1_at_f)), (a1_length, .inl (cy 0, 8, .inl a1_length_f))]) (w1 := [(a1, .inr (8, [.ref a1_file, .int a1_size, .ref a1_at, .ref a1_length, .int a1_units, .int a1_form, .int a1_glyphs, .int a1_ascent, .int a1_descent, .int a1_gap, .int a1_metrics, .int a1_map, .int a1_mapLength, .int a1_segments, .ref a1_done, .ref a1_depth, .ref a1_parts, .ref a1_contours, .ref a1_points, .ref a1_x, .ref a1_y, .ref a1_on, .ref a1_contour])), (a1_file, .inl (cy 1, 4096, .inl a1_file_f))]) hP hD [0, 1] [2, 3] rfl rfl (by decide) (by decide) hk1 hFc hP1 hD1
    generalize H1 = H at hP hS ⊢
    have hP := hP.sub (ws' := [(a1, .inr (8, [.ref a1_file, .int a1_size, .ref a1_at, .ref a1_length, .int a1_units, .int a1_form, .int a1_glyphs, .int a1_ascent, .int a1_descent, .int a1_gap, .int a1_metrics, .int a1_map, .int a1_mapLength, .int a1_segments, .ref a1_done, .ref a1_depth, .ref a1_parts, .ref a1_contours, .ref a1_points, .ref a1_x, .ref a1_y, .ref a1_on, .ref a1_contour])), (a1_file, .inl (cy 1, 4096, .inl a1_file_f)), (a1_at, .inl (cy 0, 8, .inl a1_at_f)), (a1_length, .inl (cy 0, 8, .inl a1_length_f))]) [2, 3, 0, 1] rfl
    have hD := hD.sub (ws' := [(a1, .inr (8, [.ref a1_file, .int a1_size, .ref a1_at, .ref a1_length, .int a1_units, .int a1_form, .int a1_glyphs, .int a1_ascent, .int a1_descent, .int a1_gap, .int a1_metrics, .int a1_map, .int a1_mapLength, .int a1_segments, .ref a1_done, .ref a1_depth, .ref a1_parts, .ref a1_contours, .ref a1_points, .ref a1_x, .ref a1_y, .ref a1_on, .ref a1_contour])), (a1_file, .inl (cy 1, 4096, .inl a1_file_f)), (a1_at, .inl (cy 0, 8, .inl a1_at_f)), (a1_length, .inl (cy 0, 8, .inl a1_length_f))]) [2, 3, 0, 1] (by decide) rfl
    refine W.widen (k := 0) (n := 0) (by decide) (by decide) ?_
    refine lv_bipush (v := (8 : Int32)) hx hb d_Mo_hmtx_53 (by decide) ?_
    refine lv_aload_n hx hb d_Mo_hmtx_55 rfl (lv_at hl 0 rfl) ?_
    refine va_get (D := (dC, dI)) (ci := 8) (v := .int a1_units) (C := "GlyphPageModel$Font") (T := F_Mf) (N := 23) hx hb htsG iG_Mf hown hK hP 0 rfl rfl 4 (by decide) (htsG _ mW781) (fun _ h9 => h9) rfl d_Mo_hmtx_56 ?_
    refine lv_imul hx hb d_Mo_hmtx_59 ?_
    refine lv_icmp_le (tgt := 65) hx hb d_Mo_hmtx_60 (by decide) (fun c_4 => ?_) (fun c_4 => ?_)
    · replace h := (if_pos c_4).symm.trans h
      refine lv_iinc (v := (x1 + (1 : Int32))) (lv' := [(1, .int (x1 + (1 : Int32))), (0, .ref a1)]) hx hb d_Mo_hmtx_65 hl (k := 1) rfl rfl (by decide) rfl (fun ls hl => ?_)
      refine lv_goto (tgt := 31) hx hb d_Mo_hmtx_68 (by decide) ?_
      exact hz31 (x1 + (1 : Int32)) _ _ _ h hP hD hS (lv_sub hl [1, 0] rfl)
    · replace h := (if_neg c_4).symm.trans h
      refine lv_iconst (v := (0 : Int32)) hx hb d_Mo_hmtx_63 (by decide) ?_
      cases h
      exact W.zret (ty := .boolean) hx hb hr rfl (fun t ht hW => ⟨⟨_, (), rfl, rfl, by rw [ht]; exact hP, va_K.moved hW.alike hK, hD⟩, hS.F ht⟩) hS.2.2 d_Mo_hmtx_64 hlocks
theorem w_Mo_hmtx_31 (C0 : Cx p s m args meth c A dC dI cy b_Mo_hmtx 2 (some .boolean) "GlyphPageModel") (a1 : Nat) (a1_file : Nat) (a1_at : Nat) (a1_length : Nat) (a1_done : Nat) (a1_depth : Nat) (a1_parts : Nat) (a1_contours : Nat) (a1_points : Nat) (a1_x : Nat) (a1_y : Nat) (a1_on : Nat) (a1_contour : Nat) (a1_size : Int32) (a1_units : Int32) (a1_form : Int32) (a1_glyphs : Int32) (a1_ascent : Int32) (a1_descent : Int32) (a1_gap : Int32) (a1_metrics : Int32) (a1_map : Int32) (a1_mapLength : Int32) (a1_segments : Int32) (a1_file_f : Nat → Int32) (a1_at_f : Nat → Int32) (a1_length_f : Nat → Int32) (uu : Int32)  (x1 : Int32) {H : Heap} {locs : List Loc} {ls : Array Slot} (h : P_Mo_hmtx_31 a1_units a1_glyphs a1_metrics a1_file_f a1_at_f a1_length_f x1 = some uu) : va_P (dC, dI) classes [(a1, .inr (8, [.ref a1_file, .int a1_size, .ref a1_at, .ref a1_length, .int a1_units, .int a1_form, .int a1_glyphs, .int a1_ascent, .int a1_descent, .int a1_gap, .int a1_metrics, .int a1_map, .int a1_mapLength, .int a1_segments, .ref a1_done, .ref a1_depth, .ref a1_parts, .ref a1_contours, .ref a1_points, .ref a1_x, .ref a1_y, .ref a1_on, .ref a1_contour])), (a1_file, .inl (cy 1, 4096, .inl a1_file_f)), (a1_at, .inl (cy 0, 8, .inl a1_at_f)), (a1_length, .inl (cy 0, 8, .inl a1_length_f))] H → va_D A [(a1, .inr (8, [.ref a1_file, .int a1_size, .ref a1_at, .ref a1_length, .int a1_units, .int a1_form, .int a1_glyphs, .int a1_ascent, .int a1_descent, .int a1_gap, .int a1_metrics, .int a1_map, .int a1_mapLength, .int a1_segments, .ref a1_done, .ref a1_depth, .ref a1_parts, .ref a1_contours, .ref a1_points, .ref a1_x, .ref a1_y, .ref a1_on, .ref a1_contour])), (a1_file, .inl (cy 1, 4096, .inl a1_file_f)), (a1_at, .inl (cy 0, 8, .inl a1_at_f)), (a1_length, .inl (cy 0, 8, .inl a1_length_f))] → va_S A s.heap H locs → lv_has ls 2 [(0, .ref a1), (1, .int x1)] → W p l e ({ frames := 1, cells := 0, slots := 0, locals := 21 } : Room) s m args below meth c H locs 0 0 (MQ below (va_Qi (fun r (_ : Unit) => r = uu) (fun _ t => va_P (dC, dI) classes [(a1, .inr (8, [.ref a1_file, .int a1_size, .ref a1_at, .ref a1_length, .int a1_units, .int a1_form, .int a1_glyphs, .int a1_ascent, .int a1_descent, .int a1_gap, .int a1_metrics, .int a1_map, .int a1_mapLength, .int a1_segments, .ref a1_done, .ref a1_depth, .ref a1_parts, .ref a1_contours, .ref a1_points, .ref a1_x, .ref a1_y, .ref a1_on, .ref a1_contour])), (a1_file, .inl (cy 1, 4096, .inl a1_file_f)), (a1_at, .inl (cy 0, 8, .inl a1_at_f)), (a1_length, .inl (cy 0, 8, .inl a1_length_f))] t.heap ∧ va_K (dC, dI) classes (TY cy) t ∧ va_D A [(a1, .inr (8, [.ref a1_file, .int a1_size, .ref a1_at, .ref a1_length, .int a1_units, .int a1_form, .int a1_glyphs, .int a1_ascent, .int a1_descent, .int a1_gap, .int a1_metrics, .int a1_map, .int a1_mapLength, .int a1_segments, .ref a1_done, .ref a1_depth, .ref a1_parts, .ref a1_contours, .ref a1_points, .ref a1_x, .ref a1_y, .ref a1_on, .ref a1_contour])), (a1_file, .inl (cy 1, 4096, .inl a1_file_f)), (a1_at, .inl (cy 0, 8, .inl a1_at_f)), (a1_length, .inl (cy 0, 8, .inl a1_length_f))]) A) args s 0 0 A) (F0 m 31 ls []) := by
  have key : ∀ (n : Nat) (x1 : Int32) (H : Heap) (locs : List Loc) (ls : Array Slot), lp (L_Mo_hmtx_31 a1_units a1_glyphs a1_metrics a1_file_f a1_at_f a1_length_f) n x1 = some uu → va_P (dC, dI) classes [(a1, .inr (8, [.ref a1_file, .int a1_size, .ref a1_at, .ref a1_length, .int a1_units, .int a1_form, .int a1_glyphs, .int a1_ascent, .int a1_descent, .int a1_gap, .int a1_metrics, .int a1_map, .int a1_mapLength, .int a1_segments, .ref a1_done, .ref a1_depth, .ref a1_parts, .ref a1_contours, .ref a1_points, .ref a1_x, .ref a1_y, .ref a1_on, .ref a1_contour])), (a1_file, .inl (cy 1, 4096, .inl a1_file_f)), (a1_at, .inl (cy 0, 8, .inl a1_at_f)), (a1_length, .inl (cy 0, 8, .inl a1_length_f))] H → va_D A [(a1, .inr (8, [.ref a1_file, .int a1_size, .ref a1_at, .ref a1_length, .int a1_units, .int a1_form, .int a1_glyphs, .int a1_ascent, .int a1_descent, .int a1_gap, .int a1_metrics, .int a1_map, .int a1_mapLength, .int a1_segments, .ref a1_done, .ref a1_depth, .ref a1_parts, .ref a1_contours, .ref a1_points, .ref a1_x, .ref a1_y, .ref a1_on, .ref a1_contour])), (a1_file, .inl (cy 1, 4096, .inl a1_file_f)), (a1_at, .inl (cy 0, 8, .inl a1_at_f)), (a1_length, .inl (cy 0, 8, .inl a1_length_f))] → va_S A s.heap H locs → lv_has ls 2 [(0, .ref a1), (1, .int x1)] → W p l e ({ frames := 1, cells := 0, slots := 0, locals := 21 } : Room) s m args below meth c H locs 0 0 (MQ below (va_Qi (fun r (_ : Unit) => r = uu) (fun _ t => va_P (dC, dI) classes [(a1, .inr (8, [.ref a1_file, .int a1_size, .ref a1_at, .ref a1_length, .int a1_units, .int a1_form, .int a1_glyphs, .int a1_ascent, .int a1_descent, .int a1_gap, .int a1_metrics, .int a1_map, .int a1_mapLength, .int a1_segments, .ref a1_done, .ref a1_depth, .ref a1_parts, .ref a1_contours, .ref a1_points, .ref a1_x, .ref a1_y, .ref a1_on, .ref a1_contour])), (a1_file, .inl (cy 1, 4096, .inl a1_file_f)), (a1_at, .inl (cy 0, 8, .inl a1_at_f)), (a1_length, .inl (cy 0, 8, .inl a1_length_f))] t.heap ∧ va_K (dC, dI) classes (TY cy) t ∧ va_D A [(a1, .inr (8, [.ref a1_file, .int a1_size, .ref a1_at, .ref a1_length, .int a1_units, .int a1_form, .int a1_glyphs, .int a1_ascent, .int a1_descent, .int a1_gap, .int a1_metrics, .int a1_map, .int a1_mapLength, .int a1_segments, .ref a1_done, .ref a1_depth, .ref a1_parts, .ref a1_contours, .ref a1_points, .ref a1_x, .ref a1_y, .ref a1_on, .ref a1_contour])), (a1_file, .inl (cy 1, 4096, .inl a1_file_f)), (a1_at, .inl (cy 0, 8, .inl a1_at_f)), (a1_length, .inl (cy 0, 8, .inl a1_length_f))]) A) args s 0 0 A) (F0 m 31 ls []) := by
    intro n
    induction n with
    | zero => intro x1 H locs ls h; cases h
    | succ n ih => intro x1 H locs ls h; exact w_Mo_hmtx_31b C0 a1 a1_file a1_at a1_length a1_done a1_depth a1_parts a1_contours a1_points a1_x a1_y a1_on a1_contour a1_size a1_units a1_form a1_glyphs a1_ascent a1_descent a1_gap a1_metrics a1_map a1_mapLength a1_segments a1_file_f a1_at_f a1_length_f uu  (lp (L_Mo_hmtx_31 a1_units a1_glyphs a1_metrics a1_file_f a1_at_f a1_length_f) n) ih x1 ((e_Mo_hmtx_31 a1_units a1_glyphs a1_metrics a1_file_f a1_at_f a1_length_f n x1).symm.trans h)
  exact key fuel x1 H locs ls h
def P_Mo_hmtx (a1_units : Int32) (a1_glyphs : Int32) (a1_metrics : Int32) (a1_file_f : Nat → Int32) (a1_at_f : Nat → Int32) (a1_length_f : Nat → Int32)  : Option (Int32) :=
  bd (4 : Int32) 8 <| if (((4 : Int32) * a1_metrics) + ((2 : Int32) * (a1_glyphs - a1_metrics))) ≤ (a1_length_f (4 : Int32).toNatClampNeg) then (P_Mo_hmtx_31 a1_units a1_glyphs a1_metrics a1_file_f a1_at_f a1_length_f (0 : Int32)) else (some (0 : Int32))
set_option maxHeartbeats 4000000 in
set_option maxRecDepth 100000 in
theorem c_Mo_hmtx (l : Launch) (dC : Nat → ClassId) (dI : Nat → Nat → Nat) (cy : Nat → ClassId) (sz : Nat) (a1 : Nat) (a1_file : Nat) (a1_at : Nat) (a1_length : Nat) (a1_done : Nat) (a1_depth : Nat) (a1_parts : Nat) (a1_contours : Nat) (a1_points : Nat) (a1_x : Nat) (a1_y : Nat) (a1_on : Nat) (a1_contour : Nat) (a1_size : Int32) (a1_units : Int32) (a1_form : Int32) (a1_glyphs : Int32) (a1_ascent : Int32) (a1_descent : Int32) (a1_gap : Int32) (a1_metrics : Int32) (a1_map : Int32) (a1_mapLength : Int32) (a1_segments : Int32) (a1_file_f : Nat → Int32) (a1_at_f : Nat → Int32) (a1_length_f : Nat → Int32)  (uu : Int32) (h : P_Mo_hmtx a1_units a1_glyphs a1_metrics a1_file_f a1_at_f a1_length_f = some uu) : Met l y_Mo_hmtx (Cond.code y_Mo_hmtx b_Mo_hmtx 2 (some .boolean) :: G) ({ frames := 1, cells := 0, slots := 0, locals := 21 } : Room) (va_Pc [.ref a1] (fun U => U.heap.size = sz ∧ va_P (dC, dI) classes [(a1, .inr (8, [.ref a1_file, .int a1_size, .ref a1_at, .ref a1_length, .int a1_units, .int a1_form, .int a1_glyphs, .int a1_ascent, .int a1_descent, .int a1_gap, .int a1_metrics, .int a1_map, .int a1_mapLength, .int a1_segments, .ref a1_done, .ref a1_depth, .ref a1_parts, .ref a1_contours, .ref a1_points, .ref a1_x, .ref a1_y, .ref a1_on, .ref a1_contour])), (a1_file, .inl (cy 1, 4096, .inl a1_file_f)), (a1_at, .inl (cy 0, 8, .inl a1_at_f)), (a1_length, .inl (cy 0, 8, .inl a1_length_f))] U.heap ∧ va_K (dC, dI) classes (TY cy) U ∧ va_D (fun _ => True) [(a1, .inr (8, [.ref a1_file, .int a1_size, .ref a1_at, .ref a1_length, .int a1_units, .int a1_form, .int a1_glyphs, .int a1_ascent, .int a1_descent, .int a1_gap, .int a1_metrics, .int a1_map, .int a1_mapLength, .int a1_segments, .ref a1_done, .ref a1_depth, .ref a1_parts, .ref a1_contours, .ref a1_points, .ref a1_x, .ref a1_y, .ref a1_on, .ref a1_contour])), (a1_file, .inl (cy 1, 4096, .inl a1_file_f)), (a1_at, .inl (cy 0, 8, .inl a1_at_f)), (a1_length, .inl (cy 0, 8, .inl a1_length_f))])) (va_Qi (fun r (_ : Unit) => r = uu) (fun _ t => va_P (dC, dI) classes [(a1, .inr (8, [.ref a1_file, .int a1_size, .ref a1_at, .ref a1_length, .int a1_units, .int a1_form, .int a1_glyphs, .int a1_ascent, .int a1_descent, .int a1_gap, .int a1_metrics, .int a1_map, .int a1_mapLength, .int a1_segments, .ref a1_done, .ref a1_depth, .ref a1_parts, .ref a1_contours, .ref a1_points, .ref a1_x, .ref a1_y, .ref a1_on, .ref a1_contour])), (a1_file, .inl (cy 1, 4096, .inl a1_file_f)), (a1_at, .inl (cy 0, 8, .inl a1_at_f)), (a1_length, .inl (cy 0, 8, .inl a1_length_f))] t.heap ∧ va_K (dC, dI) classes (TY cy) t ∧ va_D (va_A [(a1, .inr (8, [.ref a1_file, .int a1_size, .ref a1_at, .ref a1_length, .int a1_units, .int a1_form, .int a1_glyphs, .int a1_ascent, .int a1_descent, .int a1_gap, .int a1_metrics, .int a1_map, .int a1_mapLength, .int a1_segments, .ref a1_done, .ref a1_depth, .ref a1_parts, .ref a1_contours, .ref a1_points, .ref a1_x, .ref a1_y, .ref a1_on, .ref a1_contour])), (a1_file, .inl (cy 1, 4096, .inl a1_file_f)), (a1_at, .inl (cy 0, 8, .inl a1_at_f)), (a1_length, .inl (cy 0, 8, .inl a1_length_f))] sz) [(a1, .inr (8, [.ref a1_file, .int a1_size, .ref a1_at, .ref a1_length, .int a1_units, .int a1_form, .int a1_glyphs, .int a1_ascent, .int a1_descent, .int a1_gap, .int a1_metrics, .int a1_map, .int a1_mapLength, .int a1_segments, .ref a1_done, .ref a1_depth, .ref a1_parts, .ref a1_contours, .ref a1_points, .ref a1_x, .ref a1_y, .ref a1_on, .ref a1_contour])), (a1_file, .inl (cy 1, 4096, .inl a1_file_f)), (a1_at, .inl (cy 0, 8, .inl a1_at_f)), (a1_length, .inl (cy 0, 8, .inl a1_length_f))]) (va_A [(a1, .inr (8, [.ref a1_file, .int a1_size, .ref a1_at, .ref a1_length, .int a1_units, .int a1_form, .int a1_glyphs, .int a1_ascent, .int a1_descent, .int a1_gap, .int a1_metrics, .int a1_map, .int a1_mapLength, .int a1_segments, .ref a1_done, .ref a1_depth, .ref a1_parts, .ref a1_contours, .ref a1_points, .ref a1_x, .ref a1_y, .ref a1_on, .ref a1_contour])), (a1_file, .inl (cy 1, 4096, .inl a1_file_f)), (a1_at, .inl (cy 0, 8, .inl a1_at_f)), (a1_length, .inl (cy 0, 8, .inl a1_length_f))] sz)) 0 0 (va_A [(a1, .inr (8, [.ref a1_file, .int a1_size, .ref a1_at, .ref a1_length, .int a1_units, .int a1_form, .int a1_glyphs, .int a1_ascent, .int a1_descent, .int a1_gap, .int a1_metrics, .int a1_map, .int a1_mapLength, .int a1_segments, .ref a1_done, .ref a1_depth, .ref a1_parts, .ref a1_contours, .ref a1_points, .ref a1_x, .ref a1_y, .ref a1_on, .ref a1_contour])), (a1_file, .inl (cy 1, 4096, .inl a1_file_f)), (a1_at, .inl (cy 0, 8, .inl a1_at_f)), (a1_length, .inl (cy 0, 8, .inl a1_length_f))] sz) := by
  refine Met.ofW (cc := b_Mo_hmtx) (maxL := 2) (ret := (some .boolean)) (by decide) rfl ?_
  intro p e s m args below meth c s₁ B hml hv
  obtain ⟨rfl, hsz, hP, hK, hD0⟩ := hv
  have hx := B.exec
  have hb := B.bytes
  have hr := B.returns
  have hts := atoms_spec (ws := Cond.code y_Mo_hmtx b_Mo_hmtx 2 (some .boolean) :: G) B.pre
  have htsG : ∀ w ∈ G, w.before _ s = true := fun w hw => hts w (List.mem_cons_of_mem _ hw)
  have hown : s.vm.findClass "GlyphPageModel" = some m.cls := findClass_of_methodNamed B.named
  have hlocks := B.notSynchronized
  subst hsz
  have hD := hD0.self (sz := s.heap.size)
  generalize hAe : va_A [(a1, .inr (8, [.ref a1_file, .int a1_size, .ref a1_at, .ref a1_length, .int a1_units, .int a1_form, .int a1_glyphs, .int a1_ascent, .int a1_descent, .int a1_gap, .int a1_metrics, .int a1_map, .int a1_mapLength, .int a1_segments, .ref a1_done, .ref a1_depth, .ref a1_parts, .ref a1_contours, .ref a1_points, .ref a1_x, .ref a1_y, .ref a1_on, .ref a1_contour])), (a1_file, .inl (cy 1, 4096, .inl a1_file_f)), (a1_at, .inl (cy 0, 8, .inl a1_at_f)), (a1_length, .inl (cy 0, 8, .inl a1_length_f))] s.heap.size = A at hD ⊢
  have hA : ∀ q : Nat, s.heap.size ≤ q → A q := fun q h => by rw [← hAe]; exact Or.inr h
  have hS : va_S A s.heap s.heap [] := va_S.rf
  have hl := lv_entry ([.ref a1]) (n := 2) (Nat.le_of_ble_eq_true rfl)
  rw [lg_entry_eq]
  generalize (lg_sl ([.ref a1]) ++ List.replicate (2 - (lg_sl ([.ref a1])).length) Slot.unset).toArray = ls at hl ⊢
  have hl : lv_has ls 2 [(0, .ref a1)] := hl
  have C0 : Cx p s m _ meth c A dC dI cy b_Mo_hmtx 2 (some .boolean) "GlyphPageModel" := ⟨hx, hb, hr, hlocks, hml, hown, htsG, hA, hK⟩
  unfold P_Mo_hmtx at h
  refine lv_aload_n hx hb d_Mo_hmtx_0 rfl (lv_at hl 0 rfl) ?_
  refine va_get (D := (dC, dI)) (ci := 8) (v := .ref a1_length) (C := "GlyphPageModel$Font") (T := F_Mf) (N := 23) hx hb htsG iG_Mf hown hK hP 0 rfl rfl 3 (by decide) (htsG _ mW780) (fun _ h9 => h9) rfl d_Mo_hmtx_1 ?_
  refine lv_iconst (v := (4 : Int32)) hx hb d_Mo_hmtx_4 (by decide) ?_
  obtain ⟨hin_1, h⟩ := bd_some h
  refine va_iald hx hb hK hP 3 0 rfl rfl hin_1 d_Mo_hmtx_5 ?_
  refine lv_iconst (v := (4 : Int32)) hx hb d_Mo_hmtx_6 (by decide) ?_
  refine lv_aload_n hx hb d_Mo_hmtx_7 rfl (lv_at hl 0 rfl) ?_
  refine va_get (D := (dC, dI)) (ci := 8) (v := .int a1_metrics) (C := "GlyphPageModel$Font") (T := F_Mf) (N := 23) hx hb htsG iG_Mf hown hK hP 0 rfl rfl 10 (by decide) (htsG _ mW787) (fun _ h9 => h9) rfl d_Mo_hmtx_8 ?_
  refine lv_imul hx hb d_Mo_hmtx_11 ?_
  refine lv_iconst (v := (2 : Int32)) hx hb d_Mo_hmtx_12 (by decide) ?_
  refine lv_aload_n hx hb d_Mo_hmtx_13 rfl (lv_at hl 0 rfl) ?_
  refine va_get (D := (dC, dI)) (ci := 8) (v := .int a1_glyphs) (C := "GlyphPageModel$Font") (T := F_Mf) (N := 23) hx hb htsG iG_Mf hown hK hP 0 rfl rfl 6 (by decide) (htsG _ mW783) (fun _ h9 => h9) rfl d_Mo_hmtx_14 ?_
  refine lv_aload_n hx hb d_Mo_hmtx_17 rfl (lv_at hl 0 rfl) ?_
  refine va_get (D := (dC, dI)) (ci := 8) (v := .int a1_metrics) (C := "GlyphPageModel$Font") (T := F_Mf) (N := 23) hx hb htsG iG_Mf hown hK hP 0 rfl rfl 10 (by decide) (htsG _ mW787) (fun _ h9 => h9) rfl d_Mo_hmtx_18 ?_
  refine lv_isub hx hb d_Mo_hmtx_21 ?_
  refine lv_imul hx hb d_Mo_hmtx_22 ?_
  refine lv_iadd hx hb d_Mo_hmtx_23 ?_
  refine lv_icmp_ge (tgt := 29) hx hb d_Mo_hmtx_24 (by decide) (fun c_2 => ?_) (fun c_2 => ?_)
  · replace h := (if_pos c_2).symm.trans h
    refine lv_iconst (v := (0 : Int32)) hx hb d_Mo_hmtx_29 (by decide) ?_
    refine lv_istore_n (lv' := [(1, .int (0 : Int32)), (0, .ref a1)]) hx hb d_Mo_hmtx_30 rfl hl (by decide) rfl (fun ls hl => ?_)
    exact w_Mo_hmtx_31 C0 a1 a1_file a1_at a1_length a1_done a1_depth a1_parts a1_contours a1_points a1_x a1_y a1_on a1_contour a1_size a1_units a1_form a1_glyphs a1_ascent a1_descent a1_gap a1_metrics a1_map a1_mapLength a1_segments a1_file_f a1_at_f a1_length_f uu  (0 : Int32) h hP hD hS (lv_sub hl [1, 0] rfl)
  · replace h := (if_neg c_2).symm.trans h
    refine lv_iconst (v := (0 : Int32)) hx hb d_Mo_hmtx_27 (by decide) ?_
    cases h
    exact W.zret (ty := .boolean) hx hb hr rfl (fun t ht hW => ⟨⟨_, (), rfl, rfl, by rw [ht]; exact hP, va_K.moved hW.alike hK, hD⟩, hS.F ht⟩) hS.2.2 d_Mo_hmtx_28 hlocks
def P_Mo_begins (a1_form : Int32) (a1_file_f : Nat → Int32) (a1_at_f : Nat → Int32) (a2 : Int32) : Option (Int64) :=
  if a1_form = 0 then (bd (6 : Int32) 8 <| (P_Mf_two a1_file_f ((a1_at_f (6 : Int32).toNatClampNeg) + ((2 : Int32) * a2))).bind fun r_5 => some ((2 : Int64) * (r_5.toInt64))) else (bd (6 : Int32) 8 <| (P_Mf_big a1_file_f ((a1_at_f (6 : Int32).toNatClampNeg) + ((4 : Int32) * a2))).bind fun r_3 => some r_3)
set_option maxHeartbeats 4000000 in
set_option maxRecDepth 100000 in
theorem c_Mo_begins (l : Launch) (dC : Nat → ClassId) (dI : Nat → Nat → Nat) (cy : Nat → ClassId) (sz : Nat) (a1 : Nat) (a1_file : Nat) (a1_at : Nat) (a1_length : Nat) (a1_done : Nat) (a1_depth : Nat) (a1_parts : Nat) (a1_contours : Nat) (a1_points : Nat) (a1_x : Nat) (a1_y : Nat) (a1_on : Nat) (a1_contour : Nat) (a1_size : Int32) (a1_units : Int32) (a1_form : Int32) (a1_glyphs : Int32) (a1_ascent : Int32) (a1_descent : Int32) (a1_gap : Int32) (a1_metrics : Int32) (a1_map : Int32) (a1_mapLength : Int32) (a1_segments : Int32) (a1_file_f : Nat → Int32) (a1_at_f : Nat → Int32) (a1_length_f : Nat → Int32) (a2 : Int32) (uu : Int64) (h : P_Mo_begins a1_form a1_file_f a1_at_f a2 = some uu) : Met l y_Mo_begins (Cond.code y_Mo_begins b_Mo_begins 2 (some .long) :: G) ({ frames := 2, cells := 0, slots := 0, locals := 42 } : Room) (va_Pc [.ref a1, .int a2] (fun U => U.heap.size = sz ∧ va_P (dC, dI) classes [(a1, .inr (8, [.ref a1_file, .int a1_size, .ref a1_at, .ref a1_length, .int a1_units, .int a1_form, .int a1_glyphs, .int a1_ascent, .int a1_descent, .int a1_gap, .int a1_metrics, .int a1_map, .int a1_mapLength, .int a1_segments, .ref a1_done, .ref a1_depth, .ref a1_parts, .ref a1_contours, .ref a1_points, .ref a1_x, .ref a1_y, .ref a1_on, .ref a1_contour])), (a1_file, .inl (cy 1, 4096, .inl a1_file_f)), (a1_at, .inl (cy 0, 8, .inl a1_at_f)), (a1_length, .inl (cy 0, 8, .inl a1_length_f))] U.heap ∧ va_K (dC, dI) classes (TY cy) U ∧ va_D (fun _ => True) [(a1, .inr (8, [.ref a1_file, .int a1_size, .ref a1_at, .ref a1_length, .int a1_units, .int a1_form, .int a1_glyphs, .int a1_ascent, .int a1_descent, .int a1_gap, .int a1_metrics, .int a1_map, .int a1_mapLength, .int a1_segments, .ref a1_done, .ref a1_depth, .ref a1_parts, .ref a1_contours, .ref a1_points, .ref a1_x, .ref a1_y, .ref a1_on, .ref a1_contour])), (a1_file, .inl (cy 1, 4096, .inl a1_file_f)), (a1_at, .inl (cy 0, 8, .inl a1_at_f)), (a1_length, .inl (cy 0, 8, .inl a1_length_f))])) (va_Ql (fun r (_ : Unit) => r = uu) (fun _ t => va_P (dC, dI) classes [(a1, .inr (8, [.ref a1_file, .int a1_size, .ref a1_at, .ref a1_length, .int a1_units, .int a1_form, .int a1_glyphs, .int a1_ascent, .int a1_descent, .int a1_gap, .int a1_metrics, .int a1_map, .int a1_mapLength, .int a1_segments, .ref a1_done, .ref a1_depth, .ref a1_parts, .ref a1_contours, .ref a1_points, .ref a1_x, .ref a1_y, .ref a1_on, .ref a1_contour])), (a1_file, .inl (cy 1, 4096, .inl a1_file_f)), (a1_at, .inl (cy 0, 8, .inl a1_at_f)), (a1_length, .inl (cy 0, 8, .inl a1_length_f))] t.heap ∧ va_K (dC, dI) classes (TY cy) t ∧ va_D (va_A [(a1, .inr (8, [.ref a1_file, .int a1_size, .ref a1_at, .ref a1_length, .int a1_units, .int a1_form, .int a1_glyphs, .int a1_ascent, .int a1_descent, .int a1_gap, .int a1_metrics, .int a1_map, .int a1_mapLength, .int a1_segments, .ref a1_done, .ref a1_depth, .ref a1_parts, .ref a1_contours, .ref a1_points, .ref a1_x, .ref a1_y, .ref a1_on, .ref a1_contour])), (a1_file, .inl (cy 1, 4096, .inl a1_file_f)), (a1_at, .inl (cy 0, 8, .inl a1_at_f)), (a1_length, .inl (cy 0, 8, .inl a1_length_f))] sz) [(a1, .inr (8, [.ref a1_file, .int a1_size, .ref a1_at, .ref a1_length, .int a1_units, .int a1_form, .int a1_glyphs, .int a1_ascent, .int a1_descent, .int a1_gap, .int a1_metrics, .int a1_map, .int a1_mapLength, .int a1_segments, .ref a1_done, .ref a1_depth, .ref a1_parts, .ref a1_contours, .ref a1_points, .ref a1_x, .ref a1_y, .ref a1_on, .ref a1_contour])), (a1_file, .inl (cy 1, 4096, .inl a1_file_f)), (a1_at, .inl (cy 0, 8, .inl a1_at_f)), (a1_length, .inl (cy 0, 8, .inl a1_length_f))]) (va_A [(a1, .inr (8, [.ref a1_file, .int a1_size, .ref a1_at, .ref a1_length, .int a1_units, .int a1_form, .int a1_glyphs, .int a1_ascent, .int a1_descent, .int a1_gap, .int a1_metrics, .int a1_map, .int a1_mapLength, .int a1_segments, .ref a1_done, .ref a1_depth, .ref a1_parts, .ref a1_contours, .ref a1_points, .ref a1_x, .ref a1_y, .ref a1_on, .ref a1_contour])), (a1_file, .inl (cy 1, 4096, .inl a1_file_f)), (a1_at, .inl (cy 0, 8, .inl a1_at_f)), (a1_length, .inl (cy 0, 8, .inl a1_length_f))] sz)) 0 0 (va_A [(a1, .inr (8, [.ref a1_file, .int a1_size, .ref a1_at, .ref a1_length, .int a1_units, .int a1_form, .int a1_glyphs, .int a1_ascent, .int a1_descent, .int a1_gap, .int a1_metrics, .int a1_map, .int a1_mapLength, .int a1_segments, .ref a1_done, .ref a1_depth, .ref a1_parts, .ref a1_contours, .ref a1_points, .ref a1_x, .ref a1_y, .ref a1_on, .ref a1_contour])), (a1_file, .inl (cy 1, 4096, .inl a1_file_f)), (a1_at, .inl (cy 0, 8, .inl a1_at_f)), (a1_length, .inl (cy 0, 8, .inl a1_length_f))] sz) := by
  refine Met.ofW (cc := b_Mo_begins) (maxL := 2) (ret := (some .long)) (by decide) rfl ?_
  intro p e s m args below meth c s₁ B hml hv
  obtain ⟨rfl, hsz, hP, hK, hD0⟩ := hv
  have hx := B.exec
  have hb := B.bytes
  have hr := B.returns
  have hts := atoms_spec (ws := Cond.code y_Mo_begins b_Mo_begins 2 (some .long) :: G) B.pre
  have htsG : ∀ w ∈ G, w.before _ s = true := fun w hw => hts w (List.mem_cons_of_mem _ hw)
  have hown : s.vm.findClass "GlyphPageModel" = some m.cls := findClass_of_methodNamed B.named
  have hlocks := B.notSynchronized
  subst hsz
  have hD := hD0.self (sz := s.heap.size)
  generalize hAe : va_A [(a1, .inr (8, [.ref a1_file, .int a1_size, .ref a1_at, .ref a1_length, .int a1_units, .int a1_form, .int a1_glyphs, .int a1_ascent, .int a1_descent, .int a1_gap, .int a1_metrics, .int a1_map, .int a1_mapLength, .int a1_segments, .ref a1_done, .ref a1_depth, .ref a1_parts, .ref a1_contours, .ref a1_points, .ref a1_x, .ref a1_y, .ref a1_on, .ref a1_contour])), (a1_file, .inl (cy 1, 4096, .inl a1_file_f)), (a1_at, .inl (cy 0, 8, .inl a1_at_f)), (a1_length, .inl (cy 0, 8, .inl a1_length_f))] s.heap.size = A at hD ⊢
  have hA : ∀ q : Nat, s.heap.size ≤ q → A q := fun q h => by rw [← hAe]; exact Or.inr h
  have hS : va_S A s.heap s.heap [] := va_S.rf
  have hl := lv_entry ([.ref a1, .int a2]) (n := 2) (Nat.le_of_ble_eq_true rfl)
  rw [lg_entry_eq]
  generalize (lg_sl ([.ref a1, .int a2]) ++ List.replicate (2 - (lg_sl ([.ref a1, .int a2])).length) Slot.unset).toArray = ls at hl ⊢
  have hl : lv_has ls 2 [(0, .ref a1), (1, .int a2)] := hl
  have C0 : Cx p s m _ meth c A dC dI cy b_Mo_begins 2 (some .long) "GlyphPageModel" := ⟨hx, hb, hr, hlocks, hml, hown, htsG, hA, hK⟩
  unfold P_Mo_begins at h
  refine lv_aload_n hx hb d_Mo_begins_0 rfl (lv_at hl 0 rfl) ?_
  refine va_get (D := (dC, dI)) (ci := 8) (v := .int a1_form) (C := "GlyphPageModel$Font") (T := F_Mf) (N := 23) hx hb htsG iG_Mf hown hK hP 0 rfl rfl 5 (by decide) (htsG _ mW782) (fun _ h9 => h9) rfl d_Mo_begins_1 ?_
  refine lv_if_ne (tgt := 30) hx hb d_Mo_begins_4 (by decide) (fun c_1 => ?_) (fun c_1 => ?_)
  · replace h := (if_neg c_1).symm.trans h
    refine lv_aload_n hx hb d_Mo_begins_30 rfl (lv_at hl 0 rfl) ?_
    refine lv_aload_n hx hb d_Mo_begins_31 rfl (lv_at hl 0 rfl) ?_
    refine va_get (D := (dC, dI)) (ci := 8) (v := .ref a1_at) (C := "GlyphPageModel$Font") (T := F_Mf) (N := 23) hx hb htsG iG_Mf hown hK hP 0 rfl rfl 2 (by decide) (htsG _ mW778) (fun _ h9 => h9) rfl d_Mo_begins_32 ?_
    refine lv_bipush (v := (6 : Int32)) hx hb d_Mo_begins_35 (by decide) ?_
    obtain ⟨hin_2, h⟩ := bd_some h
    refine va_iald hx hb hK hP 2 0 rfl rfl hin_2 d_Mo_begins_37 ?_
    refine lv_iconst (v := (4 : Int32)) hx hb d_Mo_begins_38 (by decide) ?_
    refine lv_iload_n hx hb d_Mo_begins_39 rfl (lv_at hl 1 rfl) ?_
    refine lv_imul hx hb d_Mo_begins_40 ?_
    refine lv_iadd hx hb d_Mo_begins_41 ?_
    obtain ⟨r_3, hq, h⟩ := Option.bind_eq_some_iff.mp h
    try dsimp only at h
    have hPc := hP.sub (ws' := [(a1, .inr (8, [.ref a1_file, .int a1_size, .ref a1_at, .ref a1_length, .int a1_units, .int a1_form, .int a1_glyphs, .int a1_ascent, .int a1_descent, .int a1_gap, .int a1_metrics, .int a1_map, .int a1_mapLength, .int a1_segments, .ref a1_done, .ref a1_depth, .ref a1_parts, .ref a1_contours, .ref a1_points, .ref a1_x, .ref a1_y, .ref a1_on, .ref a1_contour])), (a1_file, .inl (cy 1, 4096, .inl a1_file_f))]) [0, 1] rfl
    have hDc := hD.sub (ws' := [(a1, .inr (8, [.ref a1_file, .int a1_size, .ref a1_at, .ref a1_length, .int a1_units, .int a1_form, .int a1_glyphs, .int a1_ascent, .int a1_descent, .int a1_gap, .int a1_metrics, .int a1_map, .int a1_mapLength, .int a1_segments, .ref a1_done, .ref a1_depth, .ref a1_parts, .ref a1_contours, .ref a1_points, .ref a1_x, .ref a1_y, .ref a1_on, .ref a1_contour])), (a1_file, .inl (cy 1, 4096, .inl a1_file_f))]) [0, 1] (by decide) rfl
    have hFc := va_free (wc := [(a1, .inr (8, [.ref a1_file, .int a1_size, .ref a1_at, .ref a1_length, .int a1_units, .int a1_form, .int a1_glyphs, .int a1_ascent, .int a1_descent, .int a1_gap, .int a1_metrics, .int a1_map, .int a1_mapLength, .int a1_segments, .ref a1_done, .ref a1_depth, .ref a1_parts, .ref a1_contours, .ref a1_points, .ref a1_x, .ref a1_y, .ref a1_on, .ref a1_contour])), (a1_file, .inl (cy 1, 4096, .inl a1_file_f))]) hD hS hA [0, 1] rfl
    refine va_calll (va_runV (As := [.int ((a1_at_f (6 : Int32).toNatClampNeg) + ((4 : Int32) * a2))]) (rest := []) ⟨hx, hb, hml, hown, htsG⟩ (c_Mf_big l dC dI cy s.heap.size a1 a1_file a1_at a1_length a1_done a1_depth a1_parts a1_contours a1_points a1_x a1_y a1_on a1_contour a1_size a1_units a1_form a1_glyphs a1_ascent a1_descent a1_gap a1_metrics a1_map a1_mapLength a1_segments a1_file_f ((a1_at_f (6 : Int32).toNatClampNeg) + ((4 : Int32) * a2)) r_3 hq) (cwV 1 htsG (gV mW952 mW953 mW954 mW10 mW955) rfl rfl rfl (by decide +kernel) ⟨Nat.le_of_ble_eq_true rfl, Nat.le_of_ble_eq_true rfl⟩) ⟨fun a U g mk q => by obtain ⟨q0, q1, qP, qK, qD⟩ := q; exact ⟨q0, q1, qP, va_K.moved (u := U) (U := U.calling g mk a) (Vm.Alike.refl U.vm) qK, qD⟩, va_recv hK hPc (ci := 8) (q0 := 0) rfl rfl, fun U hU hW => ⟨rfl, by rw [hU], by rw [hU]; exact hPc, va_K.moved hW.alike hK, hDc.weaken (fun _ _ _ _ => trivial)⟩⟩ rfl rfl hl.1 rfl (lv_room (Nat.le_of_ble_eq_true rfl)) d_Mo_begins_42 ⟨Nat.le_of_ble_eq_true rfl, Nat.le_of_ble_eq_true rfl⟩) hS (fun q _ h => hFc q h) hFc (fun rr u t H1 locs ht hvm hw hB hz1 hk1 hS => ?_)
    obtain ⟨hP1, hK1, hD1⟩ := hB
    rw [ht] at hP1
    replace hw : r_3 = rr := hw.symm
    subst hw
    obtain ⟨hP, hD⟩ := va_join (wr := [(a1_at, .inl (cy 0, 8, .inl a1_at_f)), (a1_length, .inl (cy 0, 8, .inl a1_length_f))]) (w1 := [(a1, .inr (8, [.ref a1_file, .int a1_size, .ref a1_at, .ref a1_length, .int a1_units, .int a1_form, .int a1_glyphs, .int a1_ascent, .int a1_descent, .int a1_gap, .int a1_metrics, .int a1_map, .int a1_mapLength, .int a1_segments, .ref a1_done, .ref a1_depth, .ref a1_parts, .ref a1_contours, .ref a1_points, .ref a1_x, .ref a1_y, .ref a1_on, .ref a1_contour])), (a1_file, .inl (cy 1, 4096, .inl a1_file_f))]) hP hD [0, 1] [2, 3] rfl rfl (by decide) (by decide) hk1 hFc hP1 hD1
    generalize H1 = H at hP hS ⊢
    have hP := hP.sub (ws' := [(a1, .inr (8, [.ref a1_file, .int a1_size, .ref a1_at, .ref a1_length, .int a1_units, .int a1_form, .int a1_glyphs, .int a1_ascent, .int a1_descent, .int a1_gap, .int a1_metrics, .int a1_map, .int a1_mapLength, .int a1_segments, .ref a1_done, .ref a1_depth, .ref a1_parts, .ref a1_contours, .ref a1_points, .ref a1_x, .ref a1_y, .ref a1_on, .ref a1_contour])), (a1_file, .inl (cy 1, 4096, .inl a1_file_f)), (a1_at, .inl (cy 0, 8, .inl a1_at_f)), (a1_length, .inl (cy 0, 8, .inl a1_length_f))]) [2, 3, 0, 1] rfl
    have hD := hD.sub (ws' := [(a1, .inr (8, [.ref a1_file, .int a1_size, .ref a1_at, .ref a1_length, .int a1_units, .int a1_form, .int a1_glyphs, .int a1_ascent, .int a1_descent, .int a1_gap, .int a1_metrics, .int a1_map, .int a1_mapLength, .int a1_segments, .ref a1_done, .ref a1_depth, .ref a1_parts, .ref a1_contours, .ref a1_points, .ref a1_x, .ref a1_y, .ref a1_on, .ref a1_contour])), (a1_file, .inl (cy 1, 4096, .inl a1_file_f)), (a1_at, .inl (cy 0, 8, .inl a1_at_f)), (a1_length, .inl (cy 0, 8, .inl a1_length_f))]) [2, 3, 0, 1] (by decide) rfl
    refine W.widen (k := 0) (n := 0) (by decide) (by decide) ?_
    cases h
    exact W.lret hx hb hr (fun t ht hW => ⟨⟨_, (), rfl, rfl, by rw [ht]; exact hP, va_K.moved hW.alike hK, hD⟩, hS.F ht⟩) hS.2.2 d_Mo_begins_45 hlocks
  · replace h := (if_pos c_1).symm.trans h
    refine lv_ldc2 hx hb hown (htsG _ mW992) d_Mo_begins_7 ?_
    refine lv_aload_n hx hb d_Mo_begins_10 rfl (lv_at hl 0 rfl) ?_
    refine lv_aload_n hx hb d_Mo_begins_11 rfl (lv_at hl 0 rfl) ?_
    refine va_get (D := (dC, dI)) (ci := 8) (v := .ref a1_at) (C := "GlyphPageModel$Font") (T := F_Mf) (N := 23) hx hb htsG iG_Mf hown hK hP 0 rfl rfl 2 (by decide) (htsG _ mW778) (fun _ h9 => h9) rfl d_Mo_begins_12 ?_
    refine lv_bipush (v := (6 : Int32)) hx hb d_Mo_begins_15 (by decide) ?_
    obtain ⟨hin_4, h⟩ := bd_some h
    refine va_iald hx hb hK hP 2 0 rfl rfl hin_4 d_Mo_begins_17 ?_
    refine lv_iconst (v := (2 : Int32)) hx hb d_Mo_begins_18 (by decide) ?_
    refine lv_iload_n hx hb d_Mo_begins_19 rfl (lv_at hl 1 rfl) ?_
    refine lv_imul hx hb d_Mo_begins_20 ?_
    refine lv_iadd hx hb d_Mo_begins_21 ?_
    obtain ⟨r_5, hq, h⟩ := Option.bind_eq_some_iff.mp h
    try dsimp only at h
    have hPc := hP.sub (ws' := [(a1, .inr (8, [.ref a1_file, .int a1_size, .ref a1_at, .ref a1_length, .int a1_units, .int a1_form, .int a1_glyphs, .int a1_ascent, .int a1_descent, .int a1_gap, .int a1_metrics, .int a1_map, .int a1_mapLength, .int a1_segments, .ref a1_done, .ref a1_depth, .ref a1_parts, .ref a1_contours, .ref a1_points, .ref a1_x, .ref a1_y, .ref a1_on, .ref a1_contour])), (a1_file, .inl (cy 1, 4096, .inl a1_file_f))]) [0, 1] rfl
    have hDc := hD.sub (ws' := [(a1, .inr (8, [.ref a1_file, .int a1_size, .ref a1_at, .ref a1_length, .int a1_units, .int a1_form, .int a1_glyphs, .int a1_ascent, .int a1_descent, .int a1_gap, .int a1_metrics, .int a1_map, .int a1_mapLength, .int a1_segments, .ref a1_done, .ref a1_depth, .ref a1_parts, .ref a1_contours, .ref a1_points, .ref a1_x, .ref a1_y, .ref a1_on, .ref a1_contour])), (a1_file, .inl (cy 1, 4096, .inl a1_file_f))]) [0, 1] (by decide) rfl
    have hFc := va_free (wc := [(a1, .inr (8, [.ref a1_file, .int a1_size, .ref a1_at, .ref a1_length, .int a1_units, .int a1_form, .int a1_glyphs, .int a1_ascent, .int a1_descent, .int a1_gap, .int a1_metrics, .int a1_map, .int a1_mapLength, .int a1_segments, .ref a1_done, .ref a1_depth, .ref a1_parts, .ref a1_contours, .ref a1_points, .ref a1_x, .ref a1_y, .ref a1_on, .ref a1_contour])), (a1_file, .inl (cy 1, 4096, .inl a1_file_f))]) hD hS hA [0, 1] rfl
    refine va_calli (va_runV (As := [.int ((a1_at_f (6 : Int32).toNatClampNeg) + ((2 : Int32) * a2))]) (rest := [.long (2 : Int64)]) ⟨hx, hb, hml, hown, htsG⟩ (c_Mf_two l dC dI cy s.heap.size a1 a1_file a1_at a1_length a1_done a1_depth a1_parts a1_contours a1_points a1_x a1_y a1_on a1_contour a1_size a1_units a1_form a1_glyphs a1_ascent a1_descent a1_gap a1_metrics a1_map a1_mapLength a1_segments a1_file_f ((a1_at_f (6 : Int32).toNatClampNeg) + ((2 : Int32) * a2)) r_5 hq) (cwV 1 htsG (gV mW951 mW947 mW948 mW10 mW949) rfl rfl rfl (by decide +kernel) ⟨Nat.le_of_ble_eq_true rfl, Nat.le_of_ble_eq_true rfl⟩) ⟨fun a U g mk q => by obtain ⟨q0, q1, qP, qK, qD⟩ := q; exact ⟨q0, q1, qP, va_K.moved (u := U) (U := U.calling g mk a) (Vm.Alike.refl U.vm) qK, qD⟩, va_recv hK hPc (ci := 8) (q0 := 0) rfl rfl, fun U hU hW => ⟨rfl, by rw [hU], by rw [hU]; exact hPc, va_K.moved hW.alike hK, hDc.weaken (fun _ _ _ _ => trivial)⟩⟩ rfl rfl hl.1 rfl (lv_room (Nat.le_of_ble_eq_true rfl)) d_Mo_begins_22 ⟨Nat.le_of_ble_eq_true rfl, Nat.le_of_ble_eq_true rfl⟩) hS (fun q _ h => hFc q h) hFc (fun rr u t H1 locs ht hvm hw hB hz1 hk1 hS => ?_)
    obtain ⟨hP1, hK1, hD1⟩ := hB
    rw [ht] at hP1
    replace hw : r_5 = rr := hw.symm
    subst hw
    obtain ⟨hP, hD⟩ := va_join (wr := [(a1_at, .inl (cy 0, 8, .inl a1_at_f)), (a1_length, .inl (cy 0, 8, .inl a1_length_f))]) (w1 := [(a1, .inr (8, [.ref a1_file, .int a1_size, .ref a1_at, .ref a1_length, .int a1_units, .int a1_form, .int a1_glyphs, .int a1_ascent, .int a1_descent, .int a1_gap, .int a1_metrics, .int a1_map, .int a1_mapLength, .int a1_segments, .ref a1_done, .ref a1_depth, .ref a1_parts, .ref a1_contours, .ref a1_points, .ref a1_x, .ref a1_y, .ref a1_on, .ref a1_contour])), (a1_file, .inl (cy 1, 4096, .inl a1_file_f))]) hP hD [0, 1] [2, 3] rfl rfl (by decide) (by decide) hk1 hFc hP1 hD1
    generalize H1 = H at hP hS ⊢
    have hP := hP.sub (ws' := [(a1, .inr (8, [.ref a1_file, .int a1_size, .ref a1_at, .ref a1_length, .int a1_units, .int a1_form, .int a1_glyphs, .int a1_ascent, .int a1_descent, .int a1_gap, .int a1_metrics, .int a1_map, .int a1_mapLength, .int a1_segments, .ref a1_done, .ref a1_depth, .ref a1_parts, .ref a1_contours, .ref a1_points, .ref a1_x, .ref a1_y, .ref a1_on, .ref a1_contour])), (a1_file, .inl (cy 1, 4096, .inl a1_file_f)), (a1_at, .inl (cy 0, 8, .inl a1_at_f)), (a1_length, .inl (cy 0, 8, .inl a1_length_f))]) [2, 3, 0, 1] rfl
    have hD := hD.sub (ws' := [(a1, .inr (8, [.ref a1_file, .int a1_size, .ref a1_at, .ref a1_length, .int a1_units, .int a1_form, .int a1_glyphs, .int a1_ascent, .int a1_descent, .int a1_gap, .int a1_metrics, .int a1_map, .int a1_mapLength, .int a1_segments, .ref a1_done, .ref a1_depth, .ref a1_parts, .ref a1_contours, .ref a1_points, .ref a1_x, .ref a1_y, .ref a1_on, .ref a1_contour])), (a1_file, .inl (cy 1, 4096, .inl a1_file_f)), (a1_at, .inl (cy 0, 8, .inl a1_at_f)), (a1_length, .inl (cy 0, 8, .inl a1_length_f))]) [2, 3, 0, 1] (by decide) rfl
    refine W.widen (k := 0) (n := 0) (by decide) (by decide) ?_
    refine lv_i2l hx hb d_Mo_begins_25 rfl ?_
    refine lv_lmul hx hb d_Mo_begins_26 ?_
    refine lv_goto (tgt := 45) hx hb d_Mo_begins_27 (by decide) ?_
    cases h
    exact W.lret hx hb hr (fun t ht hW => ⟨⟨_, (), rfl, rfl, by rw [ht]; exact hP, va_K.moved hW.alike hK, hD⟩, hS.F ht⟩) hS.2.2 d_Mo_begins_45 hlocks
def P_Mo_loca_33b (a1_form : Int32) (a1_glyphs : Int32) (a1_file_f : Nat → Int32) (a1_at_f : Nat → Int32) (a1_length_f : Nat → Int32)  (z33 : Int32 → Option (Int32)) (x1 : Int32) : Option (Int32) :=
  if a1_glyphs < x1 then ((P_Mo_begins a1_form a1_file_f a1_at_f a1_glyphs).bind fun r_2 => bd (1 : Int32) 8 <| if 0 < (lg_cmp r_2 ((a1_length_f (1 : Int32).toNatClampNeg).toInt64)) then (some (0 : Int32)) else (some (1 : Int32))) else ((P_Mo_begins a1_form a1_file_f a1_at_f x1).bind fun r_5 => (P_Mo_begins a1_form a1_file_f a1_at_f (x1 - (1 : Int32))).bind fun r_6 => if 0 ≤ (lg_cmp r_5 r_6) then (z33 (x1 + (1 : Int32))) else (some (0 : Int32)))
def L_Mo_loca_33 (a1_form : Int32) (a1_glyphs : Int32) (a1_file_f : Nat → Int32) (a1_at_f : Nat → Int32) (a1_length_f : Nat → Int32)  : (Int32 → Option (Int32)) → Int32 → Option (Int32) :=
  fun z => fun x1 => P_Mo_loca_33b a1_form a1_glyphs a1_file_f a1_at_f a1_length_f z x1
def P_Mo_loca_33 (a1_form : Int32) (a1_glyphs : Int32) (a1_file_f : Nat → Int32) (a1_at_f : Nat → Int32) (a1_length_f : Nat → Int32)  (x1 : Int32) : Option (Int32) :=
  lp (L_Mo_loca_33 a1_form a1_glyphs a1_file_f a1_at_f a1_length_f) fuel x1
theorem e_Mo_loca_33 (a1_form : Int32) (a1_glyphs : Int32) (a1_file_f : Nat → Int32) (a1_at_f : Nat → Int32) (a1_length_f : Nat → Int32)  (n : Nat) (x1 : Int32) : lp (L_Mo_loca_33 a1_form a1_glyphs a1_file_f a1_at_f a1_length_f) (n + 1) x1 = P_Mo_loca_33b a1_form a1_glyphs a1_file_f a1_at_f a1_length_f (lp (L_Mo_loca_33 a1_form a1_glyphs a1_file_f a1_at_f a1_length_f) n) x1 := rfl
set_option maxHeartbeats 4000000 in
set_option maxRecDepth 100000 in
theorem w_Mo_loca_33b (C0 : Cx p s m args meth c A dC dI cy b_Mo_loca 2 (some .boolean) "GlyphPageModel") (a1 : Nat) (a1_file : Nat) (a1_at : Nat) (a1_length : Nat) (a1_done : Nat) (a1_depth : Nat) (a1_parts : Nat) (a1_contours : Nat) (a1_points : Nat) (a1_x : Nat) (a1_y : Nat) (a1_on : Nat) (a1_contour : Nat) (a1_size : Int32) (a1_units : Int32) (a1_form : Int32) (a1_glyphs : Int32) (a1_ascent : Int32) (a1_descent : Int32) (a1_gap : Int32) (a1_metrics : Int32) (a1_map : Int32) (a1_mapLength : Int32) (a1_segments : Int32) (a1_file_f : Nat → Int32) (a1_at_f : Nat → Int32) (a1_length_f : Nat → Int32) (uu : Int32)  (z33 : Int32 → Option (Int32)) (hz33 : ∀ (x1 : Int32) (H : Heap) (locs : List Loc) (ls : Array Slot), z33 x1 = some uu → va_P (dC, dI) classes [(a1, .inr (8, [.ref a1_file, .int a1_size, .ref a1_at, .ref a1_length, .int a1_units, .int a1_form, .int a1_glyphs, .int a1_ascent, .int a1_descent, .int a1_gap, .int a1_metrics, .int a1_map, .int a1_mapLength, .int a1_segments, .ref a1_done, .ref a1_depth, .ref a1_parts, .ref a1_contours, .ref a1_points, .ref a1_x, .ref a1_y, .ref a1_on, .ref a1_contour])), (a1_file, .inl (cy 1, 4096, .inl a1_file_f)), (a1_at, .inl (cy 0, 8, .inl a1_at_f)), (a1_length, .inl (cy 0, 8, .inl a1_length_f))] H → va_D A [(a1, .inr (8, [.ref a1_file, .int a1_size, .ref a1_at, .ref a1_length, .int a1_units, .int a1_form, .int a1_glyphs, .int a1_ascent, .int a1_descent, .int a1_gap, .int a1_metrics, .int a1_map, .int a1_mapLength, .int a1_segments, .ref a1_done, .ref a1_depth, .ref a1_parts, .ref a1_contours, .ref a1_points, .ref a1_x, .ref a1_y, .ref a1_on, .ref a1_contour])), (a1_file, .inl (cy 1, 4096, .inl a1_file_f)), (a1_at, .inl (cy 0, 8, .inl a1_at_f)), (a1_length, .inl (cy 0, 8, .inl a1_length_f))] → va_S A s.heap H locs → lv_has ls 2 [(0, .ref a1), (1, .int x1)] → W p l e ({ frames := 3, cells := 0, slots := 0, locals := 63 } : Room) s m args below meth c H locs 0 0 (MQ below (va_Qi (fun r (_ : Unit) => r = uu) (fun _ t => va_P (dC, dI) classes [(a1, .inr (8, [.ref a1_file, .int a1_size, .ref a1_at, .ref a1_length, .int a1_units, .int a1_form, .int a1_glyphs, .int a1_ascent, .int a1_descent, .int a1_gap, .int a1_metrics, .int a1_map, .int a1_mapLength, .int a1_segments, .ref a1_done, .ref a1_depth, .ref a1_parts, .ref a1_contours, .ref a1_points, .ref a1_x, .ref a1_y, .ref a1_on, .ref a1_contour])), (a1_file, .inl (cy 1, 4096, .inl a1_file_f)), (a1_at, .inl (cy 0, 8, .inl a1_at_f)), (a1_length, .inl (cy 0, 8, .inl a1_length_f))] t.heap ∧ va_K (dC, dI) classes (TY cy) t ∧ va_D A [(a1, .inr (8, [.ref a1_file, .int a1_size, .ref a1_at, .ref a1_length, .int a1_units, .int a1_form, .int a1_glyphs, .int a1_ascent, .int a1_descent, .int a1_gap, .int a1_metrics, .int a1_map, .int a1_mapLength, .int a1_segments, .ref a1_done, .ref a1_depth, .ref a1_parts, .ref a1_contours, .ref a1_points, .ref a1_x, .ref a1_y, .ref a1_on, .ref a1_contour])), (a1_file, .inl (cy 1, 4096, .inl a1_file_f)), (a1_at, .inl (cy 0, 8, .inl a1_at_f)), (a1_length, .inl (cy 0, 8, .inl a1_length_f))]) A) args s 0 0 A) (F0 m 33 ls [])) (x1 : Int32) {H : Heap} {locs : List Loc} {ls : Array Slot} (h : P_Mo_loca_33b a1_form a1_glyphs a1_file_f a1_at_f a1_length_f z33 x1 = some uu) : va_P (dC, dI) classes [(a1, .inr (8, [.ref a1_file, .int a1_size, .ref a1_at, .ref a1_length, .int a1_units, .int a1_form, .int a1_glyphs, .int a1_ascent, .int a1_descent, .int a1_gap, .int a1_metrics, .int a1_map, .int a1_mapLength, .int a1_segments, .ref a1_done, .ref a1_depth, .ref a1_parts, .ref a1_contours, .ref a1_points, .ref a1_x, .ref a1_y, .ref a1_on, .ref a1_contour])), (a1_file, .inl (cy 1, 4096, .inl a1_file_f)), (a1_at, .inl (cy 0, 8, .inl a1_at_f)), (a1_length, .inl (cy 0, 8, .inl a1_length_f))] H → va_D A [(a1, .inr (8, [.ref a1_file, .int a1_size, .ref a1_at, .ref a1_length, .int a1_units, .int a1_form, .int a1_glyphs, .int a1_ascent, .int a1_descent, .int a1_gap, .int a1_metrics, .int a1_map, .int a1_mapLength, .int a1_segments, .ref a1_done, .ref a1_depth, .ref a1_parts, .ref a1_contours, .ref a1_points, .ref a1_x, .ref a1_y, .ref a1_on, .ref a1_contour])), (a1_file, .inl (cy 1, 4096, .inl a1_file_f)), (a1_at, .inl (cy 0, 8, .inl a1_at_f)), (a1_length, .inl (cy 0, 8, .inl a1_length_f))] → va_S A s.heap H locs → lv_has ls 2 [(0, .ref a1), (1, .int x1)] → W p l e ({ frames := 3, cells := 0, slots := 0, locals := 63 } : Room) s m args below meth c H locs 0 0 (MQ below (va_Qi (fun r (_ : Unit) => r = uu) (fun _ t => va_P (dC, dI) classes [(a1, .inr (8, [.ref a1_file, .int a1_size, .ref a1_at, .ref a1_length, .int a1_units, .int a1_form, .int a1_glyphs, .int a1_ascent, .int a1_descent, .int a1_gap, .int a1_metrics, .int a1_map, .int a1_mapLength, .int a1_segments, .ref a1_done, .ref a1_depth, .ref a1_parts, .ref a1_contours, .ref a1_points, .ref a1_x, .ref a1_y, .ref a1_on, .ref a1_contour])), (a1_file, .inl (cy 1, 4096, .inl a1_file_f)), (a1_at, .inl (cy 0, 8, .inl a1_at_f)), (a1_length, .inl (cy 0, 8, .inl a1_length_f))] t.heap ∧ va_K (dC, dI) classes (TY cy) t ∧ va_D A [(a1, .inr (8, [.ref a1_file, .int a1_size, .ref a1_at, .ref a1_length, .int a1_units, .int a1_form, .int a1_glyphs, .int a1_ascent, .int a1_descent, .int a1_gap, .int a1_metrics, .int a1_map, .int a1_mapLength, .int a1_segments, .ref a1_done, .ref a1_depth, .ref a1_parts, .ref a1_contours, .ref a1_points, .ref a1_x, .ref a1_y, .ref a1_on, .ref a1_contour])), (a1_file, .inl (cy 1, 4096, .inl a1_file_f)), (a1_at, .inl (cy 0, 8, .inl a1_at_f)), (a1_length, .inl (cy 0, 8, .inl a1_length_f))]) A) args s 0 0 A) (F0 m 33 ls []) := by
  intro hP hD hS hl
  obtain ⟨hx, hb, hr, hlocks, hml, hown, htsG, hA, hK⟩ := id C0
  unfold P_Mo_loca_33b at h
  refine lv_iload_n hx hb d_Mo_loca_33 rfl (lv_at hl 1 rfl) ?_
  refine lv_aload_n hx hb d_Mo_loca_34 rfl (lv_at hl 0 rfl) ?_
  refine va_get (D := (dC, dI)) (ci := 8) (v := .int a1_glyphs) (C := "GlyphPageModel$Font") (T := F_Mf) (N := 23) hx hb htsG iG_Mf hown hK hP 0 rfl rfl 6 (by decide) (htsG _ mW783) (fun _ h9 => h9) rfl d_Mo_loca_35 ?_
  refine lv_icmp_gt (tgt := 65) hx hb d_Mo_loca_38 (by decide) (fun c_1 => ?_) (fun c_1 => ?_)
  · replace h := (if_pos c_1).symm.trans h
    refine lv_aload_n hx hb d_Mo_loca_65 rfl (lv_at hl 0 rfl) ?_
    refine lv_aload_n hx hb d_Mo_loca_66 rfl (lv_at hl 0 rfl) ?_
    refine va_get (D := (dC, dI)) (ci := 8) (v := .int a1_glyphs) (C := "GlyphPageModel$Font") (T := F_Mf) (N := 23) hx hb htsG iG_Mf hown hK hP 0 rfl rfl 6 (by decide) (htsG _ mW783) (fun _ h9 => h9) rfl d_Mo_loca_67 ?_
    obtain ⟨r_2, hq, h⟩ := Option.bind_eq_some_iff.mp h
    try dsimp only at h
    have hPc := hP.sub (ws' := [(a1, .inr (8, [.ref a1_file, .int a1_size, .ref a1_at, .ref a1_length, .int a1_units, .int a1_form, .int a1_glyphs, .int a1_ascent, .int a1_descent, .int a1_gap, .int a1_metrics, .int a1_map, .int a1_mapLength, .int a1_segments, .ref a1_done, .ref a1_depth, .ref a1_parts, .ref a1_contours, .ref a1_points, .ref a1_x, .ref a1_y, .ref a1_on, .ref a1_contour])), (a1_file, .inl (cy 1, 4096, .inl a1_file_f)), (a1_at, .inl (cy 0, 8, .inl a1_at_f)), (a1_length, .inl (cy 0, 8, .inl a1_length_f))]) [0, 1, 2, 3] rfl
    have hDc := hD.sub (ws' := [(a1, .inr (8, [.ref a1_file, .int a1_size, .ref a1_at, .ref a1_length, .int a1_units, .int a1_form, .int a1_glyphs, .int a1_ascent, .int a1_descent, .int a1_gap, .int a1_metrics, .int a1_map, .int a1_mapLength, .int a1_segments, .ref a1_done, .ref a1_depth, .ref a1_parts, .ref a1_contours, .ref a1_points, .ref a1_x, .ref a1_y, .ref a1_on, .ref a1_contour])), (a1_file, .inl (cy 1, 4096, .inl a1_file_f)), (a1_at, .inl (cy 0, 8, .inl a1_at_f)), (a1_length, .inl (cy 0, 8, .inl a1_length_f))]) [0, 1, 2, 3] (by decide) rfl
    have hFc := va_free (wc := [(a1, .inr (8, [.ref a1_file, .int a1_size, .ref a1_at, .ref a1_length, .int a1_units, .int a1_form, .int a1_glyphs, .int a1_ascent, .int a1_descent, .int a1_gap, .int a1_metrics, .int a1_map, .int a1_mapLength, .int a1_segments, .ref a1_done, .ref a1_depth, .ref a1_parts, .ref a1_contours, .ref a1_points, .ref a1_x, .ref a1_y, .ref a1_on, .ref a1_contour])), (a1_file, .inl (cy 1, 4096, .inl a1_file_f)), (a1_at, .inl (cy 0, 8, .inl a1_at_f)), (a1_length, .inl (cy 0, 8, .inl a1_length_f))]) hD hS hA [0, 1, 2, 3] rfl
    refine va_calll (va_runS (As := [.ref a1, .int a1_glyphs]) (rest := []) ⟨hx, hb, hml, hown, htsG⟩ (c_Mo_begins l dC dI cy H.size a1 a1_file a1_at a1_length a1_done a1_depth a1_parts a1_contours a1_points a1_x a1_y a1_on a1_contour a1_size a1_units a1_form a1_glyphs a1_ascent a1_descent a1_gap a1_metrics a1_map a1_mapLength a1_segments a1_file_f a1_at_f a1_length_f a1_glyphs r_2 hq) (va_cwS 2 htsG (gS mW989 mW990 mW9 mW991) rfl rfl rfl (by decide +kernel) ⟨Nat.le_of_ble_eq_true rfl, Nat.le_of_ble_eq_true rfl⟩) ⟨fun a U g mk q => by obtain ⟨q0, q1, qP, qK, qD⟩ := q; exact ⟨q0, q1, qP, va_K.moved (u := U) (U := U.calling g mk a) (Vm.Alike.refl U.vm) qK, qD⟩, fun U hU hW => ⟨rfl, by rw [hU], by rw [hU]; exact hPc, va_K.moved hW.alike hK, hDc.weaken (fun _ _ _ _ => trivial)⟩⟩ rfl rfl hl.1 rfl (lv_room (Nat.le_of_ble_eq_true rfl)) d_Mo_loca_70 ⟨Nat.le_of_ble_eq_true rfl, Nat.le_of_ble_eq_true rfl⟩) hS (fun q _ h => hFc q h) hFc (fun rr u t H1 locs ht hvm hw hB hz1 hk1 hS => ?_)
    obtain ⟨hP1, hK1, hD1⟩ := hB
    rw [ht] at hP1
    replace hw : r_2 = rr := hw.symm
    subst hw
    obtain ⟨hP, hD⟩ := va_join (wr := []) (w1 := [(a1, .inr (8, [.ref a1_file, .int a1_size, .ref a1_at, .ref a1_length, .int a1_units, .int a1_form, .int a1_glyphs, .int a1_ascent, .int a1_descent, .int a1_gap, .int a1_metrics, .int a1_map, .int a1_mapLength, .int a1_segments, .ref a1_done, .ref a1_depth, .ref a1_parts, .ref a1_contours, .ref a1_points, .ref a1_x, .ref a1_y, .ref a1_on, .ref a1_contour])), (a1_file, .inl (cy 1, 4096, .inl a1_file_f)), (a1_at, .inl (cy 0, 8, .inl a1_at_f)), (a1_length, .inl (cy 0, 8, .inl a1_length_f))]) hP hD [0, 1, 2, 3] [] rfl rfl (by decide) (by decide) hk1 hFc hP1 hD1
    generalize H1 = H at hP hS ⊢
    have hP := hP.sub (ws' := [(a1, .inr (8, [.ref a1_file, .int a1_size, .ref a1_at, .ref a1_length, .int a1_units, .int a1_form, .int a1_glyphs, .int a1_ascent, .int a1_descent, .int a1_gap, .int a1_metrics, .int a1_map, .int a1_mapLength, .int a1_segments, .ref a1_done, .ref a1_depth, .ref a1_parts, .ref a1_contours, .ref a1_points, .ref a1_x, .ref a1_y, .ref a1_on, .ref a1_contour])), (a1_file, .inl (cy 1, 4096, .inl a1_file_f)), (a1_at, .inl (cy 0, 8, .inl a1_at_f)), (a1_length, .inl (cy 0, 8, .inl a1_length_f))]) [0, 1, 2, 3] rfl
    have hD := hD.sub (ws' := [(a1, .inr (8, [.ref a1_file, .int a1_size, .ref a1_at, .ref a1_length, .int a1_units, .int a1_form, .int a1_glyphs, .int a1_ascent, .int a1_descent, .int a1_gap, .int a1_metrics, .int a1_map, .int a1_mapLength, .int a1_segments, .ref a1_done, .ref a1_depth, .ref a1_parts, .ref a1_contours, .ref a1_points, .ref a1_x, .ref a1_y, .ref a1_on, .ref a1_contour])), (a1_file, .inl (cy 1, 4096, .inl a1_file_f)), (a1_at, .inl (cy 0, 8, .inl a1_at_f)), (a1_length, .inl (cy 0, 8, .inl a1_length_f))]) [0, 1, 2, 3] (by decide) rfl
    refine W.widen (k := 0) (n := 0) (by decide) (by decide) ?_
    refine lv_aload_n hx hb d_Mo_loca_73 rfl (lv_at hl 0 rfl) ?_
    refine va_get (D := (dC, dI)) (ci := 8) (v := .ref a1_length) (C := "GlyphPageModel$Font") (T := F_Mf) (N := 23) hx hb htsG iG_Mf hown hK hP 0 rfl rfl 3 (by decide) (htsG _ mW780) (fun _ h9 => h9) rfl d_Mo_loca_74 ?_
    refine lv_iconst (v := (1 : Int32)) hx hb d_Mo_loca_77 (by decide) ?_
    obtain ⟨hin_3, h⟩ := bd_some h
    refine va_iald hx hb hK hP 3 0 rfl rfl hin_3 d_Mo_loca_78 ?_
    refine lv_i2l hx hb d_Mo_loca_79 rfl ?_
    refine W.lcmp hx hb d_Mo_loca_80 ?_
    refine lv_if_gt (tgt := 88) hx hb d_Mo_loca_81 (by decide) (fun c_4 => ?_) (fun c_4 => ?_)
    · replace h := (if_pos c_4).symm.trans h
      refine lv_iconst (v := (0 : Int32)) hx hb d_Mo_loca_88 (by decide) ?_
      cases h
      exact W.zret (ty := .boolean) hx hb hr rfl (fun t ht hW => ⟨⟨_, (), rfl, rfl, by rw [ht]; exact hP, va_K.moved hW.alike hK, hD⟩, hS.F ht⟩) hS.2.2 d_Mo_loca_89 hlocks
    · replace h := (if_neg c_4).symm.trans h
      refine lv_iconst (v := (1 : Int32)) hx hb d_Mo_loca_84 (by decide) ?_
      refine lv_goto (tgt := 89) hx hb d_Mo_loca_85 (by decide) ?_
      cases h
      exact W.zret (ty := .boolean) hx hb hr rfl (fun t ht hW => ⟨⟨_, (), rfl, rfl, by rw [ht]; exact hP, va_K.moved hW.alike hK, hD⟩, hS.F ht⟩) hS.2.2 d_Mo_loca_89 hlocks
  · replace h := (if_neg c_1).symm.trans h
    refine lv_aload_n hx hb d_Mo_loca_41 rfl (lv_at hl 0 rfl) ?_
    refine lv_iload_n hx hb d_Mo_loca_42 rfl (lv_at hl 1 rfl) ?_
    obtain ⟨r_5, hq, h⟩ := Option.bind_eq_some_iff.mp h
    try dsimp only at h
    have hPc := hP.sub (ws' := [(a1, .inr (8, [.ref a1_file, .int a1_size, .ref a1_at, .ref a1_length, .int a1_units, .int a1_form, .int a1_glyphs, .int a1_ascent, .int a1_descent, .int a1_gap, .int a1_metrics, .int a1_map, .int a1_mapLength, .int a1_segments, .ref a1_done, .ref a1_depth, .ref a1_parts, .ref a1_contours, .ref a1_points, .ref a1_x, .ref a1_y, .ref a1_on, .ref a1_contour])), (a1_file, .inl (cy 1, 4096, .inl a1_file_f)), (a1_at, .inl (cy 0, 8, .inl a1_at_f)), (a1_length, .inl (cy 0, 8, .inl a1_length_f))]) [0, 1, 2, 3] rfl
    have hDc := hD.sub (ws' := [(a1, .inr (8, [.ref a1_file, .int a1_size, .ref a1_at, .ref a1_length, .int a1_units, .int a1_form, .int a1_glyphs, .int a1_ascent, .int a1_descent, .int a1_gap, .int a1_metrics, .int a1_map, .int a1_mapLength, .int a1_segments, .ref a1_done, .ref a1_depth, .ref a1_parts, .ref a1_contours, .ref a1_points, .ref a1_x, .ref a1_y, .ref a1_on, .ref a1_contour])), (a1_file, .inl (cy 1, 4096, .inl a1_file_f)), (a1_at, .inl (cy 0, 8, .inl a1_at_f)), (a1_length, .inl (cy 0, 8, .inl a1_length_f))]) [0, 1, 2, 3] (by decide) rfl
    have hFc := va_free (wc := [(a1, .inr (8, [.ref a1_file, .int a1_size, .ref a1_at, .ref a1_length, .int a1_units, .int a1_form, .int a1_glyphs, .int a1_ascent, .int a1_descent, .int a1_gap, .int a1_metrics, .int a1_map, .int a1_mapLength, .int a1_segments, .ref a1_done, .ref a1_depth, .ref a1_parts, .ref a1_contours, .ref a1_points, .ref a1_x, .ref a1_y, .ref a1_on, .ref a1_contour])), (a1_file, .inl (cy 1, 4096, .inl a1_file_f)), (a1_at, .inl (cy 0, 8, .inl a1_at_f)), (a1_length, .inl (cy 0, 8, .inl a1_length_f))]) hD hS hA [0, 1, 2, 3] rfl
    refine va_calll (va_runS (As := [.ref a1, .int x1]) (rest := []) ⟨hx, hb, hml, hown, htsG⟩ (c_Mo_begins l dC dI cy H.size a1 a1_file a1_at a1_length a1_done a1_depth a1_parts a1_contours a1_points a1_x a1_y a1_on a1_contour a1_size a1_units a1_form a1_glyphs a1_ascent a1_descent a1_gap a1_metrics a1_map a1_mapLength a1_segments a1_file_f a1_at_f a1_length_f x1 r_5 hq) (va_cwS 2 htsG (gS mW989 mW990 mW9 mW991) rfl rfl rfl (by decide +kernel) ⟨Nat.le_of_ble_eq_true rfl, Nat.le_of_ble_eq_true rfl⟩) ⟨fun a U g mk q => by obtain ⟨q0, q1, qP, qK, qD⟩ := q; exact ⟨q0, q1, qP, va_K.moved (u := U) (U := U.calling g mk a) (Vm.Alike.refl U.vm) qK, qD⟩, fun U hU hW => ⟨rfl, by rw [hU], by rw [hU]; exact hPc, va_K.moved hW.alike hK, hDc.weaken (fun _ _ _ _ => trivial)⟩⟩ rfl rfl hl.1 rfl (lv_room (Nat.le_of_ble_eq_true rfl)) d_Mo_loca_43 ⟨Nat.le_of_ble_eq_true rfl, Nat.le_of_ble_eq_true rfl⟩) hS (fun q _ h => hFc q h) hFc (fun rr u t H1 locs ht hvm hw hB hz1 hk1 hS => ?_)
    obtain ⟨hP1, hK1, hD1⟩ := hB
    rw [ht] at hP1
    replace hw : r_5 = rr := hw.symm
    subst hw
    obtain ⟨hP, hD⟩ := va_join (wr := []) (w1 := [(a1, .inr (8, [.ref a1_file, .int a1_size, .ref a1_at, .ref a1_length, .int a1_units, .int a1_form, .int a1_glyphs, .int a1_ascent, .int a1_descent, .int a1_gap, .int a1_metrics, .int a1_map, .int a1_mapLength, .int a1_segments, .ref a1_done, .ref a1_depth, .ref a1_parts, .ref a1_contours, .ref a1_points, .ref a1_x, .ref a1_y, .ref a1_on, .ref a1_contour])), (a1_file, .inl (cy 1, 4096, .inl a1_file_f)), (a1_at, .inl (cy 0, 8, .inl a1_at_f)), (a1_length, .inl (cy 0, 8, .inl a1_length_f))]) hP hD [0, 1, 2, 3] [] rfl rfl (by decide) (by decide) hk1 hFc hP1 hD1
    generalize H1 = H at hP hS ⊢
    have hP := hP.sub (ws' := [(a1, .inr (8, [.ref a1_file, .int a1_size, .ref a1_at, .ref a1_length, .int a1_units, .int a1_form, .int a1_glyphs, .int a1_ascent, .int a1_descent, .int a1_gap, .int a1_metrics, .int a1_map, .int a1_mapLength, .int a1_segments, .ref a1_done, .ref a1_depth, .ref a1_parts, .ref a1_contours, .ref a1_points, .ref a1_x, .ref a1_y, .ref a1_on, .ref a1_contour])), (a1_file, .inl (cy 1, 4096, .inl a1_file_f)), (a1_at, .inl (cy 0, 8, .inl a1_at_f)), (a1_length, .inl (cy 0, 8, .inl a1_length_f))]) [0, 1, 2, 3] rfl
    have hD := hD.sub (ws' := [(a1, .inr (8, [.ref a1_file, .int a1_size, .ref a1_at, .ref a1_length, .int a1_units, .int a1_form, .int a1_glyphs, .int a1_ascent, .int a1_descent, .int a1_gap, .int a1_metrics, .int a1_map, .int a1_mapLength, .int a1_segments, .ref a1_done, .ref a1_depth, .ref a1_parts, .ref a1_contours, .ref a1_points, .ref a1_x, .ref a1_y, .ref a1_on, .ref a1_contour])), (a1_file, .inl (cy 1, 4096, .inl a1_file_f)), (a1_at, .inl (cy 0, 8, .inl a1_at_f)), (a1_length, .inl (cy 0, 8, .inl a1_length_f))]) [0, 1, 2, 3] (by decide) rfl
    refine W.widen (k := 0) (n := 0) (by decide) (by decide) ?_
    refine lv_aload_n hx hb d_Mo_loca_46 rfl (lv_at hl 0 rfl) ?_
    refine lv_iload_n hx hb d_Mo_loca_47 rfl (lv_at hl 1 rfl) ?_
    refine lv_iconst (v := (1 : Int32)) hx hb d_Mo_loca_48 (by decide) ?_
    refine lv_isub hx hb d_Mo_loca_49 ?_
    obtain ⟨r_6, hq, h⟩ := Option.bind_eq_some_iff.mp h
    try dsimp only at h
    have hPc := hP.sub (ws' := [(a1, .inr (8, [.ref a1_file, .int a1_size, .ref a1_at, .ref a1_length, .int a1_units, .int a1_form, .int a1_glyphs, .int a1_ascent, .int a1_descent, .int a1_gap, .int a1_metrics, .int a1_map, .int a1_mapLength, .int a1_segments, .ref a1_done, .ref a1_depth, .ref a1_parts, .ref a1_contours, .ref a1_points, .ref a1_x, .ref a1_y, .ref a1_on, .ref a1_contour])), (a1_file, .inl (cy 1, 4096, .inl a1_file_f)), (a1_at, .inl (cy 0, 8, .inl a1_at_f)), (a1_length, .inl (cy 0, 8, .inl a1_length_f))]) [0, 1, 2, 3] rfl
    have hDc := hD.sub (ws' := [(a1, .inr (8, [.ref a1_file, .int a1_size, .ref a1_at, .ref a1_length, .int a1_units, .int a1_form, .int a1_glyphs, .int a1_ascent, .int a1_descent, .int a1_gap, .int a1_metrics, .int a1_map, .int a1_mapLength, .int a1_segments, .ref a1_done, .ref a1_depth, .ref a1_parts, .ref a1_contours, .ref a1_points, .ref a1_x, .ref a1_y, .ref a1_on, .ref a1_contour])), (a1_file, .inl (cy 1, 4096, .inl a1_file_f)), (a1_at, .inl (cy 0, 8, .inl a1_at_f)), (a1_length, .inl (cy 0, 8, .inl a1_length_f))]) [0, 1, 2, 3] (by decide) rfl
    have hFc := va_free (wc := [(a1, .inr (8, [.ref a1_file, .int a1_size, .ref a1_at, .ref a1_length, .int a1_units, .int a1_form, .int a1_glyphs, .int a1_ascent, .int a1_descent, .int a1_gap, .int a1_metrics, .int a1_map, .int a1_mapLength, .int a1_segments, .ref a1_done, .ref a1_depth, .ref a1_parts, .ref a1_contours, .ref a1_points, .ref a1_x, .ref a1_y, .ref a1_on, .ref a1_contour])), (a1_file, .inl (cy 1, 4096, .inl a1_file_f)), (a1_at, .inl (cy 0, 8, .inl a1_at_f)), (a1_length, .inl (cy 0, 8, .inl a1_length_f))]) hD hS hA [0, 1, 2, 3] rfl
    refine va_calll (va_runS (As := [.ref a1, .int (x1 - (1 : Int32))]) (rest := [.long r_5]) ⟨hx, hb, hml, hown, htsG⟩ (c_Mo_begins l dC dI cy H.size a1 a1_file a1_at a1_length a1_done a1_depth a1_parts a1_contours a1_points a1_x a1_y a1_on a1_contour a1_size a1_units a1_form a1_glyphs a1_ascent a1_descent a1_gap a1_metrics a1_map a1_mapLength a1_segments a1_file_f a1_at_f a1_length_f (x1 - (1 : Int32)) r_6 hq) (va_cwS 2 htsG (gS mW989 mW990 mW9 mW991) rfl rfl rfl (by decide +kernel) ⟨Nat.le_of_ble_eq_true rfl, Nat.le_of_ble_eq_true rfl⟩) ⟨fun a U g mk q => by obtain ⟨q0, q1, qP, qK, qD⟩ := q; exact ⟨q0, q1, qP, va_K.moved (u := U) (U := U.calling g mk a) (Vm.Alike.refl U.vm) qK, qD⟩, fun U hU hW => ⟨rfl, by rw [hU], by rw [hU]; exact hPc, va_K.moved hW.alike hK, hDc.weaken (fun _ _ _ _ => trivial)⟩⟩ rfl rfl hl.1 rfl (lv_room (Nat.le_of_ble_eq_true rfl)) d_Mo_loca_50 ⟨Nat.le_of_ble_eq_true rfl, Nat.le_of_ble_eq_true rfl⟩) hS (fun q _ h => hFc q h) hFc (fun rr u t H1 locs ht hvm hw hB hz1 hk1 hS => ?_)
    obtain ⟨hP1, hK1, hD1⟩ := hB
    rw [ht] at hP1
    replace hw : r_6 = rr := hw.symm
    subst hw
    obtain ⟨hP, hD⟩ := va_join (wr := []) (w1 := [(a1, .inr (8, [.ref a1_file, .int a1_size, .ref a1_at, .ref a1_length, .int a1_units, .int a1_form, .int a1_glyphs, .int a1_ascent, .int a1_descent, .int a1_gap, .int a1_metrics, .int a1_map, .int a1_mapLength, .int a1_segments, .ref a1_done, .ref a1_depth, .ref a1_parts, .ref a1_contours, .ref a1_points, .ref a1_x, .ref a1_y, .ref a1_on, .ref a1_contour])), (a1_file, .inl (cy 1, 4096, .inl a1_file_f)), (a1_at, .inl (cy 0, 8, .inl a1_at_f)), (a1_length, .inl (cy 0, 8, .inl a1_length_f))]) hP hD [0, 1, 2, 3] [] rfl rfl (by decide) (by decide) hk1 hFc hP1 hD1
    generalize H1 = H at hP hS ⊢
    have hP := hP.sub (ws' := [(a1, .inr (8, [.ref a1_file, .int a1_size, .ref a1_at, .ref a1_length, .int a1_units, .int a1_form, .int a1_glyphs, .int a1_ascent, .int a1_descent, .int a1_gap, .int a1_metrics, .int a1_map, .int a1_mapLength, .int a1_segments, .ref a1_done, .ref a1_depth, .ref a1_parts, .ref a1_contours, .ref a1_points, .ref a1_x, .ref a1_y, .ref a1_on, .ref a1_contour])), (a1_file, .inl (cy 1, 4096, .inl a1_file_f)), (a1_at, .inl (cy 0, 8, .inl a1_at_f)), (a1_length, .inl (cy 0, 8, .inl a1_length_f))]) [0, 1, 2, 3] rfl
    have hD := hD.sub (ws' := [(a1, .inr (8, [.ref a1_file, .int a1_size, .ref a1_at, .ref a1_length, .int a1_units, .int a1_form, .int a1_glyphs, .int a1_ascent, .int a1_descent, .int a1_gap, .int a1_metrics, .int a1_map, .int a1_mapLength, .int a1_segments, .ref a1_done, .ref a1_depth, .ref a1_parts, .ref a1_contours, .ref a1_points, .ref a1_x, .ref a1_y, .ref a1_on, .ref a1_contour])), (a1_file, .inl (cy 1, 4096, .inl a1_file_f)), (a1_at, .inl (cy 0, 8, .inl a1_at_f)), (a1_length, .inl (cy 0, 8, .inl a1_length_f))]) [0, 1, 2, 3] (by decide) rfl
    refine W.widen (k := 0) (n := 0) (by decide) (by decide) ?_
    refine W.lcmp hx hb d_Mo_loca_53 ?_
    refine lv_if_ge (tgt := 59) hx hb d_Mo_loca_54 (by decide) (fun c_7 => ?_) (fun c_7 => ?_)
    · replace h := (if_pos c_7).symm.trans h
      refine lv_iinc (v := (x1 + (1 : Int32))) (lv' := [(1, .int (x1 + (1 : Int32))), (0, .ref a1)]) hx hb d_Mo_loca_59 hl (k := 1) rfl rfl (by decide) rfl (fun ls hl => ?_)
      refine lv_goto (tgt := 33) hx hb d_Mo_loca_62 (by decide) ?_
      exact hz33 (x1 + (1 : Int32)) _ _ _ h hP hD hS (lv_sub hl [1, 0] rfl)
    · replace h := (if_neg c_7).symm.trans h
      refine lv_iconst (v := (0 : Int32)) hx hb d_Mo_loca_57 (by decide) ?_
      cases h
      exact W.zret (ty := .boolean) hx hb hr rfl (fun t ht hW => ⟨⟨_, (), rfl, rfl, by rw [ht]; exact hP, va_K.moved hW.alike hK, hD⟩, hS.F ht⟩) hS.2.2 d_Mo_loca_58 hlocks
theorem w_Mo_loca_33 (C0 : Cx p s m args meth c A dC dI cy b_Mo_loca 2 (some .boolean) "GlyphPageModel") (a1 : Nat) (a1_file : Nat) (a1_at : Nat) (a1_length : Nat) (a1_done : Nat) (a1_depth : Nat) (a1_parts : Nat) (a1_contours : Nat) (a1_points : Nat) (a1_x : Nat) (a1_y : Nat) (a1_on : Nat) (a1_contour : Nat) (a1_size : Int32) (a1_units : Int32) (a1_form : Int32) (a1_glyphs : Int32) (a1_ascent : Int32) (a1_descent : Int32) (a1_gap : Int32) (a1_metrics : Int32) (a1_map : Int32) (a1_mapLength : Int32) (a1_segments : Int32) (a1_file_f : Nat → Int32) (a1_at_f : Nat → Int32) (a1_length_f : Nat → Int32) (uu : Int32)  (x1 : Int32) {H : Heap} {locs : List Loc} {ls : Array Slot} (h : P_Mo_loca_33 a1_form a1_glyphs a1_file_f a1_at_f a1_length_f x1 = some uu) : va_P (dC, dI) classes [(a1, .inr (8, [.ref a1_file, .int a1_size, .ref a1_at, .ref a1_length, .int a1_units, .int a1_form, .int a1_glyphs, .int a1_ascent, .int a1_descent, .int a1_gap, .int a1_metrics, .int a1_map, .int a1_mapLength, .int a1_segments, .ref a1_done, .ref a1_depth, .ref a1_parts, .ref a1_contours, .ref a1_points, .ref a1_x, .ref a1_y, .ref a1_on, .ref a1_contour])), (a1_file, .inl (cy 1, 4096, .inl a1_file_f)), (a1_at, .inl (cy 0, 8, .inl a1_at_f)), (a1_length, .inl (cy 0, 8, .inl a1_length_f))] H → va_D A [(a1, .inr (8, [.ref a1_file, .int a1_size, .ref a1_at, .ref a1_length, .int a1_units, .int a1_form, .int a1_glyphs, .int a1_ascent, .int a1_descent, .int a1_gap, .int a1_metrics, .int a1_map, .int a1_mapLength, .int a1_segments, .ref a1_done, .ref a1_depth, .ref a1_parts, .ref a1_contours, .ref a1_points, .ref a1_x, .ref a1_y, .ref a1_on, .ref a1_contour])), (a1_file, .inl (cy 1, 4096, .inl a1_file_f)), (a1_at, .inl (cy 0, 8, .inl a1_at_f)), (a1_length, .inl (cy 0, 8, .inl a1_length_f))] → va_S A s.heap H locs → lv_has ls 2 [(0, .ref a1), (1, .int x1)] → W p l e ({ frames := 3, cells := 0, slots := 0, locals := 63 } : Room) s m args below meth c H locs 0 0 (MQ below (va_Qi (fun r (_ : Unit) => r = uu) (fun _ t => va_P (dC, dI) classes [(a1, .inr (8, [.ref a1_file, .int a1_size, .ref a1_at, .ref a1_length, .int a1_units, .int a1_form, .int a1_glyphs, .int a1_ascent, .int a1_descent, .int a1_gap, .int a1_metrics, .int a1_map, .int a1_mapLength, .int a1_segments, .ref a1_done, .ref a1_depth, .ref a1_parts, .ref a1_contours, .ref a1_points, .ref a1_x, .ref a1_y, .ref a1_on, .ref a1_contour])), (a1_file, .inl (cy 1, 4096, .inl a1_file_f)), (a1_at, .inl (cy 0, 8, .inl a1_at_f)), (a1_length, .inl (cy 0, 8, .inl a1_length_f))] t.heap ∧ va_K (dC, dI) classes (TY cy) t ∧ va_D A [(a1, .inr (8, [.ref a1_file, .int a1_size, .ref a1_at, .ref a1_length, .int a1_units, .int a1_form, .int a1_glyphs, .int a1_ascent, .int a1_descent, .int a1_gap, .int a1_metrics, .int a1_map, .int a1_mapLength, .int a1_segments, .ref a1_done, .ref a1_depth, .ref a1_parts, .ref a1_contours, .ref a1_points, .ref a1_x, .ref a1_y, .ref a1_on, .ref a1_contour])), (a1_file, .inl (cy 1, 4096, .inl a1_file_f)), (a1_at, .inl (cy 0, 8, .inl a1_at_f)), (a1_length, .inl (cy 0, 8, .inl a1_length_f))]) A) args s 0 0 A) (F0 m 33 ls []) := by
  have key : ∀ (n : Nat) (x1 : Int32) (H : Heap) (locs : List Loc) (ls : Array Slot), lp (L_Mo_loca_33 a1_form a1_glyphs a1_file_f a1_at_f a1_length_f) n x1 = some uu → va_P (dC, dI) classes [(a1, .inr (8, [.ref a1_file, .int a1_size, .ref a1_at, .ref a1_length, .int a1_units, .int a1_form, .int a1_glyphs, .int a1_ascent, .int a1_descent, .int a1_gap, .int a1_metrics, .int a1_map, .int a1_mapLength, .int a1_segments, .ref a1_done, .ref a1_depth, .ref a1_parts, .ref a1_contours, .ref a1_points, .ref a1_x, .ref a1_y, .ref a1_on, .ref a1_contour])), (a1_file, .inl (cy 1, 4096, .inl a1_file_f)), (a1_at, .inl (cy 0, 8, .inl a1_at_f)), (a1_length, .inl (cy 0, 8, .inl a1_length_f))] H → va_D A [(a1, .inr (8, [.ref a1_file, .int a1_size, .ref a1_at, .ref a1_length, .int a1_units, .int a1_form, .int a1_glyphs, .int a1_ascent, .int a1_descent, .int a1_gap, .int a1_metrics, .int a1_map, .int a1_mapLength, .int a1_segments, .ref a1_done, .ref a1_depth, .ref a1_parts, .ref a1_contours, .ref a1_points, .ref a1_x, .ref a1_y, .ref a1_on, .ref a1_contour])), (a1_file, .inl (cy 1, 4096, .inl a1_file_f)), (a1_at, .inl (cy 0, 8, .inl a1_at_f)), (a1_length, .inl (cy 0, 8, .inl a1_length_f))] → va_S A s.heap H locs → lv_has ls 2 [(0, .ref a1), (1, .int x1)] → W p l e ({ frames := 3, cells := 0, slots := 0, locals := 63 } : Room) s m args below meth c H locs 0 0 (MQ below (va_Qi (fun r (_ : Unit) => r = uu) (fun _ t => va_P (dC, dI) classes [(a1, .inr (8, [.ref a1_file, .int a1_size, .ref a1_at, .ref a1_length, .int a1_units, .int a1_form, .int a1_glyphs, .int a1_ascent, .int a1_descent, .int a1_gap, .int a1_metrics, .int a1_map, .int a1_mapLength, .int a1_segments, .ref a1_done, .ref a1_depth, .ref a1_parts, .ref a1_contours, .ref a1_points, .ref a1_x, .ref a1_y, .ref a1_on, .ref a1_contour])), (a1_file, .inl (cy 1, 4096, .inl a1_file_f)), (a1_at, .inl (cy 0, 8, .inl a1_at_f)), (a1_length, .inl (cy 0, 8, .inl a1_length_f))] t.heap ∧ va_K (dC, dI) classes (TY cy) t ∧ va_D A [(a1, .inr (8, [.ref a1_file, .int a1_size, .ref a1_at, .ref a1_length, .int a1_units, .int a1_form, .int a1_glyphs, .int a1_ascent, .int a1_descent, .int a1_gap, .int a1_metrics, .int a1_map, .int a1_mapLength, .int a1_segments, .ref a1_done, .ref a1_depth, .ref a1_parts, .ref a1_contours, .ref a1_points, .ref a1_x, .ref a1_y, .ref a1_on, .ref a1_contour])), (a1_file, .inl (cy 1, 4096, .inl a1_file_f)), (a1_at, .inl (cy 0, 8, .inl a1_at_f)), (a1_length, .inl (cy 0, 8, .inl a1_length_f))]) A) args s 0 0 A) (F0 m 33 ls []) := by
    intro n
    induction n with
    | zero => intro x1 H locs ls h; cases h
    | succ n ih => intro x1 H locs ls h; exact w_Mo_loca_33b C0 a1 a1_file a1_at a1_length a1_done a1_depth a1_parts a1_contours a1_points a1_x a1_y a1_on a1_contour a1_size a1_units a1_form a1_glyphs a1_ascent a1_descent a1_gap a1_metrics a1_map a1_mapLength a1_segments a1_file_f a1_at_f a1_length_f uu  (lp (L_Mo_loca_33 a1_form a1_glyphs a1_file_f a1_at_f a1_length_f) n) ih x1 ((e_Mo_loca_33 a1_form a1_glyphs a1_file_f a1_at_f a1_length_f n x1).symm.trans h)
  exact key fuel x1 H locs ls h
def P_Mo_loca_25 (a1_form : Int32) (a1_glyphs : Int32) (a1_file_f : Nat → Int32) (a1_at_f : Nat → Int32) (a1_length_f : Nat → Int32)  (k0 : Int32) (k1 : Int32) (k2 : Int32) : Option (Int32) :=
  if (k1 * k0) ≤ k2 then (P_Mo_loca_33 a1_form a1_glyphs a1_file_f a1_at_f a1_length_f (1 : Int32)) else (some (0 : Int32))
set_option maxHeartbeats 4000000 in
set_option maxRecDepth 100000 in
theorem w_Mo_loca_25 (C0 : Cx p s m args meth c A dC dI cy b_Mo_loca 2 (some .boolean) "GlyphPageModel") (a1 : Nat) (a1_file : Nat) (a1_at : Nat) (a1_length : Nat) (a1_done : Nat) (a1_depth : Nat) (a1_parts : Nat) (a1_contours : Nat) (a1_points : Nat) (a1_x : Nat) (a1_y : Nat) (a1_on : Nat) (a1_contour : Nat) (a1_size : Int32) (a1_units : Int32) (a1_form : Int32) (a1_glyphs : Int32) (a1_ascent : Int32) (a1_descent : Int32) (a1_gap : Int32) (a1_metrics : Int32) (a1_map : Int32) (a1_mapLength : Int32) (a1_segments : Int32) (a1_file_f : Nat → Int32) (a1_at_f : Nat → Int32) (a1_length_f : Nat → Int32) (uu : Int32)  (k0 : Int32) (k1 : Int32) (k2 : Int32) {H : Heap} {locs : List Loc} {ls : Array Slot} (h : P_Mo_loca_25 a1_form a1_glyphs a1_file_f a1_at_f a1_length_f k0 k1 k2 = some uu) : va_P (dC, dI) classes [(a1, .inr (8, [.ref a1_file, .int a1_size, .ref a1_at, .ref a1_length, .int a1_units, .int a1_form, .int a1_glyphs, .int a1_ascent, .int a1_descent, .int a1_gap, .int a1_metrics, .int a1_map, .int a1_mapLength, .int a1_segments, .ref a1_done, .ref a1_depth, .ref a1_parts, .ref a1_contours, .ref a1_points, .ref a1_x, .ref a1_y, .ref a1_on, .ref a1_contour])), (a1_file, .inl (cy 1, 4096, .inl a1_file_f)), (a1_at, .inl (cy 0, 8, .inl a1_at_f)), (a1_length, .inl (cy 0, 8, .inl a1_length_f))] H → va_D A [(a1, .inr (8, [.ref a1_file, .int a1_size, .ref a1_at, .ref a1_length, .int a1_units, .int a1_form, .int a1_glyphs, .int a1_ascent, .int a1_descent, .int a1_gap, .int a1_metrics, .int a1_map, .int a1_mapLength, .int a1_segments, .ref a1_done, .ref a1_depth, .ref a1_parts, .ref a1_contours, .ref a1_points, .ref a1_x, .ref a1_y, .ref a1_on, .ref a1_contour])), (a1_file, .inl (cy 1, 4096, .inl a1_file_f)), (a1_at, .inl (cy 0, 8, .inl a1_at_f)), (a1_length, .inl (cy 0, 8, .inl a1_length_f))] → va_S A s.heap H locs → lv_has ls 2 [(0, .ref a1)] → W p l e ({ frames := 3, cells := 0, slots := 0, locals := 63 } : Room) s m args below meth c H locs 0 0 (MQ below (va_Qi (fun r (_ : Unit) => r = uu) (fun _ t => va_P (dC, dI) classes [(a1, .inr (8, [.ref a1_file, .int a1_size, .ref a1_at, .ref a1_length, .int a1_units, .int a1_form, .int a1_glyphs, .int a1_ascent, .int a1_descent, .int a1_gap, .int a1_metrics, .int a1_map, .int a1_mapLength, .int a1_segments, .ref a1_done, .ref a1_depth, .ref a1_parts, .ref a1_contours, .ref a1_points, .ref a1_x, .ref a1_y, .ref a1_on, .ref a1_contour])), (a1_file, .inl (cy 1, 4096, .inl a1_file_f)), (a1_at, .inl (cy 0, 8, .inl a1_at_f)), (a1_length, .inl (cy 0, 8, .inl a1_length_f))] t.heap ∧ va_K (dC, dI) classes (TY cy) t ∧ va_D A [(a1, .inr (8, [.ref a1_file, .int a1_size, .ref a1_at, .ref a1_length, .int a1_units, .int a1_form, .int a1_glyphs, .int a1_ascent, .int a1_descent, .int a1_gap, .int a1_metrics, .int a1_map, .int a1_mapLength, .int a1_segments, .ref a1_done, .ref a1_depth, .ref a1_parts, .ref a1_contours, .ref a1_points, .ref a1_x, .ref a1_y, .ref a1_on, .ref a1_contour])), (a1_file, .inl (cy 1, 4096, .inl a1_file_f)), (a1_at, .inl (cy 0, 8, .inl a1_at_f)), (a1_length, .inl (cy 0, 8, .inl a1_length_f))]) A) args s 0 0 A) (F0 m 25 ls [.int k0, .int k1, .int k2]) := by
  intro hP hD hS hl
  obtain ⟨hx, hb, hr, hlocks, hml, hown, htsG, hA, hK⟩ := id C0
  unfold P_Mo_loca_25 at h
  refine lv_imul hx hb d_Mo_loca_25 ?_
  refine lv_icmp_ge (tgt := 31) hx hb d_Mo_loca_26 (by decide) (fun c_1 => ?_) (fun c_1 => ?_)
  · replace h := (if_pos c_1).symm.trans h
    refine lv_iconst (v := (1 : Int32)) hx hb d_Mo_loca_31 (by decide) ?_
    refine lv_istore_n (lv' := [(1, .int (1 : Int32)), (0, .ref a1)]) hx hb d_Mo_loca_32 rfl hl (by decide) rfl (fun ls hl => ?_)
    exact w_Mo_loca_33 C0 a1 a1_file a1_at a1_length a1_done a1_depth a1_parts a1_contours a1_points a1_x a1_y a1_on a1_contour a1_size a1_units a1_form a1_glyphs a1_ascent a1_descent a1_gap a1_metrics a1_map a1_mapLength a1_segments a1_file_f a1_at_f a1_length_f uu  (1 : Int32) h hP hD hS (lv_sub hl [1, 0] rfl)
  · replace h := (if_neg c_1).symm.trans h
    refine lv_iconst (v := (0 : Int32)) hx hb d_Mo_loca_29 (by decide) ?_
    cases h
    exact W.zret (ty := .boolean) hx hb hr rfl (fun t ht hW => ⟨⟨_, (), rfl, rfl, by rw [ht]; exact hP, va_K.moved hW.alike hK, hD⟩, hS.F ht⟩) hS.2.2 d_Mo_loca_30 hlocks
def P_Mo_loca (a1_form : Int32) (a1_glyphs : Int32) (a1_file_f : Nat → Int32) (a1_at_f : Nat → Int32) (a1_length_f : Nat → Int32)  : Option (Int32) :=
  bd (6 : Int32) 8 <| if a1_form = 0 then (P_Mo_loca_25 a1_form a1_glyphs a1_file_f a1_at_f a1_length_f (2 : Int32) (a1_glyphs + (1 : Int32)) (a1_length_f (6 : Int32).toNatClampNeg)) else (P_Mo_loca_25 a1_form a1_glyphs a1_file_f a1_at_f a1_length_f (4 : Int32) (a1_glyphs + (1 : Int32)) (a1_length_f (6 : Int32).toNatClampNeg))
set_option maxHeartbeats 4000000 in
set_option maxRecDepth 100000 in
theorem c_Mo_loca (l : Launch) (dC : Nat → ClassId) (dI : Nat → Nat → Nat) (cy : Nat → ClassId) (sz : Nat) (a1 : Nat) (a1_file : Nat) (a1_at : Nat) (a1_length : Nat) (a1_done : Nat) (a1_depth : Nat) (a1_parts : Nat) (a1_contours : Nat) (a1_points : Nat) (a1_x : Nat) (a1_y : Nat) (a1_on : Nat) (a1_contour : Nat) (a1_size : Int32) (a1_units : Int32) (a1_form : Int32) (a1_glyphs : Int32) (a1_ascent : Int32) (a1_descent : Int32) (a1_gap : Int32) (a1_metrics : Int32) (a1_map : Int32) (a1_mapLength : Int32) (a1_segments : Int32) (a1_file_f : Nat → Int32) (a1_at_f : Nat → Int32) (a1_length_f : Nat → Int32)  (uu : Int32) (h : P_Mo_loca a1_form a1_glyphs a1_file_f a1_at_f a1_length_f = some uu) : Met l y_Mo_loca (Cond.code y_Mo_loca b_Mo_loca 2 (some .boolean) :: G) ({ frames := 3, cells := 0, slots := 0, locals := 63 } : Room) (va_Pc [.ref a1] (fun U => U.heap.size = sz ∧ va_P (dC, dI) classes [(a1, .inr (8, [.ref a1_file, .int a1_size, .ref a1_at, .ref a1_length, .int a1_units, .int a1_form, .int a1_glyphs, .int a1_ascent, .int a1_descent, .int a1_gap, .int a1_metrics, .int a1_map, .int a1_mapLength, .int a1_segments, .ref a1_done, .ref a1_depth, .ref a1_parts, .ref a1_contours, .ref a1_points, .ref a1_x, .ref a1_y, .ref a1_on, .ref a1_contour])), (a1_file, .inl (cy 1, 4096, .inl a1_file_f)), (a1_at, .inl (cy 0, 8, .inl a1_at_f)), (a1_length, .inl (cy 0, 8, .inl a1_length_f))] U.heap ∧ va_K (dC, dI) classes (TY cy) U ∧ va_D (fun _ => True) [(a1, .inr (8, [.ref a1_file, .int a1_size, .ref a1_at, .ref a1_length, .int a1_units, .int a1_form, .int a1_glyphs, .int a1_ascent, .int a1_descent, .int a1_gap, .int a1_metrics, .int a1_map, .int a1_mapLength, .int a1_segments, .ref a1_done, .ref a1_depth, .ref a1_parts, .ref a1_contours, .ref a1_points, .ref a1_x, .ref a1_y, .ref a1_on, .ref a1_contour])), (a1_file, .inl (cy 1, 4096, .inl a1_file_f)), (a1_at, .inl (cy 0, 8, .inl a1_at_f)), (a1_length, .inl (cy 0, 8, .inl a1_length_f))])) (va_Qi (fun r (_ : Unit) => r = uu) (fun _ t => va_P (dC, dI) classes [(a1, .inr (8, [.ref a1_file, .int a1_size, .ref a1_at, .ref a1_length, .int a1_units, .int a1_form, .int a1_glyphs, .int a1_ascent, .int a1_descent, .int a1_gap, .int a1_metrics, .int a1_map, .int a1_mapLength, .int a1_segments, .ref a1_done, .ref a1_depth, .ref a1_parts, .ref a1_contours, .ref a1_points, .ref a1_x, .ref a1_y, .ref a1_on, .ref a1_contour])), (a1_file, .inl (cy 1, 4096, .inl a1_file_f)), (a1_at, .inl (cy 0, 8, .inl a1_at_f)), (a1_length, .inl (cy 0, 8, .inl a1_length_f))] t.heap ∧ va_K (dC, dI) classes (TY cy) t ∧ va_D (va_A [(a1, .inr (8, [.ref a1_file, .int a1_size, .ref a1_at, .ref a1_length, .int a1_units, .int a1_form, .int a1_glyphs, .int a1_ascent, .int a1_descent, .int a1_gap, .int a1_metrics, .int a1_map, .int a1_mapLength, .int a1_segments, .ref a1_done, .ref a1_depth, .ref a1_parts, .ref a1_contours, .ref a1_points, .ref a1_x, .ref a1_y, .ref a1_on, .ref a1_contour])), (a1_file, .inl (cy 1, 4096, .inl a1_file_f)), (a1_at, .inl (cy 0, 8, .inl a1_at_f)), (a1_length, .inl (cy 0, 8, .inl a1_length_f))] sz) [(a1, .inr (8, [.ref a1_file, .int a1_size, .ref a1_at, .ref a1_length, .int a1_units, .int a1_form, .int a1_glyphs, .int a1_ascent, .int a1_descent, .int a1_gap, .int a1_metrics, .int a1_map, .int a1_mapLength, .int a1_segments, .ref a1_done, .ref a1_depth, .ref a1_parts, .ref a1_contours, .ref a1_points, .ref a1_x, .ref a1_y, .ref a1_on, .ref a1_contour])), (a1_file, .inl (cy 1, 4096, .inl a1_file_f)), (a1_at, .inl (cy 0, 8, .inl a1_at_f)), (a1_length, .inl (cy 0, 8, .inl a1_length_f))]) (va_A [(a1, .inr (8, [.ref a1_file, .int a1_size, .ref a1_at, .ref a1_length, .int a1_units, .int a1_form, .int a1_glyphs, .int a1_ascent, .int a1_descent, .int a1_gap, .int a1_metrics, .int a1_map, .int a1_mapLength, .int a1_segments, .ref a1_done, .ref a1_depth, .ref a1_parts, .ref a1_contours, .ref a1_points, .ref a1_x, .ref a1_y, .ref a1_on, .ref a1_contour])), (a1_file, .inl (cy 1, 4096, .inl a1_file_f)), (a1_at, .inl (cy 0, 8, .inl a1_at_f)), (a1_length, .inl (cy 0, 8, .inl a1_length_f))] sz)) 0 0 (va_A [(a1, .inr (8, [.ref a1_file, .int a1_size, .ref a1_at, .ref a1_length, .int a1_units, .int a1_form, .int a1_glyphs, .int a1_ascent, .int a1_descent, .int a1_gap, .int a1_metrics, .int a1_map, .int a1_mapLength, .int a1_segments, .ref a1_done, .ref a1_depth, .ref a1_parts, .ref a1_contours, .ref a1_points, .ref a1_x, .ref a1_y, .ref a1_on, .ref a1_contour])), (a1_file, .inl (cy 1, 4096, .inl a1_file_f)), (a1_at, .inl (cy 0, 8, .inl a1_at_f)), (a1_length, .inl (cy 0, 8, .inl a1_length_f))] sz) := by
  refine Met.ofW (cc := b_Mo_loca) (maxL := 2) (ret := (some .boolean)) (by decide) rfl ?_
  intro p e s m args below meth c s₁ B hml hv
  obtain ⟨rfl, hsz, hP, hK, hD0⟩ := hv
  have hx := B.exec
  have hb := B.bytes
  have hr := B.returns
  have hts := atoms_spec (ws := Cond.code y_Mo_loca b_Mo_loca 2 (some .boolean) :: G) B.pre
  have htsG : ∀ w ∈ G, w.before _ s = true := fun w hw => hts w (List.mem_cons_of_mem _ hw)
  have hown : s.vm.findClass "GlyphPageModel" = some m.cls := findClass_of_methodNamed B.named
  have hlocks := B.notSynchronized
  subst hsz
  have hD := hD0.self (sz := s.heap.size)
  generalize hAe : va_A [(a1, .inr (8, [.ref a1_file, .int a1_size, .ref a1_at, .ref a1_length, .int a1_units, .int a1_form, .int a1_glyphs, .int a1_ascent, .int a1_descent, .int a1_gap, .int a1_metrics, .int a1_map, .int a1_mapLength, .int a1_segments, .ref a1_done, .ref a1_depth, .ref a1_parts, .ref a1_contours, .ref a1_points, .ref a1_x, .ref a1_y, .ref a1_on, .ref a1_contour])), (a1_file, .inl (cy 1, 4096, .inl a1_file_f)), (a1_at, .inl (cy 0, 8, .inl a1_at_f)), (a1_length, .inl (cy 0, 8, .inl a1_length_f))] s.heap.size = A at hD ⊢
  have hA : ∀ q : Nat, s.heap.size ≤ q → A q := fun q h => by rw [← hAe]; exact Or.inr h
  have hS : va_S A s.heap s.heap [] := va_S.rf
  have hl := lv_entry ([.ref a1]) (n := 2) (Nat.le_of_ble_eq_true rfl)
  rw [lg_entry_eq]
  generalize (lg_sl ([.ref a1]) ++ List.replicate (2 - (lg_sl ([.ref a1])).length) Slot.unset).toArray = ls at hl ⊢
  have hl : lv_has ls 2 [(0, .ref a1)] := hl
  have C0 : Cx p s m _ meth c A dC dI cy b_Mo_loca 2 (some .boolean) "GlyphPageModel" := ⟨hx, hb, hr, hlocks, hml, hown, htsG, hA, hK⟩
  unfold P_Mo_loca at h
  refine lv_aload_n hx hb d_Mo_loca_0 rfl (lv_at hl 0 rfl) ?_
  refine va_get (D := (dC, dI)) (ci := 8) (v := .ref a1_length) (C := "GlyphPageModel$Font") (T := F_Mf) (N := 23) hx hb htsG iG_Mf hown hK hP 0 rfl rfl 3 (by decide) (htsG _ mW780) (fun _ h9 => h9) rfl d_Mo_loca_1 ?_
  refine lv_bipush (v := (6 : Int32)) hx hb d_Mo_loca_4 (by decide) ?_
  obtain ⟨hin_1, h⟩ := bd_some h
  refine va_iald hx hb hK hP 3 0 rfl rfl hin_1 d_Mo_loca_6 ?_
  refine lv_aload_n hx hb d_Mo_loca_7 rfl (lv_at hl 0 rfl) ?_
  refine va_get (D := (dC, dI)) (ci := 8) (v := .int a1_glyphs) (C := "GlyphPageModel$Font") (T := F_Mf) (N := 23) hx hb htsG iG_Mf hown hK hP 0 rfl rfl 6 (by decide) (htsG _ mW783) (fun _ h9 => h9) rfl d_Mo_loca_8 ?_
  refine lv_iconst (v := (1 : Int32)) hx hb d_Mo_loca_11 (by decide) ?_
  refine lv_iadd hx hb d_Mo_loca_12 ?_
  refine lv_aload_n hx hb d_Mo_loca_13 rfl (lv_at hl 0 rfl) ?_
  refine va_get (D := (dC, dI)) (ci := 8) (v := .int a1_form) (C := "GlyphPageModel$Font") (T := F_Mf) (N := 23) hx hb htsG iG_Mf hown hK hP 0 rfl rfl 5 (by decide) (htsG _ mW782) (fun _ h9 => h9) rfl d_Mo_loca_14 ?_
  refine lv_if_ne (tgt := 24) hx hb d_Mo_loca_17 (by decide) (fun c_2 => ?_) (fun c_2 => ?_)
  · replace h := (if_neg c_2).symm.trans h
    refine lv_iconst (v := (4 : Int32)) hx hb d_Mo_loca_24 (by decide) ?_
    exact w_Mo_loca_25 C0 a1 a1_file a1_at a1_length a1_done a1_depth a1_parts a1_contours a1_points a1_x a1_y a1_on a1_contour a1_size a1_units a1_form a1_glyphs a1_ascent a1_descent a1_gap a1_metrics a1_map a1_mapLength a1_segments a1_file_f a1_at_f a1_length_f uu  (4 : Int32) (a1_glyphs + (1 : Int32)) (a1_length_f (6 : Int32).toNatClampNeg) h hP hD hS (lv_sub hl [0] rfl)
  · replace h := (if_pos c_2).symm.trans h
    refine lv_iconst (v := (2 : Int32)) hx hb d_Mo_loca_20 (by decide) ?_
    refine lv_goto (tgt := 25) hx hb d_Mo_loca_21 (by decide) ?_
    exact w_Mo_loca_25 C0 a1 a1_file a1_at a1_length a1_done a1_depth a1_parts a1_contours a1_points a1_x a1_y a1_on a1_contour a1_size a1_units a1_form a1_glyphs a1_ascent a1_descent a1_gap a1_metrics a1_map a1_mapLength a1_segments a1_file_f a1_at_f a1_length_f uu  (2 : Int32) (a1_glyphs + (1 : Int32)) (a1_length_f (6 : Int32).toNatClampNeg) h hP hD hS (lv_sub hl [0] rfl)
def P_Mo_cmap_103 (a1_file_f : Nat → Int32) (a1_at_f : Nat → Int32) (a1_length_f : Nat → Int32) (z51 : Int64 × Int32 × Int32 × Int32 × Int32 → Option (Int32 × Int32 × Int32 × Int32)) (x2 : Int64) (x4 : Int32) (a1_map : Int32) (a1_mapLength : Int32) (a1_segments : Int32) : Option (Int32 × Int32 × Int32 × Int32) :=
  z51 (x2, (x4 + (-1 : Int32)), a1_map, a1_mapLength, a1_segments)
set_option maxHeartbeats 4000000 in
set_option maxRecDepth 100000 in
theorem w_Mo_cmap_103 (C0 : Cx p s m args meth c A dC dI cy b_Mo_cmap 6 (some .boolean) "GlyphPageModel") (a1 : Nat) (a1_file : Nat) (a1_at : Nat) (a1_length : Nat) (a1_done : Nat) (a1_depth : Nat) (a1_parts : Nat) (a1_contours : Nat) (a1_points : Nat) (a1_x : Nat) (a1_y : Nat) (a1_on : Nat) (a1_contour : Nat) (a1_size : Int32) (a1_units : Int32) (a1_form : Int32) (a1_glyphs : Int32) (a1_ascent : Int32) (a1_descent : Int32) (a1_gap : Int32) (a1_metrics : Int32) (a1_file_f : Nat → Int32) (a1_at_f : Nat → Int32) (a1_length_f : Nat → Int32) (uu : Int32 × Int32 × Int32 × Int32) (z51 : Int64 × Int32 × Int32 × Int32 × Int32 → Option (Int32 × Int32 × Int32 × Int32)) (hz51 : ∀ (x2 : Int64) (x4 : Int32) (a1_map : Int32) (a1_mapLength : Int32) (a1_segments : Int32) (H : Heap) (locs : List Loc) (ls : Array Slot), z51 (x2, x4, a1_map, a1_mapLength, a1_segments) = some uu → va_P (dC, dI) classes [(a1, .inr (8, [.ref a1_file, .int a1_size, .ref a1_at, .ref a1_length, .int a1_units, .int a1_form, .int a1_glyphs, .int a1_ascent, .int a1_descent, .int a1_gap, .int a1_metrics, .int a1_map, .int a1_mapLength, .int a1_segments, .ref a1_done, .ref a1_depth, .ref a1_parts, .ref a1_contours, .ref a1_points, .ref a1_x, .ref a1_y, .ref a1_on, .ref a1_contour])), (a1_file, .inl (cy 1, 4096, .inl a1_file_f)), (a1_at, .inl (cy 0, 8, .inl a1_at_f)), (a1_length, .inl (cy 0, 8, .inl a1_length_f))] H → va_D A [(a1, .inr (8, [.ref a1_file, .int a1_size, .ref a1_at, .ref a1_length, .int a1_units, .int a1_form, .int a1_glyphs, .int a1_ascent, .int a1_descent, .int a1_gap, .int a1_metrics, .int a1_map, .int a1_mapLength, .int a1_segments, .ref a1_done, .ref a1_depth, .ref a1_parts, .ref a1_contours, .ref a1_points, .ref a1_x, .ref a1_y, .ref a1_on, .ref a1_contour])), (a1_file, .inl (cy 1, 4096, .inl a1_file_f)), (a1_at, .inl (cy 0, 8, .inl a1_at_f)), (a1_length, .inl (cy 0, 8, .inl a1_length_f))] → va_S A s.heap H locs → lv_has ls 6 [(0, .ref a1), (2, .long x2), (4, .int x4)] → W p l e ({ frames := 2, cells := 0, slots := 0, locals := 42 } : Room) s m args below meth c H locs 0 0 (MQ below (va_Qi (fun r (_ : Unit) => r = uu.1) (fun _ t => va_P (dC, dI) classes [(a1, .inr (8, [.ref a1_file, .int a1_size, .ref a1_at, .ref a1_length, .int a1_units, .int a1_form, .int a1_glyphs, .int a1_ascent, .int a1_descent, .int a1_gap, .int a1_metrics, .int uu.2.1, .int uu.2.2.1, .int uu.2.2.2, .ref a1_done, .ref a1_depth, .ref a1_parts, .ref a1_contours, .ref a1_points, .ref a1_x, .ref a1_y, .ref a1_on, .ref a1_contour])), (a1_file, .inl (cy 1, 4096, .inl a1_file_f)), (a1_at, .inl (cy 0, 8, .inl a1_at_f)), (a1_length, .inl (cy 0, 8, .inl a1_length_f))] t.heap ∧ va_K (dC, dI) classes (TY cy) t ∧ va_D A [(a1, .inr (8, [.ref a1_file, .int a1_size, .ref a1_at, .ref a1_length, .int a1_units, .int a1_form, .int a1_glyphs, .int a1_ascent, .int a1_descent, .int a1_gap, .int a1_metrics, .int uu.2.1, .int uu.2.2.1, .int uu.2.2.2, .ref a1_done, .ref a1_depth, .ref a1_parts, .ref a1_contours, .ref a1_points, .ref a1_x, .ref a1_y, .ref a1_on, .ref a1_contour])), (a1_file, .inl (cy 1, 4096, .inl a1_file_f)), (a1_at, .inl (cy 0, 8, .inl a1_at_f)), (a1_length, .inl (cy 0, 8, .inl a1_length_f))]) A) args s 0 0 A) (F0 m 51 ls [])) (x2 : Int64) (x4 : Int32) (a1_map : Int32) (a1_mapLength : Int32) (a1_segments : Int32) {H : Heap} {locs : List Loc} {ls : Array Slot} (h : P_Mo_cmap_103 a1_file_f a1_at_f a1_length_f z51 x2 x4 a1_map a1_mapLength a1_segments = some uu) : va_P (dC, dI) classes [(a1, .inr (8, [.ref a1_file, .int a1_size, .ref a1_at, .ref a1_length, .int a1_units, .int a1_form, .int a1_glyphs, .int a1_ascent, .int a1_descent, .int a1_gap, .int a1_metrics, .int a1_map, .int a1_mapLength, .int a1_segments, .ref a1_done, .ref a1_depth, .ref a1_parts, .ref a1_contours, .ref a1_points, .ref a1_x, .ref a1_y, .ref a1_on, .ref a1_contour])), (a1_file, .inl (cy 1, 4096, .inl a1_file_f)), (a1_at, .inl (cy 0, 8, .inl a1_at_f)), (a1_length, .inl (cy 0, 8, .inl a1_length_f))] H → va_D A [(a1, .inr (8, [.ref a1_file, .int a1_size, .ref a1_at, .ref a1_length, .int a1_units, .int a1_form, .int a1_glyphs, .int a1_ascent, .int a1_descent, .int a1_gap, .int a1_metrics, .int a1_map, .int a1_mapLength, .int a1_segments, .ref a1_done, .ref a1_depth, .ref a1_parts, .ref a1_contours, .ref a1_points, .ref a1_x, .ref a1_y, .ref a1_on, .ref a1_contour])), (a1_file, .inl (cy 1, 4096, .inl a1_file_f)), (a1_at, .inl (cy 0, 8, .inl a1_at_f)), (a1_length, .inl (cy 0, 8, .inl a1_length_f))] → va_S A s.heap H locs → lv_has ls 6 [(0, .ref a1), (2, .long x2), (4, .int x4)] → W p l e ({ frames := 2, cells := 0, slots := 0, locals := 42 } : Room) s m args below meth c H locs 0 0 (MQ below (va_Qi (fun r (_ : Unit) => r = uu.1) (fun _ t => va_P (dC, dI) classes [(a1, .inr (8, [.ref a1_file, .int a1_size, .ref a1_at, .ref a1_length, .int a1_units, .int a1_form, .int a1_glyphs, .int a1_ascent, .int a1_descent, .int a1_gap, .int a1_metrics, .int uu.2.1, .int uu.2.2.1, .int uu.2.2.2, .ref a1_done, .ref a1_depth, .ref a1_parts, .ref a1_contours, .ref a1_points, .ref a1_x, .ref a1_y, .ref a1_on, .ref a1_contour])), (a1_file, .inl (cy 1, 4096, .inl a1_file_f)), (a1_at, .inl (cy 0, 8, .inl a1_at_f)), (a1_length, .inl (cy 0, 8, .inl a1_length_f))] t.heap ∧ va_K (dC, dI) classes (TY cy) t ∧ va_D A [(a1, .inr (8, [.ref a1_file, .int a1_size, .ref a1_at, .ref a1_length, .int a1_units, .int a1_form, .int a1_glyphs, .int a1_ascent, .int a1_descent, .int a1_gap, .int a1_metrics, .int uu.2.1, .int uu.2.2.1, .int uu.2.2.2, .ref a1_done, .ref a1_depth, .ref a1_parts, .ref a1_contours, .ref a1_points, .ref a1_x, .ref a1_y, .ref a1_on, .ref a1_contour])), (a1_file, .inl (cy 1, 4096, .inl a1_file_f)), (a1_at, .inl (cy 0, 8, .inl a1_at_f)), (a1_length, .inl (cy 0, 8, .inl a1_length_f))]) A) args s 0 0 A) (F0 m 103 ls []) := by
  intro hP hD hS hl
  obtain ⟨hx, hb, hr, hlocks, hml, hown, htsG, hA, hK⟩ := id C0
  unfold P_Mo_cmap_103 at h
  refine lv_iinc (v := (x4 + (-1 : Int32))) (lv' := [(4, .int (x4 + (-1 : Int32))), (0, .ref a1), (2, .long x2)]) hx hb d_Mo_cmap_103 hl (k := 2) rfl rfl (by decide) rfl (fun ls hl => ?_)
  refine lv_goto (tgt := 51) hx hb d_Mo_cmap_106 (by decide) ?_
  exact hz51 x2 (x4 + (-1 : Int32)) a1_map a1_mapLength a1_segments _ _ _ h hP hD hS (lv_sub hl [1, 2, 0] rfl)
def P_Mo_cmap_51b (a1_file_f : Nat → Int32) (a1_at_f : Nat → Int32) (a1_length_f : Nat → Int32)  (z51 : Int64 × Int32 × Int32 × Int32 × Int32 → Option (Int32 × Int32 × Int32 × Int32)) (x2 : Int64) (x4 : Int32) (a1_map : Int32) (a1_mapLength : Int32) (a1_segments : Int32) : Option (Int32 × Int32 × Int32 × Int32) :=
  if x4 < 0 then (if (lg_cmp x2 (0 : Int64)) < 0 then (some ((0 : Int32), a1_map, a1_mapLength, a1_segments)) else (bd (0 : Int32) 8 <| if (lg_cmp (x2 + (8 : Int64)) ((a1_length_f (0 : Int32).toNatClampNeg).toInt64)) ≤ 0 then (bd (0 : Int32) 8 <| (P_Mf_two a1_file_f (((a1_at_f (0 : Int32).toNatClampNeg) + (x2.toInt32)) + (2 : Int32))).bind fun r_6 => (P_Mf_two a1_file_f (((a1_at_f (0 : Int32).toNatClampNeg) + (x2.toInt32)) + (6 : Int32))).bind fun r_7 => (P_Mf_two a1_file_f ((a1_at_f (0 : Int32).toNatClampNeg) + (x2.toInt32))).bind fun r_8 => if r_8 = (4 : Int32) then (bd (0 : Int32) 8 <| if 0 < (lg_cmp (x2 + (r_6.toInt64)) ((a1_length_f (0 : Int32).toNatClampNeg).toInt64)) then (some ((0 : Int32), ((a1_at_f (0 : Int32).toNatClampNeg) + (x2.toInt32)), r_6, (r_7 / (2 : Int32)))) else (if r_7 < (2 : Int32) then (some ((0 : Int32), ((a1_at_f (0 : Int32).toNatClampNeg) + (x2.toInt32)), r_6, (r_7 / (2 : Int32)))) else (if (r_7 - r_7 / (2 : Int32) * (2 : Int32)) = 0 then (if r_6 < ((16 : Int32) + ((8 : Int32) * (r_7 / (2 : Int32)))) then (some ((0 : Int32), ((a1_at_f (0 : Int32).toNatClampNeg) + (x2.toInt32)), r_6, (r_7 / (2 : Int32)))) else (some ((1 : Int32), ((a1_at_f (0 : Int32).toNatClampNeg) + (x2.toInt32)), r_6, (r_7 / (2 : Int32))))) else (some ((0 : Int32), ((a1_at_f (0 : Int32).toNatClampNeg) + (x2.toInt32)), r_6, (r_7 / (2 : Int32))))))) else (some ((0 : Int32), ((a1_at_f (0 : Int32).toNatClampNeg) + (x2.toInt32)), r_6, (r_7 / (2 : Int32))))) else (some ((0 : Int32), a1_map, a1_mapLength, a1_segments)))) else (bd (0 : Int32) 8 <| (P_Mf_two a1_file_f (((a1_at_f (0 : Int32).toNatClampNeg) + (4 : Int32)) + ((8 : Int32) * x4))).bind fun r_16 => if r_16 = (3 : Int32) then ((P_Mf_two a1_file_f ((((a1_at_f (0 : Int32).toNatClampNeg) + (4 : Int32)) + ((8 : Int32) * x4)) + (2 : Int32))).bind fun r_18 => if r_18 = (1 : Int32) then ((P_Mf_big a1_file_f ((((a1_at_f (0 : Int32).toNatClampNeg) + (4 : Int32)) + ((8 : Int32) * x4)) + (4 : Int32))).bind fun r_20 => P_Mo_cmap_103 a1_file_f a1_at_f a1_length_f z51 r_20 x4 a1_map a1_mapLength a1_segments) else (P_Mo_cmap_103 a1_file_f a1_at_f a1_length_f z51 x2 x4 a1_map a1_mapLength a1_segments)) else (P_Mo_cmap_103 a1_file_f a1_at_f a1_length_f z51 x2 x4 a1_map a1_mapLength a1_segments))
def L_Mo_cmap_51 (a1_file_f : Nat → Int32) (a1_at_f : Nat → Int32) (a1_length_f : Nat → Int32)  : (Int64 × Int32 × Int32 × Int32 × Int32 → Option (Int32 × Int32 × Int32 × Int32)) → (Int64 × Int32 × Int32 × Int32 × Int32) → Option (Int32 × Int32 × Int32 × Int32) :=
  fun z => unp fun x2 => unp fun x4 => unp fun a1_map => unp fun a1_mapLength a1_segments => P_Mo_cmap_51b a1_file_f a1_at_f a1_length_f z x2 x4 a1_map a1_mapLength a1_segments
def P_Mo_cmap_51 (a1_file_f : Nat → Int32) (a1_at_f : Nat → Int32) (a1_length_f : Nat → Int32)  (x2 : Int64) (x4 : Int32) (a1_map : Int32) (a1_mapLength : Int32) (a1_segments : Int32) : Option (Int32 × Int32 × Int32 × Int32) :=
  lp (L_Mo_cmap_51 a1_file_f a1_at_f a1_length_f) fuel (x2, x4, a1_map, a1_mapLength, a1_segments)
theorem e_Mo_cmap_51 (a1_file_f : Nat → Int32) (a1_at_f : Nat → Int32) (a1_length_f : Nat → Int32)  (n : Nat) (x2 : Int64) (x4 : Int32) (a1_map : Int32) (a1_mapLength : Int32) (a1_segments : Int32) : lp (L_Mo_cmap_51 a1_file_f a1_at_f a1_length_f) (n + 1) (x2, x4, a1_map, a1_mapLength, a1_segments) = P_Mo_cmap_51b a1_file_f a1_at_f a1_length_f (lp (L_Mo_cmap_51 a1_file_f a1_at_f a1_length_f) n) x2 x4 a1_map a1_mapLength a1_segments := rfl
set_option maxHeartbeats 4000000 in
set_option maxRecDepth 100000 in
theorem w_Mo_cmap_51b (C0 : Cx p s m args meth c A dC dI cy b_Mo_cmap 6 (some .boolean) "GlyphPageModel") (a1 : Nat) (a1_file : Nat) (a1_at : Nat) (a1_length : Nat) (a1_done : Nat) (a1_depth : Nat) (a1_parts : Nat) (a1_contours : Nat) (a1_points : Nat) (a1_x : Nat) (a1_y : Nat) (a1_on : Nat) (a1_contour : Nat) (a1_size : Int32) (a1_units : Int32) (a1_form : Int32) (a1_glyphs : Int32) (a1_ascent : Int32) (a1_descent : Int32) (a1_gap : Int32) (a1_metrics : Int32) (a1_file_f : Nat → Int32) (a1_at_f : Nat → Int32) (a1_length_f : Nat → Int32) (uu : Int32 × Int32 × Int32 × Int32)  (z51 : Int64 × Int32 × Int32 × Int32 × Int32 → Option (Int32 × Int32 × Int32 × Int32)) (hz51 : ∀ (x2 : Int64) (x4 : Int32) (a1_map : Int32) (a1_mapLength : Int32) (a1_segments : Int32) (H : Heap) (locs : List Loc) (ls : Array Slot), z51 (x2, x4, a1_map, a1_mapLength, a1_segments) = some uu → va_P (dC, dI) classes [(a1, .inr (8, [.ref a1_file, .int a1_size, .ref a1_at, .ref a1_length, .int a1_units, .int a1_form, .int a1_glyphs, .int a1_ascent, .int a1_descent, .int a1_gap, .int a1_metrics, .int a1_map, .int a1_mapLength, .int a1_segments, .ref a1_done, .ref a1_depth, .ref a1_parts, .ref a1_contours, .ref a1_points, .ref a1_x, .ref a1_y, .ref a1_on, .ref a1_contour])), (a1_file, .inl (cy 1, 4096, .inl a1_file_f)), (a1_at, .inl (cy 0, 8, .inl a1_at_f)), (a1_length, .inl (cy 0, 8, .inl a1_length_f))] H → va_D A [(a1, .inr (8, [.ref a1_file, .int a1_size, .ref a1_at, .ref a1_length, .int a1_units, .int a1_form, .int a1_glyphs, .int a1_ascent, .int a1_descent, .int a1_gap, .int a1_metrics, .int a1_map, .int a1_mapLength, .int a1_segments, .ref a1_done, .ref a1_depth, .ref a1_parts, .ref a1_contours, .ref a1_points, .ref a1_x, .ref a1_y, .ref a1_on, .ref a1_contour])), (a1_file, .inl (cy 1, 4096, .inl a1_file_f)), (a1_at, .inl (cy 0, 8, .inl a1_at_f)), (a1_length, .inl (cy 0, 8, .inl a1_length_f))] → va_S A s.heap H locs → lv_has ls 6 [(0, .ref a1), (2, .long x2), (4, .int x4)] → W p l e ({ frames := 2, cells := 0, slots := 0, locals := 42 } : Room) s m args below meth c H locs 0 0 (MQ below (va_Qi (fun r (_ : Unit) => r = uu.1) (fun _ t => va_P (dC, dI) classes [(a1, .inr (8, [.ref a1_file, .int a1_size, .ref a1_at, .ref a1_length, .int a1_units, .int a1_form, .int a1_glyphs, .int a1_ascent, .int a1_descent, .int a1_gap, .int a1_metrics, .int uu.2.1, .int uu.2.2.1, .int uu.2.2.2, .ref a1_done, .ref a1_depth, .ref a1_parts, .ref a1_contours, .ref a1_points, .ref a1_x, .ref a1_y, .ref a1_on, .ref a1_contour])), (a1_file, .inl (cy 1, 4096, .inl a1_file_f)), (a1_at, .inl (cy 0, 8, .inl a1_at_f)), (a1_length, .inl (cy 0, 8, .inl a1_length_f))] t.heap ∧ va_K (dC, dI) classes (TY cy) t ∧ va_D A [(a1, .inr (8, [.ref a1_file, .int a1_size, .ref a1_at, .ref a1_length, .int a1_units, .int a1_form, .int a1_glyphs, .int a1_ascent, .int a1_descent, .int a1_gap, .int a1_metrics, .int uu.2.1, .int uu.2.2.1, .int uu.2.2.2, .ref a1_done, .ref a1_depth, .ref a1_parts, .ref a1_contours, .ref a1_points, .ref a1_x, .ref a1_y, .ref a1_on, .ref a1_contour])), (a1_file, .inl (cy 1, 4096, .inl a1_file_f)), (a1_at, .inl (cy 0, 8, .inl a1_at_f)), (a1_length, .inl (cy 0, 8, .inl a1_length_f))]) A) args s 0 0 A) (F0 m 51 ls [])) (x2 : Int64) (x4 : Int32) (a1_map : Int32) (a1_mapLength : Int32) (a1_segments : Int32) {H : Heap} {locs : List Loc} {ls : Array Slot} (h : P_Mo_cmap_51b a1_file_f a1_at_f a1_length_f z51 x2 x4 a1_map a1_mapLength a1_segments = some uu) : va_P (dC, dI) classes [(a1, .inr (8, [.ref a1_file, .int a1_size, .ref a1_at, .ref a1_length, .int a1_units, .int a1_form, .int a1_glyphs, .int a1_ascent, .int a1_descent, .int a1_gap, .int a1_metrics, .int a1_map, .int a1_mapLength, .int a1_segments, .ref a1_done, .ref a1_depth, .ref a1_parts, .ref a1_contours, .ref a1_points, .ref a1_x, .ref a1_y, .ref a1_on, .ref a1_contour])), (a1_file, .inl (cy 1, 4096, .inl a1_file_f)), (a1_at, .inl (cy 0, 8, .inl a1_at_f)), (a1_length, .inl (cy 0, 8, .inl a1_length_f))] H → va_D A [(a1, .inr (8, [.ref a1_file, .int a1_size, .ref a1_at, .ref a1_length, .int a1_units, .int a1_form, .int a1_glyphs, .int a1_ascent, .int a1_descent, .int a1_gap, .int a1_metrics, .int a1_map, .int a1_mapLength, .int a1_segments, .ref a1_done, .ref a1_depth, .ref a1_parts, .ref a1_contours, .ref a1_points, .ref a1_x, .ref a1_y, .ref a1_on, .ref a1_contour])), (a1_file, .inl (cy 1, 4096, .inl a1_file_f)), (a1_at, .inl (cy 0, 8, .inl a1_at_f)), (a1_length, .inl (cy 0, 8, .inl a1_length_f))] → va_S A s.heap H locs → lv_has ls 6 [(0, .ref a1), (2, .long x2), (4, .int x4)] → W p l e ({ frames := 2, cells := 0, slots := 0, locals := 42 } : Room) s m args below meth c H locs 0 0 (MQ below (va_Qi (fun r (_ : Unit) => r = uu.1) (fun _ t => va_P (dC, dI) classes [(a1, .inr (8, [.ref a1_file, .int a1_size, .ref a1_at, .ref a1_length, .int a1_units, .int a1_form, .int a1_glyphs, .int a1_ascent, .int a1_descent, .int a1_gap, .int a1_metrics, .int uu.2.1, .int uu.2.2.1, .int uu.2.2.2, .ref a1_done, .ref a1_depth, .ref a1_parts, .ref a1_contours, .ref a1_points, .ref a1_x, .ref a1_y, .ref a1_on, .ref a1_contour])), (a1_file, .inl (cy 1, 4096, .inl a1_file_f)), (a1_at, .inl (cy 0, 8, .inl a1_at_f)), (a1_length, .inl (cy 0, 8, .inl a1_length_f))] t.heap ∧ va_K (dC, dI) classes (TY cy) t ∧ va_D A [(a1, .inr (8, [.ref a1_file, .int a1_size, .ref a1_at, .ref a1_length, .int a1_units, .int a1_form, .int a1_glyphs, .int a1_ascent, .int a1_descent, .int a1_gap, .int a1_metrics, .int uu.2.1, .int uu.2.2.1, .int uu.2.2.2, .ref a1_done, .ref a1_depth, .ref a1_parts, .ref a1_contours, .ref a1_points, .ref a1_x, .ref a1_y, .ref a1_on, .ref a1_contour])), (a1_file, .inl (cy 1, 4096, .inl a1_file_f)), (a1_at, .inl (cy 0, 8, .inl a1_at_f)), (a1_length, .inl (cy 0, 8, .inl a1_length_f))]) A) args s 0 0 A) (F0 m 51 ls []) := by
  intro hP hD hS hl
  obtain ⟨hx, hb, hr, hlocks, hml, hown, htsG, hA, hK⟩ := id C0
  unfold P_Mo_cmap_51b at h
  refine lv_iload hx hb d_Mo_cmap_51 (lv_at hl 2 rfl) ?_
  refine lv_if_lt (tgt := 109) hx hb d_Mo_cmap_53 (by decide) (fun c_1 => ?_) (fun c_1 => ?_)
  · replace h := (if_pos c_1).symm.trans h
    refine lv_lload_n hx hb d_Mo_cmap_109 rfl (lv_at hl 1 rfl) ?_
    refine lv_lconst (v := (0 : Int64)) hx hb d_Mo_cmap_110 (by decide) ?_
    refine W.lcmp hx hb d_Mo_cmap_111 ?_
    refine lv_if_lt (tgt := 131) hx hb d_Mo_cmap_112 (by decide) (fun c_2 => ?_) (fun c_2 => ?_)
    · replace h := (if_pos c_2).symm.trans h
      refine lv_iconst (v := (0 : Int32)) hx hb d_Mo_cmap_131 (by decide) ?_
      cases h
      exact W.zret (ty := .boolean) hx hb hr rfl (fun t ht hW => ⟨⟨_, (), rfl, rfl, by rw [ht]; exact hP, va_K.moved hW.alike hK, hD⟩, hS.F ht⟩) hS.2.2 d_Mo_cmap_132 hlocks
    · replace h := (if_neg c_2).symm.trans h
      refine lv_lload_n hx hb d_Mo_cmap_115 rfl (lv_at hl 1 rfl) ?_
      refine lv_ldc2 hx hb hown (htsG _ mW997) d_Mo_cmap_116 ?_
      refine lv_ladd hx hb d_Mo_cmap_119 ?_
      refine lv_aload_n hx hb d_Mo_cmap_120 rfl (lv_at hl 0 rfl) ?_
      refine va_get (D := (dC, dI)) (ci := 8) (v := .ref a1_length) (C := "GlyphPageModel$Font") (T := F_Mf) (N := 23) hx hb htsG iG_Mf hown hK hP 0 rfl rfl 3 (by decide) (htsG _ mW780) (fun _ h9 => h9) rfl d_Mo_cmap_121 ?_
      refine lv_iconst (v := (0 : Int32)) hx hb d_Mo_cmap_124 (by decide) ?_
      obtain ⟨hin_3, h⟩ := bd_some h
      refine va_iald hx hb hK hP 3 0 rfl rfl hin_3 d_Mo_cmap_125 ?_
      refine lv_i2l hx hb d_Mo_cmap_126 rfl ?_
      refine W.lcmp hx hb d_Mo_cmap_127 ?_
      refine lv_if_le (tgt := 133) hx hb d_Mo_cmap_128 (by decide) (fun c_4 => ?_) (fun c_4 => ?_)
      · replace h := (if_pos c_4).symm.trans h
        refine lv_aload_n hx hb d_Mo_cmap_133 rfl (lv_at hl 0 rfl) ?_
        refine lv_aload_n hx hb d_Mo_cmap_134 rfl (lv_at hl 0 rfl) ?_
        refine va_get (D := (dC, dI)) (ci := 8) (v := .ref a1_at) (C := "GlyphPageModel$Font") (T := F_Mf) (N := 23) hx hb htsG iG_Mf hown hK hP 0 rfl rfl 2 (by decide) (htsG _ mW778) (fun _ h9 => h9) rfl d_Mo_cmap_135 ?_
        refine lv_iconst (v := (0 : Int32)) hx hb d_Mo_cmap_138 (by decide) ?_
        obtain ⟨hin_5, h⟩ := bd_some h
        refine va_iald hx hb hK hP 2 0 rfl rfl hin_5 d_Mo_cmap_139 ?_
        refine lv_lload_n hx hb d_Mo_cmap_140 rfl (lv_at hl 1 rfl) ?_
        refine lv_l2i hx hb d_Mo_cmap_141 rfl ?_
        refine lv_iadd hx hb d_Mo_cmap_142 ?_
        refine va_put (D := (dC, dI)) (ci := 8) (v := .int ((a1_at_f (0 : Int32).toNatClampNeg) + (x2.toInt32))) (ty := .int) (C := "GlyphPageModel$Font") (T := F_Mf) (N := 23) hx hb htsG iG_Mf t_Mf t_Mf_ok n_Mf hown hK hP hD hS 0 rfl rfl 11 (by decide) (htsG _ mW788) (fun _ h9 => h9) rfl (by decide +kernel) rfl rfl (Nat.le_of_ble_eq_true rfl) d_Mo_cmap_143 (fun H locs hP hD hS => ?_)
        have hP : va_P (dC, dI) classes [(a1, .inr (8, [.ref a1_file, .int a1_size, .ref a1_at, .ref a1_length, .int a1_units, .int a1_form, .int a1_glyphs, .int a1_ascent, .int a1_descent, .int a1_gap, .int a1_metrics, .int ((a1_at_f (0 : Int32).toNatClampNeg) + (x2.toInt32)), .int a1_mapLength, .int a1_segments, .ref a1_done, .ref a1_depth, .ref a1_parts, .ref a1_contours, .ref a1_points, .ref a1_x, .ref a1_y, .ref a1_on, .ref a1_contour])), (a1_file, .inl (cy 1, 4096, .inl a1_file_f)), (a1_at, .inl (cy 0, 8, .inl a1_at_f)), (a1_length, .inl (cy 0, 8, .inl a1_length_f))] H := hP
        have hD : va_D A [(a1, .inr (8, [.ref a1_file, .int a1_size, .ref a1_at, .ref a1_length, .int a1_units, .int a1_form, .int a1_glyphs, .int a1_ascent, .int a1_descent, .int a1_gap, .int a1_metrics, .int ((a1_at_f (0 : Int32).toNatClampNeg) + (x2.toInt32)), .int a1_mapLength, .int a1_segments, .ref a1_done, .ref a1_depth, .ref a1_parts, .ref a1_contours, .ref a1_points, .ref a1_x, .ref a1_y, .ref a1_on, .ref a1_contour])), (a1_file, .inl (cy 1, 4096, .inl a1_file_f)), (a1_at, .inl (cy 0, 8, .inl a1_at_f)), (a1_length, .inl (cy 0, 8, .inl a1_length_f))] := hD
        refine lv_aload_n hx hb d_Mo_cmap_146 rfl (lv_at hl 0 rfl) ?_
        refine lv_aload_n hx hb d_Mo_cmap_147 rfl (lv_at hl 0 rfl) ?_
        refine lv_aload_n hx hb d_Mo_cmap_148 rfl (lv_at hl 0 rfl) ?_
        refine va_get (D := (dC, dI)) (ci := 8) (v := .int ((a1_at_f (0 : Int32).toNatClampNeg) + (x2.toInt32))) (C := "GlyphPageModel$Font") (T := F_Mf) (N := 23) hx hb htsG iG_Mf hown hK hP 0 rfl rfl 11 (by decide) (htsG _ mW788) (fun _ h9 => h9) rfl d_Mo_cmap_149 ?_
        refine lv_iconst (v := (2 : Int32)) hx hb d_Mo_cmap_152 (by decide) ?_
        refine lv_iadd hx hb d_Mo_cmap_153 ?_
        obtain ⟨r_6, hq, h⟩ := Option.bind_eq_some_iff.mp h
        try dsimp only at h
        have hPc := hP.sub (ws' := [(a1, .inr (8, [.ref a1_file, .int a1_size, .ref a1_at, .ref a1_length, .int a1_units, .int a1_form, .int a1_glyphs, .int a1_ascent, .int a1_descent, .int a1_gap, .int a1_metrics, .int ((a1_at_f (0 : Int32).toNatClampNeg) + (x2.toInt32)), .int a1_mapLength, .int a1_segments, .ref a1_done, .ref a1_depth, .ref a1_parts, .ref a1_contours, .ref a1_points, .ref a1_x, .ref a1_y, .ref a1_on, .ref a1_contour])), (a1_file, .inl (cy 1, 4096, .inl a1_file_f))]) [0, 1] rfl
        have hDc := hD.sub (ws' := [(a1, .inr (8, [.ref a1_file, .int a1_size, .ref a1_at, .ref a1_length, .int a1_units, .int a1_form, .int a1_glyphs, .int a1_ascent, .int a1_descent, .int a1_gap, .int a1_metrics, .int ((a1_at_f (0 : Int32).toNatClampNeg) + (x2.toInt32)), .int a1_mapLength, .int a1_segments, .ref a1_done, .ref a1_depth, .ref a1_parts, .ref a1_contours, .ref a1_points, .ref a1_x, .ref a1_y, .ref a1_on, .ref a1_contour])), (a1_file, .inl (cy 1, 4096, .inl a1_file_f))]) [0, 1] (by decide) rfl
        have hFc := va_free (wc := [(a1, .inr (8, [.ref a1_file, .int a1_size, .ref a1_at, .ref a1_length, .int a1_units, .int a1_form, .int a1_glyphs, .int a1_ascent, .int a1_descent, .int a1_gap, .int a1_metrics, .int ((a1_at_f (0 : Int32).toNatClampNeg) + (x2.toInt32)), .int a1_mapLength, .int a1_segments, .ref a1_done, .ref a1_depth, .ref a1_parts, .ref a1_contours, .ref a1_points, .ref a1_x, .ref a1_y, .ref a1_on, .ref a1_contour])), (a1_file, .inl (cy 1, 4096, .inl a1_file_f))]) hD hS hA [0, 1] rfl
        refine va_calli (va_runV (As := [.int (((a1_at_f (0 : Int32).toNatClampNeg) + (x2.toInt32)) + (2 : Int32))]) (rest := [.ref a1]) ⟨hx, hb, hml, hown, htsG⟩ (c_Mf_two l dC dI cy H.size a1 a1_file a1_at a1_length a1_done a1_depth a1_parts a1_contours a1_points a1_x a1_y a1_on a1_contour a1_size a1_units a1_form a1_glyphs a1_ascent a1_descent a1_gap a1_metrics ((a1_at_f (0 : Int32).toNatClampNeg) + (x2.toInt32)) a1_mapLength a1_segments a1_file_f (((a1_at_f (0 : Int32).toNatClampNeg) + (x2.toInt32)) + (2 : Int32)) r_6 hq) (cwV 1 htsG (gV mW951 mW947 mW948 mW10 mW949) rfl rfl rfl (by decide +kernel) ⟨Nat.le_of_ble_eq_true rfl, Nat.le_of_ble_eq_true rfl⟩) ⟨fun a U g mk q => by obtain ⟨q0, q1, qP, qK, qD⟩ := q; exact ⟨q0, q1, qP, va_K.moved (u := U) (U := U.calling g mk a) (Vm.Alike.refl U.vm) qK, qD⟩, va_recv hK hPc (ci := 8) (q0 := 0) rfl rfl, fun U hU hW => ⟨rfl, by rw [hU], by rw [hU]; exact hPc, va_K.moved hW.alike hK, hDc.weaken (fun _ _ _ _ => trivial)⟩⟩ rfl rfl hl.1 rfl (lv_room (Nat.le_of_ble_eq_true rfl)) d_Mo_cmap_154 ⟨Nat.le_of_ble_eq_true rfl, Nat.le_of_ble_eq_true rfl⟩) hS (fun q _ h => hFc q h) hFc (fun rr u t H1 locs ht hvm hw hB hz1 hk1 hS => ?_)
        obtain ⟨hP1, hK1, hD1⟩ := hB
        rw [ht] at hP1
        replace hw : r_6 = rr := hw.symm
        subst hw
        obtain ⟨hP, hD⟩ := va_join (wr := [(a1_at, .inl (cy 0, 8, .inl a1_at_f)), (a1_length, .inl (cy 0, 8, .inl a1_length_f))]) (w1 := [(a1, .inr (8, [.ref a1_file, .int a1_size, .ref a1_at, .ref a1_length, .int a1_units, .int a1_form, .int a1_glyphs, .int a1_ascent, .int a1_descent, .int a1_gap, .int a1_metrics, .int ((a1_at_f (0 : Int32).toNatClampNeg) + (x2.toInt32)), .int a1_mapLength, .int a1_segments, .ref a1_done, .ref a1_depth, .ref a1_parts, .ref a1_contours, .ref a1_points, .ref a1_x, .ref a1_y, .ref a1_on, .ref a1_contour])), (a1_file, .inl (cy 1, 4096, .inl a1_file_f))]) hP hD [0, 1] [2, 3] rfl rfl (by decide) (by decide) hk1 hFc hP1 hD1
        generalize H1 = H at hP hS ⊢
        have hP := hP.sub (ws' := [(a1, .inr (8, [.ref a1_file, .int a1_size, .ref a1_at, .ref a1_length, .int a1_units, .int a1_form, .int a1_glyphs, .int a1_ascent, .int a1_descent, .int a1_gap, .int a1_metrics, .int ((a1_at_f (0 : Int32).toNatClampNeg) + (x2.toInt32)), .int a1_mapLength, .int a1_segments, .ref a1_done, .ref a1_depth, .ref a1_parts, .ref a1_contours, .ref a1_points, .ref a1_x, .ref a1_y, .ref a1_on, .ref a1_contour])), (a1_file, .inl (cy 1, 4096, .inl a1_file_f)), (a1_at, .inl (cy 0, 8, .inl a1_at_f)), (a1_length, .inl (cy 0, 8, .inl a1_length_f))]) [2, 3, 0, 1] rfl
        have hD := hD.sub (ws' := [(a1, .inr (8, [.ref a1_file, .int a1_size, .ref a1_at, .ref a1_length, .int a1_units, .int a1_form, .int a1_glyphs, .int a1_ascent, .int a1_descent, .int a1_gap, .int a1_metrics, .int ((a1_at_f (0 : Int32).toNatClampNeg) + (x2.toInt32)), .int a1_mapLength, .int a1_segments, .ref a1_done, .ref a1_depth, .ref a1_parts, .ref a1_contours, .ref a1_points, .ref a1_x, .ref a1_y, .ref a1_on, .ref a1_contour])), (a1_file, .inl (cy 1, 4096, .inl a1_file_f)), (a1_at, .inl (cy 0, 8, .inl a1_at_f)), (a1_length, .inl (cy 0, 8, .inl a1_length_f))]) [2, 3, 0, 1] (by decide) rfl
        refine W.widen (k := 0) (n := 0) (by decide) (by decide) ?_
        refine va_put (D := (dC, dI)) (ci := 8) (v := .int r_6) (ty := .int) (C := "GlyphPageModel$Font") (T := F_Mf) (N := 23) hx hb htsG iG_Mf t_Mf t_Mf_ok n_Mf hown hK hP hD hS 0 rfl rfl 12 (by decide) (htsG _ mW789) (fun _ h9 => h9) rfl (by decide +kernel) rfl rfl (Nat.le_of_ble_eq_true rfl) d_Mo_cmap_157 (fun H locs hP hD hS => ?_)
        have hP : va_P (dC, dI) classes [(a1, .inr (8, [.ref a1_file, .int a1_size, .ref a1_at, .ref a1_length, .int a1_units, .int a1_form, .int a1_glyphs, .int a1_ascent, .int a1_descent, .int a1_gap, .int a1_metrics, .int ((a1_at_f (0 : Int32).toNatClampNeg) + (x2.toInt32)), .int r_6, .int a1_segments, .ref a1_done, .ref a1_depth, .ref a1_parts, .ref a1_contours, .ref a1_points, .ref a1_x, .ref a1_y, .ref a1_on, .ref a1_contour])), (a1_file, .inl (cy 1, 4096, .inl a1_file_f)), (a1_at, .inl (cy 0, 8, .inl a1_at_f)), (a1_length, .inl (cy 0, 8, .inl a1_length_f))] H := hP
        have hD : va_D A [(a1, .inr (8, [.ref a1_file, .int a1_size, .ref a1_at, .ref a1_length, .int a1_units, .int a1_form, .int a1_glyphs, .int a1_ascent, .int a1_descent, .int a1_gap, .int a1_metrics, .int ((a1_at_f (0 : Int32).toNatClampNeg) + (x2.toInt32)), .int r_6, .int a1_segments, .ref a1_done, .ref a1_depth, .ref a1_parts, .ref a1_contours, .ref a1_points, .ref a1_x, .ref a1_y, .ref a1_on, .ref a1_contour])), (a1_file, .inl (cy 1, 4096, .inl a1_file_f)), (a1_at, .inl (cy 0, 8, .inl a1_at_f)), (a1_length, .inl (cy 0, 8, .inl a1_length_f))] := hD
        refine lv_aload_n hx hb d_Mo_cmap_160 rfl (lv_at hl 0 rfl) ?_
        refine lv_aload_n hx hb d_Mo_cmap_161 rfl (lv_at hl 0 rfl) ?_
        refine va_get (D := (dC, dI)) (ci := 8) (v := .int ((a1_at_f (0 : Int32).toNatClampNeg) + (x2.toInt32))) (C := "GlyphPageModel$Font") (T := F_Mf) (N := 23) hx hb htsG iG_Mf hown hK hP 0 rfl rfl 11 (by decide) (htsG _ mW788) (fun _ h9 => h9) rfl d_Mo_cmap_162 ?_
        refine lv_bipush (v := (6 : Int32)) hx hb d_Mo_cmap_165 (by decide) ?_
        refine lv_iadd hx hb d_Mo_cmap_167 ?_
        obtain ⟨r_7, hq, h⟩ := Option.bind_eq_some_iff.mp h
        try dsimp only at h
        have hPc := hP.sub (ws' := [(a1, .inr (8, [.ref a1_file, .int a1_size, .ref a1_at, .ref a1_length, .int a1_units, .int a1_form, .int a1_glyphs, .int a1_ascent, .int a1_descent, .int a1_gap, .int a1_metrics, .int ((a1_at_f (0 : Int32).toNatClampNeg) + (x2.toInt32)), .int r_6, .int a1_segments, .ref a1_done, .ref a1_depth, .ref a1_parts, .ref a1_contours, .ref a1_points, .ref a1_x, .ref a1_y, .ref a1_on, .ref a1_contour])), (a1_file, .inl (cy 1, 4096, .inl a1_file_f))]) [0, 1] rfl
        have hDc := hD.sub (ws' := [(a1, .inr (8, [.ref a1_file, .int a1_size, .ref a1_at, .ref a1_length, .int a1_units, .int a1_form, .int a1_glyphs, .int a1_ascent, .int a1_descent, .int a1_gap, .int a1_metrics, .int ((a1_at_f (0 : Int32).toNatClampNeg) + (x2.toInt32)), .int r_6, .int a1_segments, .ref a1_done, .ref a1_depth, .ref a1_parts, .ref a1_contours, .ref a1_points, .ref a1_x, .ref a1_y, .ref a1_on, .ref a1_contour])), (a1_file, .inl (cy 1, 4096, .inl a1_file_f))]) [0, 1] (by decide) rfl
        have hFc := va_free (wc := [(a1, .inr (8, [.ref a1_file, .int a1_size, .ref a1_at, .ref a1_length, .int a1_units, .int a1_form, .int a1_glyphs, .int a1_ascent, .int a1_descent, .int a1_gap, .int a1_metrics, .int ((a1_at_f (0 : Int32).toNatClampNeg) + (x2.toInt32)), .int r_6, .int a1_segments, .ref a1_done, .ref a1_depth, .ref a1_parts, .ref a1_contours, .ref a1_points, .ref a1_x, .ref a1_y, .ref a1_on, .ref a1_contour])), (a1_file, .inl (cy 1, 4096, .inl a1_file_f))]) hD hS hA [0, 1] rfl
        refine va_calli (va_runV (As := [.int (((a1_at_f (0 : Int32).toNatClampNeg) + (x2.toInt32)) + (6 : Int32))]) (rest := []) ⟨hx, hb, hml, hown, htsG⟩ (c_Mf_two l dC dI cy H.size a1 a1_file a1_at a1_length a1_done a1_depth a1_parts a1_contours a1_points a1_x a1_y a1_on a1_contour a1_size a1_units a1_form a1_glyphs a1_ascent a1_descent a1_gap a1_metrics ((a1_at_f (0 : Int32).toNatClampNeg) + (x2.toInt32)) r_6 a1_segments a1_file_f (((a1_at_f (0 : Int32).toNatClampNeg) + (x2.toInt32)) + (6 : Int32)) r_7 hq) (cwV 1 htsG (gV mW951 mW947 mW948 mW10 mW949) rfl rfl rfl (by decide +kernel) ⟨Nat.le_of_ble_eq_true rfl, Nat.le_of_ble_eq_true rfl⟩) ⟨fun a U g mk q => by obtain ⟨q0, q1, qP, qK, qD⟩ := q; exact ⟨q0, q1, qP, va_K.moved (u := U) (U := U.calling g mk a) (Vm.Alike.refl U.vm) qK, qD⟩, va_recv hK hPc (ci := 8) (q0 := 0) rfl rfl, fun U hU hW => ⟨rfl, by rw [hU], by rw [hU]; exact hPc, va_K.moved hW.alike hK, hDc.weaken (fun _ _ _ _ => trivial)⟩⟩ rfl rfl hl.1 rfl (lv_room (Nat.le_of_ble_eq_true rfl)) d_Mo_cmap_168 ⟨Nat.le_of_ble_eq_true rfl, Nat.le_of_ble_eq_true rfl⟩) hS (fun q _ h => hFc q h) hFc (fun rr u t H1 locs ht hvm hw hB hz1 hk1 hS => ?_)
        obtain ⟨hP1, hK1, hD1⟩ := hB
        rw [ht] at hP1
        replace hw : r_7 = rr := hw.symm
        subst hw
        obtain ⟨hP, hD⟩ := va_join (wr := [(a1_at, .inl (cy 0, 8, .inl a1_at_f)), (a1_length, .inl (cy 0, 8, .inl a1_length_f))]) (w1 := [(a1, .inr (8, [.ref a1_file, .int a1_size, .ref a1_at, .ref a1_length, .int a1_units, .int a1_form, .int a1_glyphs, .int a1_ascent, .int a1_descent, .int a1_gap, .int a1_metrics, .int ((a1_at_f (0 : Int32).toNatClampNeg) + (x2.toInt32)), .int r_6, .int a1_segments, .ref a1_done, .ref a1_depth, .ref a1_parts, .ref a1_contours, .ref a1_points, .ref a1_x, .ref a1_y, .ref a1_on, .ref a1_contour])), (a1_file, .inl (cy 1, 4096, .inl a1_file_f))]) hP hD [0, 1] [2, 3] rfl rfl (by decide) (by decide) hk1 hFc hP1 hD1
        generalize H1 = H at hP hS ⊢
        have hP := hP.sub (ws' := [(a1, .inr (8, [.ref a1_file, .int a1_size, .ref a1_at, .ref a1_length, .int a1_units, .int a1_form, .int a1_glyphs, .int a1_ascent, .int a1_descent, .int a1_gap, .int a1_metrics, .int ((a1_at_f (0 : Int32).toNatClampNeg) + (x2.toInt32)), .int r_6, .int a1_segments, .ref a1_done, .ref a1_depth, .ref a1_parts, .ref a1_contours, .ref a1_points, .ref a1_x, .ref a1_y, .ref a1_on, .ref a1_contour])), (a1_file, .inl (cy 1, 4096, .inl a1_file_f)), (a1_at, .inl (cy 0, 8, .inl a1_at_f)), (a1_length, .inl (cy 0, 8, .inl a1_length_f))]) [2, 3, 0, 1] rfl
        have hD := hD.sub (ws' := [(a1, .inr (8, [.ref a1_file, .int a1_size, .ref a1_at, .ref a1_length, .int a1_units, .int a1_form, .int a1_glyphs, .int a1_ascent, .int a1_descent, .int a1_gap, .int a1_metrics, .int ((a1_at_f (0 : Int32).toNatClampNeg) + (x2.toInt32)), .int r_6, .int a1_segments, .ref a1_done, .ref a1_depth, .ref a1_parts, .ref a1_contours, .ref a1_points, .ref a1_x, .ref a1_y, .ref a1_on, .ref a1_contour])), (a1_file, .inl (cy 1, 4096, .inl a1_file_f)), (a1_at, .inl (cy 0, 8, .inl a1_at_f)), (a1_length, .inl (cy 0, 8, .inl a1_length_f))]) [2, 3, 0, 1] (by decide) rfl
        refine W.widen (k := 0) (n := 0) (by decide) (by decide) ?_
        refine lv_istore (lv' := [(4, .int r_7), (0, .ref a1), (2, .long x2)]) hx hb d_Mo_cmap_171 hl (by decide) rfl (fun ls hl => ?_)
        refine lv_aload_n hx hb d_Mo_cmap_173 rfl (lv_at hl 1 rfl) ?_
        refine lv_iload hx hb d_Mo_cmap_174 (lv_at hl 0 rfl) ?_
        refine lv_iconst (v := (2 : Int32)) hx hb d_Mo_cmap_176 (by decide) ?_
        refine lv_idiv hx hb d_Mo_cmap_177 (by decide) ?_
        refine va_put (D := (dC, dI)) (ci := 8) (v := .int (r_7 / (2 : Int32))) (ty := .int) (C := "GlyphPageModel$Font") (T := F_Mf) (N := 23) hx hb htsG iG_Mf t_Mf t_Mf_ok n_Mf hown hK hP hD hS 0 rfl rfl 13 (by decide) (htsG _ mW790) (fun _ h9 => h9) rfl (by decide +kernel) rfl rfl (Nat.le_of_ble_eq_true rfl) d_Mo_cmap_178 (fun H locs hP hD hS => ?_)
        have hP : va_P (dC, dI) classes [(a1, .inr (8, [.ref a1_file, .int a1_size, .ref a1_at, .ref a1_length, .int a1_units, .int a1_form, .int a1_glyphs, .int a1_ascent, .int a1_descent, .int a1_gap, .int a1_metrics, .int ((a1_at_f (0 : Int32).toNatClampNeg) + (x2.toInt32)), .int r_6, .int (r_7 / (2 : Int32)), .ref a1_done, .ref a1_depth, .ref a1_parts, .ref a1_contours, .ref a1_points, .ref a1_x, .ref a1_y, .ref a1_on, .ref a1_contour])), (a1_file, .inl (cy 1, 4096, .inl a1_file_f)), (a1_at, .inl (cy 0, 8, .inl a1_at_f)), (a1_length, .inl (cy 0, 8, .inl a1_length_f))] H := hP
        have hD : va_D A [(a1, .inr (8, [.ref a1_file, .int a1_size, .ref a1_at, .ref a1_length, .int a1_units, .int a1_form, .int a1_glyphs, .int a1_ascent, .int a1_descent, .int a1_gap, .int a1_metrics, .int ((a1_at_f (0 : Int32).toNatClampNeg) + (x2.toInt32)), .int r_6, .int (r_7 / (2 : Int32)), .ref a1_done, .ref a1_depth, .ref a1_parts, .ref a1_contours, .ref a1_points, .ref a1_x, .ref a1_y, .ref a1_on, .ref a1_contour])), (a1_file, .inl (cy 1, 4096, .inl a1_file_f)), (a1_at, .inl (cy 0, 8, .inl a1_at_f)), (a1_length, .inl (cy 0, 8, .inl a1_length_f))] := hD
        refine lv_aload_n hx hb d_Mo_cmap_181 rfl (lv_at hl 1 rfl) ?_
        refine lv_aload_n hx hb d_Mo_cmap_182 rfl (lv_at hl 1 rfl) ?_
        refine va_get (D := (dC, dI)) (ci := 8) (v := .int ((a1_at_f (0 : Int32).toNatClampNeg) + (x2.toInt32))) (C := "GlyphPageModel$Font") (T := F_Mf) (N := 23) hx hb htsG iG_Mf hown hK hP 0 rfl rfl 11 (by decide) (htsG _ mW788) (fun _ h9 => h9) rfl d_Mo_cmap_183 ?_
        obtain ⟨r_8, hq, h⟩ := Option.bind_eq_some_iff.mp h
        try dsimp only at h
        have hPc := hP.sub (ws' := [(a1, .inr (8, [.ref a1_file, .int a1_size, .ref a1_at, .ref a1_length, .int a1_units, .int a1_form, .int a1_glyphs, .int a1_ascent, .int a1_descent, .int a1_gap, .int a1_metrics, .int ((a1_at_f (0 : Int32).toNatClampNeg) + (x2.toInt32)), .int r_6, .int (r_7 / (2 : Int32)), .ref a1_done, .ref a1_depth, .ref a1_parts, .ref a1_contours, .ref a1_points, .ref a1_x, .ref a1_y, .ref a1_on, .ref a1_contour])), (a1_file, .inl (cy 1, 4096, .inl a1_file_f))]) [0, 1] rfl
        have hDc := hD.sub (ws' := [(a1, .inr (8, [.ref a1_file, .int a1_size, .ref a1_at, .ref a1_length, .int a1_units, .int a1_form, .int a1_glyphs, .int a1_ascent, .int a1_descent, .int a1_gap, .int a1_metrics, .int ((a1_at_f (0 : Int32).toNatClampNeg) + (x2.toInt32)), .int r_6, .int (r_7 / (2 : Int32)), .ref a1_done, .ref a1_depth, .ref a1_parts, .ref a1_contours, .ref a1_points, .ref a1_x, .ref a1_y, .ref a1_on, .ref a1_contour])), (a1_file, .inl (cy 1, 4096, .inl a1_file_f))]) [0, 1] (by decide) rfl
        have hFc := va_free (wc := [(a1, .inr (8, [.ref a1_file, .int a1_size, .ref a1_at, .ref a1_length, .int a1_units, .int a1_form, .int a1_glyphs, .int a1_ascent, .int a1_descent, .int a1_gap, .int a1_metrics, .int ((a1_at_f (0 : Int32).toNatClampNeg) + (x2.toInt32)), .int r_6, .int (r_7 / (2 : Int32)), .ref a1_done, .ref a1_depth, .ref a1_parts, .ref a1_contours, .ref a1_points, .ref a1_x, .ref a1_y, .ref a1_on, .ref a1_contour])), (a1_file, .inl (cy 1, 4096, .inl a1_file_f))]) hD hS hA [0, 1] rfl
        refine va_calli (va_runV (As := [.int ((a1_at_f (0 : Int32).toNatClampNeg) + (x2.toInt32))]) (rest := []) ⟨hx, hb, hml, hown, htsG⟩ (c_Mf_two l dC dI cy H.size a1 a1_file a1_at a1_length a1_done a1_depth a1_parts a1_contours a1_points a1_x a1_y a1_on a1_contour a1_size a1_units a1_form a1_glyphs a1_ascent a1_descent a1_gap a1_metrics ((a1_at_f (0 : Int32).toNatClampNeg) + (x2.toInt32)) r_6 (r_7 / (2 : Int32)) a1_file_f ((a1_at_f (0 : Int32).toNatClampNeg) + (x2.toInt32)) r_8 hq) (cwV 1 htsG (gV mW951 mW947 mW948 mW10 mW949) rfl rfl rfl (by decide +kernel) ⟨Nat.le_of_ble_eq_true rfl, Nat.le_of_ble_eq_true rfl⟩) ⟨fun a U g mk q => by obtain ⟨q0, q1, qP, qK, qD⟩ := q; exact ⟨q0, q1, qP, va_K.moved (u := U) (U := U.calling g mk a) (Vm.Alike.refl U.vm) qK, qD⟩, va_recv hK hPc (ci := 8) (q0 := 0) rfl rfl, fun U hU hW => ⟨rfl, by rw [hU], by rw [hU]; exact hPc, va_K.moved hW.alike hK, hDc.weaken (fun _ _ _ _ => trivial)⟩⟩ rfl rfl hl.1 rfl (lv_room (Nat.le_of_ble_eq_true rfl)) d_Mo_cmap_186 ⟨Nat.le_of_ble_eq_true rfl, Nat.le_of_ble_eq_true rfl⟩) hS (fun q _ h => hFc q h) hFc (fun rr u t H1 locs ht hvm hw hB hz1 hk1 hS => ?_)
        obtain ⟨hP1, hK1, hD1⟩ := hB
        rw [ht] at hP1
        replace hw : r_8 = rr := hw.symm
        subst hw
        obtain ⟨hP, hD⟩ := va_join (wr := [(a1_at, .inl (cy 0, 8, .inl a1_at_f)), (a1_length, .inl (cy 0, 8, .inl a1_length_f))]) (w1 := [(a1, .inr (8, [.ref a1_file, .int a1_size, .ref a1_at, .ref a1_length, .int a1_units, .int a1_form, .int a1_glyphs, .int a1_ascent, .int a1_descent, .int a1_gap, .int a1_metrics, .int ((a1_at_f (0 : Int32).toNatClampNeg) + (x2.toInt32)), .int r_6, .int (r_7 / (2 : Int32)), .ref a1_done, .ref a1_depth, .ref a1_parts, .ref a1_contours, .ref a1_points, .ref a1_x, .ref a1_y, .ref a1_on, .ref a1_contour])), (a1_file, .inl (cy 1, 4096, .inl a1_file_f))]) hP hD [0, 1] [2, 3] rfl rfl (by decide) (by decide) hk1 hFc hP1 hD1
        generalize H1 = H at hP hS ⊢
        have hP := hP.sub (ws' := [(a1, .inr (8, [.ref a1_file, .int a1_size, .ref a1_at, .ref a1_length, .int a1_units, .int a1_form, .int a1_glyphs, .int a1_ascent, .int a1_descent, .int a1_gap, .int a1_metrics, .int ((a1_at_f (0 : Int32).toNatClampNeg) + (x2.toInt32)), .int r_6, .int (r_7 / (2 : Int32)), .ref a1_done, .ref a1_depth, .ref a1_parts, .ref a1_contours, .ref a1_points, .ref a1_x, .ref a1_y, .ref a1_on, .ref a1_contour])), (a1_file, .inl (cy 1, 4096, .inl a1_file_f)), (a1_at, .inl (cy 0, 8, .inl a1_at_f)), (a1_length, .inl (cy 0, 8, .inl a1_length_f))]) [2, 3, 0, 1] rfl
        have hD := hD.sub (ws' := [(a1, .inr (8, [.ref a1_file, .int a1_size, .ref a1_at, .ref a1_length, .int a1_units, .int a1_form, .int a1_glyphs, .int a1_ascent, .int a1_descent, .int a1_gap, .int a1_metrics, .int ((a1_at_f (0 : Int32).toNatClampNeg) + (x2.toInt32)), .int r_6, .int (r_7 / (2 : Int32)), .ref a1_done, .ref a1_depth, .ref a1_parts, .ref a1_contours, .ref a1_points, .ref a1_x, .ref a1_y, .ref a1_on, .ref a1_contour])), (a1_file, .inl (cy 1, 4096, .inl a1_file_f)), (a1_at, .inl (cy 0, 8, .inl a1_at_f)), (a1_length, .inl (cy 0, 8, .inl a1_length_f))]) [2, 3, 0, 1] (by decide) rfl
        refine W.widen (k := 0) (n := 0) (by decide) (by decide) ?_
        refine lv_iconst (v := (4 : Int32)) hx hb d_Mo_cmap_189 (by decide) ?_
        refine lv_icmp_ne (tgt := 245) hx hb d_Mo_cmap_190 (by decide) (fun c_9 => ?_) (fun c_9 => ?_)
        · replace h := (if_neg c_9).symm.trans h
          refine lv_iconst (v := (0 : Int32)) hx hb d_Mo_cmap_245 (by decide) ?_
          cases h
          exact W.zret (ty := .boolean) hx hb hr rfl (fun t ht hW => ⟨⟨_, (), rfl, rfl, by rw [ht]; exact hP, va_K.moved hW.alike hK, hD⟩, hS.F ht⟩) hS.2.2 d_Mo_cmap_246 hlocks
        · replace h := (if_pos c_9).symm.trans h
          refine lv_lload_n hx hb d_Mo_cmap_193 rfl (lv_at hl 2 rfl) ?_
          refine lv_aload_n hx hb d_Mo_cmap_194 rfl (lv_at hl 1 rfl) ?_
          refine va_get (D := (dC, dI)) (ci := 8) (v := .int r_6) (C := "GlyphPageModel$Font") (T := F_Mf) (N := 23) hx hb htsG iG_Mf hown hK hP 0 rfl rfl 12 (by decide) (htsG _ mW789) (fun _ h9 => h9) rfl d_Mo_cmap_195 ?_
          refine lv_i2l hx hb d_Mo_cmap_198 rfl ?_
          refine lv_ladd hx hb d_Mo_cmap_199 ?_
          refine lv_aload_n hx hb d_Mo_cmap_200 rfl (lv_at hl 1 rfl) ?_
          refine va_get (D := (dC, dI)) (ci := 8) (v := .ref a1_length) (C := "GlyphPageModel$Font") (T := F_Mf) (N := 23) hx hb htsG iG_Mf hown hK hP 0 rfl rfl 3 (by decide) (htsG _ mW780) (fun _ h9 => h9) rfl d_Mo_cmap_201 ?_
          refine lv_iconst (v := (0 : Int32)) hx hb d_Mo_cmap_204 (by decide) ?_
          obtain ⟨hin_10, h⟩ := bd_some h
          refine va_iald hx hb hK hP 3 0 rfl rfl hin_10 d_Mo_cmap_205 ?_
          refine lv_i2l hx hb d_Mo_cmap_206 rfl ?_
          refine W.lcmp hx hb d_Mo_cmap_207 ?_
          refine lv_if_gt (tgt := 245) hx hb d_Mo_cmap_208 (by decide) (fun c_11 => ?_) (fun c_11 => ?_)
          · replace h := (if_pos c_11).symm.trans h
            refine lv_iconst (v := (0 : Int32)) hx hb d_Mo_cmap_245 (by decide) ?_
            cases h
            exact W.zret (ty := .boolean) hx hb hr rfl (fun t ht hW => ⟨⟨_, (), rfl, rfl, by rw [ht]; exact hP, va_K.moved hW.alike hK, hD⟩, hS.F ht⟩) hS.2.2 d_Mo_cmap_246 hlocks
          · replace h := (if_neg c_11).symm.trans h
            refine lv_iload hx hb d_Mo_cmap_211 (lv_at hl 0 rfl) ?_
            refine lv_iconst (v := (2 : Int32)) hx hb d_Mo_cmap_213 (by decide) ?_
            refine lv_icmp_lt (tgt := 245) hx hb d_Mo_cmap_214 (by decide) (fun c_12 => ?_) (fun c_12 => ?_)
            · replace h := (if_pos c_12).symm.trans h
              refine lv_iconst (v := (0 : Int32)) hx hb d_Mo_cmap_245 (by decide) ?_
              cases h
              exact W.zret (ty := .boolean) hx hb hr rfl (fun t ht hW => ⟨⟨_, (), rfl, rfl, by rw [ht]; exact hP, va_K.moved hW.alike hK, hD⟩, hS.F ht⟩) hS.2.2 d_Mo_cmap_246 hlocks
            · replace h := (if_neg c_12).symm.trans h
              refine lv_iload hx hb d_Mo_cmap_217 (lv_at hl 0 rfl) ?_
              refine lv_iconst (v := (2 : Int32)) hx hb d_Mo_cmap_219 (by decide) ?_
              refine lv_irem hx hb d_Mo_cmap_220 (by decide) ?_
              refine lv_if_ne (tgt := 245) hx hb d_Mo_cmap_221 (by decide) (fun c_13 => ?_) (fun c_13 => ?_)
              · replace h := (if_neg c_13).symm.trans h
                refine lv_iconst (v := (0 : Int32)) hx hb d_Mo_cmap_245 (by decide) ?_
                cases h
                exact W.zret (ty := .boolean) hx hb hr rfl (fun t ht hW => ⟨⟨_, (), rfl, rfl, by rw [ht]; exact hP, va_K.moved hW.alike hK, hD⟩, hS.F ht⟩) hS.2.2 d_Mo_cmap_246 hlocks
              · replace h := (if_pos c_13).symm.trans h
                refine lv_bipush (v := (16 : Int32)) hx hb d_Mo_cmap_224 (by decide) ?_
                refine lv_bipush (v := (8 : Int32)) hx hb d_Mo_cmap_226 (by decide) ?_
                refine lv_aload_n hx hb d_Mo_cmap_228 rfl (lv_at hl 1 rfl) ?_
                refine va_get (D := (dC, dI)) (ci := 8) (v := .int (r_7 / (2 : Int32))) (C := "GlyphPageModel$Font") (T := F_Mf) (N := 23) hx hb htsG iG_Mf hown hK hP 0 rfl rfl 13 (by decide) (htsG _ mW790) (fun _ h9 => h9) rfl d_Mo_cmap_229 ?_
                refine lv_imul hx hb d_Mo_cmap_232 ?_
                refine lv_iadd hx hb d_Mo_cmap_233 ?_
                refine lv_aload_n hx hb d_Mo_cmap_234 rfl (lv_at hl 1 rfl) ?_
                refine va_get (D := (dC, dI)) (ci := 8) (v := .int r_6) (C := "GlyphPageModel$Font") (T := F_Mf) (N := 23) hx hb htsG iG_Mf hown hK hP 0 rfl rfl 12 (by decide) (htsG _ mW789) (fun _ h9 => h9) rfl d_Mo_cmap_235 ?_
                refine lv_icmp_gt (tgt := 245) hx hb d_Mo_cmap_238 (by decide) (fun c_14 => ?_) (fun c_14 => ?_)
                · replace h := (if_pos c_14).symm.trans h
                  refine lv_iconst (v := (0 : Int32)) hx hb d_Mo_cmap_245 (by decide) ?_
                  cases h
                  exact W.zret (ty := .boolean) hx hb hr rfl (fun t ht hW => ⟨⟨_, (), rfl, rfl, by rw [ht]; exact hP, va_K.moved hW.alike hK, hD⟩, hS.F ht⟩) hS.2.2 d_Mo_cmap_246 hlocks
                · replace h := (if_neg c_14).symm.trans h
                  refine lv_iconst (v := (1 : Int32)) hx hb d_Mo_cmap_241 (by decide) ?_
                  refine lv_goto (tgt := 246) hx hb d_Mo_cmap_242 (by decide) ?_
                  cases h
                  exact W.zret (ty := .boolean) hx hb hr rfl (fun t ht hW => ⟨⟨_, (), rfl, rfl, by rw [ht]; exact hP, va_K.moved hW.alike hK, hD⟩, hS.F ht⟩) hS.2.2 d_Mo_cmap_246 hlocks
      · replace h := (if_neg c_4).symm.trans h
        refine lv_iconst (v := (0 : Int32)) hx hb d_Mo_cmap_131 (by decide) ?_
        cases h
        exact W.zret (ty := .boolean) hx hb hr rfl (fun t ht hW => ⟨⟨_, (), rfl, rfl, by rw [ht]; exact hP, va_K.moved hW.alike hK, hD⟩, hS.F ht⟩) hS.2.2 d_Mo_cmap_132 hlocks
  · replace h := (if_neg c_1).symm.trans h
    refine lv_aload_n hx hb d_Mo_cmap_56 rfl (lv_at hl 0 rfl) ?_
    refine va_get (D := (dC, dI)) (ci := 8) (v := .ref a1_at) (C := "GlyphPageModel$Font") (T := F_Mf) (N := 23) hx hb htsG iG_Mf hown hK hP 0 rfl rfl 2 (by decide) (htsG _ mW778) (fun _ h9 => h9) rfl d_Mo_cmap_57 ?_
    refine lv_iconst (v := (0 : Int32)) hx hb d_Mo_cmap_60 (by decide) ?_
    obtain ⟨hin_15, h⟩ := bd_some h
    refine va_iald hx hb hK hP 2 0 rfl rfl hin_15 d_Mo_cmap_61 ?_
    refine lv_iconst (v := (4 : Int32)) hx hb d_Mo_cmap_62 (by decide) ?_
    refine lv_iadd hx hb d_Mo_cmap_63 ?_
    refine lv_bipush (v := (8 : Int32)) hx hb d_Mo_cmap_64 (by decide) ?_
    refine lv_iload hx hb d_Mo_cmap_66 (lv_at hl 2 rfl) ?_
    refine lv_imul hx hb d_Mo_cmap_68 ?_
    refine lv_iadd hx hb d_Mo_cmap_69 ?_
    refine lv_istore (lv' := [(5, .int (((a1_at_f (0 : Int32).toNatClampNeg) + (4 : Int32)) + ((8 : Int32) * x4))), (0, .ref a1), (2, .long x2), (4, .int x4)]) hx hb d_Mo_cmap_70 hl (by decide) rfl (fun ls hl => ?_)
    refine lv_aload_n hx hb d_Mo_cmap_72 rfl (lv_at hl 1 rfl) ?_
    refine lv_iload hx hb d_Mo_cmap_73 (lv_at hl 0 rfl) ?_
    obtain ⟨r_16, hq, h⟩ := Option.bind_eq_some_iff.mp h
    try dsimp only at h
    have hPc := hP.sub (ws' := [(a1, .inr (8, [.ref a1_file, .int a1_size, .ref a1_at, .ref a1_length, .int a1_units, .int a1_form, .int a1_glyphs, .int a1_ascent, .int a1_descent, .int a1_gap, .int a1_metrics, .int a1_map, .int a1_mapLength, .int a1_segments, .ref a1_done, .ref a1_depth, .ref a1_parts, .ref a1_contours, .ref a1_points, .ref a1_x, .ref a1_y, .ref a1_on, .ref a1_contour])), (a1_file, .inl (cy 1, 4096, .inl a1_file_f))]) [0, 1] rfl
    have hDc := hD.sub (ws' := [(a1, .inr (8, [.ref a1_file, .int a1_size, .ref a1_at, .ref a1_length, .int a1_units, .int a1_form, .int a1_glyphs, .int a1_ascent, .int a1_descent, .int a1_gap, .int a1_metrics, .int a1_map, .int a1_mapLength, .int a1_segments, .ref a1_done, .ref a1_depth, .ref a1_parts, .ref a1_contours, .ref a1_points, .ref a1_x, .ref a1_y, .ref a1_on, .ref a1_contour])), (a1_file, .inl (cy 1, 4096, .inl a1_file_f))]) [0, 1] (by decide) rfl
    have hFc := va_free (wc := [(a1, .inr (8, [.ref a1_file, .int a1_size, .ref a1_at, .ref a1_length, .int a1_units, .int a1_form, .int a1_glyphs, .int a1_ascent, .int a1_descent, .int a1_gap, .int a1_metrics, .int a1_map, .int a1_mapLength, .int a1_segments, .ref a1_done, .ref a1_depth, .ref a1_parts, .ref a1_contours, .ref a1_points, .ref a1_x, .ref a1_y, .ref a1_on, .ref a1_contour])), (a1_file, .inl (cy 1, 4096, .inl a1_file_f))]) hD hS hA [0, 1] rfl
    refine va_calli (va_runV (As := [.int (((a1_at_f (0 : Int32).toNatClampNeg) + (4 : Int32)) + ((8 : Int32) * x4))]) (rest := []) ⟨hx, hb, hml, hown, htsG⟩ (c_Mf_two l dC dI cy H.size a1 a1_file a1_at a1_length a1_done a1_depth a1_parts a1_contours a1_points a1_x a1_y a1_on a1_contour a1_size a1_units a1_form a1_glyphs a1_ascent a1_descent a1_gap a1_metrics a1_map a1_mapLength a1_segments a1_file_f (((a1_at_f (0 : Int32).toNatClampNeg) + (4 : Int32)) + ((8 : Int32) * x4)) r_16 hq) (cwV 1 htsG (gV mW951 mW947 mW948 mW10 mW949) rfl rfl rfl (by decide +kernel) ⟨Nat.le_of_ble_eq_true rfl, Nat.le_of_ble_eq_true rfl⟩) ⟨fun a U g mk q => by obtain ⟨q0, q1, qP, qK, qD⟩ := q; exact ⟨q0, q1, qP, va_K.moved (u := U) (U := U.calling g mk a) (Vm.Alike.refl U.vm) qK, qD⟩, va_recv hK hPc (ci := 8) (q0 := 0) rfl rfl, fun U hU hW => ⟨rfl, by rw [hU], by rw [hU]; exact hPc, va_K.moved hW.alike hK, hDc.weaken (fun _ _ _ _ => trivial)⟩⟩ rfl rfl hl.1 rfl (lv_room (Nat.le_of_ble_eq_true rfl)) d_Mo_cmap_75 ⟨Nat.le_of_ble_eq_true rfl, Nat.le_of_ble_eq_true rfl⟩) hS (fun q _ h => hFc q h) hFc (fun rr u t H1 locs ht hvm hw hB hz1 hk1 hS => ?_)
    obtain ⟨hP1, hK1, hD1⟩ := hB
    rw [ht] at hP1
    replace hw : r_16 = rr := hw.symm
    subst hw
    obtain ⟨hP, hD⟩ := va_join (wr := [(a1_at, .inl (cy 0, 8, .inl a1_at_f)), (a1_length, .inl (cy 0, 8, .inl a1_length_f))]) (w1 := [(a1, .inr (8, [.ref a1_file, .int a1_size, .ref a1_at, .ref a1_length, .int a1_units, .int a1_form, .int a1_glyphs, .int a1_ascent, .int a1_descent, .int a1_gap, .int a1_metrics, .int a1_map, .int a1_mapLength, .int a1_segments, .ref a1_done, .ref a1_depth, .ref a1_parts, .ref a1_contours, .ref a1_points, .ref a1_x, .ref a1_y, .ref a1_on, .ref a1_contour])), (a1_file, .inl (cy 1, 4096, .inl a1_file_f))]) hP hD [0, 1] [2, 3] rfl rfl (by decide) (by decide) hk1 hFc hP1 hD1
    generalize H1 = H at hP hS ⊢
    have hP := hP.sub (ws' := [(a1, .inr (8, [.ref a1_file, .int a1_size, .ref a1_at, .ref a1_length, .int a1_units, .int a1_form, .int a1_glyphs, .int a1_ascent, .int a1_descent, .int a1_gap, .int a1_metrics, .int a1_map, .int a1_mapLength, .int a1_segments, .ref a1_done, .ref a1_depth, .ref a1_parts, .ref a1_contours, .ref a1_points, .ref a1_x, .ref a1_y, .ref a1_on, .ref a1_contour])), (a1_file, .inl (cy 1, 4096, .inl a1_file_f)), (a1_at, .inl (cy 0, 8, .inl a1_at_f)), (a1_length, .inl (cy 0, 8, .inl a1_length_f))]) [2, 3, 0, 1] rfl
    have hD := hD.sub (ws' := [(a1, .inr (8, [.ref a1_file, .int a1_size, .ref a1_at, .ref a1_length, .int a1_units, .int a1_form, .int a1_glyphs, .int a1_ascent, .int a1_descent, .int a1_gap, .int a1_metrics, .int a1_map, .int a1_mapLength, .int a1_segments, .ref a1_done, .ref a1_depth, .ref a1_parts, .ref a1_contours, .ref a1_points, .ref a1_x, .ref a1_y, .ref a1_on, .ref a1_contour])), (a1_file, .inl (cy 1, 4096, .inl a1_file_f)), (a1_at, .inl (cy 0, 8, .inl a1_at_f)), (a1_length, .inl (cy 0, 8, .inl a1_length_f))]) [2, 3, 0, 1] (by decide) rfl
    refine W.widen (k := 0) (n := 0) (by decide) (by decide) ?_
    refine lv_iconst (v := (3 : Int32)) hx hb d_Mo_cmap_78 (by decide) ?_
    refine lv_icmp_ne (tgt := 103) hx hb d_Mo_cmap_79 (by decide) (fun c_17 => ?_) (fun c_17 => ?_)
    · replace h := (if_neg c_17).symm.trans h
      exact w_Mo_cmap_103 C0 a1 a1_file a1_at a1_length a1_done a1_depth a1_parts a1_contours a1_points a1_x a1_y a1_on a1_contour a1_size a1_units a1_form a1_glyphs a1_ascent a1_descent a1_gap a1_metrics a1_file_f a1_at_f a1_length_f uu z51 hz51 x2 x4 a1_map a1_mapLength a1_segments h hP hD hS (lv_sub hl [1, 2, 3] rfl)
    · replace h := (if_pos c_17).symm.trans h
      refine lv_aload_n hx hb d_Mo_cmap_82 rfl (lv_at hl 1 rfl) ?_
      refine lv_iload hx hb d_Mo_cmap_83 (lv_at hl 0 rfl) ?_
      refine lv_iconst (v := (2 : Int32)) hx hb d_Mo_cmap_85 (by decide) ?_
      refine lv_iadd hx hb d_Mo_cmap_86 ?_
      obtain ⟨r_18, hq, h⟩ := Option.bind_eq_some_iff.mp h
      try dsimp only at h
      have hPc := hP.sub (ws' := [(a1, .inr (8, [.ref a1_file, .int a1_size, .ref a1_at, .ref a1_length, .int a1_units, .int a1_form, .int a1_glyphs, .int a1_ascent, .int a1_descent, .int a1_gap, .int a1_metrics, .int a1_map, .int a1_mapLength, .int a1_segments, .ref a1_done, .ref a1_depth, .ref a1_parts, .ref a1_contours, .ref a1_points, .ref a1_x, .ref a1_y, .ref a1_on, .ref a1_contour])), (a1_file, .inl (cy 1, 4096, .inl a1_file_f))]) [0, 1] rfl
      have hDc := hD.sub (ws' := [(a1, .inr (8, [.ref a1_file, .int a1_size, .ref a1_at, .ref a1_length, .int a1_units, .int a1_form, .int a1_glyphs, .int a1_ascent, .int a1_descent, .int a1_gap, .int a1_metrics, .int a1_map, .int a1_mapLength, .int a1_segments, .ref a1_done, .ref a1_depth, .ref a1_parts, .ref a1_contours, .ref a1_points, .ref a1_x, .ref a1_y, .ref a1_on, .ref a1_contour])), (a1_file, .inl (cy 1, 4096, .inl a1_file_f))]) [0, 1] (by decide) rfl
      have hFc := va_free (wc := [(a1, .inr (8, [.ref a1_file, .int a1_size, .ref a1_at, .ref a1_length, .int a1_units, .int a1_form, .int a1_glyphs, .int a1_ascent, .int a1_descent, .int a1_gap, .int a1_metrics, .int a1_map, .int a1_mapLength, .int a1_segments, .ref a1_done, .ref a1_depth, .ref a1_parts, .ref a1_contours, .ref a1_points, .ref a1_x, .ref a1_y, .ref a1_on, .ref a1_contour])), (a1_file, .inl (cy 1, 4096, .inl a1_file_f))]) hD hS hA [0, 1] rfl
      refine va_calli (va_runV (As := [.int ((((a1_at_f (0 : Int32).toNatClampNeg) + (4 : Int32)) + ((8 : Int32) * x4)) + (2 : Int32))]) (rest := []) ⟨hx, hb, hml, hown, htsG⟩ (c_Mf_two l dC dI cy H.size a1 a1_file a1_at a1_length a1_done a1_depth a1_parts a1_contours a1_points a1_x a1_y a1_on a1_contour a1_size a1_units a1_form a1_glyphs a1_ascent a1_descent a1_gap a1_metrics a1_map a1_mapLength a1_segments a1_file_f ((((a1_at_f (0 : Int32).toNatClampNeg) + (4 : Int32)) + ((8 : Int32) * x4)) + (2 : Int32)) r_18 hq) (cwV 1 htsG (gV mW951 mW947 mW948 mW10 mW949) rfl rfl rfl (by decide +kernel) ⟨Nat.le_of_ble_eq_true rfl, Nat.le_of_ble_eq_true rfl⟩) ⟨fun a U g mk q => by obtain ⟨q0, q1, qP, qK, qD⟩ := q; exact ⟨q0, q1, qP, va_K.moved (u := U) (U := U.calling g mk a) (Vm.Alike.refl U.vm) qK, qD⟩, va_recv hK hPc (ci := 8) (q0 := 0) rfl rfl, fun U hU hW => ⟨rfl, by rw [hU], by rw [hU]; exact hPc, va_K.moved hW.alike hK, hDc.weaken (fun _ _ _ _ => trivial)⟩⟩ rfl rfl hl.1 rfl (lv_room (Nat.le_of_ble_eq_true rfl)) d_Mo_cmap_87 ⟨Nat.le_of_ble_eq_true rfl, Nat.le_of_ble_eq_true rfl⟩) hS (fun q _ h => hFc q h) hFc (fun rr u t H1 locs ht hvm hw hB hz1 hk1 hS => ?_)
      obtain ⟨hP1, hK1, hD1⟩ := hB
      rw [ht] at hP1
      replace hw : r_18 = rr := hw.symm
      subst hw
      obtain ⟨hP, hD⟩ := va_join (wr := [(a1_at, .inl (cy 0, 8, .inl a1_at_f)), (a1_length, .inl (cy 0, 8, .inl a1_length_f))]) (w1 := [(a1, .inr (8, [.ref a1_file, .int a1_size, .ref a1_at, .ref a1_length, .int a1_units, .int a1_form, .int a1_glyphs, .int a1_ascent, .int a1_descent, .int a1_gap, .int a1_metrics, .int a1_map, .int a1_mapLength, .int a1_segments, .ref a1_done, .ref a1_depth, .ref a1_parts, .ref a1_contours, .ref a1_points, .ref a1_x, .ref a1_y, .ref a1_on, .ref a1_contour])), (a1_file, .inl (cy 1, 4096, .inl a1_file_f))]) hP hD [0, 1] [2, 3] rfl rfl (by decide) (by decide) hk1 hFc hP1 hD1
      generalize H1 = H at hP hS ⊢
      have hP := hP.sub (ws' := [(a1, .inr (8, [.ref a1_file, .int a1_size, .ref a1_at, .ref a1_length, .int a1_units, .int a1_form, .int a1_glyphs, .int a1_ascent, .int a1_descent, .int a1_gap, .int a1_metrics, .int a1_map, .int a1_mapLength, .int a1_segments, .ref a1_done, .ref a1_depth, .ref a1_parts, .ref a1_contours, .ref a1_points, .ref a1_x, .ref a1_y, .ref a1_on, .ref a1_contour])), (a1_file, .inl (cy 1, 4096, .inl a1_file_f)), (a1_at, .inl (cy 0, 8, .inl a1_at_f)), (a1_length, .inl (cy 0, 8, .inl a1_length_f))]) [2, 3, 0, 1] rfl
      have hD := hD.sub (ws' := [(a1, .inr (8, [.ref a1_file, .int a1_size, .ref a1_at, .ref a1_length, .int a1_units, .int a1_form, .int a1_glyphs, .int a1_ascent, .int a1_descent, .int a1_gap, .int a1_metrics, .int a1_map, .int a1_mapLength, .int a1_segments, .ref a1_done, .ref a1_depth, .ref a1_parts, .ref a1_contours, .ref a1_points, .ref a1_x, .ref a1_y, .ref a1_on, .ref a1_contour])), (a1_file, .inl (cy 1, 4096, .inl a1_file_f)), (a1_at, .inl (cy 0, 8, .inl a1_at_f)), (a1_length, .inl (cy 0, 8, .inl a1_length_f))]) [2, 3, 0, 1] (by decide) rfl
      refine W.widen (k := 0) (n := 0) (by decide) (by decide) ?_
      refine lv_iconst (v := (1 : Int32)) hx hb d_Mo_cmap_90 (by decide) ?_
      refine lv_icmp_ne (tgt := 103) hx hb d_Mo_cmap_91 (by decide) (fun c_19 => ?_) (fun c_19 => ?_)
      · replace h := (if_neg c_19).symm.trans h
        exact w_Mo_cmap_103 C0 a1 a1_file a1_at a1_length a1_done a1_depth a1_parts a1_contours a1_points a1_x a1_y a1_on a1_contour a1_size a1_units a1_form a1_glyphs a1_ascent a1_descent a1_gap a1_metrics a1_file_f a1_at_f a1_length_f uu z51 hz51 x2 x4 a1_map a1_mapLength a1_segments h hP hD hS (lv_sub hl [1, 2, 3] rfl)
      · replace h := (if_pos c_19).symm.trans h
        refine lv_aload_n hx hb d_Mo_cmap_94 rfl (lv_at hl 1 rfl) ?_
        refine lv_iload hx hb d_Mo_cmap_95 (lv_at hl 0 rfl) ?_
        refine lv_iconst (v := (4 : Int32)) hx hb d_Mo_cmap_97 (by decide) ?_
        refine lv_iadd hx hb d_Mo_cmap_98 ?_
        obtain ⟨r_20, hq, h⟩ := Option.bind_eq_some_iff.mp h
        try dsimp only at h
        have hPc := hP.sub (ws' := [(a1, .inr (8, [.ref a1_file, .int a1_size, .ref a1_at, .ref a1_length, .int a1_units, .int a1_form, .int a1_glyphs, .int a1_ascent, .int a1_descent, .int a1_gap, .int a1_metrics, .int a1_map, .int a1_mapLength, .int a1_segments, .ref a1_done, .ref a1_depth, .ref a1_parts, .ref a1_contours, .ref a1_points, .ref a1_x, .ref a1_y, .ref a1_on, .ref a1_contour])), (a1_file, .inl (cy 1, 4096, .inl a1_file_f))]) [0, 1] rfl
        have hDc := hD.sub (ws' := [(a1, .inr (8, [.ref a1_file, .int a1_size, .ref a1_at, .ref a1_length, .int a1_units, .int a1_form, .int a1_glyphs, .int a1_ascent, .int a1_descent, .int a1_gap, .int a1_metrics, .int a1_map, .int a1_mapLength, .int a1_segments, .ref a1_done, .ref a1_depth, .ref a1_parts, .ref a1_contours, .ref a1_points, .ref a1_x, .ref a1_y, .ref a1_on, .ref a1_contour])), (a1_file, .inl (cy 1, 4096, .inl a1_file_f))]) [0, 1] (by decide) rfl
        have hFc := va_free (wc := [(a1, .inr (8, [.ref a1_file, .int a1_size, .ref a1_at, .ref a1_length, .int a1_units, .int a1_form, .int a1_glyphs, .int a1_ascent, .int a1_descent, .int a1_gap, .int a1_metrics, .int a1_map, .int a1_mapLength, .int a1_segments, .ref a1_done, .ref a1_depth, .ref a1_parts, .ref a1_contours, .ref a1_points, .ref a1_x, .ref a1_y, .ref a1_on, .ref a1_contour])), (a1_file, .inl (cy 1, 4096, .inl a1_file_f))]) hD hS hA [0, 1] rfl
        refine va_calll (va_runV (As := [.int ((((a1_at_f (0 : Int32).toNatClampNeg) + (4 : Int32)) + ((8 : Int32) * x4)) + (4 : Int32))]) (rest := []) ⟨hx, hb, hml, hown, htsG⟩ (c_Mf_big l dC dI cy H.size a1 a1_file a1_at a1_length a1_done a1_depth a1_parts a1_contours a1_points a1_x a1_y a1_on a1_contour a1_size a1_units a1_form a1_glyphs a1_ascent a1_descent a1_gap a1_metrics a1_map a1_mapLength a1_segments a1_file_f ((((a1_at_f (0 : Int32).toNatClampNeg) + (4 : Int32)) + ((8 : Int32) * x4)) + (4 : Int32)) r_20 hq) (cwV 1 htsG (gV mW952 mW953 mW954 mW10 mW955) rfl rfl rfl (by decide +kernel) ⟨Nat.le_of_ble_eq_true rfl, Nat.le_of_ble_eq_true rfl⟩) ⟨fun a U g mk q => by obtain ⟨q0, q1, qP, qK, qD⟩ := q; exact ⟨q0, q1, qP, va_K.moved (u := U) (U := U.calling g mk a) (Vm.Alike.refl U.vm) qK, qD⟩, va_recv hK hPc (ci := 8) (q0 := 0) rfl rfl, fun U hU hW => ⟨rfl, by rw [hU], by rw [hU]; exact hPc, va_K.moved hW.alike hK, hDc.weaken (fun _ _ _ _ => trivial)⟩⟩ rfl rfl hl.1 rfl (lv_room (Nat.le_of_ble_eq_true rfl)) d_Mo_cmap_99 ⟨Nat.le_of_ble_eq_true rfl, Nat.le_of_ble_eq_true rfl⟩) hS (fun q _ h => hFc q h) hFc (fun rr u t H1 locs ht hvm hw hB hz1 hk1 hS => ?_)
        obtain ⟨hP1, hK1, hD1⟩ := hB
        rw [ht] at hP1
        replace hw : r_20 = rr := hw.symm
        subst hw
        obtain ⟨hP, hD⟩ := va_join (wr := [(a1_at, .inl (cy 0, 8, .inl a1_at_f)), (a1_length, .inl (cy 0, 8, .inl a1_length_f))]) (w1 := [(a1, .inr (8, [.ref a1_file, .int a1_size, .ref a1_at, .ref a1_length, .int a1_units, .int a1_form, .int a1_glyphs, .int a1_ascent, .int a1_descent, .int a1_gap, .int a1_metrics, .int a1_map, .int a1_mapLength, .int a1_segments, .ref a1_done, .ref a1_depth, .ref a1_parts, .ref a1_contours, .ref a1_points, .ref a1_x, .ref a1_y, .ref a1_on, .ref a1_contour])), (a1_file, .inl (cy 1, 4096, .inl a1_file_f))]) hP hD [0, 1] [2, 3] rfl rfl (by decide) (by decide) hk1 hFc hP1 hD1
        generalize H1 = H at hP hS ⊢
        have hP := hP.sub (ws' := [(a1, .inr (8, [.ref a1_file, .int a1_size, .ref a1_at, .ref a1_length, .int a1_units, .int a1_form, .int a1_glyphs, .int a1_ascent, .int a1_descent, .int a1_gap, .int a1_metrics, .int a1_map, .int a1_mapLength, .int a1_segments, .ref a1_done, .ref a1_depth, .ref a1_parts, .ref a1_contours, .ref a1_points, .ref a1_x, .ref a1_y, .ref a1_on, .ref a1_contour])), (a1_file, .inl (cy 1, 4096, .inl a1_file_f)), (a1_at, .inl (cy 0, 8, .inl a1_at_f)), (a1_length, .inl (cy 0, 8, .inl a1_length_f))]) [2, 3, 0, 1] rfl
        have hD := hD.sub (ws' := [(a1, .inr (8, [.ref a1_file, .int a1_size, .ref a1_at, .ref a1_length, .int a1_units, .int a1_form, .int a1_glyphs, .int a1_ascent, .int a1_descent, .int a1_gap, .int a1_metrics, .int a1_map, .int a1_mapLength, .int a1_segments, .ref a1_done, .ref a1_depth, .ref a1_parts, .ref a1_contours, .ref a1_points, .ref a1_x, .ref a1_y, .ref a1_on, .ref a1_contour])), (a1_file, .inl (cy 1, 4096, .inl a1_file_f)), (a1_at, .inl (cy 0, 8, .inl a1_at_f)), (a1_length, .inl (cy 0, 8, .inl a1_length_f))]) [2, 3, 0, 1] (by decide) rfl
        refine W.widen (k := 0) (n := 0) (by decide) (by decide) ?_
        refine lv_lstore_n (lv' := [(2, .long r_20), (5, .int (((a1_at_f (0 : Int32).toNatClampNeg) + (4 : Int32)) + ((8 : Int32) * x4))), (0, .ref a1), (4, .int x4)]) hx hb d_Mo_cmap_102 rfl hl (by decide) rfl (fun ls hl => ?_)
        exact w_Mo_cmap_103 C0 a1 a1_file a1_at a1_length a1_done a1_depth a1_parts a1_contours a1_points a1_x a1_y a1_on a1_contour a1_size a1_units a1_form a1_glyphs a1_ascent a1_descent a1_gap a1_metrics a1_file_f a1_at_f a1_length_f uu z51 hz51 r_20 x4 a1_map a1_mapLength a1_segments h hP hD hS (lv_sub hl [2, 0, 3] rfl)
theorem w_Mo_cmap_51 (C0 : Cx p s m args meth c A dC dI cy b_Mo_cmap 6 (some .boolean) "GlyphPageModel") (a1 : Nat) (a1_file : Nat) (a1_at : Nat) (a1_length : Nat) (a1_done : Nat) (a1_depth : Nat) (a1_parts : Nat) (a1_contours : Nat) (a1_points : Nat) (a1_x : Nat) (a1_y : Nat) (a1_on : Nat) (a1_contour : Nat) (a1_size : Int32) (a1_units : Int32) (a1_form : Int32) (a1_glyphs : Int32) (a1_ascent : Int32) (a1_descent : Int32) (a1_gap : Int32) (a1_metrics : Int32) (a1_file_f : Nat → Int32) (a1_at_f : Nat → Int32) (a1_length_f : Nat → Int32) (uu : Int32 × Int32 × Int32 × Int32)  (x2 : Int64) (x4 : Int32) (a1_map : Int32) (a1_mapLength : Int32) (a1_segments : Int32) {H : Heap} {locs : List Loc} {ls : Array Slot} (h : P_Mo_cmap_51 a1_file_f a1_at_f a1_length_f x2 x4 a1_map a1_mapLength a1_segments = some uu) : va_P (dC, dI) classes [(a1, .inr (8, [.ref a1_file, .int a1_size, .ref a1_at, .ref a1_length, .int a1_units, .int a1_form, .int a1_glyphs, .int a1_ascent, .int a1_descent, .int a1_gap, .int a1_metrics, .int a1_map, .int a1_mapLength, .int a1_segments, .ref a1_done, .ref a1_depth, .ref a1_parts, .ref a1_contours, .ref a1_points, .ref a1_x, .ref a1_y, .ref a1_on, .ref a1_contour])), (a1_file, .inl (cy 1, 4096, .inl a1_file_f)), (a1_at, .inl (cy 0, 8, .inl a1_at_f)), (a1_length, .inl (cy 0, 8, .inl a1_length_f))] H → va_D A [(a1, .inr (8, [.ref a1_file, .int a1_size, .ref a1_at, .ref a1_length, .int a1_units, .int a1_form, .int a1_glyphs, .int a1_ascent, .int a1_descent, .int a1_gap, .int a1_metrics, .int a1_map, .int a1_mapLength, .int a1_segments, .ref a1_done, .ref a1_depth, .ref a1_parts, .ref a1_contours, .ref a1_points, .ref a1_x, .ref a1_y, .ref a1_on, .ref a1_contour])), (a1_file, .inl (cy 1, 4096, .inl a1_file_f)), (a1_at, .inl (cy 0, 8, .inl a1_at_f)), (a1_length, .inl (cy 0, 8, .inl a1_length_f))] → va_S A s.heap H locs → lv_has ls 6 [(0, .ref a1), (2, .long x2), (4, .int x4)] → W p l e ({ frames := 2, cells := 0, slots := 0, locals := 42 } : Room) s m args below meth c H locs 0 0 (MQ below (va_Qi (fun r (_ : Unit) => r = uu.1) (fun _ t => va_P (dC, dI) classes [(a1, .inr (8, [.ref a1_file, .int a1_size, .ref a1_at, .ref a1_length, .int a1_units, .int a1_form, .int a1_glyphs, .int a1_ascent, .int a1_descent, .int a1_gap, .int a1_metrics, .int uu.2.1, .int uu.2.2.1, .int uu.2.2.2, .ref a1_done, .ref a1_depth, .ref a1_parts, .ref a1_contours, .ref a1_points, .ref a1_x, .ref a1_y, .ref a1_on, .ref a1_contour])), (a1_file, .inl (cy 1, 4096, .inl a1_file_f)), (a1_at, .inl (cy 0, 8, .inl a1_at_f)), (a1_length, .inl (cy 0, 8, .inl a1_length_f))] t.heap ∧ va_K (dC, dI) classes (TY cy) t ∧ va_D A [(a1, .inr (8, [.ref a1_file, .int a1_size, .ref a1_at, .ref a1_length, .int a1_units, .int a1_form, .int a1_glyphs, .int a1_ascent, .int a1_descent, .int a1_gap, .int a1_metrics, .int uu.2.1, .int uu.2.2.1, .int uu.2.2.2, .ref a1_done, .ref a1_depth, .ref a1_parts, .ref a1_contours, .ref a1_points, .ref a1_x, .ref a1_y, .ref a1_on, .ref a1_contour])), (a1_file, .inl (cy 1, 4096, .inl a1_file_f)), (a1_at, .inl (cy 0, 8, .inl a1_at_f)), (a1_length, .inl (cy 0, 8, .inl a1_length_f))]) A) args s 0 0 A) (F0 m 51 ls []) := by
  have key : ∀ (n : Nat) (x2 : Int64) (x4 : Int32) (a1_map : Int32) (a1_mapLength : Int32) (a1_segments : Int32) (H : Heap) (locs : List Loc) (ls : Array Slot), lp (L_Mo_cmap_51 a1_file_f a1_at_f a1_length_f) n (x2, x4, a1_map, a1_mapLength, a1_segments) = some uu → va_P (dC, dI) classes [(a1, .inr (8, [.ref a1_file, .int a1_size, .ref a1_at, .ref a1_length, .int a1_units, .int a1_form, .int a1_glyphs, .int a1_ascent, .int a1_descent, .int a1_gap, .int a1_metrics, .int a1_map, .int a1_mapLength, .int a1_segments, .ref a1_done, .ref a1_depth, .ref a1_parts, .ref a1_contours, .ref a1_points, .ref a1_x, .ref a1_y, .ref a1_on, .ref a1_contour])), (a1_file, .inl (cy 1, 4096, .inl a1_file_f)), (a1_at, .inl (cy 0, 8, .inl a1_at_f)), (a1_length, .inl (cy 0, 8, .inl a1_length_f))] H → va_D A [(a1, .inr (8, [.ref a1_file, .int a1_size, .ref a1_at, .ref a1_length, .int a1_units, .int a1_form, .int a1_glyphs, .int a1_ascent, .int a1_descent, .int a1_gap, .int a1_metrics, .int a1_map, .int a1_mapLength, .int a1_segments, .ref a1_done, .ref a1_depth, .ref a1_parts, .ref a1_contours, .ref a1_points, .ref a1_x, .ref a1_y, .ref a1_on, .ref a1_contour])), (a1_file, .inl (cy 1, 4096, .inl a1_file_f)), (a1_at, .inl (cy 0, 8, .inl a1_at_f)), (a1_length, .inl (cy 0, 8, .inl a1_length_f))] → va_S A s.heap H locs → lv_has ls 6 [(0, .ref a1), (2, .long x2), (4, .int x4)] → W p l e ({ frames := 2, cells := 0, slots := 0, locals := 42 } : Room) s m args below meth c H locs 0 0 (MQ below (va_Qi (fun r (_ : Unit) => r = uu.1) (fun _ t => va_P (dC, dI) classes [(a1, .inr (8, [.ref a1_file, .int a1_size, .ref a1_at, .ref a1_length, .int a1_units, .int a1_form, .int a1_glyphs, .int a1_ascent, .int a1_descent, .int a1_gap, .int a1_metrics, .int uu.2.1, .int uu.2.2.1, .int uu.2.2.2, .ref a1_done, .ref a1_depth, .ref a1_parts, .ref a1_contours, .ref a1_points, .ref a1_x, .ref a1_y, .ref a1_on, .ref a1_contour])), (a1_file, .inl (cy 1, 4096, .inl a1_file_f)), (a1_at, .inl (cy 0, 8, .inl a1_at_f)), (a1_length, .inl (cy 0, 8, .inl a1_length_f))] t.heap ∧ va_K (dC, dI) classes (TY cy) t ∧ va_D A [(a1, .inr (8, [.ref a1_file, .int a1_size, .ref a1_at, .ref a1_length, .int a1_units, .int a1_form, .int a1_glyphs, .int a1_ascent, .int a1_descent, .int a1_gap, .int a1_metrics, .int uu.2.1, .int uu.2.2.1, .int uu.2.2.2, .ref a1_done, .ref a1_depth, .ref a1_parts, .ref a1_contours, .ref a1_points, .ref a1_x, .ref a1_y, .ref a1_on, .ref a1_contour])), (a1_file, .inl (cy 1, 4096, .inl a1_file_f)), (a1_at, .inl (cy 0, 8, .inl a1_at_f)), (a1_length, .inl (cy 0, 8, .inl a1_length_f))]) A) args s 0 0 A) (F0 m 51 ls []) := by
    intro n
    induction n with
    | zero => intro x2 x4 a1_map a1_mapLength a1_segments H locs ls h; cases h
    | succ n ih => intro x2 x4 a1_map a1_mapLength a1_segments H locs ls h; exact w_Mo_cmap_51b C0 a1 a1_file a1_at a1_length a1_done a1_depth a1_parts a1_contours a1_points a1_x a1_y a1_on a1_contour a1_size a1_units a1_form a1_glyphs a1_ascent a1_descent a1_gap a1_metrics a1_file_f a1_at_f a1_length_f uu  (lp (L_Mo_cmap_51 a1_file_f a1_at_f a1_length_f) n) ih x2 x4 a1_map a1_mapLength a1_segments ((e_Mo_cmap_51 a1_file_f a1_at_f a1_length_f n x2 x4 a1_map a1_mapLength a1_segments).symm.trans h)
  exact key fuel x2 x4 a1_map a1_mapLength a1_segments H locs ls h
def P_Mo_cmap (a1_map : Int32) (a1_mapLength : Int32) (a1_segments : Int32) (a1_file_f : Nat → Int32) (a1_at_f : Nat → Int32) (a1_length_f : Nat → Int32)  : Option (Int32 × Int32 × Int32 × Int32) :=
  bd (0 : Int32) 8 <| if (4 : Int32) ≤ (a1_length_f (0 : Int32).toNatClampNeg) then (bd (0 : Int32) 8 <| (P_Mf_two a1_file_f ((a1_at_f (0 : Int32).toNatClampNeg) + (2 : Int32))).bind fun r_4 => bd (0 : Int32) 8 <| if ((4 : Int32) + ((8 : Int32) * r_4)) ≤ (a1_length_f (0 : Int32).toNatClampNeg) then (P_Mo_cmap_51 a1_file_f a1_at_f a1_length_f (-1 : Int64) (r_4 - (1 : Int32)) a1_map a1_mapLength a1_segments) else (some ((0 : Int32), a1_map, a1_mapLength, a1_segments))) else (some ((0 : Int32), a1_map, a1_mapLength, a1_segments))
set_option maxHeartbeats 4000000 in
set_option maxRecDepth 100000 in
theorem c_Mo_cmap (l : Launch) (dC : Nat → ClassId) (dI : Nat → Nat → Nat) (cy : Nat → ClassId) (sz : Nat) (a1 : Nat) (a1_file : Nat) (a1_at : Nat) (a1_length : Nat) (a1_done : Nat) (a1_depth : Nat) (a1_parts : Nat) (a1_contours : Nat) (a1_points : Nat) (a1_x : Nat) (a1_y : Nat) (a1_on : Nat) (a1_contour : Nat) (a1_size : Int32) (a1_units : Int32) (a1_form : Int32) (a1_glyphs : Int32) (a1_ascent : Int32) (a1_descent : Int32) (a1_gap : Int32) (a1_metrics : Int32) (a1_map : Int32) (a1_mapLength : Int32) (a1_segments : Int32) (a1_file_f : Nat → Int32) (a1_at_f : Nat → Int32) (a1_length_f : Nat → Int32)  (uu : Int32 × Int32 × Int32 × Int32) (h : P_Mo_cmap a1_map a1_mapLength a1_segments a1_file_f a1_at_f a1_length_f = some uu) : Met l y_Mo_cmap (Cond.code y_Mo_cmap b_Mo_cmap 6 (some .boolean) :: G) ({ frames := 2, cells := 0, slots := 0, locals := 42 } : Room) (va_Pc [.ref a1] (fun U => U.heap.size = sz ∧ va_P (dC, dI) classes [(a1, .inr (8, [.ref a1_file, .int a1_size, .ref a1_at, .ref a1_length, .int a1_units, .int a1_form, .int a1_glyphs, .int a1_ascent, .int a1_descent, .int a1_gap, .int a1_metrics, .int a1_map, .int a1_mapLength, .int a1_segments, .ref a1_done, .ref a1_depth, .ref a1_parts, .ref a1_contours, .ref a1_points, .ref a1_x, .ref a1_y, .ref a1_on, .ref a1_contour])), (a1_file, .inl (cy 1, 4096, .inl a1_file_f)), (a1_at, .inl (cy 0, 8, .inl a1_at_f)), (a1_length, .inl (cy 0, 8, .inl a1_length_f))] U.heap ∧ va_K (dC, dI) classes (TY cy) U ∧ va_D (fun _ => True) [(a1, .inr (8, [.ref a1_file, .int a1_size, .ref a1_at, .ref a1_length, .int a1_units, .int a1_form, .int a1_glyphs, .int a1_ascent, .int a1_descent, .int a1_gap, .int a1_metrics, .int a1_map, .int a1_mapLength, .int a1_segments, .ref a1_done, .ref a1_depth, .ref a1_parts, .ref a1_contours, .ref a1_points, .ref a1_x, .ref a1_y, .ref a1_on, .ref a1_contour])), (a1_file, .inl (cy 1, 4096, .inl a1_file_f)), (a1_at, .inl (cy 0, 8, .inl a1_at_f)), (a1_length, .inl (cy 0, 8, .inl a1_length_f))])) (va_Qi (fun r (_ : Unit) => r = uu.1) (fun _ t => va_P (dC, dI) classes [(a1, .inr (8, [.ref a1_file, .int a1_size, .ref a1_at, .ref a1_length, .int a1_units, .int a1_form, .int a1_glyphs, .int a1_ascent, .int a1_descent, .int a1_gap, .int a1_metrics, .int uu.2.1, .int uu.2.2.1, .int uu.2.2.2, .ref a1_done, .ref a1_depth, .ref a1_parts, .ref a1_contours, .ref a1_points, .ref a1_x, .ref a1_y, .ref a1_on, .ref a1_contour])), (a1_file, .inl (cy 1, 4096, .inl a1_file_f)), (a1_at, .inl (cy 0, 8, .inl a1_at_f)), (a1_length, .inl (cy 0, 8, .inl a1_length_f))] t.heap ∧ va_K (dC, dI) classes (TY cy) t ∧ va_D (va_A [(a1, .inr (8, [.ref a1_file, .int a1_size, .ref a1_at, .ref a1_length, .int a1_units, .int a1_form, .int a1_glyphs, .int a1_ascent, .int a1_descent, .int a1_gap, .int a1_metrics, .int a1_map, .int a1_mapLength, .int a1_segments, .ref a1_done, .ref a1_depth, .ref a1_parts, .ref a1_contours, .ref a1_points, .ref a1_x, .ref a1_y, .ref a1_on, .ref a1_contour])), (a1_file, .inl (cy 1, 4096, .inl a1_file_f)), (a1_at, .inl (cy 0, 8, .inl a1_at_f)), (a1_length, .inl (cy 0, 8, .inl a1_length_f))] sz) [(a1, .inr (8, [.ref a1_file, .int a1_size, .ref a1_at, .ref a1_length, .int a1_units, .int a1_form, .int a1_glyphs, .int a1_ascent, .int a1_descent, .int a1_gap, .int a1_metrics, .int uu.2.1, .int uu.2.2.1, .int uu.2.2.2, .ref a1_done, .ref a1_depth, .ref a1_parts, .ref a1_contours, .ref a1_points, .ref a1_x, .ref a1_y, .ref a1_on, .ref a1_contour])), (a1_file, .inl (cy 1, 4096, .inl a1_file_f)), (a1_at, .inl (cy 0, 8, .inl a1_at_f)), (a1_length, .inl (cy 0, 8, .inl a1_length_f))]) (va_A [(a1, .inr (8, [.ref a1_file, .int a1_size, .ref a1_at, .ref a1_length, .int a1_units, .int a1_form, .int a1_glyphs, .int a1_ascent, .int a1_descent, .int a1_gap, .int a1_metrics, .int a1_map, .int a1_mapLength, .int a1_segments, .ref a1_done, .ref a1_depth, .ref a1_parts, .ref a1_contours, .ref a1_points, .ref a1_x, .ref a1_y, .ref a1_on, .ref a1_contour])), (a1_file, .inl (cy 1, 4096, .inl a1_file_f)), (a1_at, .inl (cy 0, 8, .inl a1_at_f)), (a1_length, .inl (cy 0, 8, .inl a1_length_f))] sz)) 0 0 (va_A [(a1, .inr (8, [.ref a1_file, .int a1_size, .ref a1_at, .ref a1_length, .int a1_units, .int a1_form, .int a1_glyphs, .int a1_ascent, .int a1_descent, .int a1_gap, .int a1_metrics, .int a1_map, .int a1_mapLength, .int a1_segments, .ref a1_done, .ref a1_depth, .ref a1_parts, .ref a1_contours, .ref a1_points, .ref a1_x, .ref a1_y, .ref a1_on, .ref a1_contour])), (a1_file, .inl (cy 1, 4096, .inl a1_file_f)), (a1_at, .inl (cy 0, 8, .inl a1_at_f)), (a1_length, .inl (cy 0, 8, .inl a1_length_f))] sz) := by
  refine Met.ofW (cc := b_Mo_cmap) (maxL := 6) (ret := (some .boolean)) (by decide) rfl ?_
  intro p e s m args below meth c s₁ B hml hv
  obtain ⟨rfl, hsz, hP, hK, hD0⟩ := hv
  have hx := B.exec
  have hb := B.bytes
  have hr := B.returns
  have hts := atoms_spec (ws := Cond.code y_Mo_cmap b_Mo_cmap 6 (some .boolean) :: G) B.pre
  have htsG : ∀ w ∈ G, w.before _ s = true := fun w hw => hts w (List.mem_cons_of_mem _ hw)
  have hown : s.vm.findClass "GlyphPageModel" = some m.cls := findClass_of_methodNamed B.named
  have hlocks := B.notSynchronized
  subst hsz
  have hD := hD0.self (sz := s.heap.size)
  generalize hAe : va_A [(a1, .inr (8, [.ref a1_file, .int a1_size, .ref a1_at, .ref a1_length, .int a1_units, .int a1_form, .int a1_glyphs, .int a1_ascent, .int a1_descent, .int a1_gap, .int a1_metrics, .int a1_map, .int a1_mapLength, .int a1_segments, .ref a1_done, .ref a1_depth, .ref a1_parts, .ref a1_contours, .ref a1_points, .ref a1_x, .ref a1_y, .ref a1_on, .ref a1_contour])), (a1_file, .inl (cy 1, 4096, .inl a1_file_f)), (a1_at, .inl (cy 0, 8, .inl a1_at_f)), (a1_length, .inl (cy 0, 8, .inl a1_length_f))] s.heap.size = A at hD ⊢
  have hA : ∀ q : Nat, s.heap.size ≤ q → A q := fun q h => by rw [← hAe]; exact Or.inr h
  have hS : va_S A s.heap s.heap [] := va_S.rf
  have hl := lv_entry ([.ref a1]) (n := 6) (Nat.le_of_ble_eq_true rfl)
  rw [lg_entry_eq]
  generalize (lg_sl ([.ref a1]) ++ List.replicate (6 - (lg_sl ([.ref a1])).length) Slot.unset).toArray = ls at hl ⊢
  have hl : lv_has ls 6 [(0, .ref a1)] := hl
  have C0 : Cx p s m _ meth c A dC dI cy b_Mo_cmap 6 (some .boolean) "GlyphPageModel" := ⟨hx, hb, hr, hlocks, hml, hown, htsG, hA, hK⟩
  unfold P_Mo_cmap at h
  refine lv_aload_n hx hb d_Mo_cmap_0 rfl (lv_at hl 0 rfl) ?_
  refine va_get (D := (dC, dI)) (ci := 8) (v := .ref a1_length) (C := "GlyphPageModel$Font") (T := F_Mf) (N := 23) hx hb htsG iG_Mf hown hK hP 0 rfl rfl 3 (by decide) (htsG _ mW780) (fun _ h9 => h9) rfl d_Mo_cmap_1 ?_
  refine lv_iconst (v := (0 : Int32)) hx hb d_Mo_cmap_4 (by decide) ?_
  obtain ⟨hin_1, h⟩ := bd_some h
  refine va_iald hx hb hK hP 3 0 rfl rfl hin_1 d_Mo_cmap_5 ?_
  refine lv_iconst (v := (4 : Int32)) hx hb d_Mo_cmap_6 (by decide) ?_
  refine lv_icmp_ge (tgt := 12) hx hb d_Mo_cmap_7 (by decide) (fun c_2 => ?_) (fun c_2 => ?_)
  · replace h := (if_pos c_2).symm.trans h
    refine lv_aload_n hx hb d_Mo_cmap_12 rfl (lv_at hl 0 rfl) ?_
    refine lv_aload_n hx hb d_Mo_cmap_13 rfl (lv_at hl 0 rfl) ?_
    refine va_get (D := (dC, dI)) (ci := 8) (v := .ref a1_at) (C := "GlyphPageModel$Font") (T := F_Mf) (N := 23) hx hb htsG iG_Mf hown hK hP 0 rfl rfl 2 (by decide) (htsG _ mW778) (fun _ h9 => h9) rfl d_Mo_cmap_14 ?_
    refine lv_iconst (v := (0 : Int32)) hx hb d_Mo_cmap_17 (by decide) ?_
    obtain ⟨hin_3, h⟩ := bd_some h
    refine va_iald hx hb hK hP 2 0 rfl rfl hin_3 d_Mo_cmap_18 ?_
    refine lv_iconst (v := (2 : Int32)) hx hb d_Mo_cmap_19 (by decide) ?_
    refine lv_iadd hx hb d_Mo_cmap_20 ?_
    obtain ⟨r_4, hq, h⟩ := Option.bind_eq_some_iff.mp h
    try dsimp only at h
    have hPc := hP.sub (ws' := [(a1, .inr (8, [.ref a1_file, .int a1_size, .ref a1_at, .ref a1_length, .int a1_units, .int a1_form, .int a1_glyphs, .int a1_ascent, .int a1_descent, .int a1_gap, .int a1_metrics, .int a1_map, .int a1_mapLength, .int a1_segments, .ref a1_done, .ref a1_depth, .ref a1_parts, .ref a1_contours, .ref a1_points, .ref a1_x, .ref a1_y, .ref a1_on, .ref a1_contour])), (a1_file, .inl (cy 1, 4096, .inl a1_file_f))]) [0, 1] rfl
    have hDc := hD.sub (ws' := [(a1, .inr (8, [.ref a1_file, .int a1_size, .ref a1_at, .ref a1_length, .int a1_units, .int a1_form, .int a1_glyphs, .int a1_ascent, .int a1_descent, .int a1_gap, .int a1_metrics, .int a1_map, .int a1_mapLength, .int a1_segments, .ref a1_done, .ref a1_depth, .ref a1_parts, .ref a1_contours, .ref a1_points, .ref a1_x, .ref a1_y, .ref a1_on, .ref a1_contour])), (a1_file, .inl (cy 1, 4096, .inl a1_file_f))]) [0, 1] (by decide) rfl
    have hFc := va_free (wc := [(a1, .inr (8, [.ref a1_file, .int a1_size, .ref a1_at, .ref a1_length, .int a1_units, .int a1_form, .int a1_glyphs, .int a1_ascent, .int a1_descent, .int a1_gap, .int a1_metrics, .int a1_map, .int a1_mapLength, .int a1_segments, .ref a1_done, .ref a1_depth, .ref a1_parts, .ref a1_contours, .ref a1_points, .ref a1_x, .ref a1_y, .ref a1_on, .ref a1_contour])), (a1_file, .inl (cy 1, 4096, .inl a1_file_f))]) hD hS hA [0, 1] rfl
    refine va_calli (va_runV (As := [.int ((a1_at_f (0 : Int32).toNatClampNeg) + (2 : Int32))]) (rest := []) ⟨hx, hb, hml, hown, htsG⟩ (c_Mf_two l dC dI cy s.heap.size a1 a1_file a1_at a1_length a1_done a1_depth a1_parts a1_contours a1_points a1_x a1_y a1_on a1_contour a1_size a1_units a1_form a1_glyphs a1_ascent a1_descent a1_gap a1_metrics a1_map a1_mapLength a1_segments a1_file_f ((a1_at_f (0 : Int32).toNatClampNeg) + (2 : Int32)) r_4 hq) (cwV 1 htsG (gV mW951 mW947 mW948 mW10 mW949) rfl rfl rfl (by decide +kernel) ⟨Nat.le_of_ble_eq_true rfl, Nat.le_of_ble_eq_true rfl⟩) ⟨fun a U g mk q => by obtain ⟨q0, q1, qP, qK, qD⟩ := q; exact ⟨q0, q1, qP, va_K.moved (u := U) (U := U.calling g mk a) (Vm.Alike.refl U.vm) qK, qD⟩, va_recv hK hPc (ci := 8) (q0 := 0) rfl rfl, fun U hU hW => ⟨rfl, by rw [hU], by rw [hU]; exact hPc, va_K.moved hW.alike hK, hDc.weaken (fun _ _ _ _ => trivial)⟩⟩ rfl rfl hl.1 rfl (lv_room (Nat.le_of_ble_eq_true rfl)) d_Mo_cmap_21 ⟨Nat.le_of_ble_eq_true rfl, Nat.le_of_ble_eq_true rfl⟩) hS (fun q _ h => hFc q h) hFc (fun rr u t H1 locs ht hvm hw hB hz1 hk1 hS => ?_)
    obtain ⟨hP1, hK1, hD1⟩ := hB
    rw [ht] at hP1
    replace hw : r_4 = rr := hw.symm
    subst hw
    obtain ⟨hP, hD⟩ := va_join (wr := [(a1_at, .inl (cy 0, 8, .inl a1_at_f)), (a1_length, .inl (cy 0, 8, .inl a1_length_f))]) (w1 := [(a1, .inr (8, [.ref a1_file, .int a1_size, .ref a1_at, .ref a1_length, .int a1_units, .int a1_form, .int a1_glyphs, .int a1_ascent, .int a1_descent, .int a1_gap, .int a1_metrics, .int a1_map, .int a1_mapLength, .int a1_segments, .ref a1_done, .ref a1_depth, .ref a1_parts, .ref a1_contours, .ref a1_points, .ref a1_x, .ref a1_y, .ref a1_on, .ref a1_contour])), (a1_file, .inl (cy 1, 4096, .inl a1_file_f))]) hP hD [0, 1] [2, 3] rfl rfl (by decide) (by decide) hk1 hFc hP1 hD1
    generalize H1 = H at hP hS ⊢
    have hP := hP.sub (ws' := [(a1, .inr (8, [.ref a1_file, .int a1_size, .ref a1_at, .ref a1_length, .int a1_units, .int a1_form, .int a1_glyphs, .int a1_ascent, .int a1_descent, .int a1_gap, .int a1_metrics, .int a1_map, .int a1_mapLength, .int a1_segments, .ref a1_done, .ref a1_depth, .ref a1_parts, .ref a1_contours, .ref a1_points, .ref a1_x, .ref a1_y, .ref a1_on, .ref a1_contour])), (a1_file, .inl (cy 1, 4096, .inl a1_file_f)), (a1_at, .inl (cy 0, 8, .inl a1_at_f)), (a1_length, .inl (cy 0, 8, .inl a1_length_f))]) [2, 3, 0, 1] rfl
    have hD := hD.sub (ws' := [(a1, .inr (8, [.ref a1_file, .int a1_size, .ref a1_at, .ref a1_length, .int a1_units, .int a1_form, .int a1_glyphs, .int a1_ascent, .int a1_descent, .int a1_gap, .int a1_metrics, .int a1_map, .int a1_mapLength, .int a1_segments, .ref a1_done, .ref a1_depth, .ref a1_parts, .ref a1_contours, .ref a1_points, .ref a1_x, .ref a1_y, .ref a1_on, .ref a1_contour])), (a1_file, .inl (cy 1, 4096, .inl a1_file_f)), (a1_at, .inl (cy 0, 8, .inl a1_at_f)), (a1_length, .inl (cy 0, 8, .inl a1_length_f))]) [2, 3, 0, 1] (by decide) rfl
    refine W.widen (k := 0) (n := 0) (by decide) (by decide) ?_
    refine lv_istore_n (lv' := [(1, .int r_4), (0, .ref a1)]) hx hb d_Mo_cmap_24 rfl hl (by decide) rfl (fun ls hl => ?_)
    refine lv_iconst (v := (4 : Int32)) hx hb d_Mo_cmap_25 (by decide) ?_
    refine lv_bipush (v := (8 : Int32)) hx hb d_Mo_cmap_26 (by decide) ?_
    refine lv_iload_n hx hb d_Mo_cmap_28 rfl (lv_at hl 0 rfl) ?_
    refine lv_imul hx hb d_Mo_cmap_29 ?_
    refine lv_iadd hx hb d_Mo_cmap_30 ?_
    refine lv_aload_n hx hb d_Mo_cmap_31 rfl (lv_at hl 1 rfl) ?_
    refine va_get (D := (dC, dI)) (ci := 8) (v := .ref a1_length) (C := "GlyphPageModel$Font") (T := F_Mf) (N := 23) hx hb htsG iG_Mf hown hK hP 0 rfl rfl 3 (by decide) (htsG _ mW780) (fun _ h9 => h9) rfl d_Mo_cmap_32 ?_
    refine lv_iconst (v := (0 : Int32)) hx hb d_Mo_cmap_35 (by decide) ?_
    obtain ⟨hin_5, h⟩ := bd_some h
    refine va_iald hx hb hK hP 3 0 rfl rfl hin_5 d_Mo_cmap_36 ?_
    refine lv_icmp_le (tgt := 42) hx hb d_Mo_cmap_37 (by decide) (fun c_6 => ?_) (fun c_6 => ?_)
    · replace h := (if_pos c_6).symm.trans h
      refine lv_ldc2 hx hb hown (htsG _ mW996) d_Mo_cmap_42 ?_
      refine lv_lstore_n (lv' := [(2, .long (-1 : Int64)), (1, .int r_4), (0, .ref a1)]) hx hb d_Mo_cmap_45 rfl hl (by decide) rfl (fun ls hl => ?_)
      refine lv_iload_n hx hb d_Mo_cmap_46 rfl (lv_at hl 1 rfl) ?_
      refine lv_iconst (v := (1 : Int32)) hx hb d_Mo_cmap_47 (by decide) ?_
      refine lv_isub hx hb d_Mo_cmap_48 ?_
      refine lv_istore (lv' := [(4, .int (r_4 - (1 : Int32))), (2, .long (-1 : Int64)), (1, .int r_4), (0, .ref a1)]) hx hb d_Mo_cmap_49 hl (by decide) rfl (fun ls hl => ?_)
      exact w_Mo_cmap_51 C0 a1 a1_file a1_at a1_length a1_done a1_depth a1_parts a1_contours a1_points a1_x a1_y a1_on a1_contour a1_size a1_units a1_form a1_glyphs a1_ascent a1_descent a1_gap a1_metrics a1_file_f a1_at_f a1_length_f uu  (-1 : Int64) (r_4 - (1 : Int32)) a1_map a1_mapLength a1_segments h hP hD hS (lv_sub hl [3, 1, 0] rfl)
    · replace h := (if_neg c_6).symm.trans h
      refine lv_iconst (v := (0 : Int32)) hx hb d_Mo_cmap_40 (by decide) ?_
      cases h
      exact W.zret (ty := .boolean) hx hb hr rfl (fun t ht hW => ⟨⟨_, (), rfl, rfl, by rw [ht]; exact hP, va_K.moved hW.alike hK, hD⟩, hS.F ht⟩) hS.2.2 d_Mo_cmap_41 hlocks
  · replace h := (if_neg c_2).symm.trans h
    refine lv_iconst (v := (0 : Int32)) hx hb d_Mo_cmap_10 (by decide) ?_
    cases h
    exact W.zret (ty := .boolean) hx hb hr rfl (fun t ht hW => ⟨⟨_, (), rfl, rfl, by rw [ht]; exact hP, va_K.moved hW.alike hK, hD⟩, hS.F ht⟩) hS.2.2 d_Mo_cmap_11 hlocks
def P_Mo_glyphOf_189 (a1_glyphs : Int32) (a1_map : Int32) (a1_mapLength : Int32) (a1_segments : Int32) (a1_file_f : Nat → Int32)  (x8 : Int32) : Option (Int32) :=
  if x8 < a1_glyphs then (some x8) else (some (0 : Int32))
set_option maxHeartbeats 4000000 in
set_option maxRecDepth 100000 in
theorem w_Mo_glyphOf_189 (C0 : Cx p s m args meth c A dC dI cy b_Mo_glyphOf 10 (some .int) "GlyphPageModel") (a1 : Nat) (a1_file : Nat) (a1_at : Nat) (a1_length : Nat) (a1_done : Nat) (a1_depth : Nat) (a1_parts : Nat) (a1_contours : Nat) (a1_points : Nat) (a1_x : Nat) (a1_y : Nat) (a1_on : Nat) (a1_contour : Nat) (a1_size : Int32) (a1_units : Int32) (a1_form : Int32) (a1_glyphs : Int32) (a1_ascent : Int32) (a1_descent : Int32) (a1_gap : Int32) (a1_metrics : Int32) (a1_map : Int32) (a1_mapLength : Int32) (a1_segments : Int32) (a1_file_f : Nat → Int32) (a1_at_f : Nat → Int32) (a1_length_f : Nat → Int32) (a2 : Int32) (uu : Int32)  (x8 : Int32) {H : Heap} {locs : List Loc} {ls : Array Slot} (h : P_Mo_glyphOf_189 a1_glyphs a1_map a1_mapLength a1_segments a1_file_f x8 = some uu) : va_P (dC, dI) classes [(a1, .inr (8, [.ref a1_file, .int a1_size, .ref a1_at, .ref a1_length, .int a1_units, .int a1_form, .int a1_glyphs, .int a1_ascent, .int a1_descent, .int a1_gap, .int a1_metrics, .int a1_map, .int a1_mapLength, .int a1_segments, .ref a1_done, .ref a1_depth, .ref a1_parts, .ref a1_contours, .ref a1_points, .ref a1_x, .ref a1_y, .ref a1_on, .ref a1_contour])), (a1_file, .inl (cy 1, 4096, .inl a1_file_f)), (a1_at, .inl (cy 0, 8, .inl a1_at_f)), (a1_length, .inl (cy 0, 8, .inl a1_length_f))] H → va_D A [(a1, .inr (8, [.ref a1_file, .int a1_size, .ref a1_at, .ref a1_length, .int a1_units, .int a1_form, .int a1_glyphs, .int a1_ascent, .int a1_descent, .int a1_gap, .int a1_metrics, .int a1_map, .int a1_mapLength, .int a1_segments, .ref a1_done, .ref a1_depth, .ref a1_parts, .ref a1_contours, .ref a1_points, .ref a1_x, .ref a1_y, .ref a1_on, .ref a1_contour])), (a1_file, .inl (cy 1, 4096, .inl a1_file_f)), (a1_at, .inl (cy 0, 8, .inl a1_at_f)), (a1_length, .inl (cy 0, 8, .inl a1_length_f))] → va_S A s.heap H locs → lv_has ls 10 [(0, .ref a1), (8, .int x8)] → W p l e ({ frames := 1, cells := 0, slots := 0, locals := 21 } : Room) s m args below meth c H locs 0 0 (MQ below (va_Qi (fun r (_ : Unit) => r = uu) (fun _ t => va_P (dC, dI) classes [(a1, .inr (8, [.ref a1_file, .int a1_size, .ref a1_at, .ref a1_length, .int a1_units, .int a1_form, .int a1_glyphs, .int a1_ascent, .int a1_descent, .int a1_gap, .int a1_metrics, .int a1_map, .int a1_mapLength, .int a1_segments, .ref a1_done, .ref a1_depth, .ref a1_parts, .ref a1_contours, .ref a1_points, .ref a1_x, .ref a1_y, .ref a1_on, .ref a1_contour])), (a1_file, .inl (cy 1, 4096, .inl a1_file_f)), (a1_at, .inl (cy 0, 8, .inl a1_at_f)), (a1_length, .inl (cy 0, 8, .inl a1_length_f))] t.heap ∧ va_K (dC, dI) classes (TY cy) t ∧ va_D A [(a1, .inr (8, [.ref a1_file, .int a1_size, .ref a1_at, .ref a1_length, .int a1_units, .int a1_form, .int a1_glyphs, .int a1_ascent, .int a1_descent, .int a1_gap, .int a1_metrics, .int a1_map, .int a1_mapLength, .int a1_segments, .ref a1_done, .ref a1_depth, .ref a1_parts, .ref a1_contours, .ref a1_points, .ref a1_x, .ref a1_y, .ref a1_on, .ref a1_contour])), (a1_file, .inl (cy 1, 4096, .inl a1_file_f)), (a1_at, .inl (cy 0, 8, .inl a1_at_f)), (a1_length, .inl (cy 0, 8, .inl a1_length_f))]) A) args s 0 0 A) (F0 m 189 ls []) := by
  intro hP hD hS hl
  obtain ⟨hx, hb, hr, hlocks, hml, hown, htsG, hA, hK⟩ := id C0
  unfold P_Mo_glyphOf_189 at h
  refine lv_iload hx hb d_Mo_glyphOf_189 (lv_at hl 1 rfl) ?_
  refine lv_aload_n hx hb d_Mo_glyphOf_191 rfl (lv_at hl 0 rfl) ?_
  refine va_get (D := (dC, dI)) (ci := 8) (v := .int a1_glyphs) (C := "GlyphPageModel$Font") (T := F_Mf) (N := 23) hx hb htsG iG_Mf hown hK hP 0 rfl rfl 6 (by decide) (htsG _ mW783) (fun _ h9 => h9) rfl d_Mo_glyphOf_192 ?_
  refine lv_icmp_lt (tgt := 202) hx hb d_Mo_glyphOf_195 (by decide) (fun c_1 => ?_) (fun c_1 => ?_)
  · replace h := (if_pos c_1).symm.trans h
    refine lv_iload hx hb d_Mo_glyphOf_202 (lv_at hl 1 rfl) ?_
    cases h
    exact W.iret hx hb hr (fun t ht hW => ⟨⟨_, (), rfl, rfl, by rw [ht]; exact hP, va_K.moved hW.alike hK, hD⟩, hS.F ht⟩) hS.2.2 d_Mo_glyphOf_204 hlocks
  · replace h := (if_neg c_1).symm.trans h
    refine lv_iconst (v := (0 : Int32)) hx hb d_Mo_glyphOf_198 (by decide) ?_
    refine lv_goto (tgt := 204) hx hb d_Mo_glyphOf_199 (by decide) ?_
    cases h
    exact W.iret hx hb hr (fun t ht hW => ⟨⟨_, (), rfl, rfl, by rw [ht]; exact hP, va_K.moved hW.alike hK, hD⟩, hS.F ht⟩) hS.2.2 d_Mo_glyphOf_204 hlocks
def P_Mo_glyphOf_148 (a1_glyphs : Int32) (a1_map : Int32) (a1_mapLength : Int32) (a1_segments : Int32) (a1_file_f : Nat → Int32)  (x5 : Int32) (x9 : Int32) : Option (Int32) :=
  if (x9 + (2 : Int32)) ≤ a1_mapLength then ((P_Mf_two a1_file_f (a1_map + x9)).bind fun r_2 => if r_2 = 0 then (P_Mo_glyphOf_189 a1_glyphs a1_map a1_mapLength a1_segments a1_file_f r_2) else (P_Mo_glyphOf_189 a1_glyphs a1_map a1_mapLength a1_segments a1_file_f ((r_2 + x5) &&& (65535 : Int32)))) else (some (0 : Int32))
set_option maxHeartbeats 4000000 in
set_option maxRecDepth 100000 in
theorem w_Mo_glyphOf_148 (C0 : Cx p s m args meth c A dC dI cy b_Mo_glyphOf 10 (some .int) "GlyphPageModel") (a1 : Nat) (a1_file : Nat) (a1_at : Nat) (a1_length : Nat) (a1_done : Nat) (a1_depth : Nat) (a1_parts : Nat) (a1_contours : Nat) (a1_points : Nat) (a1_x : Nat) (a1_y : Nat) (a1_on : Nat) (a1_contour : Nat) (a1_size : Int32) (a1_units : Int32) (a1_form : Int32) (a1_glyphs : Int32) (a1_ascent : Int32) (a1_descent : Int32) (a1_gap : Int32) (a1_metrics : Int32) (a1_map : Int32) (a1_mapLength : Int32) (a1_segments : Int32) (a1_file_f : Nat → Int32) (a1_at_f : Nat → Int32) (a1_length_f : Nat → Int32) (a2 : Int32) (uu : Int32)  (x5 : Int32) (x9 : Int32) {H : Heap} {locs : List Loc} {ls : Array Slot} (h : P_Mo_glyphOf_148 a1_glyphs a1_map a1_mapLength a1_segments a1_file_f x5 x9 = some uu) : va_P (dC, dI) classes [(a1, .inr (8, [.ref a1_file, .int a1_size, .ref a1_at, .ref a1_length, .int a1_units, .int a1_form, .int a1_glyphs, .int a1_ascent, .int a1_descent, .int a1_gap, .int a1_metrics, .int a1_map, .int a1_mapLength, .int a1_segments, .ref a1_done, .ref a1_depth, .ref a1_parts, .ref a1_contours, .ref a1_points, .ref a1_x, .ref a1_y, .ref a1_on, .ref a1_contour])), (a1_file, .inl (cy 1, 4096, .inl a1_file_f)), (a1_at, .inl (cy 0, 8, .inl a1_at_f)), (a1_length, .inl (cy 0, 8, .inl a1_length_f))] H → va_D A [(a1, .inr (8, [.ref a1_file, .int a1_size, .ref a1_at, .ref a1_length, .int a1_units, .int a1_form, .int a1_glyphs, .int a1_ascent, .int a1_descent, .int a1_gap, .int a1_metrics, .int a1_map, .int a1_mapLength, .int a1_segments, .ref a1_done, .ref a1_depth, .ref a1_parts, .ref a1_contours, .ref a1_points, .ref a1_x, .ref a1_y, .ref a1_on, .ref a1_contour])), (a1_file, .inl (cy 1, 4096, .inl a1_file_f)), (a1_at, .inl (cy 0, 8, .inl a1_at_f)), (a1_length, .inl (cy 0, 8, .inl a1_length_f))] → va_S A s.heap H locs → lv_has ls 10 [(0, .ref a1), (5, .int x5), (9, .int x9)] → W p l e ({ frames := 1, cells := 0, slots := 0, locals := 21 } : Room) s m args below meth c H locs 0 0 (MQ below (va_Qi (fun r (_ : Unit) => r = uu) (fun _ t => va_P (dC, dI) classes [(a1, .inr (8, [.ref a1_file, .int a1_size, .ref a1_at, .ref a1_length, .int a1_units, .int a1_form, .int a1_glyphs, .int a1_ascent, .int a1_descent, .int a1_gap, .int a1_metrics, .int a1_map, .int a1_mapLength, .int a1_segments, .ref a1_done, .ref a1_depth, .ref a1_parts, .ref a1_contours, .ref a1_points, .ref a1_x, .ref a1_y, .ref a1_on, .ref a1_contour])), (a1_file, .inl (cy 1, 4096, .inl a1_file_f)), (a1_at, .inl (cy 0, 8, .inl a1_at_f)), (a1_length, .inl (cy 0, 8, .inl a1_length_f))] t.heap ∧ va_K (dC, dI) classes (TY cy) t ∧ va_D A [(a1, .inr (8, [.ref a1_file, .int a1_size, .ref a1_at, .ref a1_length, .int a1_units, .int a1_form, .int a1_glyphs, .int a1_ascent, .int a1_descent, .int a1_gap, .int a1_metrics, .int a1_map, .int a1_mapLength, .int a1_segments, .ref a1_done, .ref a1_depth, .ref a1_parts, .ref a1_contours, .ref a1_points, .ref a1_x, .ref a1_y, .ref a1_on, .ref a1_contour])), (a1_file, .inl (cy 1, 4096, .inl a1_file_f)), (a1_at, .inl (cy 0, 8, .inl a1_at_f)), (a1_length, .inl (cy 0, 8, .inl a1_length_f))]) A) args s 0 0 A) (F0 m 148 ls []) := by
  intro hP hD hS hl
  obtain ⟨hx, hb, hr, hlocks, hml, hown, htsG, hA, hK⟩ := id C0
  unfold P_Mo_glyphOf_148 at h
  refine lv_iload hx hb d_Mo_glyphOf_148 (lv_at hl 2 rfl) ?_
  refine lv_iconst (v := (2 : Int32)) hx hb d_Mo_glyphOf_150 (by decide) ?_
  refine lv_iadd hx hb d_Mo_glyphOf_151 ?_
  refine lv_aload_n hx hb d_Mo_glyphOf_152 rfl (lv_at hl 0 rfl) ?_
  refine va_get (D := (dC, dI)) (ci := 8) (v := .int a1_mapLength) (C := "GlyphPageModel$Font") (T := F_Mf) (N := 23) hx hb htsG iG_Mf hown hK hP 0 rfl rfl 12 (by decide) (htsG _ mW789) (fun _ h9 => h9) rfl d_Mo_glyphOf_153 ?_
  refine lv_icmp_le (tgt := 161) hx hb d_Mo_glyphOf_156 (by decide) (fun c_1 => ?_) (fun c_1 => ?_)
  · replace h := (if_pos c_1).symm.trans h
    refine lv_aload_n hx hb d_Mo_glyphOf_161 rfl (lv_at hl 0 rfl) ?_
    refine lv_aload_n hx hb d_Mo_glyphOf_162 rfl (lv_at hl 0 rfl) ?_
    refine va_get (D := (dC, dI)) (ci := 8) (v := .int a1_map) (C := "GlyphPageModel$Font") (T := F_Mf) (N := 23) hx hb htsG iG_Mf hown hK hP 0 rfl rfl 11 (by decide) (htsG _ mW788) (fun _ h9 => h9) rfl d_Mo_glyphOf_163 ?_
    refine lv_iload hx hb d_Mo_glyphOf_166 (lv_at hl 2 rfl) ?_
    refine lv_iadd hx hb d_Mo_glyphOf_168 ?_
    obtain ⟨r_2, hq, h⟩ := Option.bind_eq_some_iff.mp h
    try dsimp only at h
    have hPc := hP.sub (ws' := [(a1, .inr (8, [.ref a1_file, .int a1_size, .ref a1_at, .ref a1_length, .int a1_units, .int a1_form, .int a1_glyphs, .int a1_ascent, .int a1_descent, .int a1_gap, .int a1_metrics, .int a1_map, .int a1_mapLength, .int a1_segments, .ref a1_done, .ref a1_depth, .ref a1_parts, .ref a1_contours, .ref a1_points, .ref a1_x, .ref a1_y, .ref a1_on, .ref a1_contour])), (a1_file, .inl (cy 1, 4096, .inl a1_file_f))]) [0, 1] rfl
    have hDc := hD.sub (ws' := [(a1, .inr (8, [.ref a1_file, .int a1_size, .ref a1_at, .ref a1_length, .int a1_units, .int a1_form, .int a1_glyphs, .int a1_ascent, .int a1_descent, .int a1_gap, .int a1_metrics, .int a1_map, .int a1_mapLength, .int a1_segments, .ref a1_done, .ref a1_depth, .ref a1_parts, .ref a1_contours, .ref a1_points, .ref a1_x, .ref a1_y, .ref a1_on, .ref a1_contour])), (a1_file, .inl (cy 1, 4096, .inl a1_file_f))]) [0, 1] (by decide) rfl
    have hFc := va_free (wc := [(a1, .inr (8, [.ref a1_file, .int a1_size, .ref a1_at, .ref a1_length, .int a1_units, .int a1_form, .int a1_glyphs, .int a1_ascent, .int a1_descent, .int a1_gap, .int a1_metrics, .int a1_map, .int a1_mapLength, .int a1_segments, .ref a1_done, .ref a1_depth, .ref a1_parts, .ref a1_contours, .ref a1_points, .ref a1_x, .ref a1_y, .ref a1_on, .ref a1_contour])), (a1_file, .inl (cy 1, 4096, .inl a1_file_f))]) hD hS hA [0, 1] rfl
    refine va_calli (va_runV (As := [.int (a1_map + x9)]) (rest := []) ⟨hx, hb, hml, hown, htsG⟩ (c_Mf_two l dC dI cy H.size a1 a1_file a1_at a1_length a1_done a1_depth a1_parts a1_contours a1_points a1_x a1_y a1_on a1_contour a1_size a1_units a1_form a1_glyphs a1_ascent a1_descent a1_gap a1_metrics a1_map a1_mapLength a1_segments a1_file_f (a1_map + x9) r_2 hq) (cwV 1 htsG (gV mW951 mW947 mW948 mW10 mW949) rfl rfl rfl (by decide +kernel) ⟨Nat.le_of_ble_eq_true rfl, Nat.le_of_ble_eq_true rfl⟩) ⟨fun a U g mk q => by obtain ⟨q0, q1, qP, qK, qD⟩ := q; exact ⟨q0, q1, qP, va_K.moved (u := U) (U := U.calling g mk a) (Vm.Alike.refl U.vm) qK, qD⟩, va_recv hK hPc (ci := 8) (q0 := 0) rfl rfl, fun U hU hW => ⟨rfl, by rw [hU], by rw [hU]; exact hPc, va_K.moved hW.alike hK, hDc.weaken (fun _ _ _ _ => trivial)⟩⟩ rfl rfl hl.1 rfl (lv_room (Nat.le_of_ble_eq_true rfl)) d_Mo_glyphOf_169 ⟨Nat.le_of_ble_eq_true rfl, Nat.le_of_ble_eq_true rfl⟩) hS (fun q _ h => hFc q h) hFc (fun rr u t H1 locs ht hvm hw hB hz1 hk1 hS => ?_)
    obtain ⟨hP1, hK1, hD1⟩ := hB
    rw [ht] at hP1
    replace hw : r_2 = rr := hw.symm
    subst hw
    obtain ⟨hP, hD⟩ := va_join (wr := [(a1_at, .inl (cy 0, 8, .inl a1_at_f)), (a1_length, .inl (cy 0, 8, .inl a1_length_f))]) (w1 := [(a1, .inr (8, [.ref a1_file, .int a1_size, .ref a1_at, .ref a1_length, .int a1_units, .int a1_form, .int a1_glyphs, .int a1_ascent, .int a1_descent, .int a1_gap, .int a1_metrics, .int a1_map, .int a1_mapLength, .int a1_segments, .ref a1_done, .ref a1_depth, .ref a1_parts, .ref a1_contours, .ref a1_points, .ref a1_x, .ref a1_y, .ref a1_on, .ref a1_contour])), (a1_file, .inl (cy 1, 4096, .inl a1_file_f))]) hP hD [0, 1] [2, 3] rfl rfl (by decide) (by decide) hk1 hFc hP1 hD1
    generalize H1 = H at hP hS ⊢
    have hP := hP.sub (ws' := [(a1, .inr (8, [.ref a1_file, .int a1_size, .ref a1_at, .ref a1_length, .int a1_units, .int a1_form, .int a1_glyphs, .int a1_ascent, .int a1_descent, .int a1_gap, .int a1_metrics, .int a1_map, .int a1_mapLength, .int a1_segments, .ref a1_done, .ref a1_depth, .ref a1_parts, .ref a1_contours, .ref a1_points, .ref a1_x, .ref a1_y, .ref a1_on, .ref a1_contour])), (a1_file, .inl (cy 1, 4096, .inl a1_file_f)), (a1_at, .inl (cy 0, 8, .inl a1_at_f)), (a1_length, .inl (cy 0, 8, .inl a1_length_f))]) [2, 3, 0, 1] rfl
    have hD := hD.sub (ws' := [(a1, .inr (8, [.ref a1_file, .int a1_size, .ref a1_at, .ref a1_length, .int a1_units, .int a1_form, .int a1_glyphs, .int a1_ascent, .int a1_descent, .int a1_gap, .int a1_metrics, .int a1_map, .int a1_mapLength, .int a1_segments, .ref a1_done, .ref a1_depth, .ref a1_parts, .ref a1_contours, .ref a1_points, .ref a1_x, .ref a1_y, .ref a1_on, .ref a1_contour])), (a1_file, .inl (cy 1, 4096, .inl a1_file_f)), (a1_at, .inl (cy 0, 8, .inl a1_at_f)), (a1_length, .inl (cy 0, 8, .inl a1_length_f))]) [2, 3, 0, 1] (by decide) rfl
    refine W.widen (k := 0) (n := 0) (by decide) (by decide) ?_
    refine lv_istore (lv' := [(8, .int r_2), (0, .ref a1), (5, .int x5), (9, .int x9)]) hx hb d_Mo_glyphOf_172 hl (by decide) rfl (fun ls hl => ?_)
    refine lv_iload hx hb d_Mo_glyphOf_174 (lv_at hl 0 rfl) ?_
    refine lv_if_eq (tgt := 189) hx hb d_Mo_glyphOf_176 (by decide) (fun c_3 => ?_) (fun c_3 => ?_)
    · replace h := (if_pos c_3).symm.trans h
      exact w_Mo_glyphOf_189 C0 a1 a1_file a1_at a1_length a1_done a1_depth a1_parts a1_contours a1_points a1_x a1_y a1_on a1_contour a1_size a1_units a1_form a1_glyphs a1_ascent a1_descent a1_gap a1_metrics a1_map a1_mapLength a1_segments a1_file_f a1_at_f a1_length_f a2 uu  r_2 h hP hD hS (lv_sub hl [1, 0] rfl)
    · replace h := (if_neg c_3).symm.trans h
      refine lv_iload hx hb d_Mo_glyphOf_179 (lv_at hl 0 rfl) ?_
      refine lv_iload hx hb d_Mo_glyphOf_181 (lv_at hl 2 rfl) ?_
      refine lv_iadd hx hb d_Mo_glyphOf_183 ?_
      refine lv_ldc hx hb hown (htsG _ mW1050) d_Mo_glyphOf_184 ?_
      refine lv_iand hx hb d_Mo_glyphOf_186 ?_
      refine lv_istore (lv' := [(8, .int ((r_2 + x5) &&& (65535 : Int32))), (0, .ref a1), (5, .int x5), (9, .int x9)]) hx hb d_Mo_glyphOf_187 hl (by decide) rfl (fun ls hl => ?_)
      exact w_Mo_glyphOf_189 C0 a1 a1_file a1_at a1_length a1_done a1_depth a1_parts a1_contours a1_points a1_x a1_y a1_on a1_contour a1_size a1_units a1_form a1_glyphs a1_ascent a1_descent a1_gap a1_metrics a1_map a1_mapLength a1_segments a1_file_f a1_at_f a1_length_f a2 uu  ((r_2 + x5) &&& (65535 : Int32)) h hP hD hS (lv_sub hl [1, 0] rfl)
  · replace h := (if_neg c_1).symm.trans h
    refine lv_iconst (v := (0 : Int32)) hx hb d_Mo_glyphOf_159 (by decide) ?_
    cases h
    exact W.iret hx hb hr (fun t ht hW => ⟨⟨_, (), rfl, rfl, by rw [ht]; exact hP, va_K.moved hW.alike hK, hD⟩, hS.F ht⟩) hS.2.2 d_Mo_glyphOf_160 hlocks
def P_Mo_glyphOf_37 (a1_glyphs : Int32) (a1_map : Int32) (a1_mapLength : Int32) (a1_segments : Int32) (a1_file_f : Nat → Int32)  (x1 : Int32) (x2 : Int32) (x3 : Int32) : Option (Int32) :=
  if x3 = x2 then (some (0 : Int32)) else ((P_Mf_two a1_file_f (((a1_map + (16 : Int32)) + ((2 : Int32) * x2)) + ((2 : Int32) * x3))).bind fun r_2 => (P_Mf_two a1_file_f (((a1_map + (16 : Int32)) + ((4 : Int32) * x2)) + ((2 : Int32) * x3))).bind fun r_3 => (P_Mf_two a1_file_f (a1_map + (((16 : Int32) + ((6 : Int32) * x2)) + ((2 : Int32) * x3)))).bind fun r_4 => if r_2 ≤ x1 then (if r_4 = 0 then (P_Mo_glyphOf_189 a1_glyphs a1_map a1_mapLength a1_segments a1_file_f ((x1 + r_3) &&& (65535 : Int32))) else (P_Mo_glyphOf_148 a1_glyphs a1_map a1_mapLength a1_segments a1_file_f r_3 (((((16 : Int32) + ((6 : Int32) * x2)) + ((2 : Int32) * x3)) + r_4) + ((2 : Int32) * (x1 - r_2))))) else (some (0 : Int32)))
set_option maxHeartbeats 4000000 in
set_option maxRecDepth 100000 in
theorem w_Mo_glyphOf_37 (C0 : Cx p s m args meth c A dC dI cy b_Mo_glyphOf 10 (some .int) "GlyphPageModel") (a1 : Nat) (a1_file : Nat) (a1_at : Nat) (a1_length : Nat) (a1_done : Nat) (a1_depth : Nat) (a1_parts : Nat) (a1_contours : Nat) (a1_points : Nat) (a1_x : Nat) (a1_y : Nat) (a1_on : Nat) (a1_contour : Nat) (a1_size : Int32) (a1_units : Int32) (a1_form : Int32) (a1_glyphs : Int32) (a1_ascent : Int32) (a1_descent : Int32) (a1_gap : Int32) (a1_metrics : Int32) (a1_map : Int32) (a1_mapLength : Int32) (a1_segments : Int32) (a1_file_f : Nat → Int32) (a1_at_f : Nat → Int32) (a1_length_f : Nat → Int32) (a2 : Int32) (uu : Int32)  (x1 : Int32) (x2 : Int32) (x3 : Int32) {H : Heap} {locs : List Loc} {ls : Array Slot} (h : P_Mo_glyphOf_37 a1_glyphs a1_map a1_mapLength a1_segments a1_file_f x1 x2 x3 = some uu) : va_P (dC, dI) classes [(a1, .inr (8, [.ref a1_file, .int a1_size, .ref a1_at, .ref a1_length, .int a1_units, .int a1_form, .int a1_glyphs, .int a1_ascent, .int a1_descent, .int a1_gap, .int a1_metrics, .int a1_map, .int a1_mapLength, .int a1_segments, .ref a1_done, .ref a1_depth, .ref a1_parts, .ref a1_contours, .ref a1_points, .ref a1_x, .ref a1_y, .ref a1_on, .ref a1_contour])), (a1_file, .inl (cy 1, 4096, .inl a1_file_f)), (a1_at, .inl (cy 0, 8, .inl a1_at_f)), (a1_length, .inl (cy 0, 8, .inl a1_length_f))] H → va_D A [(a1, .inr (8, [.ref a1_file, .int a1_size, .ref a1_at, .ref a1_length, .int a1_units, .int a1_form, .int a1_glyphs, .int a1_ascent, .int a1_descent, .int a1_gap, .int a1_metrics, .int a1_map, .int a1_mapLength, .int a1_segments, .ref a1_done, .ref a1_depth, .ref a1_parts, .ref a1_contours, .ref a1_points, .ref a1_x, .ref a1_y, .ref a1_on, .ref a1_contour])), (a1_file, .inl (cy 1, 4096, .inl a1_file_f)), (a1_at, .inl (cy 0, 8, .inl a1_at_f)), (a1_length, .inl (cy 0, 8, .inl a1_length_f))] → va_S A s.heap H locs → lv_has ls 10 [(0, .ref a1), (1, .int x1), (2, .int x2), (3, .int x3)] → W p l e ({ frames := 1, cells := 0, slots := 0, locals := 21 } : Room) s m args below meth c H locs 0 0 (MQ below (va_Qi (fun r (_ : Unit) => r = uu) (fun _ t => va_P (dC, dI) classes [(a1, .inr (8, [.ref a1_file, .int a1_size, .ref a1_at, .ref a1_length, .int a1_units, .int a1_form, .int a1_glyphs, .int a1_ascent, .int a1_descent, .int a1_gap, .int a1_metrics, .int a1_map, .int a1_mapLength, .int a1_segments, .ref a1_done, .ref a1_depth, .ref a1_parts, .ref a1_contours, .ref a1_points, .ref a1_x, .ref a1_y, .ref a1_on, .ref a1_contour])), (a1_file, .inl (cy 1, 4096, .inl a1_file_f)), (a1_at, .inl (cy 0, 8, .inl a1_at_f)), (a1_length, .inl (cy 0, 8, .inl a1_length_f))] t.heap ∧ va_K (dC, dI) classes (TY cy) t ∧ va_D A [(a1, .inr (8, [.ref a1_file, .int a1_size, .ref a1_at, .ref a1_length, .int a1_units, .int a1_form, .int a1_glyphs, .int a1_ascent, .int a1_descent, .int a1_gap, .int a1_metrics, .int a1_map, .int a1_mapLength, .int a1_segments, .ref a1_done, .ref a1_depth, .ref a1_parts, .ref a1_contours, .ref a1_points, .ref a1_x, .ref a1_y, .ref a1_on, .ref a1_contour])), (a1_file, .inl (cy 1, 4096, .inl a1_file_f)), (a1_at, .inl (cy 0, 8, .inl a1_at_f)), (a1_length, .inl (cy 0, 8, .inl a1_length_f))]) A) args s 0 0 A) (F0 m 37 ls []) := by
  intro hP hD hS hl
  obtain ⟨hx, hb, hr, hlocks, hml, hown, htsG, hA, hK⟩ := id C0
  unfold P_Mo_glyphOf_37 at h
  refine lv_iload_n hx hb d_Mo_glyphOf_37 rfl (lv_at hl 3 rfl) ?_
  refine lv_iload_n hx hb d_Mo_glyphOf_38 rfl (lv_at hl 2 rfl) ?_
  refine lv_icmp_ne (tgt := 44) hx hb d_Mo_glyphOf_39 (by decide) (fun c_1 => ?_) (fun c_1 => ?_)
  · replace h := (if_neg c_1).symm.trans h
    refine lv_aload_n hx hb d_Mo_glyphOf_44 rfl (lv_at hl 0 rfl) ?_
    refine lv_aload_n hx hb d_Mo_glyphOf_45 rfl (lv_at hl 0 rfl) ?_
    refine va_get (D := (dC, dI)) (ci := 8) (v := .int a1_map) (C := "GlyphPageModel$Font") (T := F_Mf) (N := 23) hx hb htsG iG_Mf hown hK hP 0 rfl rfl 11 (by decide) (htsG _ mW788) (fun _ h9 => h9) rfl d_Mo_glyphOf_46 ?_
    refine lv_bipush (v := (16 : Int32)) hx hb d_Mo_glyphOf_49 (by decide) ?_
    refine lv_iadd hx hb d_Mo_glyphOf_51 ?_
    refine lv_iconst (v := (2 : Int32)) hx hb d_Mo_glyphOf_52 (by decide) ?_
    refine lv_iload_n hx hb d_Mo_glyphOf_53 rfl (lv_at hl 2 rfl) ?_
    refine lv_imul hx hb d_Mo_glyphOf_54 ?_
    refine lv_iadd hx hb d_Mo_glyphOf_55 ?_
    refine lv_iconst (v := (2 : Int32)) hx hb d_Mo_glyphOf_56 (by decide) ?_
    refine lv_iload_n hx hb d_Mo_glyphOf_57 rfl (lv_at hl 3 rfl) ?_
    refine lv_imul hx hb d_Mo_glyphOf_58 ?_
    refine lv_iadd hx hb d_Mo_glyphOf_59 ?_
    obtain ⟨r_2, hq, h⟩ := Option.bind_eq_some_iff.mp h
    try dsimp only at h
    have hPc := hP.sub (ws' := [(a1, .inr (8, [.ref a1_file, .int a1_size, .ref a1_at, .ref a1_length, .int a1_units, .int a1_form, .int a1_glyphs, .int a1_ascent, .int a1_descent, .int a1_gap, .int a1_metrics, .int a1_map, .int a1_mapLength, .int a1_segments, .ref a1_done, .ref a1_depth, .ref a1_parts, .ref a1_contours, .ref a1_points, .ref a1_x, .ref a1_y, .ref a1_on, .ref a1_contour])), (a1_file, .inl (cy 1, 4096, .inl a1_file_f))]) [0, 1] rfl
    have hDc := hD.sub (ws' := [(a1, .inr (8, [.ref a1_file, .int a1_size, .ref a1_at, .ref a1_length, .int a1_units, .int a1_form, .int a1_glyphs, .int a1_ascent, .int a1_descent, .int a1_gap, .int a1_metrics, .int a1_map, .int a1_mapLength, .int a1_segments, .ref a1_done, .ref a1_depth, .ref a1_parts, .ref a1_contours, .ref a1_points, .ref a1_x, .ref a1_y, .ref a1_on, .ref a1_contour])), (a1_file, .inl (cy 1, 4096, .inl a1_file_f))]) [0, 1] (by decide) rfl
    have hFc := va_free (wc := [(a1, .inr (8, [.ref a1_file, .int a1_size, .ref a1_at, .ref a1_length, .int a1_units, .int a1_form, .int a1_glyphs, .int a1_ascent, .int a1_descent, .int a1_gap, .int a1_metrics, .int a1_map, .int a1_mapLength, .int a1_segments, .ref a1_done, .ref a1_depth, .ref a1_parts, .ref a1_contours, .ref a1_points, .ref a1_x, .ref a1_y, .ref a1_on, .ref a1_contour])), (a1_file, .inl (cy 1, 4096, .inl a1_file_f))]) hD hS hA [0, 1] rfl
    refine va_calli (va_runV (As := [.int (((a1_map + (16 : Int32)) + ((2 : Int32) * x2)) + ((2 : Int32) * x3))]) (rest := []) ⟨hx, hb, hml, hown, htsG⟩ (c_Mf_two l dC dI cy H.size a1 a1_file a1_at a1_length a1_done a1_depth a1_parts a1_contours a1_points a1_x a1_y a1_on a1_contour a1_size a1_units a1_form a1_glyphs a1_ascent a1_descent a1_gap a1_metrics a1_map a1_mapLength a1_segments a1_file_f (((a1_map + (16 : Int32)) + ((2 : Int32) * x2)) + ((2 : Int32) * x3)) r_2 hq) (cwV 1 htsG (gV mW951 mW947 mW948 mW10 mW949) rfl rfl rfl (by decide +kernel) ⟨Nat.le_of_ble_eq_true rfl, Nat.le_of_ble_eq_true rfl⟩) ⟨fun a U g mk q => by obtain ⟨q0, q1, qP, qK, qD⟩ := q; exact ⟨q0, q1, qP, va_K.moved (u := U) (U := U.calling g mk a) (Vm.Alike.refl U.vm) qK, qD⟩, va_recv hK hPc (ci := 8) (q0 := 0) rfl rfl, fun U hU hW => ⟨rfl, by rw [hU], by rw [hU]; exact hPc, va_K.moved hW.alike hK, hDc.weaken (fun _ _ _ _ => trivial)⟩⟩ rfl rfl hl.1 rfl (lv_room (Nat.le_of_ble_eq_true rfl)) d_Mo_glyphOf_60 ⟨Nat.le_of_ble_eq_true rfl, Nat.le_of_ble_eq_true rfl⟩) hS (fun q _ h => hFc q h) hFc (fun rr u t H1 locs ht hvm hw hB hz1 hk1 hS => ?_)
    obtain ⟨hP1, hK1, hD1⟩ := hB
    rw [ht] at hP1
    replace hw : r_2 = rr := hw.symm
    subst hw
    obtain ⟨hP, hD⟩ := va_join (wr := [(a1_at, .inl (cy 0, 8, .inl a1_at_f)), (a1_length, .inl (cy 0, 8, .inl a1_length_f))]) (w1 := [(a1, .inr (8, [.ref a1_file, .int a1_size, .ref a1_at, .ref a1_length, .int a1_units, .int a1_form, .int a1_glyphs, .int a1_ascent, .int a1_descent, .int a1_gap, .int a1_metrics, .int a1_map, .int a1_mapLength, .int a1_segments, .ref a1_done, .ref a1_depth, .ref a1_parts, .ref a1_contours, .ref a1_points, .ref a1_x, .ref a1_y, .ref a1_on, .ref a1_contour])), (a1_file, .inl (cy 1, 4096, .inl a1_file_f))]) hP hD [0, 1] [2, 3] rfl rfl (by decide) (by decide) hk1 hFc hP1 hD1
    generalize H1 = H at hP hS ⊢
    have hP := hP.sub (ws' := [(a1, .inr (8, [.ref a1_file, .int a1_size, .ref a1_at, .ref a1_length, .int a1_units, .int a1_form, .int a1_glyphs, .int a1_ascent, .int a1_descent, .int a1_gap, .int a1_metrics, .int a1_map, .int a1_mapLength, .int a1_segments, .ref a1_done, .ref a1_depth, .ref a1_parts, .ref a1_contours, .ref a1_points, .ref a1_x, .ref a1_y, .ref a1_on, .ref a1_contour])), (a1_file, .inl (cy 1, 4096, .inl a1_file_f)), (a1_at, .inl (cy 0, 8, .inl a1_at_f)), (a1_length, .inl (cy 0, 8, .inl a1_length_f))]) [2, 3, 0, 1] rfl
    have hD := hD.sub (ws' := [(a1, .inr (8, [.ref a1_file, .int a1_size, .ref a1_at, .ref a1_length, .int a1_units, .int a1_form, .int a1_glyphs, .int a1_ascent, .int a1_descent, .int a1_gap, .int a1_metrics, .int a1_map, .int a1_mapLength, .int a1_segments, .ref a1_done, .ref a1_depth, .ref a1_parts, .ref a1_contours, .ref a1_points, .ref a1_x, .ref a1_y, .ref a1_on, .ref a1_contour])), (a1_file, .inl (cy 1, 4096, .inl a1_file_f)), (a1_at, .inl (cy 0, 8, .inl a1_at_f)), (a1_length, .inl (cy 0, 8, .inl a1_length_f))]) [2, 3, 0, 1] (by decide) rfl
    refine W.widen (k := 0) (n := 0) (by decide) (by decide) ?_
    refine lv_istore (lv' := [(4, .int r_2), (0, .ref a1), (1, .int x1), (2, .int x2), (3, .int x3)]) hx hb d_Mo_glyphOf_63 hl (by decide) rfl (fun ls hl => ?_)
    refine lv_aload_n hx hb d_Mo_glyphOf_65 rfl (lv_at hl 1 rfl) ?_
    refine lv_aload_n hx hb d_Mo_glyphOf_66 rfl (lv_at hl 1 rfl) ?_
    refine va_get (D := (dC, dI)) (ci := 8) (v := .int a1_map) (C := "GlyphPageModel$Font") (T := F_Mf) (N := 23) hx hb htsG iG_Mf hown hK hP 0 rfl rfl 11 (by decide) (htsG _ mW788) (fun _ h9 => h9) rfl d_Mo_glyphOf_67 ?_
    refine lv_bipush (v := (16 : Int32)) hx hb d_Mo_glyphOf_70 (by decide) ?_
    refine lv_iadd hx hb d_Mo_glyphOf_72 ?_
    refine lv_iconst (v := (4 : Int32)) hx hb d_Mo_glyphOf_73 (by decide) ?_
    refine lv_iload_n hx hb d_Mo_glyphOf_74 rfl (lv_at hl 3 rfl) ?_
    refine lv_imul hx hb d_Mo_glyphOf_75 ?_
    refine lv_iadd hx hb d_Mo_glyphOf_76 ?_
    refine lv_iconst (v := (2 : Int32)) hx hb d_Mo_glyphOf_77 (by decide) ?_
    refine lv_iload_n hx hb d_Mo_glyphOf_78 rfl (lv_at hl 4 rfl) ?_
    refine lv_imul hx hb d_Mo_glyphOf_79 ?_
    refine lv_iadd hx hb d_Mo_glyphOf_80 ?_
    obtain ⟨r_3, hq, h⟩ := Option.bind_eq_some_iff.mp h
    try dsimp only at h
    have hPc := hP.sub (ws' := [(a1, .inr (8, [.ref a1_file, .int a1_size, .ref a1_at, .ref a1_length, .int a1_units, .int a1_form, .int a1_glyphs, .int a1_ascent, .int a1_descent, .int a1_gap, .int a1_metrics, .int a1_map, .int a1_mapLength, .int a1_segments, .ref a1_done, .ref a1_depth, .ref a1_parts, .ref a1_contours, .ref a1_points, .ref a1_x, .ref a1_y, .ref a1_on, .ref a1_contour])), (a1_file, .inl (cy 1, 4096, .inl a1_file_f))]) [0, 1] rfl
    have hDc := hD.sub (ws' := [(a1, .inr (8, [.ref a1_file, .int a1_size, .ref a1_at, .ref a1_length, .int a1_units, .int a1_form, .int a1_glyphs, .int a1_ascent, .int a1_descent, .int a1_gap, .int a1_metrics, .int a1_map, .int a1_mapLength, .int a1_segments, .ref a1_done, .ref a1_depth, .ref a1_parts, .ref a1_contours, .ref a1_points, .ref a1_x, .ref a1_y, .ref a1_on, .ref a1_contour])), (a1_file, .inl (cy 1, 4096, .inl a1_file_f))]) [0, 1] (by decide) rfl
    have hFc := va_free (wc := [(a1, .inr (8, [.ref a1_file, .int a1_size, .ref a1_at, .ref a1_length, .int a1_units, .int a1_form, .int a1_glyphs, .int a1_ascent, .int a1_descent, .int a1_gap, .int a1_metrics, .int a1_map, .int a1_mapLength, .int a1_segments, .ref a1_done, .ref a1_depth, .ref a1_parts, .ref a1_contours, .ref a1_points, .ref a1_x, .ref a1_y, .ref a1_on, .ref a1_contour])), (a1_file, .inl (cy 1, 4096, .inl a1_file_f))]) hD hS hA [0, 1] rfl
    refine va_calli (va_runV (As := [.int (((a1_map + (16 : Int32)) + ((4 : Int32) * x2)) + ((2 : Int32) * x3))]) (rest := []) ⟨hx, hb, hml, hown, htsG⟩ (c_Mf_two l dC dI cy H.size a1 a1_file a1_at a1_length a1_done a1_depth a1_parts a1_contours a1_points a1_x a1_y a1_on a1_contour a1_size a1_units a1_form a1_glyphs a1_ascent a1_descent a1_gap a1_metrics a1_map a1_mapLength a1_segments a1_file_f (((a1_map + (16 : Int32)) + ((4 : Int32) * x2)) + ((2 : Int32) * x3)) r_3 hq) (cwV 1 htsG (gV mW951 mW947 mW948 mW10 mW949) rfl rfl rfl (by decide +kernel) ⟨Nat.le_of_ble_eq_true rfl, Nat.le_of_ble_eq_true rfl⟩) ⟨fun a U g mk q => by obtain ⟨q0, q1, qP, qK, qD⟩ := q; exact ⟨q0, q1, qP, va_K.moved (u := U) (U := U.calling g mk a) (Vm.Alike.refl U.vm) qK, qD⟩, va_recv hK hPc (ci := 8) (q0 := 0) rfl rfl, fun U hU hW => ⟨rfl, by rw [hU], by rw [hU]; exact hPc, va_K.moved hW.alike hK, hDc.weaken (fun _ _ _ _ => trivial)⟩⟩ rfl rfl hl.1 rfl (lv_room (Nat.le_of_ble_eq_true rfl)) d_Mo_glyphOf_81 ⟨Nat.le_of_ble_eq_true rfl, Nat.le_of_ble_eq_true rfl⟩) hS (fun q _ h => hFc q h) hFc (fun rr u t H1 locs ht hvm hw hB hz1 hk1 hS => ?_)
    obtain ⟨hP1, hK1, hD1⟩ := hB
    rw [ht] at hP1
    replace hw : r_3 = rr := hw.symm
    subst hw
    obtain ⟨hP, hD⟩ := va_join (wr := [(a1_at, .inl (cy 0, 8, .inl a1_at_f)), (a1_length, .inl (cy 0, 8, .inl a1_length_f))]) (w1 := [(a1, .inr (8, [.ref a1_file, .int a1_size, .ref a1_at, .ref a1_length, .int a1_units, .int a1_form, .int a1_glyphs, .int a1_ascent, .int a1_descent, .int a1_gap, .int a1_metrics, .int a1_map, .int a1_mapLength, .int a1_segments, .ref a1_done, .ref a1_depth, .ref a1_parts, .ref a1_contours, .ref a1_points, .ref a1_x, .ref a1_y, .ref a1_on, .ref a1_contour])), (a1_file, .inl (cy 1, 4096, .inl a1_file_f))]) hP hD [0, 1] [2, 3] rfl rfl (by decide) (by decide) hk1 hFc hP1 hD1
    generalize H1 = H at hP hS ⊢
    have hP := hP.sub (ws' := [(a1, .inr (8, [.ref a1_file, .int a1_size, .ref a1_at, .ref a1_length, .int a1_units, .int a1_form, .int a1_glyphs, .int a1_ascent, .int a1_descent, .int a1_gap, .int a1_metrics, .int a1_map, .int a1_mapLength, .int a1_segments, .ref a1_done, .ref a1_depth, .ref a1_parts, .ref a1_contours, .ref a1_points, .ref a1_x, .ref a1_y, .ref a1_on, .ref a1_contour])), (a1_file, .inl (cy 1, 4096, .inl a1_file_f)), (a1_at, .inl (cy 0, 8, .inl a1_at_f)), (a1_length, .inl (cy 0, 8, .inl a1_length_f))]) [2, 3, 0, 1] rfl
    have hD := hD.sub (ws' := [(a1, .inr (8, [.ref a1_file, .int a1_size, .ref a1_at, .ref a1_length, .int a1_units, .int a1_form, .int a1_glyphs, .int a1_ascent, .int a1_descent, .int a1_gap, .int a1_metrics, .int a1_map, .int a1_mapLength, .int a1_segments, .ref a1_done, .ref a1_depth, .ref a1_parts, .ref a1_contours, .ref a1_points, .ref a1_x, .ref a1_y, .ref a1_on, .ref a1_contour])), (a1_file, .inl (cy 1, 4096, .inl a1_file_f)), (a1_at, .inl (cy 0, 8, .inl a1_at_f)), (a1_length, .inl (cy 0, 8, .inl a1_length_f))]) [2, 3, 0, 1] (by decide) rfl
    refine W.widen (k := 0) (n := 0) (by decide) (by decide) ?_
    refine lv_istore (lv' := [(5, .int r_3), (4, .int r_2), (0, .ref a1), (1, .int x1), (2, .int x2), (3, .int x3)]) hx hb d_Mo_glyphOf_84 hl (by decide) rfl (fun ls hl => ?_)
    refine lv_bipush (v := (16 : Int32)) hx hb d_Mo_glyphOf_86 (by decide) ?_
    refine lv_bipush (v := (6 : Int32)) hx hb d_Mo_glyphOf_88 (by decide) ?_
    refine lv_iload_n hx hb d_Mo_glyphOf_90 rfl (lv_at hl 4 rfl) ?_
    refine lv_imul hx hb d_Mo_glyphOf_91 ?_
    refine lv_iadd hx hb d_Mo_glyphOf_92 ?_
    refine lv_iconst (v := (2 : Int32)) hx hb d_Mo_glyphOf_93 (by decide) ?_
    refine lv_iload_n hx hb d_Mo_glyphOf_94 rfl (lv_at hl 5 rfl) ?_
    refine lv_imul hx hb d_Mo_glyphOf_95 ?_
    refine lv_iadd hx hb d_Mo_glyphOf_96 ?_
    refine lv_istore (lv' := [(6, .int (((16 : Int32) + ((6 : Int32) * x2)) + ((2 : Int32) * x3))), (5, .int r_3), (4, .int r_2), (0, .ref a1), (1, .int x1), (2, .int x2), (3, .int x3)]) hx hb d_Mo_glyphOf_97 hl (by decide) rfl (fun ls hl => ?_)
    refine lv_aload_n hx hb d_Mo_glyphOf_99 rfl (lv_at hl 3 rfl) ?_
    refine lv_aload_n hx hb d_Mo_glyphOf_100 rfl (lv_at hl 3 rfl) ?_
    refine va_get (D := (dC, dI)) (ci := 8) (v := .int a1_map) (C := "GlyphPageModel$Font") (T := F_Mf) (N := 23) hx hb htsG iG_Mf hown hK hP 0 rfl rfl 11 (by decide) (htsG _ mW788) (fun _ h9 => h9) rfl d_Mo_glyphOf_101 ?_
    refine lv_iload hx hb d_Mo_glyphOf_104 (lv_at hl 0 rfl) ?_
    refine lv_iadd hx hb d_Mo_glyphOf_106 ?_
    obtain ⟨r_4, hq, h⟩ := Option.bind_eq_some_iff.mp h
    try dsimp only at h
    have hPc := hP.sub (ws' := [(a1, .inr (8, [.ref a1_file, .int a1_size, .ref a1_at, .ref a1_length, .int a1_units, .int a1_form, .int a1_glyphs, .int a1_ascent, .int a1_descent, .int a1_gap, .int a1_metrics, .int a1_map, .int a1_mapLength, .int a1_segments, .ref a1_done, .ref a1_depth, .ref a1_parts, .ref a1_contours, .ref a1_points, .ref a1_x, .ref a1_y, .ref a1_on, .ref a1_contour])), (a1_file, .inl (cy 1, 4096, .inl a1_file_f))]) [0, 1] rfl
    have hDc := hD.sub (ws' := [(a1, .inr (8, [.ref a1_file, .int a1_size, .ref a1_at, .ref a1_length, .int a1_units, .int a1_form, .int a1_glyphs, .int a1_ascent, .int a1_descent, .int a1_gap, .int a1_metrics, .int a1_map, .int a1_mapLength, .int a1_segments, .ref a1_done, .ref a1_depth, .ref a1_parts, .ref a1_contours, .ref a1_points, .ref a1_x, .ref a1_y, .ref a1_on, .ref a1_contour])), (a1_file, .inl (cy 1, 4096, .inl a1_file_f))]) [0, 1] (by decide) rfl
    have hFc := va_free (wc := [(a1, .inr (8, [.ref a1_file, .int a1_size, .ref a1_at, .ref a1_length, .int a1_units, .int a1_form, .int a1_glyphs, .int a1_ascent, .int a1_descent, .int a1_gap, .int a1_metrics, .int a1_map, .int a1_mapLength, .int a1_segments, .ref a1_done, .ref a1_depth, .ref a1_parts, .ref a1_contours, .ref a1_points, .ref a1_x, .ref a1_y, .ref a1_on, .ref a1_contour])), (a1_file, .inl (cy 1, 4096, .inl a1_file_f))]) hD hS hA [0, 1] rfl
    refine va_calli (va_runV (As := [.int (a1_map + (((16 : Int32) + ((6 : Int32) * x2)) + ((2 : Int32) * x3)))]) (rest := []) ⟨hx, hb, hml, hown, htsG⟩ (c_Mf_two l dC dI cy H.size a1 a1_file a1_at a1_length a1_done a1_depth a1_parts a1_contours a1_points a1_x a1_y a1_on a1_contour a1_size a1_units a1_form a1_glyphs a1_ascent a1_descent a1_gap a1_metrics a1_map a1_mapLength a1_segments a1_file_f (a1_map + (((16 : Int32) + ((6 : Int32) * x2)) + ((2 : Int32) * x3))) r_4 hq) (cwV 1 htsG (gV mW951 mW947 mW948 mW10 mW949) rfl rfl rfl (by decide +kernel) ⟨Nat.le_of_ble_eq_true rfl, Nat.le_of_ble_eq_true rfl⟩) ⟨fun a U g mk q => by obtain ⟨q0, q1, qP, qK, qD⟩ := q; exact ⟨q0, q1, qP, va_K.moved (u := U) (U := U.calling g mk a) (Vm.Alike.refl U.vm) qK, qD⟩, va_recv hK hPc (ci := 8) (q0 := 0) rfl rfl, fun U hU hW => ⟨rfl, by rw [hU], by rw [hU]; exact hPc, va_K.moved hW.alike hK, hDc.weaken (fun _ _ _ _ => trivial)⟩⟩ rfl rfl hl.1 rfl (lv_room (Nat.le_of_ble_eq_true rfl)) d_Mo_glyphOf_107 ⟨Nat.le_of_ble_eq_true rfl, Nat.le_of_ble_eq_true rfl⟩) hS (fun q _ h => hFc q h) hFc (fun rr u t H1 locs ht hvm hw hB hz1 hk1 hS => ?_)
    obtain ⟨hP1, hK1, hD1⟩ := hB
    rw [ht] at hP1
    replace hw : r_4 = rr := hw.symm
    subst hw
    obtain ⟨hP, hD⟩ := va_join (wr := [(a1_at, .inl (cy 0, 8, .inl a1_at_f)), (a1_length, .inl (cy 0, 8, .inl a1_length_f))]) (w1 := [(a1, .inr (8, [.ref a1_file, .int a1_size, .ref a1_at, .ref a1_length, .int a1_units, .int a1_form, .int a1_glyphs, .int a1_ascent, .int a1_descent, .int a1_gap, .int a1_metrics, .int a1_map, .int a1_mapLength, .int a1_segments, .ref a1_done, .ref a1_depth, .ref a1_parts, .ref a1_contours, .ref a1_points, .ref a1_x, .ref a1_y, .ref a1_on, .ref a1_contour])), (a1_file, .inl (cy 1, 4096, .inl a1_file_f))]) hP hD [0, 1] [2, 3] rfl rfl (by decide) (by decide) hk1 hFc hP1 hD1
    generalize H1 = H at hP hS ⊢
    have hP := hP.sub (ws' := [(a1, .inr (8, [.ref a1_file, .int a1_size, .ref a1_at, .ref a1_length, .int a1_units, .int a1_form, .int a1_glyphs, .int a1_ascent, .int a1_descent, .int a1_gap, .int a1_metrics, .int a1_map, .int a1_mapLength, .int a1_segments, .ref a1_done, .ref a1_depth, .ref a1_parts, .ref a1_contours, .ref a1_points, .ref a1_x, .ref a1_y, .ref a1_on, .ref a1_contour])), (a1_file, .inl (cy 1, 4096, .inl a1_file_f)), (a1_at, .inl (cy 0, 8, .inl a1_at_f)), (a1_length, .inl (cy 0, 8, .inl a1_length_f))]) [2, 3, 0, 1] rfl
    have hD := hD.sub (ws' := [(a1, .inr (8, [.ref a1_file, .int a1_size, .ref a1_at, .ref a1_length, .int a1_units, .int a1_form, .int a1_glyphs, .int a1_ascent, .int a1_descent, .int a1_gap, .int a1_metrics, .int a1_map, .int a1_mapLength, .int a1_segments, .ref a1_done, .ref a1_depth, .ref a1_parts, .ref a1_contours, .ref a1_points, .ref a1_x, .ref a1_y, .ref a1_on, .ref a1_contour])), (a1_file, .inl (cy 1, 4096, .inl a1_file_f)), (a1_at, .inl (cy 0, 8, .inl a1_at_f)), (a1_length, .inl (cy 0, 8, .inl a1_length_f))]) [2, 3, 0, 1] (by decide) rfl
    refine W.widen (k := 0) (n := 0) (by decide) (by decide) ?_
    refine lv_istore (lv' := [(7, .int r_4), (6, .int (((16 : Int32) + ((6 : Int32) * x2)) + ((2 : Int32) * x3))), (5, .int r_3), (4, .int r_2), (0, .ref a1), (1, .int x1), (2, .int x2), (3, .int x3)]) hx hb d_Mo_glyphOf_110 hl (by decide) rfl (fun ls hl => ?_)
    refine lv_iload hx hb d_Mo_glyphOf_112 (lv_at hl 3 rfl) ?_
    refine lv_iload_n hx hb d_Mo_glyphOf_114 rfl (lv_at hl 5 rfl) ?_
    refine lv_icmp_le (tgt := 120) hx hb d_Mo_glyphOf_115 (by decide) (fun c_5 => ?_) (fun c_5 => ?_)
    · replace h := (if_pos c_5).symm.trans h
      refine lv_iload_n hx hb d_Mo_glyphOf_120 rfl (lv_at hl 5 rfl) ?_
      refine lv_iload hx hb d_Mo_glyphOf_121 (lv_at hl 2 rfl) ?_
      refine lv_iadd hx hb d_Mo_glyphOf_123 ?_
      refine lv_ldc hx hb hown (htsG _ mW1050) d_Mo_glyphOf_124 ?_
      refine lv_iand hx hb d_Mo_glyphOf_126 ?_
      refine lv_istore (lv' := [(8, .int ((x1 + r_3) &&& (65535 : Int32))), (7, .int r_4), (6, .int (((16 : Int32) + ((6 : Int32) * x2)) + ((2 : Int32) * x3))), (5, .int r_3), (4, .int r_2), (0, .ref a1), (1, .int x1), (2, .int x2), (3, .int x3)]) hx hb d_Mo_glyphOf_127 hl (by decide) rfl (fun ls hl => ?_)
      refine lv_iload hx hb d_Mo_glyphOf_129 (lv_at hl 1 rfl) ?_
      refine lv_if_eq (tgt := 189) hx hb d_Mo_glyphOf_131 (by decide) (fun c_6 => ?_) (fun c_6 => ?_)
      · replace h := (if_pos c_6).symm.trans h
        exact w_Mo_glyphOf_189 C0 a1 a1_file a1_at a1_length a1_done a1_depth a1_parts a1_contours a1_points a1_x a1_y a1_on a1_contour a1_size a1_units a1_form a1_glyphs a1_ascent a1_descent a1_gap a1_metrics a1_map a1_mapLength a1_segments a1_file_f a1_at_f a1_length_f a2 uu  ((x1 + r_3) &&& (65535 : Int32)) h hP hD hS (lv_sub hl [5, 0] rfl)
      · replace h := (if_neg c_6).symm.trans h
        refine lv_iload hx hb d_Mo_glyphOf_134 (lv_at hl 2 rfl) ?_
        refine lv_iload hx hb d_Mo_glyphOf_136 (lv_at hl 1 rfl) ?_
        refine lv_iadd hx hb d_Mo_glyphOf_138 ?_
        refine lv_iconst (v := (2 : Int32)) hx hb d_Mo_glyphOf_139 (by decide) ?_
        refine lv_iload_n hx hb d_Mo_glyphOf_140 rfl (lv_at hl 6 rfl) ?_
        refine lv_iload hx hb d_Mo_glyphOf_141 (lv_at hl 4 rfl) ?_
        refine lv_isub hx hb d_Mo_glyphOf_143 ?_
        refine lv_imul hx hb d_Mo_glyphOf_144 ?_
        refine lv_iadd hx hb d_Mo_glyphOf_145 ?_
        refine lv_istore (lv' := [(9, .int (((((16 : Int32) + ((6 : Int32) * x2)) + ((2 : Int32) * x3)) + r_4) + ((2 : Int32) * (x1 - r_2)))), (8, .int ((x1 + r_3) &&& (65535 : Int32))), (7, .int r_4), (6, .int (((16 : Int32) + ((6 : Int32) * x2)) + ((2 : Int32) * x3))), (5, .int r_3), (4, .int r_2), (0, .ref a1), (1, .int x1), (2, .int x2), (3, .int x3)]) hx hb d_Mo_glyphOf_146 hl (by decide) rfl (fun ls hl => ?_)
        exact w_Mo_glyphOf_148 C0 a1 a1_file a1_at a1_length a1_done a1_depth a1_parts a1_contours a1_points a1_x a1_y a1_on a1_contour a1_size a1_units a1_form a1_glyphs a1_ascent a1_descent a1_gap a1_metrics a1_map a1_mapLength a1_segments a1_file_f a1_at_f a1_length_f a2 uu  r_3 (((((16 : Int32) + ((6 : Int32) * x2)) + ((2 : Int32) * x3)) + r_4) + ((2 : Int32) * (x1 - r_2))) h hP hD hS (lv_sub hl [6, 4, 0] rfl)
    · replace h := (if_neg c_5).symm.trans h
      refine lv_iconst (v := (0 : Int32)) hx hb d_Mo_glyphOf_118 (by decide) ?_
      cases h
      exact W.iret hx hb hr (fun t ht hW => ⟨⟨_, (), rfl, rfl, by rw [ht]; exact hP, va_K.moved hW.alike hK, hD⟩, hS.F ht⟩) hS.2.2 d_Mo_glyphOf_119 hlocks
  · replace h := (if_pos c_1).symm.trans h
    refine lv_iconst (v := (0 : Int32)) hx hb d_Mo_glyphOf_42 (by decide) ?_
    cases h
    exact W.iret hx hb hr (fun t ht hW => ⟨⟨_, (), rfl, rfl, by rw [ht]; exact hP, va_K.moved hW.alike hK, hD⟩, hS.F ht⟩) hS.2.2 d_Mo_glyphOf_43 hlocks
def P_Mo_glyphOf_7b (a1_glyphs : Int32) (a1_map : Int32) (a1_mapLength : Int32) (a1_segments : Int32) (a1_file_f : Nat → Int32)  (z7 : Int32 × Int32 × Int32 → Option (Int32)) (x1 : Int32) (x2 : Int32) (x3 : Int32) : Option (Int32) :=
  if x2 ≤ x3 then (P_Mo_glyphOf_37 a1_glyphs a1_map a1_mapLength a1_segments a1_file_f x1 x2 x3) else ((P_Mf_two a1_file_f ((a1_map + (14 : Int32)) + ((2 : Int32) * x3))).bind fun r_2 => if x1 ≤ r_2 then (P_Mo_glyphOf_37 a1_glyphs a1_map a1_mapLength a1_segments a1_file_f x1 x2 x3) else (z7 (x1, x2, (x3 + (1 : Int32)))))
def L_Mo_glyphOf_7 (a1_glyphs : Int32) (a1_map : Int32) (a1_mapLength : Int32) (a1_segments : Int32) (a1_file_f : Nat → Int32)  : (Int32 × Int32 × Int32 → Option (Int32)) → (Int32 × Int32 × Int32) → Option (Int32) :=
  fun z => unp fun x1 => unp fun x2 x3 => P_Mo_glyphOf_7b a1_glyphs a1_map a1_mapLength a1_segments a1_file_f z x1 x2 x3
def P_Mo_glyphOf_7 (a1_glyphs : Int32) (a1_map : Int32) (a1_mapLength : Int32) (a1_segments : Int32) (a1_file_f : Nat → Int32)  (x1 : Int32) (x2 : Int32) (x3 : Int32) : Option (Int32) :=
  lp (L_Mo_glyphOf_7 a1_glyphs a1_map a1_mapLength a1_segments a1_file_f) fuel (x1, x2, x3)
theorem e_Mo_glyphOf_7 (a1_glyphs : Int32) (a1_map : Int32) (a1_mapLength : Int32) (a1_segments : Int32) (a1_file_f : Nat → Int32)  (n : Nat) (x1 : Int32) (x2 : Int32) (x3 : Int32) : lp (L_Mo_glyphOf_7 a1_glyphs a1_map a1_mapLength a1_segments a1_file_f) (n + 1) (x1, x2, x3) = P_Mo_glyphOf_7b a1_glyphs a1_map a1_mapLength a1_segments a1_file_f (lp (L_Mo_glyphOf_7 a1_glyphs a1_map a1_mapLength a1_segments a1_file_f) n) x1 x2 x3 := rfl
set_option maxHeartbeats 4000000 in
set_option maxRecDepth 100000 in
theorem w_Mo_glyphOf_7b (C0 : Cx p s m args meth c A dC dI cy b_Mo_glyphOf 10 (some .int) "GlyphPageModel") (a1 : Nat) (a1_file : Nat) (a1_at : Nat) (a1_length : Nat) (a1_done : Nat) (a1_depth : Nat) (a1_parts : Nat) (a1_contours : Nat) (a1_points : Nat) (a1_x : Nat) (a1_y : Nat) (a1_on : Nat) (a1_contour : Nat) (a1_size : Int32) (a1_units : Int32) (a1_form : Int32) (a1_glyphs : Int32) (a1_ascent : Int32) (a1_descent : Int32) (a1_gap : Int32) (a1_metrics : Int32) (a1_map : Int32) (a1_mapLength : Int32) (a1_segments : Int32) (a1_file_f : Nat → Int32) (a1_at_f : Nat → Int32) (a1_length_f : Nat → Int32) (a2 : Int32) (uu : Int32)  (z7 : Int32 × Int32 × Int32 → Option (Int32)) (hz7 : ∀ (x1 : Int32) (x2 : Int32) (x3 : Int32) (H : Heap) (locs : List Loc) (ls : Array Slot), z7 (x1, x2, x3) = some uu → va_P (dC, dI) classes [(a1, .inr (8, [.ref a1_file, .int a1_size, .ref a1_at, .ref a1_length, .int a1_units, .int a1_form, .int a1_glyphs, .int a1_ascent, .int a1_descent, .int a1_gap, .int a1_metrics, .int a1_map, .int a1_mapLength, .int a1_segments, .ref a1_done, .ref a1_depth, .ref a1_parts, .ref a1_contours, .ref a1_points, .ref a1_x, .ref a1_y, .ref a1_on, .ref a1_contour])), (a1_file, .inl (cy 1, 4096, .inl a1_file_f)), (a1_at, .inl (cy 0, 8, .inl a1_at_f)), (a1_length, .inl (cy 0, 8, .inl a1_length_f))] H → va_D A [(a1, .inr (8, [.ref a1_file, .int a1_size, .ref a1_at, .ref a1_length, .int a1_units, .int a1_form, .int a1_glyphs, .int a1_ascent, .int a1_descent, .int a1_gap, .int a1_metrics, .int a1_map, .int a1_mapLength, .int a1_segments, .ref a1_done, .ref a1_depth, .ref a1_parts, .ref a1_contours, .ref a1_points, .ref a1_x, .ref a1_y, .ref a1_on, .ref a1_contour])), (a1_file, .inl (cy 1, 4096, .inl a1_file_f)), (a1_at, .inl (cy 0, 8, .inl a1_at_f)), (a1_length, .inl (cy 0, 8, .inl a1_length_f))] → va_S A s.heap H locs → lv_has ls 10 [(0, .ref a1), (1, .int x1), (2, .int x2), (3, .int x3)] → W p l e ({ frames := 1, cells := 0, slots := 0, locals := 21 } : Room) s m args below meth c H locs 0 0 (MQ below (va_Qi (fun r (_ : Unit) => r = uu) (fun _ t => va_P (dC, dI) classes [(a1, .inr (8, [.ref a1_file, .int a1_size, .ref a1_at, .ref a1_length, .int a1_units, .int a1_form, .int a1_glyphs, .int a1_ascent, .int a1_descent, .int a1_gap, .int a1_metrics, .int a1_map, .int a1_mapLength, .int a1_segments, .ref a1_done, .ref a1_depth, .ref a1_parts, .ref a1_contours, .ref a1_points, .ref a1_x, .ref a1_y, .ref a1_on, .ref a1_contour])), (a1_file, .inl (cy 1, 4096, .inl a1_file_f)), (a1_at, .inl (cy 0, 8, .inl a1_at_f)), (a1_length, .inl (cy 0, 8, .inl a1_length_f))] t.heap ∧ va_K (dC, dI) classes (TY cy) t ∧ va_D A [(a1, .inr (8, [.ref a1_file, .int a1_size, .ref a1_at, .ref a1_length, .int a1_units, .int a1_form, .int a1_glyphs, .int a1_ascent, .int a1_descent, .int a1_gap, .int a1_metrics, .int a1_map, .int a1_mapLength, .int a1_segments, .ref a1_done, .ref a1_depth, .ref a1_parts, .ref a1_contours, .ref a1_points, .ref a1_x, .ref a1_y, .ref a1_on, .ref a1_contour])), (a1_file, .inl (cy 1, 4096, .inl a1_file_f)), (a1_at, .inl (cy 0, 8, .inl a1_at_f)), (a1_length, .inl (cy 0, 8, .inl a1_length_f))]) A) args s 0 0 A) (F0 m 7 ls [])) (x1 : Int32) (x2 : Int32) (x3 : Int32) {H : Heap} {locs : List Loc} {ls : Array Slot} (h : P_Mo_glyphOf_7b a1_glyphs a1_map a1_mapLength a1_segments a1_file_f z7 x1 x2 x3 = some uu) : va_P (dC, dI) classes [(a1, .inr (8, [.ref a1_file, .int a1_size, .ref a1_at, .ref a1_length, .int a1_units, .int a1_form, .int a1_glyphs, .int a1_ascent, .int a1_descent, .int a1_gap, .int a1_metrics, .int a1_map, .int a1_mapLength, .int a1_segments, .ref a1_done, .ref a1_depth, .ref a1_parts, .ref a1_contours, .ref a1_points, .ref a1_x, .ref a1_y, .ref a1_on, .ref a1_contour])), (a1_file, .inl (cy 1, 4096, .inl a1_file_f)), (a1_at, .inl (cy 0, 8, .inl a1_at_f)), (a1_length, .inl (cy 0, 8, .inl a1_length_f))] H → va_D A [(a1, .inr (8, [.ref a1_file, .int a1_size, .ref a1_at, .ref a1_length, .int a1_units, .int a1_form, .int a1_glyphs, .int a1_ascent, .int a1_descent, .int a1_gap, .int a1_metrics, .int a1_map, .int a1_mapLength, .int a1_segments, .ref a1_done, .ref a1_depth, .ref a1_parts, .ref a1_contours, .ref a1_points, .ref a1_x, .ref a1_y, .ref a1_on, .ref a1_contour])), (a1_file, .inl (cy 1, 4096, .inl a1_file_f)), (a1_at, .inl (cy 0, 8, .inl a1_at_f)), (a1_length, .inl (cy 0, 8, .inl a1_length_f))] → va_S A s.heap H locs → lv_has ls 10 [(0, .ref a1), (1, .int x1), (2, .int x2), (3, .int x3)] → W p l e ({ frames := 1, cells := 0, slots := 0, locals := 21 } : Room) s m args below meth c H locs 0 0 (MQ below (va_Qi (fun r (_ : Unit) => r = uu) (fun _ t => va_P (dC, dI) classes [(a1, .inr (8, [.ref a1_file, .int a1_size, .ref a1_at, .ref a1_length, .int a1_units, .int a1_form, .int a1_glyphs, .int a1_ascent, .int a1_descent, .int a1_gap, .int a1_metrics, .int a1_map, .int a1_mapLength, .int a1_segments, .ref a1_done, .ref a1_depth, .ref a1_parts, .ref a1_contours, .ref a1_points, .ref a1_x, .ref a1_y, .ref a1_on, .ref a1_contour])), (a1_file, .inl (cy 1, 4096, .inl a1_file_f)), (a1_at, .inl (cy 0, 8, .inl a1_at_f)), (a1_length, .inl (cy 0, 8, .inl a1_length_f))] t.heap ∧ va_K (dC, dI) classes (TY cy) t ∧ va_D A [(a1, .inr (8, [.ref a1_file, .int a1_size, .ref a1_at, .ref a1_length, .int a1_units, .int a1_form, .int a1_glyphs, .int a1_ascent, .int a1_descent, .int a1_gap, .int a1_metrics, .int a1_map, .int a1_mapLength, .int a1_segments, .ref a1_done, .ref a1_depth, .ref a1_parts, .ref a1_contours, .ref a1_points, .ref a1_x, .ref a1_y, .ref a1_on, .ref a1_contour])), (a1_file, .inl (cy 1, 4096, .inl a1_file_f)), (a1_at, .inl (cy 0, 8, .inl a1_at_f)), (a1_length, .inl (cy 0, 8, .inl a1_length_f))]) A) args s 0 0 A) (F0 m 7 ls []) := by
  intro hP hD hS hl
  obtain ⟨hx, hb, hr, hlocks, hml, hown, htsG, hA, hK⟩ := id C0
  unfold P_Mo_glyphOf_7b at h
  refine lv_iload_n hx hb d_Mo_glyphOf_7 rfl (lv_at hl 3 rfl) ?_
  refine lv_iload_n hx hb d_Mo_glyphOf_8 rfl (lv_at hl 2 rfl) ?_
  refine lv_icmp_ge (tgt := 37) hx hb d_Mo_glyphOf_9 (by decide) (fun c_1 => ?_) (fun c_1 => ?_)
  · replace h := (if_pos c_1).symm.trans h
    exact w_Mo_glyphOf_37 C0 a1 a1_file a1_at a1_length a1_done a1_depth a1_parts a1_contours a1_points a1_x a1_y a1_on a1_contour a1_size a1_units a1_form a1_glyphs a1_ascent a1_descent a1_gap a1_metrics a1_map a1_mapLength a1_segments a1_file_f a1_at_f a1_length_f a2 uu  x1 x2 x3 h hP hD hS (lv_sub hl [0, 1, 2, 3] rfl)
  · replace h := (if_neg c_1).symm.trans h
    refine lv_aload_n hx hb d_Mo_glyphOf_12 rfl (lv_at hl 0 rfl) ?_
    refine lv_aload_n hx hb d_Mo_glyphOf_13 rfl (lv_at hl 0 rfl) ?_
    refine va_get (D := (dC, dI)) (ci := 8) (v := .int a1_map) (C := "GlyphPageModel$Font") (T := F_Mf) (N := 23) hx hb htsG iG_Mf hown hK hP 0 rfl rfl 11 (by decide) (htsG _ mW788) (fun _ h9 => h9) rfl d_Mo_glyphOf_14 ?_
    refine lv_bipush (v := (14 : Int32)) hx hb d_Mo_glyphOf_17 (by decide) ?_
    refine lv_iadd hx hb d_Mo_glyphOf_19 ?_
    refine lv_iconst (v := (2 : Int32)) hx hb d_Mo_glyphOf_20 (by decide) ?_
    refine lv_iload_n hx hb d_Mo_glyphOf_21 rfl (lv_at hl 3 rfl) ?_
    refine lv_imul hx hb d_Mo_glyphOf_22 ?_
    refine lv_iadd hx hb d_Mo_glyphOf_23 ?_
    obtain ⟨r_2, hq, h⟩ := Option.bind_eq_some_iff.mp h
    try dsimp only at h
    have hPc := hP.sub (ws' := [(a1, .inr (8, [.ref a1_file, .int a1_size, .ref a1_at, .ref a1_length, .int a1_units, .int a1_form, .int a1_glyphs, .int a1_ascent, .int a1_descent, .int a1_gap, .int a1_metrics, .int a1_map, .int a1_mapLength, .int a1_segments, .ref a1_done, .ref a1_depth, .ref a1_parts, .ref a1_contours, .ref a1_points, .ref a1_x, .ref a1_y, .ref a1_on, .ref a1_contour])), (a1_file, .inl (cy 1, 4096, .inl a1_file_f))]) [0, 1] rfl
    have hDc := hD.sub (ws' := [(a1, .inr (8, [.ref a1_file, .int a1_size, .ref a1_at, .ref a1_length, .int a1_units, .int a1_form, .int a1_glyphs, .int a1_ascent, .int a1_descent, .int a1_gap, .int a1_metrics, .int a1_map, .int a1_mapLength, .int a1_segments, .ref a1_done, .ref a1_depth, .ref a1_parts, .ref a1_contours, .ref a1_points, .ref a1_x, .ref a1_y, .ref a1_on, .ref a1_contour])), (a1_file, .inl (cy 1, 4096, .inl a1_file_f))]) [0, 1] (by decide) rfl
    have hFc := va_free (wc := [(a1, .inr (8, [.ref a1_file, .int a1_size, .ref a1_at, .ref a1_length, .int a1_units, .int a1_form, .int a1_glyphs, .int a1_ascent, .int a1_descent, .int a1_gap, .int a1_metrics, .int a1_map, .int a1_mapLength, .int a1_segments, .ref a1_done, .ref a1_depth, .ref a1_parts, .ref a1_contours, .ref a1_points, .ref a1_x, .ref a1_y, .ref a1_on, .ref a1_contour])), (a1_file, .inl (cy 1, 4096, .inl a1_file_f))]) hD hS hA [0, 1] rfl
    refine va_calli (va_runV (As := [.int ((a1_map + (14 : Int32)) + ((2 : Int32) * x3))]) (rest := []) ⟨hx, hb, hml, hown, htsG⟩ (c_Mf_two l dC dI cy H.size a1 a1_file a1_at a1_length a1_done a1_depth a1_parts a1_contours a1_points a1_x a1_y a1_on a1_contour a1_size a1_units a1_form a1_glyphs a1_ascent a1_descent a1_gap a1_metrics a1_map a1_mapLength a1_segments a1_file_f ((a1_map + (14 : Int32)) + ((2 : Int32) * x3)) r_2 hq) (cwV 1 htsG (gV mW951 mW947 mW948 mW10 mW949) rfl rfl rfl (by decide +kernel) ⟨Nat.le_of_ble_eq_true rfl, Nat.le_of_ble_eq_true rfl⟩) ⟨fun a U g mk q => by obtain ⟨q0, q1, qP, qK, qD⟩ := q; exact ⟨q0, q1, qP, va_K.moved (u := U) (U := U.calling g mk a) (Vm.Alike.refl U.vm) qK, qD⟩, va_recv hK hPc (ci := 8) (q0 := 0) rfl rfl, fun U hU hW => ⟨rfl, by rw [hU], by rw [hU]; exact hPc, va_K.moved hW.alike hK, hDc.weaken (fun _ _ _ _ => trivial)⟩⟩ rfl rfl hl.1 rfl (lv_room (Nat.le_of_ble_eq_true rfl)) d_Mo_glyphOf_24 ⟨Nat.le_of_ble_eq_true rfl, Nat.le_of_ble_eq_true rfl⟩) hS (fun q _ h => hFc q h) hFc (fun rr u t H1 locs ht hvm hw hB hz1 hk1 hS => ?_)
    obtain ⟨hP1, hK1, hD1⟩ := hB
    rw [ht] at hP1
    replace hw : r_2 = rr := hw.symm
    subst hw
    obtain ⟨hP, hD⟩ := va_join (wr := [(a1_at, .inl (cy 0, 8, .inl a1_at_f)), (a1_length, .inl (cy 0, 8, .inl a1_length_f))]) (w1 := [(a1, .inr (8, [.ref a1_file, .int a1_size, .ref a1_at, .ref a1_length, .int a1_units, .int a1_form, .int a1_glyphs, .int a1_ascent, .int a1_descent, .int a1_gap, .int a1_metrics, .int a1_map, .int a1_mapLength, .int a1_segments, .ref a1_done, .ref a1_depth, .ref a1_parts, .ref a1_contours, .ref a1_points, .ref a1_x, .ref a1_y, .ref a1_on, .ref a1_contour])), (a1_file, .inl (cy 1, 4096, .inl a1_file_f))]) hP hD [0, 1] [2, 3] rfl rfl (by decide) (by decide) hk1 hFc hP1 hD1
    generalize H1 = H at hP hS ⊢
    have hP := hP.sub (ws' := [(a1, .inr (8, [.ref a1_file, .int a1_size, .ref a1_at, .ref a1_length, .int a1_units, .int a1_form, .int a1_glyphs, .int a1_ascent, .int a1_descent, .int a1_gap, .int a1_metrics, .int a1_map, .int a1_mapLength, .int a1_segments, .ref a1_done, .ref a1_depth, .ref a1_parts, .ref a1_contours, .ref a1_points, .ref a1_x, .ref a1_y, .ref a1_on, .ref a1_contour])), (a1_file, .inl (cy 1, 4096, .inl a1_file_f)), (a1_at, .inl (cy 0, 8, .inl a1_at_f)), (a1_length, .inl (cy 0, 8, .inl a1_length_f))]) [2, 3, 0, 1] rfl
    have hD := hD.sub (ws' := [(a1, .inr (8, [.ref a1_file, .int a1_size, .ref a1_at, .ref a1_length, .int a1_units, .int a1_form, .int a1_glyphs, .int a1_ascent, .int a1_descent, .int a1_gap, .int a1_metrics, .int a1_map, .int a1_mapLength, .int a1_segments, .ref a1_done, .ref a1_depth, .ref a1_parts, .ref a1_contours, .ref a1_points, .ref a1_x, .ref a1_y, .ref a1_on, .ref a1_contour])), (a1_file, .inl (cy 1, 4096, .inl a1_file_f)), (a1_at, .inl (cy 0, 8, .inl a1_at_f)), (a1_length, .inl (cy 0, 8, .inl a1_length_f))]) [2, 3, 0, 1] (by decide) rfl
    refine W.widen (k := 0) (n := 0) (by decide) (by decide) ?_
    refine lv_iload_n hx hb d_Mo_glyphOf_27 rfl (lv_at hl 1 rfl) ?_
    refine lv_icmp_ge (tgt := 37) hx hb d_Mo_glyphOf_28 (by decide) (fun c_3 => ?_) (fun c_3 => ?_)
    · replace h := (if_pos c_3).symm.trans h
      exact w_Mo_glyphOf_37 C0 a1 a1_file a1_at a1_length a1_done a1_depth a1_parts a1_contours a1_points a1_x a1_y a1_on a1_contour a1_size a1_units a1_form a1_glyphs a1_ascent a1_descent a1_gap a1_metrics a1_map a1_mapLength a1_segments a1_file_f a1_at_f a1_length_f a2 uu  x1 x2 x3 h hP hD hS (lv_sub hl [0, 1, 2, 3] rfl)
    · replace h := (if_neg c_3).symm.trans h
      refine lv_iinc (v := (x3 + (1 : Int32))) (lv' := [(3, .int (x3 + (1 : Int32))), (0, .ref a1), (1, .int x1), (2, .int x2)]) hx hb d_Mo_glyphOf_31 hl (k := 3) rfl rfl (by decide) rfl (fun ls hl => ?_)
      refine lv_goto (tgt := 7) hx hb d_Mo_glyphOf_34 (by decide) ?_
      exact hz7 x1 x2 (x3 + (1 : Int32)) _ _ _ h hP hD hS (lv_sub hl [1, 2, 3, 0] rfl)
theorem w_Mo_glyphOf_7 (C0 : Cx p s m args meth c A dC dI cy b_Mo_glyphOf 10 (some .int) "GlyphPageModel") (a1 : Nat) (a1_file : Nat) (a1_at : Nat) (a1_length : Nat) (a1_done : Nat) (a1_depth : Nat) (a1_parts : Nat) (a1_contours : Nat) (a1_points : Nat) (a1_x : Nat) (a1_y : Nat) (a1_on : Nat) (a1_contour : Nat) (a1_size : Int32) (a1_units : Int32) (a1_form : Int32) (a1_glyphs : Int32) (a1_ascent : Int32) (a1_descent : Int32) (a1_gap : Int32) (a1_metrics : Int32) (a1_map : Int32) (a1_mapLength : Int32) (a1_segments : Int32) (a1_file_f : Nat → Int32) (a1_at_f : Nat → Int32) (a1_length_f : Nat → Int32) (a2 : Int32) (uu : Int32)  (x1 : Int32) (x2 : Int32) (x3 : Int32) {H : Heap} {locs : List Loc} {ls : Array Slot} (h : P_Mo_glyphOf_7 a1_glyphs a1_map a1_mapLength a1_segments a1_file_f x1 x2 x3 = some uu) : va_P (dC, dI) classes [(a1, .inr (8, [.ref a1_file, .int a1_size, .ref a1_at, .ref a1_length, .int a1_units, .int a1_form, .int a1_glyphs, .int a1_ascent, .int a1_descent, .int a1_gap, .int a1_metrics, .int a1_map, .int a1_mapLength, .int a1_segments, .ref a1_done, .ref a1_depth, .ref a1_parts, .ref a1_contours, .ref a1_points, .ref a1_x, .ref a1_y, .ref a1_on, .ref a1_contour])), (a1_file, .inl (cy 1, 4096, .inl a1_file_f)), (a1_at, .inl (cy 0, 8, .inl a1_at_f)), (a1_length, .inl (cy 0, 8, .inl a1_length_f))] H → va_D A [(a1, .inr (8, [.ref a1_file, .int a1_size, .ref a1_at, .ref a1_length, .int a1_units, .int a1_form, .int a1_glyphs, .int a1_ascent, .int a1_descent, .int a1_gap, .int a1_metrics, .int a1_map, .int a1_mapLength, .int a1_segments, .ref a1_done, .ref a1_depth, .ref a1_parts, .ref a1_contours, .ref a1_points, .ref a1_x, .ref a1_y, .ref a1_on, .ref a1_contour])), (a1_file, .inl (cy 1, 4096, .inl a1_file_f)), (a1_at, .inl (cy 0, 8, .inl a1_at_f)), (a1_length, .inl (cy 0, 8, .inl a1_length_f))] → va_S A s.heap H locs → lv_has ls 10 [(0, .ref a1), (1, .int x1), (2, .int x2), (3, .int x3)] → W p l e ({ frames := 1, cells := 0, slots := 0, locals := 21 } : Room) s m args below meth c H locs 0 0 (MQ below (va_Qi (fun r (_ : Unit) => r = uu) (fun _ t => va_P (dC, dI) classes [(a1, .inr (8, [.ref a1_file, .int a1_size, .ref a1_at, .ref a1_length, .int a1_units, .int a1_form, .int a1_glyphs, .int a1_ascent, .int a1_descent, .int a1_gap, .int a1_metrics, .int a1_map, .int a1_mapLength, .int a1_segments, .ref a1_done, .ref a1_depth, .ref a1_parts, .ref a1_contours, .ref a1_points, .ref a1_x, .ref a1_y, .ref a1_on, .ref a1_contour])), (a1_file, .inl (cy 1, 4096, .inl a1_file_f)), (a1_at, .inl (cy 0, 8, .inl a1_at_f)), (a1_length, .inl (cy 0, 8, .inl a1_length_f))] t.heap ∧ va_K (dC, dI) classes (TY cy) t ∧ va_D A [(a1, .inr (8, [.ref a1_file, .int a1_size, .ref a1_at, .ref a1_length, .int a1_units, .int a1_form, .int a1_glyphs, .int a1_ascent, .int a1_descent, .int a1_gap, .int a1_metrics, .int a1_map, .int a1_mapLength, .int a1_segments, .ref a1_done, .ref a1_depth, .ref a1_parts, .ref a1_contours, .ref a1_points, .ref a1_x, .ref a1_y, .ref a1_on, .ref a1_contour])), (a1_file, .inl (cy 1, 4096, .inl a1_file_f)), (a1_at, .inl (cy 0, 8, .inl a1_at_f)), (a1_length, .inl (cy 0, 8, .inl a1_length_f))]) A) args s 0 0 A) (F0 m 7 ls []) := by
  have key : ∀ (n : Nat) (x1 : Int32) (x2 : Int32) (x3 : Int32) (H : Heap) (locs : List Loc) (ls : Array Slot), lp (L_Mo_glyphOf_7 a1_glyphs a1_map a1_mapLength a1_segments a1_file_f) n (x1, x2, x3) = some uu → va_P (dC, dI) classes [(a1, .inr (8, [.ref a1_file, .int a1_size, .ref a1_at, .ref a1_length, .int a1_units, .int a1_form, .int a1_glyphs, .int a1_ascent, .int a1_descent, .int a1_gap, .int a1_metrics, .int a1_map, .int a1_mapLength, .int a1_segments, .ref a1_done, .ref a1_depth, .ref a1_parts, .ref a1_contours, .ref a1_points, .ref a1_x, .ref a1_y, .ref a1_on, .ref a1_contour])), (a1_file, .inl (cy 1, 4096, .inl a1_file_f)), (a1_at, .inl (cy 0, 8, .inl a1_at_f)), (a1_length, .inl (cy 0, 8, .inl a1_length_f))] H → va_D A [(a1, .inr (8, [.ref a1_file, .int a1_size, .ref a1_at, .ref a1_length, .int a1_units, .int a1_form, .int a1_glyphs, .int a1_ascent, .int a1_descent, .int a1_gap, .int a1_metrics, .int a1_map, .int a1_mapLength, .int a1_segments, .ref a1_done, .ref a1_depth, .ref a1_parts, .ref a1_contours, .ref a1_points, .ref a1_x, .ref a1_y, .ref a1_on, .ref a1_contour])), (a1_file, .inl (cy 1, 4096, .inl a1_file_f)), (a1_at, .inl (cy 0, 8, .inl a1_at_f)), (a1_length, .inl (cy 0, 8, .inl a1_length_f))] → va_S A s.heap H locs → lv_has ls 10 [(0, .ref a1), (1, .int x1), (2, .int x2), (3, .int x3)] → W p l e ({ frames := 1, cells := 0, slots := 0, locals := 21 } : Room) s m args below meth c H locs 0 0 (MQ below (va_Qi (fun r (_ : Unit) => r = uu) (fun _ t => va_P (dC, dI) classes [(a1, .inr (8, [.ref a1_file, .int a1_size, .ref a1_at, .ref a1_length, .int a1_units, .int a1_form, .int a1_glyphs, .int a1_ascent, .int a1_descent, .int a1_gap, .int a1_metrics, .int a1_map, .int a1_mapLength, .int a1_segments, .ref a1_done, .ref a1_depth, .ref a1_parts, .ref a1_contours, .ref a1_points, .ref a1_x, .ref a1_y, .ref a1_on, .ref a1_contour])), (a1_file, .inl (cy 1, 4096, .inl a1_file_f)), (a1_at, .inl (cy 0, 8, .inl a1_at_f)), (a1_length, .inl (cy 0, 8, .inl a1_length_f))] t.heap ∧ va_K (dC, dI) classes (TY cy) t ∧ va_D A [(a1, .inr (8, [.ref a1_file, .int a1_size, .ref a1_at, .ref a1_length, .int a1_units, .int a1_form, .int a1_glyphs, .int a1_ascent, .int a1_descent, .int a1_gap, .int a1_metrics, .int a1_map, .int a1_mapLength, .int a1_segments, .ref a1_done, .ref a1_depth, .ref a1_parts, .ref a1_contours, .ref a1_points, .ref a1_x, .ref a1_y, .ref a1_on, .ref a1_contour])), (a1_file, .inl (cy 1, 4096, .inl a1_file_f)), (a1_at, .inl (cy 0, 8, .inl a1_at_f)), (a1_length, .inl (cy 0, 8, .inl a1_length_f))]) A) args s 0 0 A) (F0 m 7 ls []) := by
    intro n
    induction n with
    | zero => intro x1 x2 x3 H locs ls h; cases h
    | succ n ih => intro x1 x2 x3 H locs ls h; exact w_Mo_glyphOf_7b C0 a1 a1_file a1_at a1_length a1_done a1_depth a1_parts a1_contours a1_points a1_x a1_y a1_on a1_contour a1_size a1_units a1_form a1_glyphs a1_ascent a1_descent a1_gap a1_metrics a1_map a1_mapLength a1_segments a1_file_f a1_at_f a1_length_f a2 uu  (lp (L_Mo_glyphOf_7 a1_glyphs a1_map a1_mapLength a1_segments a1_file_f) n) ih x1 x2 x3 ((e_Mo_glyphOf_7 a1_glyphs a1_map a1_mapLength a1_segments a1_file_f n x1 x2 x3).symm.trans h)
  exact key fuel x1 x2 x3 H locs ls h
def P_Mo_glyphOf (a1_glyphs : Int32) (a1_map : Int32) (a1_mapLength : Int32) (a1_segments : Int32) (a1_file_f : Nat → Int32) (a2 : Int32) : Option (Int32) :=
  P_Mo_glyphOf_7 a1_glyphs a1_map a1_mapLength a1_segments a1_file_f a2 a1_segments (0 : Int32)
set_option maxHeartbeats 4000000 in
set_option maxRecDepth 100000 in
theorem c_Mo_glyphOf (l : Launch) (dC : Nat → ClassId) (dI : Nat → Nat → Nat) (cy : Nat → ClassId) (sz : Nat) (a1 : Nat) (a1_file : Nat) (a1_at : Nat) (a1_length : Nat) (a1_done : Nat) (a1_depth : Nat) (a1_parts : Nat) (a1_contours : Nat) (a1_points : Nat) (a1_x : Nat) (a1_y : Nat) (a1_on : Nat) (a1_contour : Nat) (a1_size : Int32) (a1_units : Int32) (a1_form : Int32) (a1_glyphs : Int32) (a1_ascent : Int32) (a1_descent : Int32) (a1_gap : Int32) (a1_metrics : Int32) (a1_map : Int32) (a1_mapLength : Int32) (a1_segments : Int32) (a1_file_f : Nat → Int32) (a1_at_f : Nat → Int32) (a1_length_f : Nat → Int32) (a2 : Int32) (uu : Int32) (h : P_Mo_glyphOf a1_glyphs a1_map a1_mapLength a1_segments a1_file_f a2 = some uu) : Met l y_Mo_glyphOf (Cond.code y_Mo_glyphOf b_Mo_glyphOf 10 (some .int) :: G) ({ frames := 1, cells := 0, slots := 0, locals := 21 } : Room) (va_Pc [.ref a1, .int a2] (fun U => U.heap.size = sz ∧ va_P (dC, dI) classes [(a1, .inr (8, [.ref a1_file, .int a1_size, .ref a1_at, .ref a1_length, .int a1_units, .int a1_form, .int a1_glyphs, .int a1_ascent, .int a1_descent, .int a1_gap, .int a1_metrics, .int a1_map, .int a1_mapLength, .int a1_segments, .ref a1_done, .ref a1_depth, .ref a1_parts, .ref a1_contours, .ref a1_points, .ref a1_x, .ref a1_y, .ref a1_on, .ref a1_contour])), (a1_file, .inl (cy 1, 4096, .inl a1_file_f)), (a1_at, .inl (cy 0, 8, .inl a1_at_f)), (a1_length, .inl (cy 0, 8, .inl a1_length_f))] U.heap ∧ va_K (dC, dI) classes (TY cy) U ∧ va_D (fun _ => True) [(a1, .inr (8, [.ref a1_file, .int a1_size, .ref a1_at, .ref a1_length, .int a1_units, .int a1_form, .int a1_glyphs, .int a1_ascent, .int a1_descent, .int a1_gap, .int a1_metrics, .int a1_map, .int a1_mapLength, .int a1_segments, .ref a1_done, .ref a1_depth, .ref a1_parts, .ref a1_contours, .ref a1_points, .ref a1_x, .ref a1_y, .ref a1_on, .ref a1_contour])), (a1_file, .inl (cy 1, 4096, .inl a1_file_f)), (a1_at, .inl (cy 0, 8, .inl a1_at_f)), (a1_length, .inl (cy 0, 8, .inl a1_length_f))])) (va_Qi (fun r (_ : Unit) => r = uu) (fun _ t => va_P (dC, dI) classes [(a1, .inr (8, [.ref a1_file, .int a1_size, .ref a1_at, .ref a1_length, .int a1_units, .int a1_form, .int a1_glyphs, .int a1_ascent, .int a1_descent, .int a1_gap, .int a1_metrics, .int a1_map, .int a1_mapLength, .int a1_segments, .ref a1_done, .ref a1_depth, .ref a1_parts, .ref a1_contours, .ref a1_points, .ref a1_x, .ref a1_y, .ref a1_on, .ref a1_contour])), (a1_file, .inl (cy 1, 4096, .inl a1_file_f)), (a1_at, .inl (cy 0, 8, .inl a1_at_f)), (a1_length, .inl (cy 0, 8, .inl a1_length_f))] t.heap ∧ va_K (dC, dI) classes (TY cy) t ∧ va_D (va_A [(a1, .inr (8, [.ref a1_file, .int a1_size, .ref a1_at, .ref a1_length, .int a1_units, .int a1_form, .int a1_glyphs, .int a1_ascent, .int a1_descent, .int a1_gap, .int a1_metrics, .int a1_map, .int a1_mapLength, .int a1_segments, .ref a1_done, .ref a1_depth, .ref a1_parts, .ref a1_contours, .ref a1_points, .ref a1_x, .ref a1_y, .ref a1_on, .ref a1_contour])), (a1_file, .inl (cy 1, 4096, .inl a1_file_f)), (a1_at, .inl (cy 0, 8, .inl a1_at_f)), (a1_length, .inl (cy 0, 8, .inl a1_length_f))] sz) [(a1, .inr (8, [.ref a1_file, .int a1_size, .ref a1_at, .ref a1_length, .int a1_units, .int a1_form, .int a1_glyphs, .int a1_ascent, .int a1_descent, .int a1_gap, .int a1_metrics, .int a1_map, .int a1_mapLength, .int a1_segments, .ref a1_done, .ref a1_depth, .ref a1_parts, .ref a1_contours, .ref a1_points, .ref a1_x, .ref a1_y, .ref a1_on, .ref a1_contour])), (a1_file, .inl (cy 1, 4096, .inl a1_file_f)), (a1_at, .inl (cy 0, 8, .inl a1_at_f)), (a1_length, .inl (cy 0, 8, .inl a1_length_f))]) (va_A [(a1, .inr (8, [.ref a1_file, .int a1_size, .ref a1_at, .ref a1_length, .int a1_units, .int a1_form, .int a1_glyphs, .int a1_ascent, .int a1_descent, .int a1_gap, .int a1_metrics, .int a1_map, .int a1_mapLength, .int a1_segments, .ref a1_done, .ref a1_depth, .ref a1_parts, .ref a1_contours, .ref a1_points, .ref a1_x, .ref a1_y, .ref a1_on, .ref a1_contour])), (a1_file, .inl (cy 1, 4096, .inl a1_file_f)), (a1_at, .inl (cy 0, 8, .inl a1_at_f)), (a1_length, .inl (cy 0, 8, .inl a1_length_f))] sz)) 0 0 (va_A [(a1, .inr (8, [.ref a1_file, .int a1_size, .ref a1_at, .ref a1_length, .int a1_units, .int a1_form, .int a1_glyphs, .int a1_ascent, .int a1_descent, .int a1_gap, .int a1_metrics, .int a1_map, .int a1_mapLength, .int a1_segments, .ref a1_done, .ref a1_depth, .ref a1_parts, .ref a1_contours, .ref a1_points, .ref a1_x, .ref a1_y, .ref a1_on, .ref a1_contour])), (a1_file, .inl (cy 1, 4096, .inl a1_file_f)), (a1_at, .inl (cy 0, 8, .inl a1_at_f)), (a1_length, .inl (cy 0, 8, .inl a1_length_f))] sz) := by
  refine Met.ofW (cc := b_Mo_glyphOf) (maxL := 10) (ret := (some .int)) (by decide) rfl ?_
  intro p e s m args below meth c s₁ B hml hv
  obtain ⟨rfl, hsz, hP, hK, hD0⟩ := hv
  have hx := B.exec
  have hb := B.bytes
  have hr := B.returns
  have hts := atoms_spec (ws := Cond.code y_Mo_glyphOf b_Mo_glyphOf 10 (some .int) :: G) B.pre
  have htsG : ∀ w ∈ G, w.before _ s = true := fun w hw => hts w (List.mem_cons_of_mem _ hw)
  have hown : s.vm.findClass "GlyphPageModel" = some m.cls := findClass_of_methodNamed B.named
  have hlocks := B.notSynchronized
  subst hsz
  have hD := hD0.self (sz := s.heap.size)
  generalize hAe : va_A [(a1, .inr (8, [.ref a1_file, .int a1_size, .ref a1_at, .ref a1_length, .int a1_units, .int a1_form, .int a1_glyphs, .int a1_ascent, .int a1_descent, .int a1_gap, .int a1_metrics, .int a1_map, .int a1_mapLength, .int a1_segments, .ref a1_done, .ref a1_depth, .ref a1_parts, .ref a1_contours, .ref a1_points, .ref a1_x, .ref a1_y, .ref a1_on, .ref a1_contour])), (a1_file, .inl (cy 1, 4096, .inl a1_file_f)), (a1_at, .inl (cy 0, 8, .inl a1_at_f)), (a1_length, .inl (cy 0, 8, .inl a1_length_f))] s.heap.size = A at hD ⊢
  have hA : ∀ q : Nat, s.heap.size ≤ q → A q := fun q h => by rw [← hAe]; exact Or.inr h
  have hS : va_S A s.heap s.heap [] := va_S.rf
  have hl := lv_entry ([.ref a1, .int a2]) (n := 10) (Nat.le_of_ble_eq_true rfl)
  rw [lg_entry_eq]
  generalize (lg_sl ([.ref a1, .int a2]) ++ List.replicate (10 - (lg_sl ([.ref a1, .int a2])).length) Slot.unset).toArray = ls at hl ⊢
  have hl : lv_has ls 10 [(0, .ref a1), (1, .int a2)] := hl
  have C0 : Cx p s m _ meth c A dC dI cy b_Mo_glyphOf 10 (some .int) "GlyphPageModel" := ⟨hx, hb, hr, hlocks, hml, hown, htsG, hA, hK⟩
  unfold P_Mo_glyphOf at h
  refine lv_aload_n hx hb d_Mo_glyphOf_0 rfl (lv_at hl 0 rfl) ?_
  refine va_get (D := (dC, dI)) (ci := 8) (v := .int a1_segments) (C := "GlyphPageModel$Font") (T := F_Mf) (N := 23) hx hb htsG iG_Mf hown hK hP 0 rfl rfl 13 (by decide) (htsG _ mW790) (fun _ h9 => h9) rfl d_Mo_glyphOf_1 ?_
  refine lv_istore_n (lv' := [(2, .int a1_segments), (0, .ref a1), (1, .int a2)]) hx hb d_Mo_glyphOf_4 rfl hl (by decide) rfl (fun ls hl => ?_)
  refine lv_iconst (v := (0 : Int32)) hx hb d_Mo_glyphOf_5 (by decide) ?_
  refine lv_istore_n (lv' := [(3, .int (0 : Int32)), (2, .int a1_segments), (0, .ref a1), (1, .int a2)]) hx hb d_Mo_glyphOf_6 rfl hl (by decide) rfl (fun ls hl => ?_)
  exact w_Mo_glyphOf_7 C0 a1 a1_file a1_at a1_length a1_done a1_depth a1_parts a1_contours a1_points a1_x a1_y a1_on a1_contour a1_size a1_units a1_form a1_glyphs a1_ascent a1_descent a1_gap a1_metrics a1_map a1_mapLength a1_segments a1_file_f a1_at_f a1_length_f a2 uu  a2 a1_segments (0 : Int32) h hP hD hS (lv_sub hl [2, 3, 1, 0] rfl)
def P_Mo_kern_fZ_146 (a1_units : Int32) (a1_file_f : Nat → Int32) (a1_at_f : Nat → Int32) (a1_length_f : Nat → Int32) (z103 : Int32 × Int32 × Int32 → Option (Int32)) (x1 : Int32) (x3 : Int32) (x4 : Int32) : Option (Int32) :=
  (P_Mf_signed a1_file_f ((x1 + (22 : Int32)) + ((6 : Int32) * x4))).bind fun r_1 => (P_Jm_abs_II r_1).bind fun r_2 => if r_2 ≤ ((8 : Int32) * a1_units) then (z103 (x1, x3, (x4 + (1 : Int32)))) else (some (0 : Int32))
set_option maxHeartbeats 4000000 in
set_option maxRecDepth 100000 in
theorem w_Mo_kern_fZ_146 (C0 : Cx p s m args meth c A dC dI cy b_Mo_kern_fZ 5 (some .boolean) "GlyphPageModel") (a1 : Nat) (a1_file : Nat) (a1_at : Nat) (a1_length : Nat) (a1_done : Nat) (a1_depth : Nat) (a1_parts : Nat) (a1_contours : Nat) (a1_points : Nat) (a1_x : Nat) (a1_y : Nat) (a1_on : Nat) (a1_contour : Nat) (a1_size : Int32) (a1_units : Int32) (a1_form : Int32) (a1_glyphs : Int32) (a1_ascent : Int32) (a1_descent : Int32) (a1_gap : Int32) (a1_metrics : Int32) (a1_map : Int32) (a1_mapLength : Int32) (a1_segments : Int32) (a1_file_f : Nat → Int32) (a1_at_f : Nat → Int32) (a1_length_f : Nat → Int32) (uu : Int32) (z103 : Int32 × Int32 × Int32 → Option (Int32)) (hz103 : ∀ (x1 : Int32) (x3 : Int32) (x4 : Int32) (H : Heap) (locs : List Loc) (ls : Array Slot), z103 (x1, x3, x4) = some uu → va_P (dC, dI) classes [(a1, .inr (8, [.ref a1_file, .int a1_size, .ref a1_at, .ref a1_length, .int a1_units, .int a1_form, .int a1_glyphs, .int a1_ascent, .int a1_descent, .int a1_gap, .int a1_metrics, .int a1_map, .int a1_mapLength, .int a1_segments, .ref a1_done, .ref a1_depth, .ref a1_parts, .ref a1_contours, .ref a1_points, .ref a1_x, .ref a1_y, .ref a1_on, .ref a1_contour])), (a1_file, .inl (cy 1, 4096, .inl a1_file_f)), (a1_at, .inl (cy 0, 8, .inl a1_at_f)), (a1_length, .inl (cy 0, 8, .inl a1_length_f))] H → va_D A [(a1, .inr (8, [.ref a1_file, .int a1_size, .ref a1_at, .ref a1_length, .int a1_units, .int a1_form, .int a1_glyphs, .int a1_ascent, .int a1_descent, .int a1_gap, .int a1_metrics, .int a1_map, .int a1_mapLength, .int a1_segments, .ref a1_done, .ref a1_depth, .ref a1_parts, .ref a1_contours, .ref a1_points, .ref a1_x, .ref a1_y, .ref a1_on, .ref a1_contour])), (a1_file, .inl (cy 1, 4096, .inl a1_file_f)), (a1_at, .inl (cy 0, 8, .inl a1_at_f)), (a1_length, .inl (cy 0, 8, .inl a1_length_f))] → va_S A s.heap H locs → lv_has ls 5 [(0, .ref a1), (1, .int x1), (3, .int x3), (4, .int x4)] → W p l e ({ frames := 2, cells := 0, slots := 0, locals := 42 } : Room) s m args below meth c H locs 0 0 (MQ below (va_Qi (fun r (_ : Unit) => r = uu) (fun _ t => va_P (dC, dI) classes [(a1, .inr (8, [.ref a1_file, .int a1_size, .ref a1_at, .ref a1_length, .int a1_units, .int a1_form, .int a1_glyphs, .int a1_ascent, .int a1_descent, .int a1_gap, .int a1_metrics, .int a1_map, .int a1_mapLength, .int a1_segments, .ref a1_done, .ref a1_depth, .ref a1_parts, .ref a1_contours, .ref a1_points, .ref a1_x, .ref a1_y, .ref a1_on, .ref a1_contour])), (a1_file, .inl (cy 1, 4096, .inl a1_file_f)), (a1_at, .inl (cy 0, 8, .inl a1_at_f)), (a1_length, .inl (cy 0, 8, .inl a1_length_f))] t.heap ∧ va_K (dC, dI) classes (TY cy) t ∧ va_D A [(a1, .inr (8, [.ref a1_file, .int a1_size, .ref a1_at, .ref a1_length, .int a1_units, .int a1_form, .int a1_glyphs, .int a1_ascent, .int a1_descent, .int a1_gap, .int a1_metrics, .int a1_map, .int a1_mapLength, .int a1_segments, .ref a1_done, .ref a1_depth, .ref a1_parts, .ref a1_contours, .ref a1_points, .ref a1_x, .ref a1_y, .ref a1_on, .ref a1_contour])), (a1_file, .inl (cy 1, 4096, .inl a1_file_f)), (a1_at, .inl (cy 0, 8, .inl a1_at_f)), (a1_length, .inl (cy 0, 8, .inl a1_length_f))]) A) args s 0 0 A) (F0 m 103 ls [])) (x1 : Int32) (x3 : Int32) (x4 : Int32) {H : Heap} {locs : List Loc} {ls : Array Slot} (h : P_Mo_kern_fZ_146 a1_units a1_file_f a1_at_f a1_length_f z103 x1 x3 x4 = some uu) : va_P (dC, dI) classes [(a1, .inr (8, [.ref a1_file, .int a1_size, .ref a1_at, .ref a1_length, .int a1_units, .int a1_form, .int a1_glyphs, .int a1_ascent, .int a1_descent, .int a1_gap, .int a1_metrics, .int a1_map, .int a1_mapLength, .int a1_segments, .ref a1_done, .ref a1_depth, .ref a1_parts, .ref a1_contours, .ref a1_points, .ref a1_x, .ref a1_y, .ref a1_on, .ref a1_contour])), (a1_file, .inl (cy 1, 4096, .inl a1_file_f)), (a1_at, .inl (cy 0, 8, .inl a1_at_f)), (a1_length, .inl (cy 0, 8, .inl a1_length_f))] H → va_D A [(a1, .inr (8, [.ref a1_file, .int a1_size, .ref a1_at, .ref a1_length, .int a1_units, .int a1_form, .int a1_glyphs, .int a1_ascent, .int a1_descent, .int a1_gap, .int a1_metrics, .int a1_map, .int a1_mapLength, .int a1_segments, .ref a1_done, .ref a1_depth, .ref a1_parts, .ref a1_contours, .ref a1_points, .ref a1_x, .ref a1_y, .ref a1_on, .ref a1_contour])), (a1_file, .inl (cy 1, 4096, .inl a1_file_f)), (a1_at, .inl (cy 0, 8, .inl a1_at_f)), (a1_length, .inl (cy 0, 8, .inl a1_length_f))] → va_S A s.heap H locs → lv_has ls 5 [(0, .ref a1), (1, .int x1), (3, .int x3), (4, .int x4)] → W p l e ({ frames := 2, cells := 0, slots := 0, locals := 42 } : Room) s m args below meth c H locs 0 0 (MQ below (va_Qi (fun r (_ : Unit) => r = uu) (fun _ t => va_P (dC, dI) classes [(a1, .inr (8, [.ref a1_file, .int a1_size, .ref a1_at, .ref a1_length, .int a1_units, .int a1_form, .int a1_glyphs, .int a1_ascent, .int a1_descent, .int a1_gap, .int a1_metrics, .int a1_map, .int a1_mapLength, .int a1_segments, .ref a1_done, .ref a1_depth, .ref a1_parts, .ref a1_contours, .ref a1_points, .ref a1_x, .ref a1_y, .ref a1_on, .ref a1_contour])), (a1_file, .inl (cy 1, 4096, .inl a1_file_f)), (a1_at, .inl (cy 0, 8, .inl a1_at_f)), (a1_length, .inl (cy 0, 8, .inl a1_length_f))] t.heap ∧ va_K (dC, dI) classes (TY cy) t ∧ va_D A [(a1, .inr (8, [.ref a1_file, .int a1_size, .ref a1_at, .ref a1_length, .int a1_units, .int a1_form, .int a1_glyphs, .int a1_ascent, .int a1_descent, .int a1_gap, .int a1_metrics, .int a1_map, .int a1_mapLength, .int a1_segments, .ref a1_done, .ref a1_depth, .ref a1_parts, .ref a1_contours, .ref a1_points, .ref a1_x, .ref a1_y, .ref a1_on, .ref a1_contour])), (a1_file, .inl (cy 1, 4096, .inl a1_file_f)), (a1_at, .inl (cy 0, 8, .inl a1_at_f)), (a1_length, .inl (cy 0, 8, .inl a1_length_f))]) A) args s 0 0 A) (F0 m 146 ls []) := by
  intro hP hD hS hl
  obtain ⟨hx, hb, hr, hlocks, hml, hown, htsG, hA, hK⟩ := id C0
  unfold P_Mo_kern_fZ_146 at h
  refine lv_aload_n hx hb d_Mo_kern_fZ_146 rfl (lv_at hl 0 rfl) ?_
  refine lv_iload_n hx hb d_Mo_kern_fZ_147 rfl (lv_at hl 1 rfl) ?_
  refine lv_bipush (v := (22 : Int32)) hx hb d_Mo_kern_fZ_148 (by decide) ?_
  refine lv_iadd hx hb d_Mo_kern_fZ_150 ?_
  refine lv_bipush (v := (6 : Int32)) hx hb d_Mo_kern_fZ_151 (by decide) ?_
  refine lv_iload hx hb d_Mo_kern_fZ_153 (lv_at hl 3 rfl) ?_
  refine lv_imul hx hb d_Mo_kern_fZ_155 ?_
  refine lv_iadd hx hb d_Mo_kern_fZ_156 ?_
  obtain ⟨r_1, hq, h⟩ := Option.bind_eq_some_iff.mp h
  try dsimp only at h
  have hPc := hP.sub (ws' := [(a1, .inr (8, [.ref a1_file, .int a1_size, .ref a1_at, .ref a1_length, .int a1_units, .int a1_form, .int a1_glyphs, .int a1_ascent, .int a1_descent, .int a1_gap, .int a1_metrics, .int a1_map, .int a1_mapLength, .int a1_segments, .ref a1_done, .ref a1_depth, .ref a1_parts, .ref a1_contours, .ref a1_points, .ref a1_x, .ref a1_y, .ref a1_on, .ref a1_contour])), (a1_file, .inl (cy 1, 4096, .inl a1_file_f))]) [0, 1] rfl
  have hDc := hD.sub (ws' := [(a1, .inr (8, [.ref a1_file, .int a1_size, .ref a1_at, .ref a1_length, .int a1_units, .int a1_form, .int a1_glyphs, .int a1_ascent, .int a1_descent, .int a1_gap, .int a1_metrics, .int a1_map, .int a1_mapLength, .int a1_segments, .ref a1_done, .ref a1_depth, .ref a1_parts, .ref a1_contours, .ref a1_points, .ref a1_x, .ref a1_y, .ref a1_on, .ref a1_contour])), (a1_file, .inl (cy 1, 4096, .inl a1_file_f))]) [0, 1] (by decide) rfl
  have hFc := va_free (wc := [(a1, .inr (8, [.ref a1_file, .int a1_size, .ref a1_at, .ref a1_length, .int a1_units, .int a1_form, .int a1_glyphs, .int a1_ascent, .int a1_descent, .int a1_gap, .int a1_metrics, .int a1_map, .int a1_mapLength, .int a1_segments, .ref a1_done, .ref a1_depth, .ref a1_parts, .ref a1_contours, .ref a1_points, .ref a1_x, .ref a1_y, .ref a1_on, .ref a1_contour])), (a1_file, .inl (cy 1, 4096, .inl a1_file_f))]) hD hS hA [0, 1] rfl
  refine va_calli (va_runV (As := [.int ((x1 + (22 : Int32)) + ((6 : Int32) * x4))]) (rest := []) ⟨hx, hb, hml, hown, htsG⟩ (c_Mf_signed l dC dI cy H.size a1 a1_file a1_at a1_length a1_done a1_depth a1_parts a1_contours a1_points a1_x a1_y a1_on a1_contour a1_size a1_units a1_form a1_glyphs a1_ascent a1_descent a1_gap a1_metrics a1_map a1_mapLength a1_segments a1_file_f ((x1 + (22 : Int32)) + ((6 : Int32) * x4)) r_1 hq) (cwV 1 htsG (gV mW976 mW977 mW978 mW10 mW979) rfl rfl rfl (by decide +kernel) ⟨Nat.le_of_ble_eq_true rfl, Nat.le_of_ble_eq_true rfl⟩) ⟨fun a U g mk q => by obtain ⟨q0, q1, qP, qK, qD⟩ := q; exact ⟨q0, q1, qP, va_K.moved (u := U) (U := U.calling g mk a) (Vm.Alike.refl U.vm) qK, qD⟩, va_recv hK hPc (ci := 8) (q0 := 0) rfl rfl, fun U hU hW => ⟨rfl, by rw [hU], by rw [hU]; exact hPc, va_K.moved hW.alike hK, hDc.weaken (fun _ _ _ _ => trivial)⟩⟩ rfl rfl hl.1 rfl (lv_room (Nat.le_of_ble_eq_true rfl)) d_Mo_kern_fZ_157 ⟨Nat.le_of_ble_eq_true rfl, Nat.le_of_ble_eq_true rfl⟩) hS (fun q _ h => hFc q h) hFc (fun rr u t H1 locs ht hvm hw hB hz1 hk1 hS => ?_)
  obtain ⟨hP1, hK1, hD1⟩ := hB
  rw [ht] at hP1
  replace hw : r_1 = rr := hw.symm
  subst hw
  obtain ⟨hP, hD⟩ := va_join (wr := [(a1_at, .inl (cy 0, 8, .inl a1_at_f)), (a1_length, .inl (cy 0, 8, .inl a1_length_f))]) (w1 := [(a1, .inr (8, [.ref a1_file, .int a1_size, .ref a1_at, .ref a1_length, .int a1_units, .int a1_form, .int a1_glyphs, .int a1_ascent, .int a1_descent, .int a1_gap, .int a1_metrics, .int a1_map, .int a1_mapLength, .int a1_segments, .ref a1_done, .ref a1_depth, .ref a1_parts, .ref a1_contours, .ref a1_points, .ref a1_x, .ref a1_y, .ref a1_on, .ref a1_contour])), (a1_file, .inl (cy 1, 4096, .inl a1_file_f))]) hP hD [0, 1] [2, 3] rfl rfl (by decide) (by decide) hk1 hFc hP1 hD1
  generalize H1 = H at hP hS ⊢
  have hP := hP.sub (ws' := [(a1, .inr (8, [.ref a1_file, .int a1_size, .ref a1_at, .ref a1_length, .int a1_units, .int a1_form, .int a1_glyphs, .int a1_ascent, .int a1_descent, .int a1_gap, .int a1_metrics, .int a1_map, .int a1_mapLength, .int a1_segments, .ref a1_done, .ref a1_depth, .ref a1_parts, .ref a1_contours, .ref a1_points, .ref a1_x, .ref a1_y, .ref a1_on, .ref a1_contour])), (a1_file, .inl (cy 1, 4096, .inl a1_file_f)), (a1_at, .inl (cy 0, 8, .inl a1_at_f)), (a1_length, .inl (cy 0, 8, .inl a1_length_f))]) [2, 3, 0, 1] rfl
  have hD := hD.sub (ws' := [(a1, .inr (8, [.ref a1_file, .int a1_size, .ref a1_at, .ref a1_length, .int a1_units, .int a1_form, .int a1_glyphs, .int a1_ascent, .int a1_descent, .int a1_gap, .int a1_metrics, .int a1_map, .int a1_mapLength, .int a1_segments, .ref a1_done, .ref a1_depth, .ref a1_parts, .ref a1_contours, .ref a1_points, .ref a1_x, .ref a1_y, .ref a1_on, .ref a1_contour])), (a1_file, .inl (cy 1, 4096, .inl a1_file_f)), (a1_at, .inl (cy 0, 8, .inl a1_at_f)), (a1_length, .inl (cy 0, 8, .inl a1_length_f))]) [2, 3, 0, 1] (by decide) rfl
  refine W.widen (k := 0) (n := 0) (by decide) (by decide) ?_
  obtain ⟨r_2, hq, h⟩ := Option.bind_eq_some_iff.mp h
  try dsimp only at h
  have hPc := hP.sub (ws' := []) [] rfl
  have hDc := hD.sub (ws' := []) [] (by decide) rfl
  have hFc := va_free (wc := []) hD hS hA [] rfl
  refine va_calli (va_runS (As := [.int r_1]) (rest := []) ⟨hx, hb, hml, hown, htsG⟩ (c_Jm_abs_II l dC dI cy H.size r_1 r_2 hq) (va_cwS 1 htsG (gS mW980 mW981 mW8 mW982) rfl rfl rfl (by decide +kernel) ⟨Nat.le_of_ble_eq_true rfl, Nat.le_of_ble_eq_true rfl⟩) ⟨fun a U g mk q => by obtain ⟨q0, q1, qP, qK, qD⟩ := q; exact ⟨q0, q1, qP, va_K.moved (u := U) (U := U.calling g mk a) (Vm.Alike.refl U.vm) qK, qD⟩, fun U hU hW => ⟨rfl, by rw [hU], by rw [hU]; exact hPc, va_K.moved hW.alike hK, hDc.weaken (fun _ _ _ _ => trivial)⟩⟩ rfl rfl hl.1 rfl (lv_room (Nat.le_of_ble_eq_true rfl)) d_Mo_kern_fZ_160 ⟨Nat.le_of_ble_eq_true rfl, Nat.le_of_ble_eq_true rfl⟩) hS (fun q _ h => hFc q h) hFc (fun rr u t H1 locs ht hvm hw hB hz1 hk1 hS => ?_)
  obtain ⟨hP1, hK1, hD1⟩ := hB
  rw [ht] at hP1
  replace hw : r_2 = rr := hw.symm
  subst hw
  obtain ⟨hP, hD⟩ := va_join (wr := [(a1, .inr (8, [.ref a1_file, .int a1_size, .ref a1_at, .ref a1_length, .int a1_units, .int a1_form, .int a1_glyphs, .int a1_ascent, .int a1_descent, .int a1_gap, .int a1_metrics, .int a1_map, .int a1_mapLength, .int a1_segments, .ref a1_done, .ref a1_depth, .ref a1_parts, .ref a1_contours, .ref a1_points, .ref a1_x, .ref a1_y, .ref a1_on, .ref a1_contour])), (a1_file, .inl (cy 1, 4096, .inl a1_file_f)), (a1_at, .inl (cy 0, 8, .inl a1_at_f)), (a1_length, .inl (cy 0, 8, .inl a1_length_f))]) (w1 := []) hP hD [] [0, 1, 2, 3] rfl rfl (by decide) (by decide) hk1 hFc hP1 hD1
  generalize H1 = H at hP hS ⊢
  have hP := hP.sub (ws' := [(a1, .inr (8, [.ref a1_file, .int a1_size, .ref a1_at, .ref a1_length, .int a1_units, .int a1_form, .int a1_glyphs, .int a1_ascent, .int a1_descent, .int a1_gap, .int a1_metrics, .int a1_map, .int a1_mapLength, .int a1_segments, .ref a1_done, .ref a1_depth, .ref a1_parts, .ref a1_contours, .ref a1_points, .ref a1_x, .ref a1_y, .ref a1_on, .ref a1_contour])), (a1_file, .inl (cy 1, 4096, .inl a1_file_f)), (a1_at, .inl (cy 0, 8, .inl a1_at_f)), (a1_length, .inl (cy 0, 8, .inl a1_length_f))]) [0, 1, 2, 3] rfl
  have hD := hD.sub (ws' := [(a1, .inr (8, [.ref a1_file, .int a1_size, .ref a1_at, .ref a1_length, .int a1_units, .int a1_form, .int a1_glyphs, .int a1_ascent, .int a1_descent, .int a1_gap, .int a1_metrics, .int a1_map, .int a1_mapLength, .int a1_segments, .ref a1_done, .ref a1_depth, .ref a1_parts, .ref a1_contours, .ref a1_points, .ref a1_x, .ref a1_y, .ref a1_on, .ref a1_contour])), (a1_file, .inl (cy 1, 4096, .inl a1_file_f)), (a1_at, .inl (cy 0, 8, .inl a1_at_f)), (a1_length, .inl (cy 0, 8, .inl a1_length_f))]) [0, 1, 2, 3] (by decide) rfl
  refine W.widen (k := 0) (n := 0) (by decide) (by decide) ?_
  refine lv_bipush (v := (8 : Int32)) hx hb d_Mo_kern_fZ_163 (by decide) ?_
  refine lv_aload_n hx hb d_Mo_kern_fZ_165 rfl (lv_at hl 0 rfl) ?_
  refine va_get (D := (dC, dI)) (ci := 8) (v := .int a1_units) (C := "GlyphPageModel$Font") (T := F_Mf) (N := 23) hx hb htsG iG_Mf hown hK hP 0 rfl rfl 4 (by decide) (htsG _ mW781) (fun _ h9 => h9) rfl d_Mo_kern_fZ_166 ?_
  refine lv_imul hx hb d_Mo_kern_fZ_169 ?_
  refine lv_icmp_le (tgt := 175) hx hb d_Mo_kern_fZ_170 (by decide) (fun c_3 => ?_) (fun c_3 => ?_)
  · replace h := (if_pos c_3).symm.trans h
    refine lv_iinc (v := (x4 + (1 : Int32))) (lv' := [(4, .int (x4 + (1 : Int32))), (0, .ref a1), (1, .int x1), (3, .int x3)]) hx hb d_Mo_kern_fZ_175 hl (k := 3) rfl rfl (by decide) rfl (fun ls hl => ?_)
    refine lv_goto (tgt := 103) hx hb d_Mo_kern_fZ_178 (by decide) ?_
    exact hz103 x1 x3 (x4 + (1 : Int32)) _ _ _ h hP hD hS (lv_sub hl [1, 2, 3, 0] rfl)
  · replace h := (if_neg c_3).symm.trans h
    refine lv_iconst (v := (0 : Int32)) hx hb d_Mo_kern_fZ_173 (by decide) ?_
    cases h
    exact W.zret (ty := .boolean) hx hb hr rfl (fun t ht hW => ⟨⟨_, (), rfl, rfl, by rw [ht]; exact hP, va_K.moved hW.alike hK, hD⟩, hS.F ht⟩) hS.2.2 d_Mo_kern_fZ_174 hlocks
def P_Mo_kern_fZ_103b (a1_units : Int32) (a1_file_f : Nat → Int32) (a1_at_f : Nat → Int32) (a1_length_f : Nat → Int32)  (z103 : Int32 × Int32 × Int32 → Option (Int32)) (x1 : Int32) (x3 : Int32) (x4 : Int32) : Option (Int32) :=
  if x3 ≤ x4 then (some (1 : Int32)) else (if x4 ≤ 0 then (P_Mo_kern_fZ_146 a1_units a1_file_f a1_at_f a1_length_f z103 x1 x3 x4) else ((P_Mf_big a1_file_f ((x1 + (18 : Int32)) + ((6 : Int32) * x4))).bind fun r_3 => (P_Mf_big a1_file_f ((x1 + (12 : Int32)) + ((6 : Int32) * x4))).bind fun r_4 => if (lg_cmp r_3 r_4) ≤ 0 then (some (0 : Int32)) else (P_Mo_kern_fZ_146 a1_units a1_file_f a1_at_f a1_length_f z103 x1 x3 x4)))
def L_Mo_kern_fZ_103 (a1_units : Int32) (a1_file_f : Nat → Int32) (a1_at_f : Nat → Int32) (a1_length_f : Nat → Int32)  : (Int32 × Int32 × Int32 → Option (Int32)) → (Int32 × Int32 × Int32) → Option (Int32) :=
  fun z => unp fun x1 => unp fun x3 x4 => P_Mo_kern_fZ_103b a1_units a1_file_f a1_at_f a1_length_f z x1 x3 x4
def P_Mo_kern_fZ_103 (a1_units : Int32) (a1_file_f : Nat → Int32) (a1_at_f : Nat → Int32) (a1_length_f : Nat → Int32)  (x1 : Int32) (x3 : Int32) (x4 : Int32) : Option (Int32) :=
  lp (L_Mo_kern_fZ_103 a1_units a1_file_f a1_at_f a1_length_f) fuel (x1, x3, x4)
theorem e_Mo_kern_fZ_103 (a1_units : Int32) (a1_file_f : Nat → Int32) (a1_at_f : Nat → Int32) (a1_length_f : Nat → Int32)  (n : Nat) (x1 : Int32) (x3 : Int32) (x4 : Int32) : lp (L_Mo_kern_fZ_103 a1_units a1_file_f a1_at_f a1_length_f) (n + 1) (x1, x3, x4) = P_Mo_kern_fZ_103b a1_units a1_file_f a1_at_f a1_length_f (lp (L_Mo_kern_fZ_103 a1_units a1_file_f a1_at_f a1_length_f) n) x1 x3 x4 := rfl
set_option maxHeartbeats 4000000 in
set_option maxRecDepth 100000 in
theorem w_Mo_kern_fZ_103b (C0 : Cx p s m args meth c A dC dI cy b_Mo_kern_fZ 5 (some .boolean) "GlyphPageModel") (a1 : Nat) (a1_file : Nat) (a1_at : Nat) (a1_length : Nat) (a1_done : Nat) (a1_depth : Nat) (a1_parts : Nat) (a1_contours : Nat) (a1_points : Nat) (a1_x : Nat) (a1_y : Nat) (a1_on : Nat) (a1_contour : Nat) (a1_size : Int32) (a1_units : Int32) (a1_form : Int32) (a1_glyphs : Int32) (a1_ascent : Int32) (a1_descent : Int32) (a1_gap : Int32) (a1_metrics : Int32) (a1_map : Int32) (a1_mapLength : Int32) (a1_segments : Int32) (a1_file_f : Nat → Int32) (a1_at_f : Nat → Int32) (a1_length_f : Nat → Int32) (uu : Int32)  (z103 : Int32 × Int32 × Int32 → Option (Int32)) (hz103 : ∀ (x1 : Int32) (x3 : Int32) (x4 : Int32) (H : Heap) (locs : List Loc) (ls : Array Slot), z103 (x1, x3, x4) = some uu → va_P (dC, dI) classes [(a1, .inr (8, [.ref a1_file, .int a1_size, .ref a1_at, .ref a1_length, .int a1_units, .int a1_form, .int a1_glyphs, .int a1_ascent, .int a1_descent, .int a1_gap, .int a1_metrics, .int a1_map, .int a1_mapLength, .int a1_segments, .ref a1_done, .ref a1_depth, .ref a1_parts, .ref a1_contours, .ref a1_points, .ref a1_x, .ref a1_y, .ref a1_on, .ref a1_contour])), (a1_file, .inl (cy 1, 4096, .inl a1_file_f)), (a1_at, .inl (cy 0, 8, .inl a1_at_f)), (a1_length, .inl (cy 0, 8, .inl a1_length_f))] H → va_D A [(a1, .inr (8, [.ref a1_file, .int a1_size, .ref a1_at, .ref a1_length, .int a1_units, .int a1_form, .int a1_glyphs, .int a1_ascent, .int a1_descent, .int a1_gap, .int a1_metrics, .int a1_map, .int a1_mapLength, .int a1_segments, .ref a1_done, .ref a1_depth, .ref a1_parts, .ref a1_contours, .ref a1_points, .ref a1_x, .ref a1_y, .ref a1_on, .ref a1_contour])), (a1_file, .inl (cy 1, 4096, .inl a1_file_f)), (a1_at, .inl (cy 0, 8, .inl a1_at_f)), (a1_length, .inl (cy 0, 8, .inl a1_length_f))] → va_S A s.heap H locs → lv_has ls 5 [(0, .ref a1), (1, .int x1), (3, .int x3), (4, .int x4)] → W p l e ({ frames := 2, cells := 0, slots := 0, locals := 42 } : Room) s m args below meth c H locs 0 0 (MQ below (va_Qi (fun r (_ : Unit) => r = uu) (fun _ t => va_P (dC, dI) classes [(a1, .inr (8, [.ref a1_file, .int a1_size, .ref a1_at, .ref a1_length, .int a1_units, .int a1_form, .int a1_glyphs, .int a1_ascent, .int a1_descent, .int a1_gap, .int a1_metrics, .int a1_map, .int a1_mapLength, .int a1_segments, .ref a1_done, .ref a1_depth, .ref a1_parts, .ref a1_contours, .ref a1_points, .ref a1_x, .ref a1_y, .ref a1_on, .ref a1_contour])), (a1_file, .inl (cy 1, 4096, .inl a1_file_f)), (a1_at, .inl (cy 0, 8, .inl a1_at_f)), (a1_length, .inl (cy 0, 8, .inl a1_length_f))] t.heap ∧ va_K (dC, dI) classes (TY cy) t ∧ va_D A [(a1, .inr (8, [.ref a1_file, .int a1_size, .ref a1_at, .ref a1_length, .int a1_units, .int a1_form, .int a1_glyphs, .int a1_ascent, .int a1_descent, .int a1_gap, .int a1_metrics, .int a1_map, .int a1_mapLength, .int a1_segments, .ref a1_done, .ref a1_depth, .ref a1_parts, .ref a1_contours, .ref a1_points, .ref a1_x, .ref a1_y, .ref a1_on, .ref a1_contour])), (a1_file, .inl (cy 1, 4096, .inl a1_file_f)), (a1_at, .inl (cy 0, 8, .inl a1_at_f)), (a1_length, .inl (cy 0, 8, .inl a1_length_f))]) A) args s 0 0 A) (F0 m 103 ls [])) (x1 : Int32) (x3 : Int32) (x4 : Int32) {H : Heap} {locs : List Loc} {ls : Array Slot} (h : P_Mo_kern_fZ_103b a1_units a1_file_f a1_at_f a1_length_f z103 x1 x3 x4 = some uu) : va_P (dC, dI) classes [(a1, .inr (8, [.ref a1_file, .int a1_size, .ref a1_at, .ref a1_length, .int a1_units, .int a1_form, .int a1_glyphs, .int a1_ascent, .int a1_descent, .int a1_gap, .int a1_metrics, .int a1_map, .int a1_mapLength, .int a1_segments, .ref a1_done, .ref a1_depth, .ref a1_parts, .ref a1_contours, .ref a1_points, .ref a1_x, .ref a1_y, .ref a1_on, .ref a1_contour])), (a1_file, .inl (cy 1, 4096, .inl a1_file_f)), (a1_at, .inl (cy 0, 8, .inl a1_at_f)), (a1_length, .inl (cy 0, 8, .inl a1_length_f))] H → va_D A [(a1, .inr (8, [.ref a1_file, .int a1_size, .ref a1_at, .ref a1_length, .int a1_units, .int a1_form, .int a1_glyphs, .int a1_ascent, .int a1_descent, .int a1_gap, .int a1_metrics, .int a1_map, .int a1_mapLength, .int a1_segments, .ref a1_done, .ref a1_depth, .ref a1_parts, .ref a1_contours, .ref a1_points, .ref a1_x, .ref a1_y, .ref a1_on, .ref a1_contour])), (a1_file, .inl (cy 1, 4096, .inl a1_file_f)), (a1_at, .inl (cy 0, 8, .inl a1_at_f)), (a1_length, .inl (cy 0, 8, .inl a1_length_f))] → va_S A s.heap H locs → lv_has ls 5 [(0, .ref a1), (1, .int x1), (3, .int x3), (4, .int x4)] → W p l e ({ frames := 2, cells := 0, slots := 0, locals := 42 } : Room) s m args below meth c H locs 0 0 (MQ below (va_Qi (fun r (_ : Unit) => r = uu) (fun _ t => va_P (dC, dI) classes [(a1, .inr (8, [.ref a1_file, .int a1_size, .ref a1_at, .ref a1_length, .int a1_units, .int a1_form, .int a1_glyphs, .int a1_ascent, .int a1_descent, .int a1_gap, .int a1_metrics, .int a1_map, .int a1_mapLength, .int a1_segments, .ref a1_done, .ref a1_depth, .ref a1_parts, .ref a1_contours, .ref a1_points, .ref a1_x, .ref a1_y, .ref a1_on, .ref a1_contour])), (a1_file, .inl (cy 1, 4096, .inl a1_file_f)), (a1_at, .inl (cy 0, 8, .inl a1_at_f)), (a1_length, .inl (cy 0, 8, .inl a1_length_f))] t.heap ∧ va_K (dC, dI) classes (TY cy) t ∧ va_D A [(a1, .inr (8, [.ref a1_file, .int a1_size, .ref a1_at, .ref a1_length, .int a1_units, .int a1_form, .int a1_glyphs, .int a1_ascent, .int a1_descent, .int a1_gap, .int a1_metrics, .int a1_map, .int a1_mapLength, .int a1_segments, .ref a1_done, .ref a1_depth, .ref a1_parts, .ref a1_contours, .ref a1_points, .ref a1_x, .ref a1_y, .ref a1_on, .ref a1_contour])), (a1_file, .inl (cy 1, 4096, .inl a1_file_f)), (a1_at, .inl (cy 0, 8, .inl a1_at_f)), (a1_length, .inl (cy 0, 8, .inl a1_length_f))]) A) args s 0 0 A) (F0 m 103 ls []) := by
  intro hP hD hS hl
  obtain ⟨hx, hb, hr, hlocks, hml, hown, htsG, hA, hK⟩ := id C0
  unfold P_Mo_kern_fZ_103b at h
  refine lv_iload hx hb d_Mo_kern_fZ_103 (lv_at hl 3 rfl) ?_
  refine lv_iload_n hx hb d_Mo_kern_fZ_105 rfl (lv_at hl 2 rfl) ?_
  refine lv_icmp_ge (tgt := 181) hx hb d_Mo_kern_fZ_106 (by decide) (fun c_1 => ?_) (fun c_1 => ?_)
  · replace h := (if_pos c_1).symm.trans h
    refine lv_iconst (v := (1 : Int32)) hx hb d_Mo_kern_fZ_181 (by decide) ?_
    cases h
    exact W.zret (ty := .boolean) hx hb hr rfl (fun t ht hW => ⟨⟨_, (), rfl, rfl, by rw [ht]; exact hP, va_K.moved hW.alike hK, hD⟩, hS.F ht⟩) hS.2.2 d_Mo_kern_fZ_182 hlocks
  · replace h := (if_neg c_1).symm.trans h
    refine lv_iload hx hb d_Mo_kern_fZ_109 (lv_at hl 3 rfl) ?_
    refine lv_if_le (tgt := 146) hx hb d_Mo_kern_fZ_111 (by decide) (fun c_2 => ?_) (fun c_2 => ?_)
    · replace h := (if_pos c_2).symm.trans h
      exact w_Mo_kern_fZ_146 C0 a1 a1_file a1_at a1_length a1_done a1_depth a1_parts a1_contours a1_points a1_x a1_y a1_on a1_contour a1_size a1_units a1_form a1_glyphs a1_ascent a1_descent a1_gap a1_metrics a1_map a1_mapLength a1_segments a1_file_f a1_at_f a1_length_f uu z103 hz103 x1 x3 x4 h hP hD hS (lv_sub hl [0, 1, 2, 3] rfl)
    · replace h := (if_neg c_2).symm.trans h
      refine lv_aload_n hx hb d_Mo_kern_fZ_114 rfl (lv_at hl 0 rfl) ?_
      refine lv_iload_n hx hb d_Mo_kern_fZ_115 rfl (lv_at hl 1 rfl) ?_
      refine lv_bipush (v := (18 : Int32)) hx hb d_Mo_kern_fZ_116 (by decide) ?_
      refine lv_iadd hx hb d_Mo_kern_fZ_118 ?_
      refine lv_bipush (v := (6 : Int32)) hx hb d_Mo_kern_fZ_119 (by decide) ?_
      refine lv_iload hx hb d_Mo_kern_fZ_121 (lv_at hl 3 rfl) ?_
      refine lv_imul hx hb d_Mo_kern_fZ_123 ?_
      refine lv_iadd hx hb d_Mo_kern_fZ_124 ?_
      obtain ⟨r_3, hq, h⟩ := Option.bind_eq_some_iff.mp h
      try dsimp only at h
      have hPc := hP.sub (ws' := [(a1, .inr (8, [.ref a1_file, .int a1_size, .ref a1_at, .ref a1_length, .int a1_units, .int a1_form, .int a1_glyphs, .int a1_ascent, .int a1_descent, .int a1_gap, .int a1_metrics, .int a1_map, .int a1_mapLength, .int a1_segments, .ref a1_done, .ref a1_depth, .ref a1_parts, .ref a1_contours, .ref a1_points, .ref a1_x, .ref a1_y, .ref a1_on, .ref a1_contour])), (a1_file, .inl (cy 1, 4096, .inl a1_file_f))]) [0, 1] rfl
      have hDc := hD.sub (ws' := [(a1, .inr (8, [.ref a1_file, .int a1_size, .ref a1_at, .ref a1_length, .int a1_units, .int a1_form, .int a1_glyphs, .int a1_ascent, .int a1_descent, .int a1_gap, .int a1_metrics, .int a1_map, .int a1_mapLength, .int a1_segments, .ref a1_done, .ref a1_depth, .ref a1_parts, .ref a1_contours, .ref a1_points, .ref a1_x, .ref a1_y, .ref a1_on, .ref a1_contour])), (a1_file, .inl (cy 1, 4096, .inl a1_file_f))]) [0, 1] (by decide) rfl
      have hFc := va_free (wc := [(a1, .inr (8, [.ref a1_file, .int a1_size, .ref a1_at, .ref a1_length, .int a1_units, .int a1_form, .int a1_glyphs, .int a1_ascent, .int a1_descent, .int a1_gap, .int a1_metrics, .int a1_map, .int a1_mapLength, .int a1_segments, .ref a1_done, .ref a1_depth, .ref a1_parts, .ref a1_contours, .ref a1_points, .ref a1_x, .ref a1_y, .ref a1_on, .ref a1_contour])), (a1_file, .inl (cy 1, 4096, .inl a1_file_f))]) hD hS hA [0, 1] rfl
      refine va_calll (va_runV (As := [.int ((x1 + (18 : Int32)) + ((6 : Int32) * x4))]) (rest := []) ⟨hx, hb, hml, hown, htsG⟩ (c_Mf_big l dC dI cy H.size a1 a1_file a1_at a1_length a1_done a1_depth a1_parts a1_contours a1_points a1_x a1_y a1_on a1_contour a1_size a1_units a1_form a1_glyphs a1_ascent a1_descent a1_gap a1_metrics a1_map a1_mapLength a1_segments a1_file_f ((x1 + (18 : Int32)) + ((6 : Int32) * x4)) r_3 hq) (cwV 1 htsG (gV mW952 mW953 mW954 mW10 mW955) rfl rfl rfl (by decide +kernel) ⟨Nat.le_of_ble_eq_true rfl, Nat.le_of_ble_eq_true rfl⟩) ⟨fun a U g mk q => by obtain ⟨q0, q1, qP, qK, qD⟩ := q; exact ⟨q0, q1, qP, va_K.moved (u := U) (U := U.calling g mk a) (Vm.Alike.refl U.vm) qK, qD⟩, va_recv hK hPc (ci := 8) (q0 := 0) rfl rfl, fun U hU hW => ⟨rfl, by rw [hU], by rw [hU]; exact hPc, va_K.moved hW.alike hK, hDc.weaken (fun _ _ _ _ => trivial)⟩⟩ rfl rfl hl.1 rfl (lv_room (Nat.le_of_ble_eq_true rfl)) d_Mo_kern_fZ_125 ⟨Nat.le_of_ble_eq_true rfl, Nat.le_of_ble_eq_true rfl⟩) hS (fun q _ h => hFc q h) hFc (fun rr u t H1 locs ht hvm hw hB hz1 hk1 hS => ?_)
      obtain ⟨hP1, hK1, hD1⟩ := hB
      rw [ht] at hP1
      replace hw : r_3 = rr := hw.symm
      subst hw
      obtain ⟨hP, hD⟩ := va_join (wr := [(a1_at, .inl (cy 0, 8, .inl a1_at_f)), (a1_length, .inl (cy 0, 8, .inl a1_length_f))]) (w1 := [(a1, .inr (8, [.ref a1_file, .int a1_size, .ref a1_at, .ref a1_length, .int a1_units, .int a1_form, .int a1_glyphs, .int a1_ascent, .int a1_descent, .int a1_gap, .int a1_metrics, .int a1_map, .int a1_mapLength, .int a1_segments, .ref a1_done, .ref a1_depth, .ref a1_parts, .ref a1_contours, .ref a1_points, .ref a1_x, .ref a1_y, .ref a1_on, .ref a1_contour])), (a1_file, .inl (cy 1, 4096, .inl a1_file_f))]) hP hD [0, 1] [2, 3] rfl rfl (by decide) (by decide) hk1 hFc hP1 hD1
      generalize H1 = H at hP hS ⊢
      have hP := hP.sub (ws' := [(a1, .inr (8, [.ref a1_file, .int a1_size, .ref a1_at, .ref a1_length, .int a1_units, .int a1_form, .int a1_glyphs, .int a1_ascent, .int a1_descent, .int a1_gap, .int a1_metrics, .int a1_map, .int a1_mapLength, .int a1_segments, .ref a1_done, .ref a1_depth, .ref a1_parts, .ref a1_contours, .ref a1_points, .ref a1_x, .ref a1_y, .ref a1_on, .ref a1_contour])), (a1_file, .inl (cy 1, 4096, .inl a1_file_f)), (a1_at, .inl (cy 0, 8, .inl a1_at_f)), (a1_length, .inl (cy 0, 8, .inl a1_length_f))]) [2, 3, 0, 1] rfl
      have hD := hD.sub (ws' := [(a1, .inr (8, [.ref a1_file, .int a1_size, .ref a1_at, .ref a1_length, .int a1_units, .int a1_form, .int a1_glyphs, .int a1_ascent, .int a1_descent, .int a1_gap, .int a1_metrics, .int a1_map, .int a1_mapLength, .int a1_segments, .ref a1_done, .ref a1_depth, .ref a1_parts, .ref a1_contours, .ref a1_points, .ref a1_x, .ref a1_y, .ref a1_on, .ref a1_contour])), (a1_file, .inl (cy 1, 4096, .inl a1_file_f)), (a1_at, .inl (cy 0, 8, .inl a1_at_f)), (a1_length, .inl (cy 0, 8, .inl a1_length_f))]) [2, 3, 0, 1] (by decide) rfl
      refine W.widen (k := 0) (n := 0) (by decide) (by decide) ?_
      refine lv_aload_n hx hb d_Mo_kern_fZ_128 rfl (lv_at hl 0 rfl) ?_
      refine lv_iload_n hx hb d_Mo_kern_fZ_129 rfl (lv_at hl 1 rfl) ?_
      refine lv_bipush (v := (12 : Int32)) hx hb d_Mo_kern_fZ_130 (by decide) ?_
      refine lv_iadd hx hb d_Mo_kern_fZ_132 ?_
      refine lv_bipush (v := (6 : Int32)) hx hb d_Mo_kern_fZ_133 (by decide) ?_
      refine lv_iload hx hb d_Mo_kern_fZ_135 (lv_at hl 3 rfl) ?_
      refine lv_imul hx hb d_Mo_kern_fZ_137 ?_
      refine lv_iadd hx hb d_Mo_kern_fZ_138 ?_
      obtain ⟨r_4, hq, h⟩ := Option.bind_eq_some_iff.mp h
      try dsimp only at h
      have hPc := hP.sub (ws' := [(a1, .inr (8, [.ref a1_file, .int a1_size, .ref a1_at, .ref a1_length, .int a1_units, .int a1_form, .int a1_glyphs, .int a1_ascent, .int a1_descent, .int a1_gap, .int a1_metrics, .int a1_map, .int a1_mapLength, .int a1_segments, .ref a1_done, .ref a1_depth, .ref a1_parts, .ref a1_contours, .ref a1_points, .ref a1_x, .ref a1_y, .ref a1_on, .ref a1_contour])), (a1_file, .inl (cy 1, 4096, .inl a1_file_f))]) [0, 1] rfl
      have hDc := hD.sub (ws' := [(a1, .inr (8, [.ref a1_file, .int a1_size, .ref a1_at, .ref a1_length, .int a1_units, .int a1_form, .int a1_glyphs, .int a1_ascent, .int a1_descent, .int a1_gap, .int a1_metrics, .int a1_map, .int a1_mapLength, .int a1_segments, .ref a1_done, .ref a1_depth, .ref a1_parts, .ref a1_contours, .ref a1_points, .ref a1_x, .ref a1_y, .ref a1_on, .ref a1_contour])), (a1_file, .inl (cy 1, 4096, .inl a1_file_f))]) [0, 1] (by decide) rfl
      have hFc := va_free (wc := [(a1, .inr (8, [.ref a1_file, .int a1_size, .ref a1_at, .ref a1_length, .int a1_units, .int a1_form, .int a1_glyphs, .int a1_ascent, .int a1_descent, .int a1_gap, .int a1_metrics, .int a1_map, .int a1_mapLength, .int a1_segments, .ref a1_done, .ref a1_depth, .ref a1_parts, .ref a1_contours, .ref a1_points, .ref a1_x, .ref a1_y, .ref a1_on, .ref a1_contour])), (a1_file, .inl (cy 1, 4096, .inl a1_file_f))]) hD hS hA [0, 1] rfl
      refine va_calll (va_runV (As := [.int ((x1 + (12 : Int32)) + ((6 : Int32) * x4))]) (rest := [.long r_3]) ⟨hx, hb, hml, hown, htsG⟩ (c_Mf_big l dC dI cy H.size a1 a1_file a1_at a1_length a1_done a1_depth a1_parts a1_contours a1_points a1_x a1_y a1_on a1_contour a1_size a1_units a1_form a1_glyphs a1_ascent a1_descent a1_gap a1_metrics a1_map a1_mapLength a1_segments a1_file_f ((x1 + (12 : Int32)) + ((6 : Int32) * x4)) r_4 hq) (cwV 1 htsG (gV mW952 mW953 mW954 mW10 mW955) rfl rfl rfl (by decide +kernel) ⟨Nat.le_of_ble_eq_true rfl, Nat.le_of_ble_eq_true rfl⟩) ⟨fun a U g mk q => by obtain ⟨q0, q1, qP, qK, qD⟩ := q; exact ⟨q0, q1, qP, va_K.moved (u := U) (U := U.calling g mk a) (Vm.Alike.refl U.vm) qK, qD⟩, va_recv hK hPc (ci := 8) (q0 := 0) rfl rfl, fun U hU hW => ⟨rfl, by rw [hU], by rw [hU]; exact hPc, va_K.moved hW.alike hK, hDc.weaken (fun _ _ _ _ => trivial)⟩⟩ rfl rfl hl.1 rfl (lv_room (Nat.le_of_ble_eq_true rfl)) d_Mo_kern_fZ_139 ⟨Nat.le_of_ble_eq_true rfl, Nat.le_of_ble_eq_true rfl⟩) hS (fun q _ h => hFc q h) hFc (fun rr u t H1 locs ht hvm hw hB hz1 hk1 hS => ?_)
      obtain ⟨hP1, hK1, hD1⟩ := hB
      rw [ht] at hP1
      replace hw : r_4 = rr := hw.symm
      subst hw
      obtain ⟨hP, hD⟩ := va_join (wr := [(a1_at, .inl (cy 0, 8, .inl a1_at_f)), (a1_length, .inl (cy 0, 8, .inl a1_length_f))]) (w1 := [(a1, .inr (8, [.ref a1_file, .int a1_size, .ref a1_at, .ref a1_length, .int a1_units, .int a1_form, .int a1_glyphs, .int a1_ascent, .int a1_descent, .int a1_gap, .int a1_metrics, .int a1_map, .int a1_mapLength, .int a1_segments, .ref a1_done, .ref a1_depth, .ref a1_parts, .ref a1_contours, .ref a1_points, .ref a1_x, .ref a1_y, .ref a1_on, .ref a1_contour])), (a1_file, .inl (cy 1, 4096, .inl a1_file_f))]) hP hD [0, 1] [2, 3] rfl rfl (by decide) (by decide) hk1 hFc hP1 hD1
      generalize H1 = H at hP hS ⊢
      have hP := hP.sub (ws' := [(a1, .inr (8, [.ref a1_file, .int a1_size, .ref a1_at, .ref a1_length, .int a1_units, .int a1_form, .int a1_glyphs, .int a1_ascent, .int a1_descent, .int a1_gap, .int a1_metrics, .int a1_map, .int a1_mapLength, .int a1_segments, .ref a1_done, .ref a1_depth, .ref a1_parts, .ref a1_contours, .ref a1_points, .ref a1_x, .ref a1_y, .ref a1_on, .ref a1_contour])), (a1_file, .inl (cy 1, 4096, .inl a1_file_f)), (a1_at, .inl (cy 0, 8, .inl a1_at_f)), (a1_length, .inl (cy 0, 8, .inl a1_length_f))]) [2, 3, 0, 1] rfl
      have hD := hD.sub (ws' := [(a1, .inr (8, [.ref a1_file, .int a1_size, .ref a1_at, .ref a1_length, .int a1_units, .int a1_form, .int a1_glyphs, .int a1_ascent, .int a1_descent, .int a1_gap, .int a1_metrics, .int a1_map, .int a1_mapLength, .int a1_segments, .ref a1_done, .ref a1_depth, .ref a1_parts, .ref a1_contours, .ref a1_points, .ref a1_x, .ref a1_y, .ref a1_on, .ref a1_contour])), (a1_file, .inl (cy 1, 4096, .inl a1_file_f)), (a1_at, .inl (cy 0, 8, .inl a1_at_f)), (a1_length, .inl (cy 0, 8, .inl a1_length_f))]) [2, 3, 0, 1] (by decide) rfl
      refine W.widen (k := 0) (n := 0) (by decide) (by decide) ?_
      refine W.lcmp hx hb d_Mo_kern_fZ_142 ?_
      refine lv_if_le (tgt := 173) hx hb d_Mo_kern_fZ_143 (by decide) (fun c_5 => ?_) (fun c_5 => ?_)
      · replace h := (if_pos c_5).symm.trans h
        refine lv_iconst (v := (0 : Int32)) hx hb d_Mo_kern_fZ_173 (by decide) ?_
        cases h
        exact W.zret (ty := .boolean) hx hb hr rfl (fun t ht hW => ⟨⟨_, (), rfl, rfl, by rw [ht]; exact hP, va_K.moved hW.alike hK, hD⟩, hS.F ht⟩) hS.2.2 d_Mo_kern_fZ_174 hlocks
      · replace h := (if_neg c_5).symm.trans h
        exact w_Mo_kern_fZ_146 C0 a1 a1_file a1_at a1_length a1_done a1_depth a1_parts a1_contours a1_points a1_x a1_y a1_on a1_contour a1_size a1_units a1_form a1_glyphs a1_ascent a1_descent a1_gap a1_metrics a1_map a1_mapLength a1_segments a1_file_f a1_at_f a1_length_f uu z103 hz103 x1 x3 x4 h hP hD hS (lv_sub hl [0, 1, 2, 3] rfl)
theorem w_Mo_kern_fZ_103 (C0 : Cx p s m args meth c A dC dI cy b_Mo_kern_fZ 5 (some .boolean) "GlyphPageModel") (a1 : Nat) (a1_file : Nat) (a1_at : Nat) (a1_length : Nat) (a1_done : Nat) (a1_depth : Nat) (a1_parts : Nat) (a1_contours : Nat) (a1_points : Nat) (a1_x : Nat) (a1_y : Nat) (a1_on : Nat) (a1_contour : Nat) (a1_size : Int32) (a1_units : Int32) (a1_form : Int32) (a1_glyphs : Int32) (a1_ascent : Int32) (a1_descent : Int32) (a1_gap : Int32) (a1_metrics : Int32) (a1_map : Int32) (a1_mapLength : Int32) (a1_segments : Int32) (a1_file_f : Nat → Int32) (a1_at_f : Nat → Int32) (a1_length_f : Nat → Int32) (uu : Int32)  (x1 : Int32) (x3 : Int32) (x4 : Int32) {H : Heap} {locs : List Loc} {ls : Array Slot} (h : P_Mo_kern_fZ_103 a1_units a1_file_f a1_at_f a1_length_f x1 x3 x4 = some uu) : va_P (dC, dI) classes [(a1, .inr (8, [.ref a1_file, .int a1_size, .ref a1_at, .ref a1_length, .int a1_units, .int a1_form, .int a1_glyphs, .int a1_ascent, .int a1_descent, .int a1_gap, .int a1_metrics, .int a1_map, .int a1_mapLength, .int a1_segments, .ref a1_done, .ref a1_depth, .ref a1_parts, .ref a1_contours, .ref a1_points, .ref a1_x, .ref a1_y, .ref a1_on, .ref a1_contour])), (a1_file, .inl (cy 1, 4096, .inl a1_file_f)), (a1_at, .inl (cy 0, 8, .inl a1_at_f)), (a1_length, .inl (cy 0, 8, .inl a1_length_f))] H → va_D A [(a1, .inr (8, [.ref a1_file, .int a1_size, .ref a1_at, .ref a1_length, .int a1_units, .int a1_form, .int a1_glyphs, .int a1_ascent, .int a1_descent, .int a1_gap, .int a1_metrics, .int a1_map, .int a1_mapLength, .int a1_segments, .ref a1_done, .ref a1_depth, .ref a1_parts, .ref a1_contours, .ref a1_points, .ref a1_x, .ref a1_y, .ref a1_on, .ref a1_contour])), (a1_file, .inl (cy 1, 4096, .inl a1_file_f)), (a1_at, .inl (cy 0, 8, .inl a1_at_f)), (a1_length, .inl (cy 0, 8, .inl a1_length_f))] → va_S A s.heap H locs → lv_has ls 5 [(0, .ref a1), (1, .int x1), (3, .int x3), (4, .int x4)] → W p l e ({ frames := 2, cells := 0, slots := 0, locals := 42 } : Room) s m args below meth c H locs 0 0 (MQ below (va_Qi (fun r (_ : Unit) => r = uu) (fun _ t => va_P (dC, dI) classes [(a1, .inr (8, [.ref a1_file, .int a1_size, .ref a1_at, .ref a1_length, .int a1_units, .int a1_form, .int a1_glyphs, .int a1_ascent, .int a1_descent, .int a1_gap, .int a1_metrics, .int a1_map, .int a1_mapLength, .int a1_segments, .ref a1_done, .ref a1_depth, .ref a1_parts, .ref a1_contours, .ref a1_points, .ref a1_x, .ref a1_y, .ref a1_on, .ref a1_contour])), (a1_file, .inl (cy 1, 4096, .inl a1_file_f)), (a1_at, .inl (cy 0, 8, .inl a1_at_f)), (a1_length, .inl (cy 0, 8, .inl a1_length_f))] t.heap ∧ va_K (dC, dI) classes (TY cy) t ∧ va_D A [(a1, .inr (8, [.ref a1_file, .int a1_size, .ref a1_at, .ref a1_length, .int a1_units, .int a1_form, .int a1_glyphs, .int a1_ascent, .int a1_descent, .int a1_gap, .int a1_metrics, .int a1_map, .int a1_mapLength, .int a1_segments, .ref a1_done, .ref a1_depth, .ref a1_parts, .ref a1_contours, .ref a1_points, .ref a1_x, .ref a1_y, .ref a1_on, .ref a1_contour])), (a1_file, .inl (cy 1, 4096, .inl a1_file_f)), (a1_at, .inl (cy 0, 8, .inl a1_at_f)), (a1_length, .inl (cy 0, 8, .inl a1_length_f))]) A) args s 0 0 A) (F0 m 103 ls []) := by
  have key : ∀ (n : Nat) (x1 : Int32) (x3 : Int32) (x4 : Int32) (H : Heap) (locs : List Loc) (ls : Array Slot), lp (L_Mo_kern_fZ_103 a1_units a1_file_f a1_at_f a1_length_f) n (x1, x3, x4) = some uu → va_P (dC, dI) classes [(a1, .inr (8, [.ref a1_file, .int a1_size, .ref a1_at, .ref a1_length, .int a1_units, .int a1_form, .int a1_glyphs, .int a1_ascent, .int a1_descent, .int a1_gap, .int a1_metrics, .int a1_map, .int a1_mapLength, .int a1_segments, .ref a1_done, .ref a1_depth, .ref a1_parts, .ref a1_contours, .ref a1_points, .ref a1_x, .ref a1_y, .ref a1_on, .ref a1_contour])), (a1_file, .inl (cy 1, 4096, .inl a1_file_f)), (a1_at, .inl (cy 0, 8, .inl a1_at_f)), (a1_length, .inl (cy 0, 8, .inl a1_length_f))] H → va_D A [(a1, .inr (8, [.ref a1_file, .int a1_size, .ref a1_at, .ref a1_length, .int a1_units, .int a1_form, .int a1_glyphs, .int a1_ascent, .int a1_descent, .int a1_gap, .int a1_metrics, .int a1_map, .int a1_mapLength, .int a1_segments, .ref a1_done, .ref a1_depth, .ref a1_parts, .ref a1_contours, .ref a1_points, .ref a1_x, .ref a1_y, .ref a1_on, .ref a1_contour])), (a1_file, .inl (cy 1, 4096, .inl a1_file_f)), (a1_at, .inl (cy 0, 8, .inl a1_at_f)), (a1_length, .inl (cy 0, 8, .inl a1_length_f))] → va_S A s.heap H locs → lv_has ls 5 [(0, .ref a1), (1, .int x1), (3, .int x3), (4, .int x4)] → W p l e ({ frames := 2, cells := 0, slots := 0, locals := 42 } : Room) s m args below meth c H locs 0 0 (MQ below (va_Qi (fun r (_ : Unit) => r = uu) (fun _ t => va_P (dC, dI) classes [(a1, .inr (8, [.ref a1_file, .int a1_size, .ref a1_at, .ref a1_length, .int a1_units, .int a1_form, .int a1_glyphs, .int a1_ascent, .int a1_descent, .int a1_gap, .int a1_metrics, .int a1_map, .int a1_mapLength, .int a1_segments, .ref a1_done, .ref a1_depth, .ref a1_parts, .ref a1_contours, .ref a1_points, .ref a1_x, .ref a1_y, .ref a1_on, .ref a1_contour])), (a1_file, .inl (cy 1, 4096, .inl a1_file_f)), (a1_at, .inl (cy 0, 8, .inl a1_at_f)), (a1_length, .inl (cy 0, 8, .inl a1_length_f))] t.heap ∧ va_K (dC, dI) classes (TY cy) t ∧ va_D A [(a1, .inr (8, [.ref a1_file, .int a1_size, .ref a1_at, .ref a1_length, .int a1_units, .int a1_form, .int a1_glyphs, .int a1_ascent, .int a1_descent, .int a1_gap, .int a1_metrics, .int a1_map, .int a1_mapLength, .int a1_segments, .ref a1_done, .ref a1_depth, .ref a1_parts, .ref a1_contours, .ref a1_points, .ref a1_x, .ref a1_y, .ref a1_on, .ref a1_contour])), (a1_file, .inl (cy 1, 4096, .inl a1_file_f)), (a1_at, .inl (cy 0, 8, .inl a1_at_f)), (a1_length, .inl (cy 0, 8, .inl a1_length_f))]) A) args s 0 0 A) (F0 m 103 ls []) := by
    intro n
    induction n with
    | zero => intro x1 x3 x4 H locs ls h; cases h
    | succ n ih => intro x1 x3 x4 H locs ls h; exact w_Mo_kern_fZ_103b C0 a1 a1_file a1_at a1_length a1_done a1_depth a1_parts a1_contours a1_points a1_x a1_y a1_on a1_contour a1_size a1_units a1_form a1_glyphs a1_ascent a1_descent a1_gap a1_metrics a1_map a1_mapLength a1_segments a1_file_f a1_at_f a1_length_f uu  (lp (L_Mo_kern_fZ_103 a1_units a1_file_f a1_at_f a1_length_f) n) ih x1 x3 x4 ((e_Mo_kern_fZ_103 a1_units a1_file_f a1_at_f a1_length_f n x1 x3 x4).symm.trans h)
  exact key fuel x1 x3 x4 H locs ls h
def P_Mo_kern_fZ (a1_units : Int32) (a1_file_f : Nat → Int32) (a1_at_f : Nat → Int32) (a1_length_f : Nat → Int32)  : Option (Int32) :=
  bd (5 : Int32) 8 <| if 0 ≤ (a1_at_f (5 : Int32).toNatClampNeg) then (bd (5 : Int32) 8 <| if (a1_length_f (5 : Int32).toNatClampNeg) < (18 : Int32) then (some (0 : Int32)) else ((P_Mf_two a1_file_f (a1_at_f (5 : Int32).toNatClampNeg)).bind fun r_5 => if r_5 = 0 then ((P_Mf_two a1_file_f ((a1_at_f (5 : Int32).toNatClampNeg) + (2 : Int32))).bind fun r_7 => if r_7 < (1 : Int32) then (some (0 : Int32)) else ((P_Mf_two a1_file_f ((a1_at_f (5 : Int32).toNatClampNeg) + (8 : Int32))).bind fun r_9 => if r_9 = (1 : Int32) then ((P_Mf_two a1_file_f ((a1_at_f (5 : Int32).toNatClampNeg) + (6 : Int32))).bind fun r_11 => (P_Mf_two a1_file_f ((a1_at_f (5 : Int32).toNatClampNeg) + (10 : Int32))).bind fun r_12 => if r_11 < ((14 : Int32) + ((6 : Int32) * r_12)) then (some (0 : Int32)) else (bd (5 : Int32) 8 <| if ((4 : Int32) + r_11) ≤ (a1_length_f (5 : Int32).toNatClampNeg) then (P_Mo_kern_fZ_103 a1_units a1_file_f a1_at_f a1_length_f (a1_at_f (5 : Int32).toNatClampNeg) r_12 (0 : Int32)) else (some (0 : Int32)))) else (some (0 : Int32)))) else (some (0 : Int32)))) else (some (1 : Int32))
set_option maxHeartbeats 4000000 in
set_option maxRecDepth 100000 in
theorem c_Mo_kern_fZ (l : Launch) (dC : Nat → ClassId) (dI : Nat → Nat → Nat) (cy : Nat → ClassId) (sz : Nat) (a1 : Nat) (a1_file : Nat) (a1_at : Nat) (a1_length : Nat) (a1_done : Nat) (a1_depth : Nat) (a1_parts : Nat) (a1_contours : Nat) (a1_points : Nat) (a1_x : Nat) (a1_y : Nat) (a1_on : Nat) (a1_contour : Nat) (a1_size : Int32) (a1_units : Int32) (a1_form : Int32) (a1_glyphs : Int32) (a1_ascent : Int32) (a1_descent : Int32) (a1_gap : Int32) (a1_metrics : Int32) (a1_map : Int32) (a1_mapLength : Int32) (a1_segments : Int32) (a1_file_f : Nat → Int32) (a1_at_f : Nat → Int32) (a1_length_f : Nat → Int32)  (uu : Int32) (h : P_Mo_kern_fZ a1_units a1_file_f a1_at_f a1_length_f = some uu) : Met l y_Mo_kern_fZ (Cond.code y_Mo_kern_fZ b_Mo_kern_fZ 5 (some .boolean) :: G) ({ frames := 2, cells := 0, slots := 0, locals := 42 } : Room) (va_Pc [.ref a1] (fun U => U.heap.size = sz ∧ va_P (dC, dI) classes [(a1, .inr (8, [.ref a1_file, .int a1_size, .ref a1_at, .ref a1_length, .int a1_units, .int a1_form, .int a1_glyphs, .int a1_ascent, .int a1_descent, .int a1_gap, .int a1_metrics, .int a1_map, .int a1_mapLength, .int a1_segments, .ref a1_done, .ref a1_depth, .ref a1_parts, .ref a1_contours, .ref a1_points, .ref a1_x, .ref a1_y, .ref a1_on, .ref a1_contour])), (a1_file, .inl (cy 1, 4096, .inl a1_file_f)), (a1_at, .inl (cy 0, 8, .inl a1_at_f)), (a1_length, .inl (cy 0, 8, .inl a1_length_f))] U.heap ∧ va_K (dC, dI) classes (TY cy) U ∧ va_D (fun _ => True) [(a1, .inr (8, [.ref a1_file, .int a1_size, .ref a1_at, .ref a1_length, .int a1_units, .int a1_form, .int a1_glyphs, .int a1_ascent, .int a1_descent, .int a1_gap, .int a1_metrics, .int a1_map, .int a1_mapLength, .int a1_segments, .ref a1_done, .ref a1_depth, .ref a1_parts, .ref a1_contours, .ref a1_points, .ref a1_x, .ref a1_y, .ref a1_on, .ref a1_contour])), (a1_file, .inl (cy 1, 4096, .inl a1_file_f)), (a1_at, .inl (cy 0, 8, .inl a1_at_f)), (a1_length, .inl (cy 0, 8, .inl a1_length_f))])) (va_Qi (fun r (_ : Unit) => r = uu) (fun _ t => va_P (dC, dI) classes [(a1, .inr (8, [.ref a1_file, .int a1_size, .ref a1_at, .ref a1_length, .int a1_units, .int a1_form, .int a1_glyphs, .int a1_ascent, .int a1_descent, .int a1_gap, .int a1_metrics, .int a1_map, .int a1_mapLength, .int a1_segments, .ref a1_done, .ref a1_depth, .ref a1_parts, .ref a1_contours, .ref a1_points, .ref a1_x, .ref a1_y, .ref a1_on, .ref a1_contour])), (a1_file, .inl (cy 1, 4096, .inl a1_file_f)), (a1_at, .inl (cy 0, 8, .inl a1_at_f)), (a1_length, .inl (cy 0, 8, .inl a1_length_f))] t.heap ∧ va_K (dC, dI) classes (TY cy) t ∧ va_D (va_A [(a1, .inr (8, [.ref a1_file, .int a1_size, .ref a1_at, .ref a1_length, .int a1_units, .int a1_form, .int a1_glyphs, .int a1_ascent, .int a1_descent, .int a1_gap, .int a1_metrics, .int a1_map, .int a1_mapLength, .int a1_segments, .ref a1_done, .ref a1_depth, .ref a1_parts, .ref a1_contours, .ref a1_points, .ref a1_x, .ref a1_y, .ref a1_on, .ref a1_contour])), (a1_file, .inl (cy 1, 4096, .inl a1_file_f)), (a1_at, .inl (cy 0, 8, .inl a1_at_f)), (a1_length, .inl (cy 0, 8, .inl a1_length_f))] sz) [(a1, .inr (8, [.ref a1_file, .int a1_size, .ref a1_at, .ref a1_length, .int a1_units, .int a1_form, .int a1_glyphs, .int a1_ascent, .int a1_descent, .int a1_gap, .int a1_metrics, .int a1_map, .int a1_mapLength, .int a1_segments, .ref a1_done, .ref a1_depth, .ref a1_parts, .ref a1_contours, .ref a1_points, .ref a1_x, .ref a1_y, .ref a1_on, .ref a1_contour])), (a1_file, .inl (cy 1, 4096, .inl a1_file_f)), (a1_at, .inl (cy 0, 8, .inl a1_at_f)), (a1_length, .inl (cy 0, 8, .inl a1_length_f))]) (va_A [(a1, .inr (8, [.ref a1_file, .int a1_size, .ref a1_at, .ref a1_length, .int a1_units, .int a1_form, .int a1_glyphs, .int a1_ascent, .int a1_descent, .int a1_gap, .int a1_metrics, .int a1_map, .int a1_mapLength, .int a1_segments, .ref a1_done, .ref a1_depth, .ref a1_parts, .ref a1_contours, .ref a1_points, .ref a1_x, .ref a1_y, .ref a1_on, .ref a1_contour])), (a1_file, .inl (cy 1, 4096, .inl a1_file_f)), (a1_at, .inl (cy 0, 8, .inl a1_at_f)), (a1_length, .inl (cy 0, 8, .inl a1_length_f))] sz)) 0 0 (va_A [(a1, .inr (8, [.ref a1_file, .int a1_size, .ref a1_at, .ref a1_length, .int a1_units, .int a1_form, .int a1_glyphs, .int a1_ascent, .int a1_descent, .int a1_gap, .int a1_metrics, .int a1_map, .int a1_mapLength, .int a1_segments, .ref a1_done, .ref a1_depth, .ref a1_parts, .ref a1_contours, .ref a1_points, .ref a1_x, .ref a1_y, .ref a1_on, .ref a1_contour])), (a1_file, .inl (cy 1, 4096, .inl a1_file_f)), (a1_at, .inl (cy 0, 8, .inl a1_at_f)), (a1_length, .inl (cy 0, 8, .inl a1_length_f))] sz) := by
  refine Met.ofW (cc := b_Mo_kern_fZ) (maxL := 5) (ret := (some .boolean)) (by decide) rfl ?_
  intro p e s m args below meth c s₁ B hml hv
  obtain ⟨rfl, hsz, hP, hK, hD0⟩ := hv
  have hx := B.exec
  have hb := B.bytes
  have hr := B.returns
  have hts := atoms_spec (ws := Cond.code y_Mo_kern_fZ b_Mo_kern_fZ 5 (some .boolean) :: G) B.pre
  have htsG : ∀ w ∈ G, w.before _ s = true := fun w hw => hts w (List.mem_cons_of_mem _ hw)
  have hown : s.vm.findClass "GlyphPageModel" = some m.cls := findClass_of_methodNamed B.named
  have hlocks := B.notSynchronized
  subst hsz
  have hD := hD0.self (sz := s.heap.size)
  generalize hAe : va_A [(a1, .inr (8, [.ref a1_file, .int a1_size, .ref a1_at, .ref a1_length, .int a1_units, .int a1_form, .int a1_glyphs, .int a1_ascent, .int a1_descent, .int a1_gap, .int a1_metrics, .int a1_map, .int a1_mapLength, .int a1_segments, .ref a1_done, .ref a1_depth, .ref a1_parts, .ref a1_contours, .ref a1_points, .ref a1_x, .ref a1_y, .ref a1_on, .ref a1_contour])), (a1_file, .inl (cy 1, 4096, .inl a1_file_f)), (a1_at, .inl (cy 0, 8, .inl a1_at_f)), (a1_length, .inl (cy 0, 8, .inl a1_length_f))] s.heap.size = A at hD ⊢
  have hA : ∀ q : Nat, s.heap.size ≤ q → A q := fun q h => by rw [← hAe]; exact Or.inr h
  have hS : va_S A s.heap s.heap [] := va_S.rf
  have hl := lv_entry ([.ref a1]) (n := 5) (Nat.le_of_ble_eq_true rfl)
  rw [lg_entry_eq]
  generalize (lg_sl ([.ref a1]) ++ List.replicate (5 - (lg_sl ([.ref a1])).length) Slot.unset).toArray = ls at hl ⊢
  have hl : lv_has ls 5 [(0, .ref a1)] := hl
  have C0 : Cx p s m _ meth c A dC dI cy b_Mo_kern_fZ 5 (some .boolean) "GlyphPageModel" := ⟨hx, hb, hr, hlocks, hml, hown, htsG, hA, hK⟩
  unfold P_Mo_kern_fZ at h
  refine lv_aload_n hx hb d_Mo_kern_fZ_0 rfl (lv_at hl 0 rfl) ?_
  refine va_get (D := (dC, dI)) (ci := 8) (v := .ref a1_at) (C := "GlyphPageModel$Font") (T := F_Mf) (N := 23) hx hb htsG iG_Mf hown hK hP 0 rfl rfl 2 (by decide) (htsG _ mW778) (fun _ h9 => h9) rfl d_Mo_kern_fZ_1 ?_
  refine lv_iconst (v := (5 : Int32)) hx hb d_Mo_kern_fZ_4 (by decide) ?_
  obtain ⟨hin_1, h⟩ := bd_some h
  refine va_iald hx hb hK hP 2 0 rfl rfl hin_1 d_Mo_kern_fZ_5 ?_
  refine lv_istore_n (lv' := [(1, .int (a1_at_f (5 : Int32).toNatClampNeg)), (0, .ref a1)]) hx hb d_Mo_kern_fZ_6 rfl hl (by decide) rfl (fun ls hl => ?_)
  refine lv_iload_n hx hb d_Mo_kern_fZ_7 rfl (lv_at hl 0 rfl) ?_
  refine lv_if_ge (tgt := 13) hx hb d_Mo_kern_fZ_8 (by decide) (fun c_2 => ?_) (fun c_2 => ?_)
  · replace h := (if_pos c_2).symm.trans h
    refine lv_aload_n hx hb d_Mo_kern_fZ_13 rfl (lv_at hl 1 rfl) ?_
    refine va_get (D := (dC, dI)) (ci := 8) (v := .ref a1_length) (C := "GlyphPageModel$Font") (T := F_Mf) (N := 23) hx hb htsG iG_Mf hown hK hP 0 rfl rfl 3 (by decide) (htsG _ mW780) (fun _ h9 => h9) rfl d_Mo_kern_fZ_14 ?_
    refine lv_iconst (v := (5 : Int32)) hx hb d_Mo_kern_fZ_17 (by decide) ?_
    obtain ⟨hin_3, h⟩ := bd_some h
    refine va_iald hx hb hK hP 3 0 rfl rfl hin_3 d_Mo_kern_fZ_18 ?_
    refine lv_bipush (v := (18 : Int32)) hx hb d_Mo_kern_fZ_19 (by decide) ?_
    refine lv_icmp_lt (tgt := 55) hx hb d_Mo_kern_fZ_21 (by decide) (fun c_4 => ?_) (fun c_4 => ?_)
    · replace h := (if_pos c_4).symm.trans h
      refine lv_iconst (v := (0 : Int32)) hx hb d_Mo_kern_fZ_55 (by decide) ?_
      cases h
      exact W.zret (ty := .boolean) hx hb hr rfl (fun t ht hW => ⟨⟨_, (), rfl, rfl, by rw [ht]; exact hP, va_K.moved hW.alike hK, hD⟩, hS.F ht⟩) hS.2.2 d_Mo_kern_fZ_56 hlocks
    · replace h := (if_neg c_4).symm.trans h
      refine lv_aload_n hx hb d_Mo_kern_fZ_24 rfl (lv_at hl 1 rfl) ?_
      refine lv_iload_n hx hb d_Mo_kern_fZ_25 rfl (lv_at hl 0 rfl) ?_
      obtain ⟨r_5, hq, h⟩ := Option.bind_eq_some_iff.mp h
      try dsimp only at h
      have hPc := hP.sub (ws' := [(a1, .inr (8, [.ref a1_file, .int a1_size, .ref a1_at, .ref a1_length, .int a1_units, .int a1_form, .int a1_glyphs, .int a1_ascent, .int a1_descent, .int a1_gap, .int a1_metrics, .int a1_map, .int a1_mapLength, .int a1_segments, .ref a1_done, .ref a1_depth, .ref a1_parts, .ref a1_contours, .ref a1_points, .ref a1_x, .ref a1_y, .ref a1_on, .ref a1_contour])), (a1_file, .inl (cy 1, 4096, .inl a1_file_f))]) [0, 1] rfl
      have hDc := hD.sub (ws' := [(a1, .inr (8, [.ref a1_file, .int a1_size, .ref a1_at, .ref a1_length, .int a1_units, .int a1_form, .int a1_glyphs, .int a1_ascent, .int a1_descent, .int a1_gap, .int a1_metrics, .int a1_map, .int a1_mapLength, .int a1_segments, .ref a1_done, .ref a1_depth, .ref a1_parts, .ref a1_contours, .ref a1_points, .ref a1_x, .ref a1_y, .ref a1_on, .ref a1_contour])), (a1_file, .inl (cy 1, 4096, .inl a1_file_f))]) [0, 1] (by decide) rfl
      have hFc := va_free (wc := [(a1, .inr (8, [.ref a1_file, .int a1_size, .ref a1_at, .ref a1_length, .int a1_units, .int a1_form, .int a1_glyphs, .int a1_ascent, .int a1_descent, .int a1_gap, .int a1_metrics, .int a1_map, .int a1_mapLength, .int a1_segments, .ref a1_done, .ref a1_depth, .ref a1_parts, .ref a1_contours, .ref a1_points, .ref a1_x, .ref a1_y, .ref a1_on, .ref a1_contour])), (a1_file, .inl (cy 1, 4096, .inl a1_file_f))]) hD hS hA [0, 1] rfl
      refine va_calli (va_runV (As := [.int (a1_at_f (5 : Int32).toNatClampNeg)]) (rest := []) ⟨hx, hb, hml, hown, htsG⟩ (c_Mf_two l dC dI cy s.heap.size a1 a1_file a1_at a1_length a1_done a1_depth a1_parts a1_contours a1_points a1_x a1_y a1_on a1_contour a1_size a1_units a1_form a1_glyphs a1_ascent a1_descent a1_gap a1_metrics a1_map a1_mapLength a1_segments a1_file_f (a1_at_f (5 : Int32).toNatClampNeg) r_5 hq) (cwV 1 htsG (gV mW951 mW947 mW948 mW10 mW949) rfl rfl rfl (by decide +kernel) ⟨Nat.le_of_ble_eq_true rfl, Nat.le_of_ble_eq_true rfl⟩) ⟨fun a U g mk q => by obtain ⟨q0, q1, qP, qK, qD⟩ := q; exact ⟨q0, q1, qP, va_K.moved (u := U) (U := U.calling g mk a) (Vm.Alike.refl U.vm) qK, qD⟩, va_recv hK hPc (ci := 8) (q0 := 0) rfl rfl, fun U hU hW => ⟨rfl, by rw [hU], by rw [hU]; exact hPc, va_K.moved hW.alike hK, hDc.weaken (fun _ _ _ _ => trivial)⟩⟩ rfl rfl hl.1 rfl (lv_room (Nat.le_of_ble_eq_true rfl)) d_Mo_kern_fZ_26 ⟨Nat.le_of_ble_eq_true rfl, Nat.le_of_ble_eq_true rfl⟩) hS (fun q _ h => hFc q h) hFc (fun rr u t H1 locs ht hvm hw hB hz1 hk1 hS => ?_)
      obtain ⟨hP1, hK1, hD1⟩ := hB
      rw [ht] at hP1
      replace hw : r_5 = rr := hw.symm
      subst hw
      obtain ⟨hP, hD⟩ := va_join (wr := [(a1_at, .inl (cy 0, 8, .inl a1_at_f)), (a1_length, .inl (cy 0, 8, .inl a1_length_f))]) (w1 := [(a1, .inr (8, [.ref a1_file, .int a1_size, .ref a1_at, .ref a1_length, .int a1_units, .int a1_form, .int a1_glyphs, .int a1_ascent, .int a1_descent, .int a1_gap, .int a1_metrics, .int a1_map, .int a1_mapLength, .int a1_segments, .ref a1_done, .ref a1_depth, .ref a1_parts, .ref a1_contours, .ref a1_points, .ref a1_x, .ref a1_y, .ref a1_on, .ref a1_contour])), (a1_file, .inl (cy 1, 4096, .inl a1_file_f))]) hP hD [0, 1] [2, 3] rfl rfl (by decide) (by decide) hk1 hFc hP1 hD1
      generalize H1 = H at hP hS ⊢
      have hP := hP.sub (ws' := [(a1, .inr (8, [.ref a1_file, .int a1_size, .ref a1_at, .ref a1_length, .int a1_units, .int a1_form, .int a1_glyphs, .int a1_ascent, .int a1_descent, .int a1_gap, .int a1_metrics, .int a1_map, .int a1_mapLength, .int a1_segments, .ref a1_done, .ref a1_depth, .ref a1_parts, .ref a1_contours, .ref a1_points, .ref a1_x, .ref a1_y, .ref a1_on, .ref a1_contour])), (a1_file, .inl (cy 1, 4096, .inl a1_file_f)), (a1_at, .inl (cy 0, 8, .inl a1_at_f)), (a1_length, .inl (cy 0, 8, .inl a1_length_f))]) [2, 3, 0, 1] rfl
      have hD := hD.sub (ws' := [(a1, .inr (8, [.ref a1_file, .int a1_size, .ref a1_at, .ref a1_length, .int a1_units, .int a1_form, .int a1_glyphs, .int a1_ascent, .int a1_descent, .int a1_gap, .int a1_metrics, .int a1_map, .int a1_mapLength, .int a1_segments, .ref a1_done, .ref a1_depth, .ref a1_parts, .ref a1_contours, .ref a1_points, .ref a1_x, .ref a1_y, .ref a1_on, .ref a1_contour])), (a1_file, .inl (cy 1, 4096, .inl a1_file_f)), (a1_at, .inl (cy 0, 8, .inl a1_at_f)), (a1_length, .inl (cy 0, 8, .inl a1_length_f))]) [2, 3, 0, 1] (by decide) rfl
      refine W.widen (k := 0) (n := 0) (by decide) (by decide) ?_
      refine lv_if_ne (tgt := 55) hx hb d_Mo_kern_fZ_29 (by decide) (fun c_6 => ?_) (fun c_6 => ?_)
      · replace h := (if_neg c_6).symm.trans h
        refine lv_iconst (v := (0 : Int32)) hx hb d_Mo_kern_fZ_55 (by decide) ?_
        cases h
        exact W.zret (ty := .boolean) hx hb hr rfl (fun t ht hW => ⟨⟨_, (), rfl, rfl, by rw [ht]; exact hP, va_K.moved hW.alike hK, hD⟩, hS.F ht⟩) hS.2.2 d_Mo_kern_fZ_56 hlocks
      · replace h := (if_pos c_6).symm.trans h
        refine lv_aload_n hx hb d_Mo_kern_fZ_32 rfl (lv_at hl 1 rfl) ?_
        refine lv_iload_n hx hb d_Mo_kern_fZ_33 rfl (lv_at hl 0 rfl) ?_
        refine lv_iconst (v := (2 : Int32)) hx hb d_Mo_kern_fZ_34 (by decide) ?_
        refine lv_iadd hx hb d_Mo_kern_fZ_35 ?_
        obtain ⟨r_7, hq, h⟩ := Option.bind_eq_some_iff.mp h
        try dsimp only at h
        have hPc := hP.sub (ws' := [(a1, .inr (8, [.ref a1_file, .int a1_size, .ref a1_at, .ref a1_length, .int a1_units, .int a1_form, .int a1_glyphs, .int a1_ascent, .int a1_descent, .int a1_gap, .int a1_metrics, .int a1_map, .int a1_mapLength, .int a1_segments, .ref a1_done, .ref a1_depth, .ref a1_parts, .ref a1_contours, .ref a1_points, .ref a1_x, .ref a1_y, .ref a1_on, .ref a1_contour])), (a1_file, .inl (cy 1, 4096, .inl a1_file_f))]) [0, 1] rfl
        have hDc := hD.sub (ws' := [(a1, .inr (8, [.ref a1_file, .int a1_size, .ref a1_at, .ref a1_length, .int a1_units, .int a1_form, .int a1_glyphs, .int a1_ascent, .int a1_descent, .int a1_gap, .int a1_metrics, .int a1_map, .int a1_mapLength, .int a1_segments, .ref a1_done, .ref a1_depth, .ref a1_parts, .ref a1_contours, .ref a1_points, .ref a1_x, .ref a1_y, .ref a1_on, .ref a1_contour])), (a1_file, .inl (cy 1, 4096, .inl a1_file_f))]) [0, 1] (by decide) rfl
        have hFc := va_free (wc := [(a1, .inr (8, [.ref a1_file, .int a1_size, .ref a1_at, .ref a1_length, .int a1_units, .int a1_form, .int a1_glyphs, .int a1_ascent, .int a1_descent, .int a1_gap, .int a1_metrics, .int a1_map, .int a1_mapLength, .int a1_segments, .ref a1_done, .ref a1_depth, .ref a1_parts, .ref a1_contours, .ref a1_points, .ref a1_x, .ref a1_y, .ref a1_on, .ref a1_contour])), (a1_file, .inl (cy 1, 4096, .inl a1_file_f))]) hD hS hA [0, 1] rfl
        refine va_calli (va_runV (As := [.int ((a1_at_f (5 : Int32).toNatClampNeg) + (2 : Int32))]) (rest := []) ⟨hx, hb, hml, hown, htsG⟩ (c_Mf_two l dC dI cy H.size a1 a1_file a1_at a1_length a1_done a1_depth a1_parts a1_contours a1_points a1_x a1_y a1_on a1_contour a1_size a1_units a1_form a1_glyphs a1_ascent a1_descent a1_gap a1_metrics a1_map a1_mapLength a1_segments a1_file_f ((a1_at_f (5 : Int32).toNatClampNeg) + (2 : Int32)) r_7 hq) (cwV 1 htsG (gV mW951 mW947 mW948 mW10 mW949) rfl rfl rfl (by decide +kernel) ⟨Nat.le_of_ble_eq_true rfl, Nat.le_of_ble_eq_true rfl⟩) ⟨fun a U g mk q => by obtain ⟨q0, q1, qP, qK, qD⟩ := q; exact ⟨q0, q1, qP, va_K.moved (u := U) (U := U.calling g mk a) (Vm.Alike.refl U.vm) qK, qD⟩, va_recv hK hPc (ci := 8) (q0 := 0) rfl rfl, fun U hU hW => ⟨rfl, by rw [hU], by rw [hU]; exact hPc, va_K.moved hW.alike hK, hDc.weaken (fun _ _ _ _ => trivial)⟩⟩ rfl rfl hl.1 rfl (lv_room (Nat.le_of_ble_eq_true rfl)) d_Mo_kern_fZ_36 ⟨Nat.le_of_ble_eq_true rfl, Nat.le_of_ble_eq_true rfl⟩) hS (fun q _ h => hFc q h) hFc (fun rr u t H1 locs ht hvm hw hB hz1 hk1 hS => ?_)
        obtain ⟨hP1, hK1, hD1⟩ := hB
        rw [ht] at hP1
        replace hw : r_7 = rr := hw.symm
        subst hw
        obtain ⟨hP, hD⟩ := va_join (wr := [(a1_at, .inl (cy 0, 8, .inl a1_at_f)), (a1_length, .inl (cy 0, 8, .inl a1_length_f))]) (w1 := [(a1, .inr (8, [.ref a1_file, .int a1_size, .ref a1_at, .ref a1_length, .int a1_units, .int a1_form, .int a1_glyphs, .int a1_ascent, .int a1_descent, .int a1_gap, .int a1_metrics, .int a1_map, .int a1_mapLength, .int a1_segments, .ref a1_done, .ref a1_depth, .ref a1_parts, .ref a1_contours, .ref a1_points, .ref a1_x, .ref a1_y, .ref a1_on, .ref a1_contour])), (a1_file, .inl (cy 1, 4096, .inl a1_file_f))]) hP hD [0, 1] [2, 3] rfl rfl (by decide) (by decide) hk1 hFc hP1 hD1
        generalize H1 = H at hP hS ⊢
        have hP := hP.sub (ws' := [(a1, .inr (8, [.ref a1_file, .int a1_size, .ref a1_at, .ref a1_length, .int a1_units, .int a1_form, .int a1_glyphs, .int a1_ascent, .int a1_descent, .int a1_gap, .int a1_metrics, .int a1_map, .int a1_mapLength, .int a1_segments, .ref a1_done, .ref a1_depth, .ref a1_parts, .ref a1_contours, .ref a1_points, .ref a1_x, .ref a1_y, .ref a1_on, .ref a1_contour])), (a1_file, .inl (cy 1, 4096, .inl a1_file_f)), (a1_at, .inl (cy 0, 8, .inl a1_at_f)), (a1_length, .inl (cy 0, 8, .inl a1_length_f))]) [2, 3, 0, 1] rfl
        have hD := hD.sub (ws' := [(a1, .inr (8, [.ref a1_file, .int a1_size, .ref a1_at, .ref a1_length, .int a1_units, .int a1_form, .int a1_glyphs, .int a1_ascent, .int a1_descent, .int a1_gap, .int a1_metrics, .int a1_map, .int a1_mapLength, .int a1_segments, .ref a1_done, .ref a1_depth, .ref a1_parts, .ref a1_contours, .ref a1_points, .ref a1_x, .ref a1_y, .ref a1_on, .ref a1_contour])), (a1_file, .inl (cy 1, 4096, .inl a1_file_f)), (a1_at, .inl (cy 0, 8, .inl a1_at_f)), (a1_length, .inl (cy 0, 8, .inl a1_length_f))]) [2, 3, 0, 1] (by decide) rfl
        refine W.widen (k := 0) (n := 0) (by decide) (by decide) ?_
        refine lv_iconst (v := (1 : Int32)) hx hb d_Mo_kern_fZ_39 (by decide) ?_
        refine lv_icmp_lt (tgt := 55) hx hb d_Mo_kern_fZ_40 (by decide) (fun c_8 => ?_) (fun c_8 => ?_)
        · replace h := (if_pos c_8).symm.trans h
          refine lv_iconst (v := (0 : Int32)) hx hb d_Mo_kern_fZ_55 (by decide) ?_
          cases h
          exact W.zret (ty := .boolean) hx hb hr rfl (fun t ht hW => ⟨⟨_, (), rfl, rfl, by rw [ht]; exact hP, va_K.moved hW.alike hK, hD⟩, hS.F ht⟩) hS.2.2 d_Mo_kern_fZ_56 hlocks
        · replace h := (if_neg c_8).symm.trans h
          refine lv_aload_n hx hb d_Mo_kern_fZ_43 rfl (lv_at hl 1 rfl) ?_
          refine lv_iload_n hx hb d_Mo_kern_fZ_44 rfl (lv_at hl 0 rfl) ?_
          refine lv_bipush (v := (8 : Int32)) hx hb d_Mo_kern_fZ_45 (by decide) ?_
          refine lv_iadd hx hb d_Mo_kern_fZ_47 ?_
          obtain ⟨r_9, hq, h⟩ := Option.bind_eq_some_iff.mp h
          try dsimp only at h
          have hPc := hP.sub (ws' := [(a1, .inr (8, [.ref a1_file, .int a1_size, .ref a1_at, .ref a1_length, .int a1_units, .int a1_form, .int a1_glyphs, .int a1_ascent, .int a1_descent, .int a1_gap, .int a1_metrics, .int a1_map, .int a1_mapLength, .int a1_segments, .ref a1_done, .ref a1_depth, .ref a1_parts, .ref a1_contours, .ref a1_points, .ref a1_x, .ref a1_y, .ref a1_on, .ref a1_contour])), (a1_file, .inl (cy 1, 4096, .inl a1_file_f))]) [0, 1] rfl
          have hDc := hD.sub (ws' := [(a1, .inr (8, [.ref a1_file, .int a1_size, .ref a1_at, .ref a1_length, .int a1_units, .int a1_form, .int a1_glyphs, .int a1_ascent, .int a1_descent, .int a1_gap, .int a1_metrics, .int a1_map, .int a1_mapLength, .int a1_segments, .ref a1_done, .ref a1_depth, .ref a1_parts, .ref a1_contours, .ref a1_points, .ref a1_x, .ref a1_y, .ref a1_on, .ref a1_contour])), (a1_file, .inl (cy 1, 4096, .inl a1_file_f))]) [0, 1] (by decide) rfl
          have hFc := va_free (wc := [(a1, .inr (8, [.ref a1_file, .int a1_size, .ref a1_at, .ref a1_length, .int a1_units, .int a1_form, .int a1_glyphs, .int a1_ascent, .int a1_descent, .int a1_gap, .int a1_metrics, .int a1_map, .int a1_mapLength, .int a1_segments, .ref a1_done, .ref a1_depth, .ref a1_parts, .ref a1_contours, .ref a1_points, .ref a1_x, .ref a1_y, .ref a1_on, .ref a1_contour])), (a1_file, .inl (cy 1, 4096, .inl a1_file_f))]) hD hS hA [0, 1] rfl
          refine va_calli (va_runV (As := [.int ((a1_at_f (5 : Int32).toNatClampNeg) + (8 : Int32))]) (rest := []) ⟨hx, hb, hml, hown, htsG⟩ (c_Mf_two l dC dI cy H.size a1 a1_file a1_at a1_length a1_done a1_depth a1_parts a1_contours a1_points a1_x a1_y a1_on a1_contour a1_size a1_units a1_form a1_glyphs a1_ascent a1_descent a1_gap a1_metrics a1_map a1_mapLength a1_segments a1_file_f ((a1_at_f (5 : Int32).toNatClampNeg) + (8 : Int32)) r_9 hq) (cwV 1 htsG (gV mW951 mW947 mW948 mW10 mW949) rfl rfl rfl (by decide +kernel) ⟨Nat.le_of_ble_eq_true rfl, Nat.le_of_ble_eq_true rfl⟩) ⟨fun a U g mk q => by obtain ⟨q0, q1, qP, qK, qD⟩ := q; exact ⟨q0, q1, qP, va_K.moved (u := U) (U := U.calling g mk a) (Vm.Alike.refl U.vm) qK, qD⟩, va_recv hK hPc (ci := 8) (q0 := 0) rfl rfl, fun U hU hW => ⟨rfl, by rw [hU], by rw [hU]; exact hPc, va_K.moved hW.alike hK, hDc.weaken (fun _ _ _ _ => trivial)⟩⟩ rfl rfl hl.1 rfl (lv_room (Nat.le_of_ble_eq_true rfl)) d_Mo_kern_fZ_48 ⟨Nat.le_of_ble_eq_true rfl, Nat.le_of_ble_eq_true rfl⟩) hS (fun q _ h => hFc q h) hFc (fun rr u t H1 locs ht hvm hw hB hz1 hk1 hS => ?_)
          obtain ⟨hP1, hK1, hD1⟩ := hB
          rw [ht] at hP1
          replace hw : r_9 = rr := hw.symm
          subst hw
          obtain ⟨hP, hD⟩ := va_join (wr := [(a1_at, .inl (cy 0, 8, .inl a1_at_f)), (a1_length, .inl (cy 0, 8, .inl a1_length_f))]) (w1 := [(a1, .inr (8, [.ref a1_file, .int a1_size, .ref a1_at, .ref a1_length, .int a1_units, .int a1_form, .int a1_glyphs, .int a1_ascent, .int a1_descent, .int a1_gap, .int a1_metrics, .int a1_map, .int a1_mapLength, .int a1_segments, .ref a1_done, .ref a1_depth, .ref a1_parts, .ref a1_contours, .ref a1_points, .ref a1_x, .ref a1_y, .ref a1_on, .ref a1_contour])), (a1_file, .inl (cy 1, 4096, .inl a1_file_f))]) hP hD [0, 1] [2, 3] rfl rfl (by decide) (by decide) hk1 hFc hP1 hD1
          generalize H1 = H at hP hS ⊢
          have hP := hP.sub (ws' := [(a1, .inr (8, [.ref a1_file, .int a1_size, .ref a1_at, .ref a1_length, .int a1_units, .int a1_form, .int a1_glyphs, .int a1_ascent, .int a1_descent, .int a1_gap, .int a1_metrics, .int a1_map, .int a1_mapLength, .int a1_segments, .ref a1_done, .ref a1_depth, .ref a1_parts, .ref a1_contours, .ref a1_points, .ref a1_x, .ref a1_y, .ref a1_on, .ref a1_contour])), (a1_file, .inl (cy 1, 4096, .inl a1_file_f)), (a1_at, .inl (cy 0, 8, .inl a1_at_f)), (a1_length, .inl (cy 0, 8, .inl a1_length_f))]) [2, 3, 0, 1] rfl
          have hD := hD.sub (ws' := [(a1, .inr (8, [.ref a1_file, .int a1_size, .ref a1_at, .ref a1_length, .int a1_units, .int a1_form, .int a1_glyphs, .int a1_ascent, .int a1_descent, .int a1_gap, .int a1_metrics, .int a1_map, .int a1_mapLength, .int a1_segments, .ref a1_done, .ref a1_depth, .ref a1_parts, .ref a1_contours, .ref a1_points, .ref a1_x, .ref a1_y, .ref a1_on, .ref a1_contour])), (a1_file, .inl (cy 1, 4096, .inl a1_file_f)), (a1_at, .inl (cy 0, 8, .inl a1_at_f)), (a1_length, .inl (cy 0, 8, .inl a1_length_f))]) [2, 3, 0, 1] (by decide) rfl
          refine W.widen (k := 0) (n := 0) (by decide) (by decide) ?_
          refine lv_iconst (v := (1 : Int32)) hx hb d_Mo_kern_fZ_51 (by decide) ?_
          refine lv_icmp_eq (tgt := 57) hx hb d_Mo_kern_fZ_52 (by decide) (fun c_10 => ?_) (fun c_10 => ?_)
          · replace h := (if_pos c_10).symm.trans h
            refine lv_aload_n hx hb d_Mo_kern_fZ_57 rfl (lv_at hl 1 rfl) ?_
            refine lv_iload_n hx hb d_Mo_kern_fZ_58 rfl (lv_at hl 0 rfl) ?_
            refine lv_bipush (v := (6 : Int32)) hx hb d_Mo_kern_fZ_59 (by decide) ?_
            refine lv_iadd hx hb d_Mo_kern_fZ_61 ?_
            obtain ⟨r_11, hq, h⟩ := Option.bind_eq_some_iff.mp h
            try dsimp only at h
            have hPc := hP.sub (ws' := [(a1, .inr (8, [.ref a1_file, .int a1_size, .ref a1_at, .ref a1_length, .int a1_units, .int a1_form, .int a1_glyphs, .int a1_ascent, .int a1_descent, .int a1_gap, .int a1_metrics, .int a1_map, .int a1_mapLength, .int a1_segments, .ref a1_done, .ref a1_depth, .ref a1_parts, .ref a1_contours, .ref a1_points, .ref a1_x, .ref a1_y, .ref a1_on, .ref a1_contour])), (a1_file, .inl (cy 1, 4096, .inl a1_file_f))]) [0, 1] rfl
            have hDc := hD.sub (ws' := [(a1, .inr (8, [.ref a1_file, .int a1_size, .ref a1_at, .ref a1_length, .int a1_units, .int a1_form, .int a1_glyphs, .int a1_ascent, .int a1_descent, .int a1_gap, .int a1_metrics, .int a1_map, .int a1_mapLength, .int a1_segments, .ref a1_done, .ref a1_depth, .ref a1_parts, .ref a1_contours, .ref a1_points, .ref a1_x, .ref a1_y, .ref a1_on, .ref a1_contour])), (a1_file, .inl (cy 1, 4096, .inl a1_file_f))]) [0, 1] (by decide) rfl
            have hFc := va_free (wc := [(a1, .inr (8, [.ref a1_file, .int a1_size, .ref a1_at, .ref a1_length, .int a1_units, .int a1_form, .int a1_glyphs, .int a1_ascent, .int a1_descent, .int a1_gap, .int a1_metrics, .int a1_map, .int a1_mapLength, .int a1_segments, .ref a1_done, .ref a1_depth, .ref a1_parts, .ref a1_contours, .ref a1_points, .ref a1_x, .ref a1_y, .ref a1_on, .ref a1_contour])), (a1_file, .inl (cy 1, 4096, .inl a1_file_f))]) hD hS hA [0, 1] rfl
            refine va_calli (va_runV (As := [.int ((a1_at_f (5 : Int32).toNatClampNeg) + (6 : Int32))]) (rest := []) ⟨hx, hb, hml, hown, htsG⟩ (c_Mf_two l dC dI cy H.size a1 a1_file a1_at a1_length a1_done a1_depth a1_parts a1_contours a1_points a1_x a1_y a1_on a1_contour a1_size a1_units a1_form a1_glyphs a1_ascent a1_descent a1_gap a1_metrics a1_map a1_mapLength a1_segments a1_file_f ((a1_at_f (5 : Int32).toNatClampNeg) + (6 : Int32)) r_11 hq) (cwV 1 htsG (gV mW951 mW947 mW948 mW10 mW949) rfl rfl rfl (by decide +kernel) ⟨Nat.le_of_ble_eq_true rfl, Nat.le_of_ble_eq_true rfl⟩) ⟨fun a U g mk q => by obtain ⟨q0, q1, qP, qK, qD⟩ := q; exact ⟨q0, q1, qP, va_K.moved (u := U) (U := U.calling g mk a) (Vm.Alike.refl U.vm) qK, qD⟩, va_recv hK hPc (ci := 8) (q0 := 0) rfl rfl, fun U hU hW => ⟨rfl, by rw [hU], by rw [hU]; exact hPc, va_K.moved hW.alike hK, hDc.weaken (fun _ _ _ _ => trivial)⟩⟩ rfl rfl hl.1 rfl (lv_room (Nat.le_of_ble_eq_true rfl)) d_Mo_kern_fZ_62 ⟨Nat.le_of_ble_eq_true rfl, Nat.le_of_ble_eq_true rfl⟩) hS (fun q _ h => hFc q h) hFc (fun rr u t H1 locs ht hvm hw hB hz1 hk1 hS => ?_)
            obtain ⟨hP1, hK1, hD1⟩ := hB
            rw [ht] at hP1
            replace hw : r_11 = rr := hw.symm
            subst hw
            obtain ⟨hP, hD⟩ := va_join (wr := [(a1_at, .inl (cy 0, 8, .inl a1_at_f)), (a1_length, .inl (cy 0, 8, .inl a1_length_f))]) (w1 := [(a1, .inr (8, [.ref a1_file, .int a1_size, .ref a1_at, .ref a1_length, .int a1_units, .int a1_form, .int a1_glyphs, .int a1_ascent, .int a1_descent, .int a1_gap, .int a1_metrics, .int a1_map, .int a1_mapLength, .int a1_segments, .ref a1_done, .ref a1_depth, .ref a1_parts, .ref a1_contours, .ref a1_points, .ref a1_x, .ref a1_y, .ref a1_on, .ref a1_contour])), (a1_file, .inl (cy 1, 4096, .inl a1_file_f))]) hP hD [0, 1] [2, 3] rfl rfl (by decide) (by decide) hk1 hFc hP1 hD1
            generalize H1 = H at hP hS ⊢
            have hP := hP.sub (ws' := [(a1, .inr (8, [.ref a1_file, .int a1_size, .ref a1_at, .ref a1_length, .int a1_units, .int a1_form, .int a1_glyphs, .int a1_ascent, .int a1_descent, .int a1_gap, .int a1_metrics, .int a1_map, .int a1_mapLength, .int a1_segments, .ref a1_done, .ref a1_depth, .ref a1_parts, .ref a1_contours, .ref a1_points, .ref a1_x, .ref a1_y, .ref a1_on, .ref a1_contour])), (a1_file, .inl (cy 1, 4096, .inl a1_file_f)), (a1_at, .inl (cy 0, 8, .inl a1_at_f)), (a1_length, .inl (cy 0, 8, .inl a1_length_f))]) [2, 3, 0, 1] rfl
            have hD := hD.sub (ws' := [(a1, .inr (8, [.ref a1_file, .int a1_size, .ref a1_at, .ref a1_length, .int a1_units, .int a1_form, .int a1_glyphs, .int a1_ascent, .int a1_descent, .int a1_gap, .int a1_metrics, .int a1_map, .int a1_mapLength, .int a1_segments, .ref a1_done, .ref a1_depth, .ref a1_parts, .ref a1_contours, .ref a1_points, .ref a1_x, .ref a1_y, .ref a1_on, .ref a1_contour])), (a1_file, .inl (cy 1, 4096, .inl a1_file_f)), (a1_at, .inl (cy 0, 8, .inl a1_at_f)), (a1_length, .inl (cy 0, 8, .inl a1_length_f))]) [2, 3, 0, 1] (by decide) rfl
            refine W.widen (k := 0) (n := 0) (by decide) (by decide) ?_
            refine lv_istore_n (lv' := [(2, .int r_11), (1, .int (a1_at_f (5 : Int32).toNatClampNeg)), (0, .ref a1)]) hx hb d_Mo_kern_fZ_65 rfl hl (by decide) rfl (fun ls hl => ?_)
            refine lv_aload_n hx hb d_Mo_kern_fZ_66 rfl (lv_at hl 2 rfl) ?_
            refine lv_iload_n hx hb d_Mo_kern_fZ_67 rfl (lv_at hl 1 rfl) ?_
            refine lv_bipush (v := (10 : Int32)) hx hb d_Mo_kern_fZ_68 (by decide) ?_
            refine lv_iadd hx hb d_Mo_kern_fZ_70 ?_
            obtain ⟨r_12, hq, h⟩ := Option.bind_eq_some_iff.mp h
            try dsimp only at h
            have hPc := hP.sub (ws' := [(a1, .inr (8, [.ref a1_file, .int a1_size, .ref a1_at, .ref a1_length, .int a1_units, .int a1_form, .int a1_glyphs, .int a1_ascent, .int a1_descent, .int a1_gap, .int a1_metrics, .int a1_map, .int a1_mapLength, .int a1_segments, .ref a1_done, .ref a1_depth, .ref a1_parts, .ref a1_contours, .ref a1_points, .ref a1_x, .ref a1_y, .ref a1_on, .ref a1_contour])), (a1_file, .inl (cy 1, 4096, .inl a1_file_f))]) [0, 1] rfl
            have hDc := hD.sub (ws' := [(a1, .inr (8, [.ref a1_file, .int a1_size, .ref a1_at, .ref a1_length, .int a1_units, .int a1_form, .int a1_glyphs, .int a1_ascent, .int a1_descent, .int a1_gap, .int a1_metrics, .int a1_map, .int a1_mapLength, .int a1_segments, .ref a1_done, .ref a1_depth, .ref a1_parts, .ref a1_contours, .ref a1_points, .ref a1_x, .ref a1_y, .ref a1_on, .ref a1_contour])), (a1_file, .inl (cy 1, 4096, .inl a1_file_f))]) [0, 1] (by decide) rfl
            have hFc := va_free (wc := [(a1, .inr (8, [.ref a1_file, .int a1_size, .ref a1_at, .ref a1_length, .int a1_units, .int a1_form, .int a1_glyphs, .int a1_ascent, .int a1_descent, .int a1_gap, .int a1_metrics, .int a1_map, .int a1_mapLength, .int a1_segments, .ref a1_done, .ref a1_depth, .ref a1_parts, .ref a1_contours, .ref a1_points, .ref a1_x, .ref a1_y, .ref a1_on, .ref a1_contour])), (a1_file, .inl (cy 1, 4096, .inl a1_file_f))]) hD hS hA [0, 1] rfl
            refine va_calli (va_runV (As := [.int ((a1_at_f (5 : Int32).toNatClampNeg) + (10 : Int32))]) (rest := []) ⟨hx, hb, hml, hown, htsG⟩ (c_Mf_two l dC dI cy H.size a1 a1_file a1_at a1_length a1_done a1_depth a1_parts a1_contours a1_points a1_x a1_y a1_on a1_contour a1_size a1_units a1_form a1_glyphs a1_ascent a1_descent a1_gap a1_metrics a1_map a1_mapLength a1_segments a1_file_f ((a1_at_f (5 : Int32).toNatClampNeg) + (10 : Int32)) r_12 hq) (cwV 1 htsG (gV mW951 mW947 mW948 mW10 mW949) rfl rfl rfl (by decide +kernel) ⟨Nat.le_of_ble_eq_true rfl, Nat.le_of_ble_eq_true rfl⟩) ⟨fun a U g mk q => by obtain ⟨q0, q1, qP, qK, qD⟩ := q; exact ⟨q0, q1, qP, va_K.moved (u := U) (U := U.calling g mk a) (Vm.Alike.refl U.vm) qK, qD⟩, va_recv hK hPc (ci := 8) (q0 := 0) rfl rfl, fun U hU hW => ⟨rfl, by rw [hU], by rw [hU]; exact hPc, va_K.moved hW.alike hK, hDc.weaken (fun _ _ _ _ => trivial)⟩⟩ rfl rfl hl.1 rfl (lv_room (Nat.le_of_ble_eq_true rfl)) d_Mo_kern_fZ_71 ⟨Nat.le_of_ble_eq_true rfl, Nat.le_of_ble_eq_true rfl⟩) hS (fun q _ h => hFc q h) hFc (fun rr u t H1 locs ht hvm hw hB hz1 hk1 hS => ?_)
            obtain ⟨hP1, hK1, hD1⟩ := hB
            rw [ht] at hP1
            replace hw : r_12 = rr := hw.symm
            subst hw
            obtain ⟨hP, hD⟩ := va_join (wr := [(a1_at, .inl (cy 0, 8, .inl a1_at_f)), (a1_length, .inl (cy 0, 8, .inl a1_length_f))]) (w1 := [(a1, .inr (8, [.ref a1_file, .int a1_size, .ref a1_at, .ref a1_length, .int a1_units, .int a1_form, .int a1_glyphs, .int a1_ascent, .int a1_descent, .int a1_gap, .int a1_metrics, .int a1_map, .int a1_mapLength, .int a1_segments, .ref a1_done, .ref a1_depth, .ref a1_parts, .ref a1_contours, .ref a1_points, .ref a1_x, .ref a1_y, .ref a1_on, .ref a1_contour])), (a1_file, .inl (cy 1, 4096, .inl a1_file_f))]) hP hD [0, 1] [2, 3] rfl rfl (by decide) (by decide) hk1 hFc hP1 hD1
            generalize H1 = H at hP hS ⊢
            have hP := hP.sub (ws' := [(a1, .inr (8, [.ref a1_file, .int a1_size, .ref a1_at, .ref a1_length, .int a1_units, .int a1_form, .int a1_glyphs, .int a1_ascent, .int a1_descent, .int a1_gap, .int a1_metrics, .int a1_map, .int a1_mapLength, .int a1_segments, .ref a1_done, .ref a1_depth, .ref a1_parts, .ref a1_contours, .ref a1_points, .ref a1_x, .ref a1_y, .ref a1_on, .ref a1_contour])), (a1_file, .inl (cy 1, 4096, .inl a1_file_f)), (a1_at, .inl (cy 0, 8, .inl a1_at_f)), (a1_length, .inl (cy 0, 8, .inl a1_length_f))]) [2, 3, 0, 1] rfl
            have hD := hD.sub (ws' := [(a1, .inr (8, [.ref a1_file, .int a1_size, .ref a1_at, .ref a1_length, .int a1_units, .int a1_form, .int a1_glyphs, .int a1_ascent, .int a1_descent, .int a1_gap, .int a1_metrics, .int a1_map, .int a1_mapLength, .int a1_segments, .ref a1_done, .ref a1_depth, .ref a1_parts, .ref a1_contours, .ref a1_points, .ref a1_x, .ref a1_y, .ref a1_on, .ref a1_contour])), (a1_file, .inl (cy 1, 4096, .inl a1_file_f)), (a1_at, .inl (cy 0, 8, .inl a1_at_f)), (a1_length, .inl (cy 0, 8, .inl a1_length_f))]) [2, 3, 0, 1] (by decide) rfl
            refine W.widen (k := 0) (n := 0) (by decide) (by decide) ?_
            refine lv_istore_n (lv' := [(3, .int r_12), (2, .int r_11), (1, .int (a1_at_f (5 : Int32).toNatClampNeg)), (0, .ref a1)]) hx hb d_Mo_kern_fZ_74 rfl hl (by decide) rfl (fun ls hl => ?_)
            refine lv_iload_n hx hb d_Mo_kern_fZ_75 rfl (lv_at hl 1 rfl) ?_
            refine lv_bipush (v := (14 : Int32)) hx hb d_Mo_kern_fZ_76 (by decide) ?_
            refine lv_bipush (v := (6 : Int32)) hx hb d_Mo_kern_fZ_78 (by decide) ?_
            refine lv_iload_n hx hb d_Mo_kern_fZ_80 rfl (lv_at hl 0 rfl) ?_
            refine lv_imul hx hb d_Mo_kern_fZ_81 ?_
            refine lv_iadd hx hb d_Mo_kern_fZ_82 ?_
            refine lv_icmp_lt (tgt := 98) hx hb d_Mo_kern_fZ_83 (by decide) (fun c_13 => ?_) (fun c_13 => ?_)
            · replace h := (if_pos c_13).symm.trans h
              refine lv_iconst (v := (0 : Int32)) hx hb d_Mo_kern_fZ_98 (by decide) ?_
              cases h
              exact W.zret (ty := .boolean) hx hb hr rfl (fun t ht hW => ⟨⟨_, (), rfl, rfl, by rw [ht]; exact hP, va_K.moved hW.alike hK, hD⟩, hS.F ht⟩) hS.2.2 d_Mo_kern_fZ_99 hlocks
            · replace h := (if_neg c_13).symm.trans h
              refine lv_iconst (v := (4 : Int32)) hx hb d_Mo_kern_fZ_86 (by decide) ?_
              refine lv_iload_n hx hb d_Mo_kern_fZ_87 rfl (lv_at hl 1 rfl) ?_
              refine lv_iadd hx hb d_Mo_kern_fZ_88 ?_
              refine lv_aload_n hx hb d_Mo_kern_fZ_89 rfl (lv_at hl 3 rfl) ?_
              refine va_get (D := (dC, dI)) (ci := 8) (v := .ref a1_length) (C := "GlyphPageModel$Font") (T := F_Mf) (N := 23) hx hb htsG iG_Mf hown hK hP 0 rfl rfl 3 (by decide) (htsG _ mW780) (fun _ h9 => h9) rfl d_Mo_kern_fZ_90 ?_
              refine lv_iconst (v := (5 : Int32)) hx hb d_Mo_kern_fZ_93 (by decide) ?_
              obtain ⟨hin_14, h⟩ := bd_some h
              refine va_iald hx hb hK hP 3 0 rfl rfl hin_14 d_Mo_kern_fZ_94 ?_
              refine lv_icmp_le (tgt := 100) hx hb d_Mo_kern_fZ_95 (by decide) (fun c_15 => ?_) (fun c_15 => ?_)
              · replace h := (if_pos c_15).symm.trans h
                refine lv_iconst (v := (0 : Int32)) hx hb d_Mo_kern_fZ_100 (by decide) ?_
                refine lv_istore (lv' := [(4, .int (0 : Int32)), (3, .int r_12), (2, .int r_11), (1, .int (a1_at_f (5 : Int32).toNatClampNeg)), (0, .ref a1)]) hx hb d_Mo_kern_fZ_101 hl (by decide) rfl (fun ls hl => ?_)
                exact w_Mo_kern_fZ_103 C0 a1 a1_file a1_at a1_length a1_done a1_depth a1_parts a1_contours a1_points a1_x a1_y a1_on a1_contour a1_size a1_units a1_form a1_glyphs a1_ascent a1_descent a1_gap a1_metrics a1_map a1_mapLength a1_segments a1_file_f a1_at_f a1_length_f uu  (a1_at_f (5 : Int32).toNatClampNeg) r_12 (0 : Int32) h hP hD hS (lv_sub hl [4, 3, 1, 0] rfl)
              · replace h := (if_neg c_15).symm.trans h
                refine lv_iconst (v := (0 : Int32)) hx hb d_Mo_kern_fZ_98 (by decide) ?_
                cases h
                exact W.zret (ty := .boolean) hx hb hr rfl (fun t ht hW => ⟨⟨_, (), rfl, rfl, by rw [ht]; exact hP, va_K.moved hW.alike hK, hD⟩, hS.F ht⟩) hS.2.2 d_Mo_kern_fZ_99 hlocks
          · replace h := (if_neg c_10).symm.trans h
            refine lv_iconst (v := (0 : Int32)) hx hb d_Mo_kern_fZ_55 (by decide) ?_
            cases h
            exact W.zret (ty := .boolean) hx hb hr rfl (fun t ht hW => ⟨⟨_, (), rfl, rfl, by rw [ht]; exact hP, va_K.moved hW.alike hK, hD⟩, hS.F ht⟩) hS.2.2 d_Mo_kern_fZ_56 hlocks
  · replace h := (if_neg c_2).symm.trans h
    refine lv_iconst (v := (1 : Int32)) hx hb d_Mo_kern_fZ_11 (by decide) ?_
    cases h
    exact W.zret (ty := .boolean) hx hb hr rfl (fun t ht hW => ⟨⟨_, (), rfl, rfl, by rw [ht]; exact hP, va_K.moved hW.alike hK, hD⟩, hS.F ht⟩) hS.2.2 d_Mo_kern_fZ_12 hlocks
end
