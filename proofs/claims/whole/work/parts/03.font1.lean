theorem mW8 : (Jvm.Cond.initialized "java/lang/Math") ∈ G := inG (inT1 (List.mem_of_getElem? (i := 8) rfl)) rfl
theorem mW11 : (Jvm.Cond.initialized "GlyphPage$FontFile") ∈ G := inG (inT1 (List.mem_of_getElem? (i := 11) rfl)) rfl
theorem mW216 : (Jvm.Cond.static ({ cls := "java/lang/Math", name := "min", desc := "(II)I" } : Jvm.MethodName)) ∈ G := inG (inT1 (List.mem_of_getElem? (i := 216) rfl)) rfl
theorem mW217 : (Jvm.Cond.code ({ cls := "java/lang/Math", name := "min", desc := "(II)I" } : Jvm.MethodName) prog_13_method_69_code (2 : Nat) (Option.some Jvm.ClassFile.FieldType.int)) ∈ G := inG (inT1 (List.mem_of_getElem? (i := 217) rfl)) rfl
theorem mW299 : (Jvm.Cond.fieldLink "GlyphPage$FontFile" (54 : Nat) "GlyphPage$FontFile" "bytes" "[B") ∈ G := inG (inT2 (List.mem_of_getElem? (i := 59) rfl)) rfl
theorem mW301 : (Jvm.Cond.fieldLink "GlyphPage$FontFile" (58 : Nat) "GlyphPage$FontFile" "length" "I") ∈ G := inG (inT2 (List.mem_of_getElem? (i := 61) rfl)) rfl
theorem mW303 : (Jvm.Cond.fieldLink "GlyphPage$FontFile" (9 : Nat) "GlyphPage$FontFile" "starts" "[I") ∈ G := inG (inT2 (List.mem_of_getElem? (i := 63) rfl)) rfl
theorem mW307 : (Jvm.Cond.fieldLink "GlyphPage$FontFile" (19 : Nat) "GlyphPage$FontFile" "units" "I") ∈ G := inG (inT2 (List.mem_of_getElem? (i := 67) rfl)) rfl
theorem mW318 : (Jvm.Cond.fieldLink "GlyphPage$FontFile" (35 : Nat) "GlyphPage$FontFile" "longLoca" "Z") ∈ G := inG (inT2 (List.mem_of_getElem? (i := 78) rfl)) rfl
theorem mW319 : (Jvm.Cond.fieldLink "GlyphPage$FontFile" (39 : Nat) "GlyphPage$FontFile" "metrics" "I") ∈ G := inG (inT2 (List.mem_of_getElem? (i := 79) rfl)) rfl
theorem mW365 : (Jvm.Cond.methodLink "GlyphPage$FontFile" (96 : Nat) ({ cls := "GlyphPage$FontFile", name := "twoAt", desc := "(I)I" } : Jvm.MethodName)) ∈ G := inG (inT2 (List.mem_of_getElem? (i := 125) rfl)) rfl
theorem mW367 : (Jvm.Cond.instanceMethod ({ cls := "GlyphPage$FontFile", name := "twoAt", desc := "(I)I" } : Jvm.MethodName)) ∈ G := inG (inT2 (List.mem_of_getElem? (i := 127) rfl)) rfl
theorem mW368 : (Jvm.Cond.code ({ cls := "GlyphPage$FontFile", name := "twoAt", desc := "(I)I" } : Jvm.MethodName) prog_3_method_3_code (2 : Nat) (Option.some Jvm.ClassFile.FieldType.int)) ∈ G := inG (inT2 (List.mem_of_getElem? (i := 128) rfl)) rfl
theorem mW369 : (Jvm.Cond.methodLink "GlyphPage$FontFile" (100 : Nat) ({ cls := "GlyphPage$FontFile", name := "fourAt", desc := "(I)J" } : Jvm.MethodName)) ∈ G := inG (inT2 (List.mem_of_getElem? (i := 129) rfl)) rfl
theorem mW371 : (Jvm.Cond.instanceMethod ({ cls := "GlyphPage$FontFile", name := "fourAt", desc := "(I)J" } : Jvm.MethodName)) ∈ G := inG (inT2 (List.mem_of_getElem? (i := 131) rfl)) rfl
theorem mW372 : (Jvm.Cond.code ({ cls := "GlyphPage$FontFile", name := "fourAt", desc := "(I)J" } : Jvm.MethodName) prog_3_method_5_code (2 : Nat) (Option.some Jvm.ClassFile.FieldType.long)) ∈ G := inG (inT2 (List.mem_of_getElem? (i := 132) rfl)) rfl
theorem mW386 : (Jvm.Cond.constantLong "GlyphPage$FontFile" (121 : Nat) (4294967295 : Int64)) ∈ G := inG (inT2 (List.mem_of_getElem? (i := 146) rfl)) rfl
theorem mW416 : (Jvm.Cond.methodLink "GlyphPage$FontFile" (135 : Nat) ({ cls := "java/lang/Math", name := "min", desc := "(II)I" } : Jvm.MethodName)) ∈ G := inG (inT2 (List.mem_of_getElem? (i := 176) rfl)) rfl
theorem mW425 : (Jvm.Cond.constantLong "GlyphPage$FontFile" (144 : Nat) (2 : Int64)) ∈ G := inG (inT2 (List.mem_of_getElem? (i := 185) rfl)) rfl
theorem mW580 : (Jvm.Cond.constantLong "GlyphPage$FontFile" (165 : Nat) (128 : Int64)) ∈ G := inG (inT3 (List.mem_of_getElem? (i := 100) rfl)) rfl
theorem mW581 : (Jvm.Cond.methodLink "GlyphPage$FontFile" (167 : Nat) ({ cls := "java/lang/Math", name := "floorDiv", desc := "(JJ)J" } : Jvm.MethodName)) ∈ G := inG (inT3 (List.mem_of_getElem? (i := 101) rfl)) rfl
theorem mW582 : (Jvm.Cond.static ({ cls := "java/lang/Math", name := "floorDiv", desc := "(JJ)J" } : Jvm.MethodName)) ∈ G := inG (inT3 (List.mem_of_getElem? (i := 102) rfl)) rfl
theorem mW583 : (Jvm.Cond.code ({ cls := "java/lang/Math", name := "floorDiv", desc := "(JJ)J" } : Jvm.MethodName) prog_13_method_49_code (6 : Nat) (Option.some Jvm.ClassFile.FieldType.long)) ∈ G := inG (inT3 (List.mem_of_getElem? (i := 103) rfl)) rfl
theorem mW697 : (Jvm.Cond.constantLong "java/lang/Long" (314 : Nat) (6148914691236517205 : Int64)) ∈ G := inG (inT3 (List.mem_of_getElem? (i := 217) rfl)) rfl
theorem mW698 : (Jvm.Cond.constantLong "java/lang/Long" (316 : Nat) (3689348814741910323 : Int64)) ∈ G := inG (inT3 (List.mem_of_getElem? (i := 218) rfl)) rfl
theorem mW699 : (Jvm.Cond.constantLong "java/lang/Long" (318 : Nat) (1085102592571150095 : Int64)) ∈ G := inG (inT3 (List.mem_of_getElem? (i := 219) rfl)) rfl
theorem mS_Ff_fourAt : Cond.selects "GlyphPage$FontFile" ⟨"GlyphPage$FontFile", "fourAt", "(I)J"⟩ ⟨"GlyphPage$FontFile", "fourAt", "(I)J"⟩ ∈ G := inGp (q := (⟨"GlyphPage$FontFile", "fourAt", "(I)J"⟩, 16)) (List.mem_append_left _ (List.mem_of_getElem? (i := 3) rfl)) rfl
theorem mS_Ff_twoAt : Cond.selects "GlyphPage$FontFile" ⟨"GlyphPage$FontFile", "twoAt", "(I)I"⟩ ⟨"GlyphPage$FontFile", "twoAt", "(I)I"⟩ ∈ G := inGp (q := (⟨"GlyphPage$FontFile", "twoAt", "(I)I"⟩, 16)) (List.mem_append_left _ (List.mem_of_getElem? (i := 2) rfl)) rfl
abbrev b_Jm_floorDiv_JJJ : ByteArray := prog_13_method_49_code
def y_Jm_floorDiv_JJJ : MethodName := ⟨"java/lang/Math", "floorDiv", "(JJ)J"⟩
theorem d_Jm_floorDiv_JJJ_0 : decode b_Jm_floorDiv_JJJ 0 = .ok (.lload_n 0, 1) := by decide +kernel
theorem d_Jm_floorDiv_JJJ_1 : decode b_Jm_floorDiv_JJJ 1 = .ok (.lload_n 2, 1) := by decide +kernel
theorem d_Jm_floorDiv_JJJ_2 : decode b_Jm_floorDiv_JJJ 2 = .ok (.ldiv, 1) := by decide +kernel
theorem d_Jm_floorDiv_JJJ_3 : decode b_Jm_floorDiv_JJJ 3 = .ok (.lstore 4, 2) := by decide +kernel
theorem d_Jm_floorDiv_JJJ_5 : decode b_Jm_floorDiv_JJJ 5 = .ok (.lload_n 0, 1) := by decide +kernel
theorem d_Jm_floorDiv_JJJ_6 : decode b_Jm_floorDiv_JJJ 6 = .ok (.lload_n 2, 1) := by decide +kernel
theorem d_Jm_floorDiv_JJJ_7 : decode b_Jm_floorDiv_JJJ 7 = .ok (.lxor, 1) := by decide +kernel
theorem d_Jm_floorDiv_JJJ_8 : decode b_Jm_floorDiv_JJJ 8 = .ok (.lconst 0, 1) := by decide +kernel
theorem d_Jm_floorDiv_JJJ_9 : decode b_Jm_floorDiv_JJJ 9 = .ok (.lcmp, 1) := by decide +kernel
theorem d_Jm_floorDiv_JJJ_10 : decode b_Jm_floorDiv_JJJ 10 = .ok (.ifCond .ge 17, 3) := by decide +kernel
theorem d_Jm_floorDiv_JJJ_13 : decode b_Jm_floorDiv_JJJ 13 = .ok (.lload 4, 2) := by decide +kernel
theorem d_Jm_floorDiv_JJJ_15 : decode b_Jm_floorDiv_JJJ 15 = .ok (.lload_n 2, 1) := by decide +kernel
theorem d_Jm_floorDiv_JJJ_16 : decode b_Jm_floorDiv_JJJ 16 = .ok (.lmul, 1) := by decide +kernel
theorem d_Jm_floorDiv_JJJ_17 : decode b_Jm_floorDiv_JJJ 17 = .ok (.lload_n 0, 1) := by decide +kernel
theorem d_Jm_floorDiv_JJJ_18 : decode b_Jm_floorDiv_JJJ 18 = .ok (.lcmp, 1) := by decide +kernel
theorem d_Jm_floorDiv_JJJ_19 : decode b_Jm_floorDiv_JJJ 19 = .ok (.ifCond .eq 8, 3) := by decide +kernel
theorem d_Jm_floorDiv_JJJ_22 : decode b_Jm_floorDiv_JJJ 22 = .ok (.lload 4, 2) := by decide +kernel
theorem d_Jm_floorDiv_JJJ_24 : decode b_Jm_floorDiv_JJJ 24 = .ok (.lconst 1, 1) := by decide +kernel
theorem d_Jm_floorDiv_JJJ_25 : decode b_Jm_floorDiv_JJJ 25 = .ok (.lsub, 1) := by decide +kernel
theorem d_Jm_floorDiv_JJJ_26 : decode b_Jm_floorDiv_JJJ 26 = .ok (.lreturn, 1) := by decide +kernel
theorem d_Jm_floorDiv_JJJ_27 : decode b_Jm_floorDiv_JJJ 27 = .ok (.lload 4, 2) := by decide +kernel
theorem d_Jm_floorDiv_JJJ_29 : decode b_Jm_floorDiv_JJJ 29 = .ok (.lreturn, 1) := by decide +kernel
abbrev b_Jm_floorDiv_III : ByteArray := prog_13_method_47_code
def y_Jm_floorDiv_III : MethodName := ⟨"java/lang/Math", "floorDiv", "(II)I"⟩
theorem d_Jm_floorDiv_III_0 : decode b_Jm_floorDiv_III 0 = .ok (.iload_n 0, 1) := by decide +kernel
theorem d_Jm_floorDiv_III_1 : decode b_Jm_floorDiv_III 1 = .ok (.iload_n 1, 1) := by decide +kernel
theorem d_Jm_floorDiv_III_2 : decode b_Jm_floorDiv_III 2 = .ok (.idiv, 1) := by decide +kernel
theorem d_Jm_floorDiv_III_3 : decode b_Jm_floorDiv_III 3 = .ok (.istore_n 2, 1) := by decide +kernel
theorem d_Jm_floorDiv_III_4 : decode b_Jm_floorDiv_III 4 = .ok (.iload_n 0, 1) := by decide +kernel
theorem d_Jm_floorDiv_III_5 : decode b_Jm_floorDiv_III 5 = .ok (.iload_n 1, 1) := by decide +kernel
theorem d_Jm_floorDiv_III_6 : decode b_Jm_floorDiv_III 6 = .ok (.ixor, 1) := by decide +kernel
theorem d_Jm_floorDiv_III_7 : decode b_Jm_floorDiv_III 7 = .ok (.ifCond .ge 14, 3) := by decide +kernel
theorem d_Jm_floorDiv_III_10 : decode b_Jm_floorDiv_III 10 = .ok (.iload_n 2, 1) := by decide +kernel
theorem d_Jm_floorDiv_III_11 : decode b_Jm_floorDiv_III 11 = .ok (.iload_n 1, 1) := by decide +kernel
theorem d_Jm_floorDiv_III_12 : decode b_Jm_floorDiv_III 12 = .ok (.imul, 1) := by decide +kernel
theorem d_Jm_floorDiv_III_13 : decode b_Jm_floorDiv_III 13 = .ok (.iload_n 0, 1) := by decide +kernel
theorem d_Jm_floorDiv_III_14 : decode b_Jm_floorDiv_III 14 = .ok (.if_icmp .eq 7, 3) := by decide +kernel
theorem d_Jm_floorDiv_III_17 : decode b_Jm_floorDiv_III 17 = .ok (.iload_n 2, 1) := by decide +kernel
theorem d_Jm_floorDiv_III_18 : decode b_Jm_floorDiv_III 18 = .ok (.iconst 1, 1) := by decide +kernel
theorem d_Jm_floorDiv_III_19 : decode b_Jm_floorDiv_III 19 = .ok (.isub, 1) := by decide +kernel
theorem d_Jm_floorDiv_III_20 : decode b_Jm_floorDiv_III 20 = .ok (.ireturn, 1) := by decide +kernel
theorem d_Jm_floorDiv_III_21 : decode b_Jm_floorDiv_III 21 = .ok (.iload_n 2, 1) := by decide +kernel
theorem d_Jm_floorDiv_III_22 : decode b_Jm_floorDiv_III 22 = .ok (.ireturn, 1) := by decide +kernel
abbrev b_Jm_abs_JJ : ByteArray := prog_13_method_61_code
def y_Jm_abs_JJ : MethodName := ⟨"java/lang/Math", "abs", "(J)J"⟩
theorem d_Jm_abs_JJ_0 : decode b_Jm_abs_JJ 0 = .ok (.lload_n 0, 1) := by decide +kernel
theorem d_Jm_abs_JJ_1 : decode b_Jm_abs_JJ 1 = .ok (.lconst 0, 1) := by decide +kernel
theorem d_Jm_abs_JJ_2 : decode b_Jm_abs_JJ 2 = .ok (.lcmp, 1) := by decide +kernel
theorem d_Jm_abs_JJ_3 : decode b_Jm_abs_JJ 3 = .ok (.ifCond .ge 8, 3) := by decide +kernel
theorem d_Jm_abs_JJ_6 : decode b_Jm_abs_JJ 6 = .ok (.lload_n 0, 1) := by decide +kernel
theorem d_Jm_abs_JJ_7 : decode b_Jm_abs_JJ 7 = .ok (.lneg, 1) := by decide +kernel
theorem d_Jm_abs_JJ_8 : decode b_Jm_abs_JJ 8 = .ok (.goto 4, 3) := by decide +kernel
theorem d_Jm_abs_JJ_11 : decode b_Jm_abs_JJ 11 = .ok (.lload_n 0, 1) := by decide +kernel
theorem d_Jm_abs_JJ_12 : decode b_Jm_abs_JJ 12 = .ok (.lreturn, 1) := by decide +kernel
abbrev b_Jm_abs_II : ByteArray := prog_13_method_59_code
def y_Jm_abs_II : MethodName := ⟨"java/lang/Math", "abs", "(I)I"⟩
theorem d_Jm_abs_II_0 : decode b_Jm_abs_II 0 = .ok (.iload_n 0, 1) := by decide +kernel
theorem d_Jm_abs_II_1 : decode b_Jm_abs_II 1 = .ok (.ifCond .ge 8, 3) := by decide +kernel
theorem d_Jm_abs_II_4 : decode b_Jm_abs_II 4 = .ok (.iload_n 0, 1) := by decide +kernel
theorem d_Jm_abs_II_5 : decode b_Jm_abs_II 5 = .ok (.ineg, 1) := by decide +kernel
theorem d_Jm_abs_II_6 : decode b_Jm_abs_II 6 = .ok (.goto 4, 3) := by decide +kernel
theorem d_Jm_abs_II_9 : decode b_Jm_abs_II 9 = .ok (.iload_n 0, 1) := by decide +kernel
theorem d_Jm_abs_II_10 : decode b_Jm_abs_II 10 = .ok (.ireturn, 1) := by decide +kernel
abbrev b_Jl_signum : ByteArray := prog_12_method_57_code
def y_Jl_signum : MethodName := ⟨"java/lang/Long", "signum", "(J)I"⟩
theorem d_Jl_signum_0 : decode b_Jl_signum 0 = .ok (.lload_n 0, 1) := by decide +kernel
theorem d_Jl_signum_1 : decode b_Jl_signum 1 = .ok (.bipush 63, 2) := by decide +kernel
theorem d_Jl_signum_3 : decode b_Jl_signum 3 = .ok (.lshr, 1) := by decide +kernel
theorem d_Jl_signum_4 : decode b_Jl_signum 4 = .ok (.lload_n 0, 1) := by decide +kernel
theorem d_Jl_signum_5 : decode b_Jl_signum 5 = .ok (.lneg, 1) := by decide +kernel
theorem d_Jl_signum_6 : decode b_Jl_signum 6 = .ok (.bipush 63, 2) := by decide +kernel
theorem d_Jl_signum_8 : decode b_Jl_signum 8 = .ok (.lushr, 1) := by decide +kernel
theorem d_Jl_signum_9 : decode b_Jl_signum 9 = .ok (.lor, 1) := by decide +kernel
theorem d_Jl_signum_10 : decode b_Jl_signum 10 = .ok (.l2i, 1) := by decide +kernel
theorem d_Jl_signum_11 : decode b_Jl_signum 11 = .ok (.ireturn, 1) := by decide +kernel
abbrev b_Jl_compare : ByteArray := prog_12_method_42_code
def y_Jl_compare : MethodName := ⟨"java/lang/Long", "compare", "(JJ)I"⟩
theorem d_Jl_compare_0 : decode b_Jl_compare 0 = .ok (.lload_n 0, 1) := by decide +kernel
theorem d_Jl_compare_1 : decode b_Jl_compare 1 = .ok (.lload_n 2, 1) := by decide +kernel
theorem d_Jl_compare_2 : decode b_Jl_compare 2 = .ok (.lcmp, 1) := by decide +kernel
theorem d_Jl_compare_3 : decode b_Jl_compare 3 = .ok (.ifCond .ge 7, 3) := by decide +kernel
theorem d_Jl_compare_6 : decode b_Jl_compare 6 = .ok (.iconst (-1), 1) := by decide +kernel
theorem d_Jl_compare_7 : decode b_Jl_compare 7 = .ok (.goto 14, 3) := by decide +kernel
theorem d_Jl_compare_10 : decode b_Jl_compare 10 = .ok (.lload_n 0, 1) := by decide +kernel
theorem d_Jl_compare_11 : decode b_Jl_compare 11 = .ok (.lload_n 2, 1) := by decide +kernel
theorem d_Jl_compare_12 : decode b_Jl_compare 12 = .ok (.lcmp, 1) := by decide +kernel
theorem d_Jl_compare_13 : decode b_Jl_compare 13 = .ok (.ifCond .ne 7, 3) := by decide +kernel
theorem d_Jl_compare_16 : decode b_Jl_compare 16 = .ok (.iconst 0, 1) := by decide +kernel
theorem d_Jl_compare_17 : decode b_Jl_compare 17 = .ok (.goto 4, 3) := by decide +kernel
theorem d_Jl_compare_20 : decode b_Jl_compare 20 = .ok (.iconst 1, 1) := by decide +kernel
theorem d_Jl_compare_21 : decode b_Jl_compare 21 = .ok (.ireturn, 1) := by decide +kernel
abbrev b_Jl_bitCount : ByteArray := prog_12_method_50_code
def y_Jl_bitCount : MethodName := ⟨"java/lang/Long", "bitCount", "(J)I"⟩
theorem d_Jl_bitCount_0 : decode b_Jl_bitCount 0 = .ok (.lload_n 0, 1) := by decide +kernel
theorem d_Jl_bitCount_1 : decode b_Jl_bitCount 1 = .ok (.lload_n 0, 1) := by decide +kernel
theorem d_Jl_bitCount_2 : decode b_Jl_bitCount 2 = .ok (.iconst 1, 1) := by decide +kernel
theorem d_Jl_bitCount_3 : decode b_Jl_bitCount 3 = .ok (.lushr, 1) := by decide +kernel
theorem d_Jl_bitCount_4 : decode b_Jl_bitCount 4 = .ok (.ldc2_w 314, 3) := by decide +kernel
theorem d_Jl_bitCount_7 : decode b_Jl_bitCount 7 = .ok (.land, 1) := by decide +kernel
theorem d_Jl_bitCount_8 : decode b_Jl_bitCount 8 = .ok (.lsub, 1) := by decide +kernel
theorem d_Jl_bitCount_9 : decode b_Jl_bitCount 9 = .ok (.lstore_n 0, 1) := by decide +kernel
theorem d_Jl_bitCount_10 : decode b_Jl_bitCount 10 = .ok (.lload_n 0, 1) := by decide +kernel
theorem d_Jl_bitCount_11 : decode b_Jl_bitCount 11 = .ok (.ldc2_w 316, 3) := by decide +kernel
theorem d_Jl_bitCount_14 : decode b_Jl_bitCount 14 = .ok (.land, 1) := by decide +kernel
theorem d_Jl_bitCount_15 : decode b_Jl_bitCount 15 = .ok (.lload_n 0, 1) := by decide +kernel
theorem d_Jl_bitCount_16 : decode b_Jl_bitCount 16 = .ok (.iconst 2, 1) := by decide +kernel
theorem d_Jl_bitCount_17 : decode b_Jl_bitCount 17 = .ok (.lushr, 1) := by decide +kernel
theorem d_Jl_bitCount_18 : decode b_Jl_bitCount 18 = .ok (.ldc2_w 316, 3) := by decide +kernel
theorem d_Jl_bitCount_21 : decode b_Jl_bitCount 21 = .ok (.land, 1) := by decide +kernel
theorem d_Jl_bitCount_22 : decode b_Jl_bitCount 22 = .ok (.ladd, 1) := by decide +kernel
theorem d_Jl_bitCount_23 : decode b_Jl_bitCount 23 = .ok (.lstore_n 0, 1) := by decide +kernel
theorem d_Jl_bitCount_24 : decode b_Jl_bitCount 24 = .ok (.lload_n 0, 1) := by decide +kernel
theorem d_Jl_bitCount_25 : decode b_Jl_bitCount 25 = .ok (.lload_n 0, 1) := by decide +kernel
theorem d_Jl_bitCount_26 : decode b_Jl_bitCount 26 = .ok (.iconst 4, 1) := by decide +kernel
theorem d_Jl_bitCount_27 : decode b_Jl_bitCount 27 = .ok (.lushr, 1) := by decide +kernel
theorem d_Jl_bitCount_28 : decode b_Jl_bitCount 28 = .ok (.ladd, 1) := by decide +kernel
theorem d_Jl_bitCount_29 : decode b_Jl_bitCount 29 = .ok (.ldc2_w 318, 3) := by decide +kernel
theorem d_Jl_bitCount_32 : decode b_Jl_bitCount 32 = .ok (.land, 1) := by decide +kernel
theorem d_Jl_bitCount_33 : decode b_Jl_bitCount 33 = .ok (.lstore_n 0, 1) := by decide +kernel
theorem d_Jl_bitCount_34 : decode b_Jl_bitCount 34 = .ok (.lload_n 0, 1) := by decide +kernel
theorem d_Jl_bitCount_35 : decode b_Jl_bitCount 35 = .ok (.lload_n 0, 1) := by decide +kernel
theorem d_Jl_bitCount_36 : decode b_Jl_bitCount 36 = .ok (.bipush 8, 2) := by decide +kernel
theorem d_Jl_bitCount_38 : decode b_Jl_bitCount 38 = .ok (.lushr, 1) := by decide +kernel
theorem d_Jl_bitCount_39 : decode b_Jl_bitCount 39 = .ok (.ladd, 1) := by decide +kernel
theorem d_Jl_bitCount_40 : decode b_Jl_bitCount 40 = .ok (.lstore_n 0, 1) := by decide +kernel
theorem d_Jl_bitCount_41 : decode b_Jl_bitCount 41 = .ok (.lload_n 0, 1) := by decide +kernel
theorem d_Jl_bitCount_42 : decode b_Jl_bitCount 42 = .ok (.lload_n 0, 1) := by decide +kernel
theorem d_Jl_bitCount_43 : decode b_Jl_bitCount 43 = .ok (.bipush 16, 2) := by decide +kernel
theorem d_Jl_bitCount_45 : decode b_Jl_bitCount 45 = .ok (.lushr, 1) := by decide +kernel
theorem d_Jl_bitCount_46 : decode b_Jl_bitCount 46 = .ok (.ladd, 1) := by decide +kernel
theorem d_Jl_bitCount_47 : decode b_Jl_bitCount 47 = .ok (.lstore_n 0, 1) := by decide +kernel
theorem d_Jl_bitCount_48 : decode b_Jl_bitCount 48 = .ok (.lload_n 0, 1) := by decide +kernel
theorem d_Jl_bitCount_49 : decode b_Jl_bitCount 49 = .ok (.lload_n 0, 1) := by decide +kernel
theorem d_Jl_bitCount_50 : decode b_Jl_bitCount 50 = .ok (.bipush 32, 2) := by decide +kernel
theorem d_Jl_bitCount_52 : decode b_Jl_bitCount 52 = .ok (.lushr, 1) := by decide +kernel
theorem d_Jl_bitCount_53 : decode b_Jl_bitCount 53 = .ok (.ladd, 1) := by decide +kernel
theorem d_Jl_bitCount_54 : decode b_Jl_bitCount 54 = .ok (.lstore_n 0, 1) := by decide +kernel
theorem d_Jl_bitCount_55 : decode b_Jl_bitCount 55 = .ok (.lload_n 0, 1) := by decide +kernel
theorem d_Jl_bitCount_56 : decode b_Jl_bitCount 56 = .ok (.l2i, 1) := by decide +kernel
theorem d_Jl_bitCount_57 : decode b_Jl_bitCount 57 = .ok (.bipush 127, 2) := by decide +kernel
theorem d_Jl_bitCount_59 : decode b_Jl_bitCount 59 = .ok (.iand, 1) := by decide +kernel
theorem d_Jl_bitCount_60 : decode b_Jl_bitCount 60 = .ok (.ireturn, 1) := by decide +kernel
abbrev b_Ff_twoAt : ByteArray := prog_3_method_3_code
def y_Ff_twoAt : MethodName := ⟨"GlyphPage$FontFile", "twoAt", "(I)I"⟩
theorem d_Ff_twoAt_0 : decode b_Ff_twoAt 0 = .ok (.iload_n 1, 1) := by decide +kernel
theorem d_Ff_twoAt_1 : decode b_Ff_twoAt 1 = .ok (.ifCond .lt 13, 3) := by decide +kernel
theorem d_Ff_twoAt_4 : decode b_Ff_twoAt 4 = .ok (.iload_n 1, 1) := by decide +kernel
theorem d_Ff_twoAt_5 : decode b_Ff_twoAt 5 = .ok (.iconst 1, 1) := by decide +kernel
theorem d_Ff_twoAt_6 : decode b_Ff_twoAt 6 = .ok (.iadd, 1) := by decide +kernel
theorem d_Ff_twoAt_7 : decode b_Ff_twoAt 7 = .ok (.aload_n 0, 1) := by decide +kernel
theorem d_Ff_twoAt_8 : decode b_Ff_twoAt 8 = .ok (.getfield 58, 3) := by decide +kernel
theorem d_Ff_twoAt_11 : decode b_Ff_twoAt 11 = .ok (.if_icmp .lt 5, 3) := by decide +kernel
theorem d_Ff_twoAt_14 : decode b_Ff_twoAt 14 = .ok (.iconst 0, 1) := by decide +kernel
theorem d_Ff_twoAt_15 : decode b_Ff_twoAt 15 = .ok (.ireturn, 1) := by decide +kernel
theorem d_Ff_twoAt_16 : decode b_Ff_twoAt 16 = .ok (.aload_n 0, 1) := by decide +kernel
theorem d_Ff_twoAt_17 : decode b_Ff_twoAt 17 = .ok (.getfield 54, 3) := by decide +kernel
theorem d_Ff_twoAt_20 : decode b_Ff_twoAt 20 = .ok (.iload_n 1, 1) := by decide +kernel
theorem d_Ff_twoAt_21 : decode b_Ff_twoAt 21 = .ok (.baload, 1) := by decide +kernel
theorem d_Ff_twoAt_22 : decode b_Ff_twoAt 22 = .ok (.sipush 255, 3) := by decide +kernel
theorem d_Ff_twoAt_25 : decode b_Ff_twoAt 25 = .ok (.iand, 1) := by decide +kernel
theorem d_Ff_twoAt_26 : decode b_Ff_twoAt 26 = .ok (.bipush 8, 2) := by decide +kernel
theorem d_Ff_twoAt_28 : decode b_Ff_twoAt 28 = .ok (.ishl, 1) := by decide +kernel
theorem d_Ff_twoAt_29 : decode b_Ff_twoAt 29 = .ok (.aload_n 0, 1) := by decide +kernel
theorem d_Ff_twoAt_30 : decode b_Ff_twoAt 30 = .ok (.getfield 54, 3) := by decide +kernel
theorem d_Ff_twoAt_33 : decode b_Ff_twoAt 33 = .ok (.iload_n 1, 1) := by decide +kernel
theorem d_Ff_twoAt_34 : decode b_Ff_twoAt 34 = .ok (.iconst 1, 1) := by decide +kernel
theorem d_Ff_twoAt_35 : decode b_Ff_twoAt 35 = .ok (.iadd, 1) := by decide +kernel
theorem d_Ff_twoAt_36 : decode b_Ff_twoAt 36 = .ok (.baload, 1) := by decide +kernel
theorem d_Ff_twoAt_37 : decode b_Ff_twoAt 37 = .ok (.sipush 255, 3) := by decide +kernel
theorem d_Ff_twoAt_40 : decode b_Ff_twoAt 40 = .ok (.iand, 1) := by decide +kernel
theorem d_Ff_twoAt_41 : decode b_Ff_twoAt 41 = .ok (.ior, 1) := by decide +kernel
theorem d_Ff_twoAt_42 : decode b_Ff_twoAt 42 = .ok (.ireturn, 1) := by decide +kernel
abbrev b_Ff_signedAt : ByteArray := prog_3_method_4_code
def y_Ff_signedAt : MethodName := ⟨"GlyphPage$FontFile", "signedAt", "(I)I"⟩
theorem d_Ff_signedAt_0 : decode b_Ff_signedAt 0 = .ok (.aload_n 0, 1) := by decide +kernel
theorem d_Ff_signedAt_1 : decode b_Ff_signedAt 1 = .ok (.iload_n 1, 1) := by decide +kernel
theorem d_Ff_signedAt_2 : decode b_Ff_signedAt 2 = .ok (.invokevirtual 96, 3) := by decide +kernel
theorem d_Ff_signedAt_5 : decode b_Ff_signedAt 5 = .ok (.i2s, 1) := by decide +kernel
theorem d_Ff_signedAt_6 : decode b_Ff_signedAt 6 = .ok (.ireturn, 1) := by decide +kernel
abbrev b_Ff_fourAt : ByteArray := prog_3_method_5_code
def y_Ff_fourAt : MethodName := ⟨"GlyphPage$FontFile", "fourAt", "(I)J"⟩
theorem d_Ff_fourAt_0 : decode b_Ff_fourAt 0 = .ok (.aload_n 0, 1) := by decide +kernel
theorem d_Ff_fourAt_1 : decode b_Ff_fourAt 1 = .ok (.iload_n 1, 1) := by decide +kernel
theorem d_Ff_fourAt_2 : decode b_Ff_fourAt 2 = .ok (.invokevirtual 96, 3) := by decide +kernel
theorem d_Ff_fourAt_5 : decode b_Ff_fourAt 5 = .ok (.i2l, 1) := by decide +kernel
theorem d_Ff_fourAt_6 : decode b_Ff_fourAt 6 = .ok (.bipush 16, 2) := by decide +kernel
theorem d_Ff_fourAt_8 : decode b_Ff_fourAt 8 = .ok (.lshl, 1) := by decide +kernel
theorem d_Ff_fourAt_9 : decode b_Ff_fourAt 9 = .ok (.aload_n 0, 1) := by decide +kernel
theorem d_Ff_fourAt_10 : decode b_Ff_fourAt 10 = .ok (.iload_n 1, 1) := by decide +kernel
theorem d_Ff_fourAt_11 : decode b_Ff_fourAt 11 = .ok (.iconst 2, 1) := by decide +kernel
theorem d_Ff_fourAt_12 : decode b_Ff_fourAt 12 = .ok (.iadd, 1) := by decide +kernel
theorem d_Ff_fourAt_13 : decode b_Ff_fourAt 13 = .ok (.invokevirtual 96, 3) := by decide +kernel
theorem d_Ff_fourAt_16 : decode b_Ff_fourAt 16 = .ok (.i2l, 1) := by decide +kernel
theorem d_Ff_fourAt_17 : decode b_Ff_fourAt 17 = .ok (.lor, 1) := by decide +kernel
theorem d_Ff_fourAt_18 : decode b_Ff_fourAt 18 = .ok (.lreturn, 1) := by decide +kernel
abbrev b_Ff_isModest : ByteArray := prog_3_method_12_code
def y_Ff_isModest : MethodName := ⟨"GlyphPage$FontFile", "isModest", "(I)Z"⟩
theorem d_Ff_isModest_0 : decode b_Ff_isModest 0 = .ok (.iload_n 1, 1) := by decide +kernel
theorem d_Ff_isModest_1 : decode b_Ff_isModest 1 = .ok (.bipush (-8), 2) := by decide +kernel
theorem d_Ff_isModest_3 : decode b_Ff_isModest 3 = .ok (.aload_n 0, 1) := by decide +kernel
theorem d_Ff_isModest_4 : decode b_Ff_isModest 4 = .ok (.getfield 19, 3) := by decide +kernel
theorem d_Ff_isModest_7 : decode b_Ff_isModest 7 = .ok (.imul, 1) := by decide +kernel
theorem d_Ff_isModest_8 : decode b_Ff_isModest 8 = .ok (.if_icmp .lt 18, 3) := by decide +kernel
theorem d_Ff_isModest_11 : decode b_Ff_isModest 11 = .ok (.iload_n 1, 1) := by decide +kernel
theorem d_Ff_isModest_12 : decode b_Ff_isModest 12 = .ok (.bipush 8, 2) := by decide +kernel
theorem d_Ff_isModest_14 : decode b_Ff_isModest 14 = .ok (.aload_n 0, 1) := by decide +kernel
theorem d_Ff_isModest_15 : decode b_Ff_isModest 15 = .ok (.getfield 19, 3) := by decide +kernel
theorem d_Ff_isModest_18 : decode b_Ff_isModest 18 = .ok (.imul, 1) := by decide +kernel
theorem d_Ff_isModest_19 : decode b_Ff_isModest 19 = .ok (.if_icmp .gt 7, 3) := by decide +kernel
theorem d_Ff_isModest_22 : decode b_Ff_isModest 22 = .ok (.iconst 1, 1) := by decide +kernel
theorem d_Ff_isModest_23 : decode b_Ff_isModest 23 = .ok (.goto 4, 3) := by decide +kernel
theorem d_Ff_isModest_26 : decode b_Ff_isModest 26 = .ok (.iconst 0, 1) := by decide +kernel
theorem d_Ff_isModest_27 : decode b_Ff_isModest 27 = .ok (.ireturn, 1) := by decide +kernel
abbrev b_Ff_advanceOf : ByteArray := prog_3_method_14_code
def y_Ff_advanceOf : MethodName := ⟨"GlyphPage$FontFile", "advanceOf", "(I)I"⟩
theorem d_Ff_advanceOf_0 : decode b_Ff_advanceOf 0 = .ok (.aload_n 0, 1) := by decide +kernel
theorem d_Ff_advanceOf_1 : decode b_Ff_advanceOf 1 = .ok (.aload_n 0, 1) := by decide +kernel
theorem d_Ff_advanceOf_2 : decode b_Ff_advanceOf 2 = .ok (.getfield 9, 3) := by decide +kernel
theorem d_Ff_advanceOf_5 : decode b_Ff_advanceOf 5 = .ok (.iconst 4, 1) := by decide +kernel
theorem d_Ff_advanceOf_6 : decode b_Ff_advanceOf 6 = .ok (.iaload, 1) := by decide +kernel
theorem d_Ff_advanceOf_7 : decode b_Ff_advanceOf 7 = .ok (.iconst 4, 1) := by decide +kernel
theorem d_Ff_advanceOf_8 : decode b_Ff_advanceOf 8 = .ok (.iload_n 1, 1) := by decide +kernel
theorem d_Ff_advanceOf_9 : decode b_Ff_advanceOf 9 = .ok (.aload_n 0, 1) := by decide +kernel
theorem d_Ff_advanceOf_10 : decode b_Ff_advanceOf 10 = .ok (.getfield 39, 3) := by decide +kernel
theorem d_Ff_advanceOf_13 : decode b_Ff_advanceOf 13 = .ok (.iconst 1, 1) := by decide +kernel
theorem d_Ff_advanceOf_14 : decode b_Ff_advanceOf 14 = .ok (.isub, 1) := by decide +kernel
theorem d_Ff_advanceOf_15 : decode b_Ff_advanceOf 15 = .ok (.invokestatic 135, 3) := by decide +kernel
theorem d_Ff_advanceOf_18 : decode b_Ff_advanceOf 18 = .ok (.imul, 1) := by decide +kernel
theorem d_Ff_advanceOf_19 : decode b_Ff_advanceOf 19 = .ok (.iadd, 1) := by decide +kernel
theorem d_Ff_advanceOf_20 : decode b_Ff_advanceOf 20 = .ok (.invokevirtual 96, 3) := by decide +kernel
theorem d_Ff_advanceOf_23 : decode b_Ff_advanceOf 23 = .ok (.ireturn, 1) := by decide +kernel
abbrev b_Ff_locaAt : ByteArray := prog_3_method_16_code
def y_Ff_locaAt : MethodName := ⟨"GlyphPage$FontFile", "locaAt", "(I)J"⟩
theorem d_Ff_locaAt_0 : decode b_Ff_locaAt 0 = .ok (.aload_n 0, 1) := by decide +kernel
theorem d_Ff_locaAt_1 : decode b_Ff_locaAt 1 = .ok (.getfield 9, 3) := by decide +kernel
theorem d_Ff_locaAt_4 : decode b_Ff_locaAt 4 = .ok (.iconst 5, 1) := by decide +kernel
theorem d_Ff_locaAt_5 : decode b_Ff_locaAt 5 = .ok (.iaload, 1) := by decide +kernel
theorem d_Ff_locaAt_6 : decode b_Ff_locaAt 6 = .ok (.istore_n 2, 1) := by decide +kernel
theorem d_Ff_locaAt_7 : decode b_Ff_locaAt 7 = .ok (.aload_n 0, 1) := by decide +kernel
theorem d_Ff_locaAt_8 : decode b_Ff_locaAt 8 = .ok (.getfield 35, 3) := by decide +kernel
theorem d_Ff_locaAt_11 : decode b_Ff_locaAt 11 = .ok (.ifCond .eq 15, 3) := by decide +kernel
theorem d_Ff_locaAt_14 : decode b_Ff_locaAt 14 = .ok (.aload_n 0, 1) := by decide +kernel
theorem d_Ff_locaAt_15 : decode b_Ff_locaAt 15 = .ok (.iload_n 2, 1) := by decide +kernel
theorem d_Ff_locaAt_16 : decode b_Ff_locaAt 16 = .ok (.iconst 4, 1) := by decide +kernel
theorem d_Ff_locaAt_17 : decode b_Ff_locaAt 17 = .ok (.iload_n 1, 1) := by decide +kernel
theorem d_Ff_locaAt_18 : decode b_Ff_locaAt 18 = .ok (.imul, 1) := by decide +kernel
theorem d_Ff_locaAt_19 : decode b_Ff_locaAt 19 = .ok (.iadd, 1) := by decide +kernel
theorem d_Ff_locaAt_20 : decode b_Ff_locaAt 20 = .ok (.invokevirtual 100, 3) := by decide +kernel
theorem d_Ff_locaAt_23 : decode b_Ff_locaAt 23 = .ok (.goto 17, 3) := by decide +kernel
theorem d_Ff_locaAt_26 : decode b_Ff_locaAt 26 = .ok (.ldc2_w 144, 3) := by decide +kernel
theorem d_Ff_locaAt_29 : decode b_Ff_locaAt 29 = .ok (.aload_n 0, 1) := by decide +kernel
theorem d_Ff_locaAt_30 : decode b_Ff_locaAt 30 = .ok (.iload_n 2, 1) := by decide +kernel
theorem d_Ff_locaAt_31 : decode b_Ff_locaAt 31 = .ok (.iconst 2, 1) := by decide +kernel
theorem d_Ff_locaAt_32 : decode b_Ff_locaAt 32 = .ok (.iload_n 1, 1) := by decide +kernel
theorem d_Ff_locaAt_33 : decode b_Ff_locaAt 33 = .ok (.imul, 1) := by decide +kernel
theorem d_Ff_locaAt_34 : decode b_Ff_locaAt 34 = .ok (.iadd, 1) := by decide +kernel
theorem d_Ff_locaAt_35 : decode b_Ff_locaAt 35 = .ok (.invokevirtual 96, 3) := by decide +kernel
theorem d_Ff_locaAt_38 : decode b_Ff_locaAt 38 = .ok (.i2l, 1) := by decide +kernel
theorem d_Ff_locaAt_39 : decode b_Ff_locaAt 39 = .ok (.lmul, 1) := by decide +kernel
theorem d_Ff_locaAt_40 : decode b_Ff_locaAt 40 = .ok (.lreturn, 1) := by decide +kernel
abbrev b_Ff_pairAt : ByteArray := prog_3_method_23_code
def y_Ff_pairAt : MethodName := ⟨"GlyphPage$FontFile", "pairAt", "(I)J"⟩
theorem d_Ff_pairAt_0 : decode b_Ff_pairAt 0 = .ok (.aload_n 0, 1) := by decide +kernel
theorem d_Ff_pairAt_1 : decode b_Ff_pairAt 1 = .ok (.aload_n 0, 1) := by decide +kernel
theorem d_Ff_pairAt_2 : decode b_Ff_pairAt 2 = .ok (.getfield 9, 3) := by decide +kernel
theorem d_Ff_pairAt_5 : decode b_Ff_pairAt 5 = .ok (.bipush 7, 2) := by decide +kernel
theorem d_Ff_pairAt_7 : decode b_Ff_pairAt 7 = .ok (.iaload, 1) := by decide +kernel
theorem d_Ff_pairAt_8 : decode b_Ff_pairAt 8 = .ok (.bipush 18, 2) := by decide +kernel
theorem d_Ff_pairAt_10 : decode b_Ff_pairAt 10 = .ok (.iadd, 1) := by decide +kernel
theorem d_Ff_pairAt_11 : decode b_Ff_pairAt 11 = .ok (.bipush 6, 2) := by decide +kernel
theorem d_Ff_pairAt_13 : decode b_Ff_pairAt 13 = .ok (.iload_n 1, 1) := by decide +kernel
theorem d_Ff_pairAt_14 : decode b_Ff_pairAt 14 = .ok (.imul, 1) := by decide +kernel
theorem d_Ff_pairAt_15 : decode b_Ff_pairAt 15 = .ok (.iadd, 1) := by decide +kernel
theorem d_Ff_pairAt_16 : decode b_Ff_pairAt 16 = .ok (.invokevirtual 100, 3) := by decide +kernel
theorem d_Ff_pairAt_19 : decode b_Ff_pairAt 19 = .ok (.lreturn, 1) := by decide +kernel
abbrev b_Ff_scaled : ByteArray := prog_3_method_25_code
def y_Ff_scaled : MethodName := ⟨"GlyphPage$FontFile", "scaled", "(II)I"⟩
theorem d_Ff_scaled_0 : decode b_Ff_scaled 0 = .ok (.ldc2_w 165, 3) := by decide +kernel
theorem d_Ff_scaled_3 : decode b_Ff_scaled 3 = .ok (.iload_n 2, 1) := by decide +kernel
theorem d_Ff_scaled_4 : decode b_Ff_scaled 4 = .ok (.i2l, 1) := by decide +kernel
theorem d_Ff_scaled_5 : decode b_Ff_scaled 5 = .ok (.lmul, 1) := by decide +kernel
theorem d_Ff_scaled_6 : decode b_Ff_scaled 6 = .ok (.iload_n 1, 1) := by decide +kernel
theorem d_Ff_scaled_7 : decode b_Ff_scaled 7 = .ok (.i2l, 1) := by decide +kernel
theorem d_Ff_scaled_8 : decode b_Ff_scaled 8 = .ok (.lmul, 1) := by decide +kernel
theorem d_Ff_scaled_9 : decode b_Ff_scaled 9 = .ok (.aload_n 0, 1) := by decide +kernel
theorem d_Ff_scaled_10 : decode b_Ff_scaled 10 = .ok (.getfield 19, 3) := by decide +kernel
theorem d_Ff_scaled_13 : decode b_Ff_scaled 13 = .ok (.i2l, 1) := by decide +kernel
theorem d_Ff_scaled_14 : decode b_Ff_scaled 14 = .ok (.ladd, 1) := by decide +kernel
theorem d_Ff_scaled_15 : decode b_Ff_scaled 15 = .ok (.ldc2_w 144, 3) := by decide +kernel
theorem d_Ff_scaled_18 : decode b_Ff_scaled 18 = .ok (.aload_n 0, 1) := by decide +kernel
theorem d_Ff_scaled_19 : decode b_Ff_scaled 19 = .ok (.getfield 19, 3) := by decide +kernel
theorem d_Ff_scaled_22 : decode b_Ff_scaled 22 = .ok (.i2l, 1) := by decide +kernel
theorem d_Ff_scaled_23 : decode b_Ff_scaled 23 = .ok (.lmul, 1) := by decide +kernel
theorem d_Ff_scaled_24 : decode b_Ff_scaled 24 = .ok (.invokestatic 167, 3) := by decide +kernel
theorem d_Ff_scaled_27 : decode b_Ff_scaled 27 = .ok (.l2i, 1) := by decide +kernel
theorem d_Ff_scaled_28 : decode b_Ff_scaled 28 = .ok (.ireturn, 1) := by decide +kernel
abbrev b_Ff_sum : ByteArray := prog_3_method_8_code
def y_Ff_sum : MethodName := ⟨"GlyphPage$FontFile", "sum", "(IIZ)J"⟩
theorem d_Ff_sum_0 : decode b_Ff_sum 0 = .ok (.iconst 0, 1) := by decide +kernel
theorem d_Ff_sum_1 : decode b_Ff_sum 1 = .ok (.istore 4, 2) := by decide +kernel
theorem d_Ff_sum_3 : decode b_Ff_sum 3 = .ok (.iconst 0, 1) := by decide +kernel
theorem d_Ff_sum_4 : decode b_Ff_sum 4 = .ok (.istore 5, 2) := by decide +kernel
theorem d_Ff_sum_6 : decode b_Ff_sum 6 = .ok (.iload 5, 2) := by decide +kernel
theorem d_Ff_sum_8 : decode b_Ff_sum 8 = .ok (.iload_n 2, 1) := by decide +kernel
theorem d_Ff_sum_9 : decode b_Ff_sum 9 = .ok (.if_icmp .ge 67, 3) := by decide +kernel
theorem d_Ff_sum_12 : decode b_Ff_sum 12 = .ok (.iload_n 1, 1) := by decide +kernel
theorem d_Ff_sum_13 : decode b_Ff_sum 13 = .ok (.iload 5, 2) := by decide +kernel
theorem d_Ff_sum_15 : decode b_Ff_sum 15 = .ok (.iadd, 1) := by decide +kernel
theorem d_Ff_sum_16 : decode b_Ff_sum 16 = .ok (.aload_n 0, 1) := by decide +kernel
theorem d_Ff_sum_17 : decode b_Ff_sum 17 = .ok (.getfield 58, 3) := by decide +kernel
theorem d_Ff_sum_20 : decode b_Ff_sum 20 = .ok (.if_icmp .ge 56, 3) := by decide +kernel
theorem d_Ff_sum_23 : decode b_Ff_sum 23 = .ok (.iload_n 3, 1) := by decide +kernel
theorem d_Ff_sum_24 : decode b_Ff_sum 24 = .ok (.ifCond .eq 17, 3) := by decide +kernel
theorem d_Ff_sum_27 : decode b_Ff_sum 27 = .ok (.iload 5, 2) := by decide +kernel
theorem d_Ff_sum_29 : decode b_Ff_sum 29 = .ok (.bipush 8, 2) := by decide +kernel
theorem d_Ff_sum_31 : decode b_Ff_sum 31 = .ok (.if_icmp .lt 10, 3) := by decide +kernel
theorem d_Ff_sum_34 : decode b_Ff_sum 34 = .ok (.iload 5, 2) := by decide +kernel
theorem d_Ff_sum_36 : decode b_Ff_sum 36 = .ok (.bipush 11, 2) := by decide +kernel
theorem d_Ff_sum_38 : decode b_Ff_sum 38 = .ok (.if_icmp .le 32, 3) := by decide +kernel
theorem d_Ff_sum_41 : decode b_Ff_sum 41 = .ok (.iload 4, 2) := by decide +kernel
theorem d_Ff_sum_43 : decode b_Ff_sum 43 = .ok (.aload_n 0, 1) := by decide +kernel
theorem d_Ff_sum_44 : decode b_Ff_sum 44 = .ok (.getfield 54, 3) := by decide +kernel
theorem d_Ff_sum_47 : decode b_Ff_sum 47 = .ok (.iload_n 1, 1) := by decide +kernel
theorem d_Ff_sum_48 : decode b_Ff_sum 48 = .ok (.iload 5, 2) := by decide +kernel
theorem d_Ff_sum_50 : decode b_Ff_sum 50 = .ok (.iadd, 1) := by decide +kernel
theorem d_Ff_sum_51 : decode b_Ff_sum 51 = .ok (.baload, 1) := by decide +kernel
theorem d_Ff_sum_52 : decode b_Ff_sum 52 = .ok (.sipush 255, 3) := by decide +kernel
theorem d_Ff_sum_55 : decode b_Ff_sum 55 = .ok (.iand, 1) := by decide +kernel
theorem d_Ff_sum_56 : decode b_Ff_sum 56 = .ok (.bipush 24, 2) := by decide +kernel
theorem d_Ff_sum_58 : decode b_Ff_sum 58 = .ok (.bipush 8, 2) := by decide +kernel
theorem d_Ff_sum_60 : decode b_Ff_sum 60 = .ok (.iload 5, 2) := by decide +kernel
theorem d_Ff_sum_62 : decode b_Ff_sum 62 = .ok (.iconst 3, 1) := by decide +kernel
theorem d_Ff_sum_63 : decode b_Ff_sum 63 = .ok (.iand, 1) := by decide +kernel
theorem d_Ff_sum_64 : decode b_Ff_sum 64 = .ok (.imul, 1) := by decide +kernel
theorem d_Ff_sum_65 : decode b_Ff_sum 65 = .ok (.isub, 1) := by decide +kernel
theorem d_Ff_sum_66 : decode b_Ff_sum 66 = .ok (.ishl, 1) := by decide +kernel
theorem d_Ff_sum_67 : decode b_Ff_sum 67 = .ok (.iadd, 1) := by decide +kernel
theorem d_Ff_sum_68 : decode b_Ff_sum 68 = .ok (.istore 4, 2) := by decide +kernel
theorem d_Ff_sum_70 : decode b_Ff_sum 70 = .ok (.iinc 5 1, 3) := by decide +kernel
theorem d_Ff_sum_73 : decode b_Ff_sum 73 = .ok (.goto (-67), 3) := by decide +kernel
theorem d_Ff_sum_76 : decode b_Ff_sum 76 = .ok (.iload 4, 2) := by decide +kernel
theorem d_Ff_sum_78 : decode b_Ff_sum 78 = .ok (.i2l, 1) := by decide +kernel
theorem d_Ff_sum_79 : decode b_Ff_sum 79 = .ok (.ldc2_w 121, 3) := by decide +kernel
theorem d_Ff_sum_82 : decode b_Ff_sum 82 = .ok (.land, 1) := by decide +kernel
theorem d_Ff_sum_83 : decode b_Ff_sum 83 = .ok (.lreturn, 1) := by decide +kernel
section
variable {p : Program} {l : Launch} {e : Env} {s : State} {m : MethodId} {args : Array Value} {below : List Frame} {meth : Method} {c : Code} {A : Nat → Prop} {dC : Nat → ClassId} {dI : Nat → Nat → Nat} {cy : Nat → ClassId}
def P_Jm_floorDiv_JJJ  (a1 : Int64) (a2 : Int64) : Option (Int64) :=
  dzJ a2 <| if 0 ≤ (lg_cmp (a1 ^^^ a2) (0 : Int64)) then (some (a1 / a2)) else (if (lg_cmp ((a1 / a2) * a2) a1) = 0 then (some (a1 / a2)) else (some ((a1 / a2) - (1 : Int64))))
set_option maxHeartbeats 4000000 in
set_option maxRecDepth 100000 in
theorem c_Jm_floorDiv_JJJ (l : Launch) (dC : Nat → ClassId) (dI : Nat → Nat → Nat) (cy : Nat → ClassId) (sz : Nat)   (a1 : Int64) (a2 : Int64) (uu : Int64) (h : P_Jm_floorDiv_JJJ a1 a2 = some uu) : Met l y_Jm_floorDiv_JJJ (Cond.code y_Jm_floorDiv_JJJ b_Jm_floorDiv_JJJ 6 (some .long) :: G) ({ frames := 0, cells := 0, slots := 0, locals := 0 } : Room) (va_Pc [.long a1, .long a2] (fun U => U.heap.size = sz ∧ va_P (dC, dI) classes [] U.heap ∧ va_K (dC, dI) classes (TY cy) U ∧ va_D (fun _ => True) [])) (va_Ql (fun r (_ : Unit) => r = uu) (fun _ t => va_P (dC, dI) classes [] t.heap ∧ va_K (dC, dI) classes (TY cy) t ∧ va_D (va_A [] sz) []) (va_A [] sz)) 0 0 (va_A [] sz) := by
  refine va_MetF (cc := b_Jm_floorDiv_JJJ) (maxL := 6) (ret := (some .long)) (by decide +kernel) rfl ?_
  intro p e s m args below meth c s₁ B hml hv
  obtain ⟨rfl, hsz, hP, hK, hD0⟩ := hv
  have hx := B.exec
  have hb := B.bytes
  have hr := B.returns
  have hts := atoms_spec (ws := Cond.code y_Jm_floorDiv_JJJ b_Jm_floorDiv_JJJ 6 (some .long) :: G) B.pre
  have htsG : ∀ w ∈ G, w.before _ s = true := fun w hw => hts w (List.mem_cons_of_mem _ hw)
  have hown : s.vm.findClass "java/lang/Math" = some m.cls := findClass_of_methodNamed B.named
  have hlocks := B.notSynchronized
  subst hsz
  have hD := hD0.self (sz := s.heap.size)
  generalize hAe : va_A [] s.heap.size = A at hD ⊢
  have hA : ∀ q : Nat, s.heap.size ≤ q → A q := fun q h => by rw [← hAe]; exact Or.inr h
  have hS : va_S A s.heap s.heap [] := va_S.rf
  have hl := lv_entry ([.long a1, .long a2]) (n := 6) (Nat.le_of_ble_eq_true rfl)
  rw [lg_entry_eq]
  generalize (lg_sl ([.long a1, .long a2]) ++ List.replicate (6 - (lg_sl ([.long a1, .long a2])).length) Slot.unset).toArray = ls at hl ⊢
  have hl : lv_has ls 6 [(0, .long a1), (2, .long a2)] := hl
  have C0 : Cx p s m _ meth c A dC dI cy b_Jm_floorDiv_JJJ 6 (some .long) "java/lang/Math" := ⟨hx, hb, hr, hlocks, hml, hown, htsG, hA, hK⟩
  unfold P_Jm_floorDiv_JJJ at h
  refine lv_lload_n hx hb d_Jm_floorDiv_JJJ_0 rfl (lv_at hl 0 rfl) ?_
  refine lv_lload_n hx hb d_Jm_floorDiv_JJJ_1 rfl (lv_at hl 1 rfl) ?_
  obtain ⟨hne_1, h⟩ := dzJ_some h
  refine lv_ldiv hx hb d_Jm_floorDiv_JJJ_2 hne_1 ?_
  refine lv_lstore (lv' := [(4, .long (a1 / a2)), (0, .long a1), (2, .long a2)]) hx hb d_Jm_floorDiv_JJJ_3 hl (by decide) rfl (fun ls hl => ?_)
  refine lv_lload_n hx hb d_Jm_floorDiv_JJJ_5 rfl (lv_at hl 1 rfl) ?_
  refine lv_lload_n hx hb d_Jm_floorDiv_JJJ_6 rfl (lv_at hl 2 rfl) ?_
  refine lv_lxor hx hb d_Jm_floorDiv_JJJ_7 ?_
  refine lv_lconst (v := (0 : Int64)) hx hb d_Jm_floorDiv_JJJ_8 (by decide) ?_
  refine W.lcmp hx hb d_Jm_floorDiv_JJJ_9 ?_
  refine lv_if_ge (tgt := 27) hx hb d_Jm_floorDiv_JJJ_10 (by decide) (fun c_2 => ?_) (fun c_2 => ?_)
  · replace h := (if_pos c_2).symm.trans h
    refine lv_lload hx hb d_Jm_floorDiv_JJJ_27 (lv_at hl 0 rfl) ?_
    cases h
    exact W.lret hx hb hr (fun t ht hW => ⟨⟨_, (), rfl, rfl, by rw [ht]; exact hP, va_K.moved hW.alike hK, hD⟩, hS.F ht⟩) hS.2.2 d_Jm_floorDiv_JJJ_29 hlocks
  · replace h := (if_neg c_2).symm.trans h
    refine lv_lload hx hb d_Jm_floorDiv_JJJ_13 (lv_at hl 0 rfl) ?_
    refine lv_lload_n hx hb d_Jm_floorDiv_JJJ_15 rfl (lv_at hl 2 rfl) ?_
    refine lv_lmul hx hb d_Jm_floorDiv_JJJ_16 ?_
    refine lv_lload_n hx hb d_Jm_floorDiv_JJJ_17 rfl (lv_at hl 1 rfl) ?_
    refine W.lcmp hx hb d_Jm_floorDiv_JJJ_18 ?_
    refine lv_if_eq (tgt := 27) hx hb d_Jm_floorDiv_JJJ_19 (by decide) (fun c_3 => ?_) (fun c_3 => ?_)
    · replace h := (if_pos c_3).symm.trans h
      refine lv_lload hx hb d_Jm_floorDiv_JJJ_27 (lv_at hl 0 rfl) ?_
      cases h
      exact W.lret hx hb hr (fun t ht hW => ⟨⟨_, (), rfl, rfl, by rw [ht]; exact hP, va_K.moved hW.alike hK, hD⟩, hS.F ht⟩) hS.2.2 d_Jm_floorDiv_JJJ_29 hlocks
    · replace h := (if_neg c_3).symm.trans h
      refine lv_lload hx hb d_Jm_floorDiv_JJJ_22 (lv_at hl 0 rfl) ?_
      refine lv_lconst (v := (1 : Int64)) hx hb d_Jm_floorDiv_JJJ_24 (by decide) ?_
      refine lv_lsub hx hb d_Jm_floorDiv_JJJ_25 ?_
      cases h
      exact W.lret hx hb hr (fun t ht hW => ⟨⟨_, (), rfl, rfl, by rw [ht]; exact hP, va_K.moved hW.alike hK, hD⟩, hS.F ht⟩) hS.2.2 d_Jm_floorDiv_JJJ_26 hlocks
def P_Jm_floorDiv_III  (a1 : Int32) (a2 : Int32) : Option (Int32) :=
  dzI a2 <| if 0 ≤ (a1 ^^^ a2) then (some (a1 / a2)) else (if ((a1 / a2) * a2) = a1 then (some (a1 / a2)) else (some ((a1 / a2) - (1 : Int32))))
set_option maxHeartbeats 4000000 in
set_option maxRecDepth 100000 in
theorem c_Jm_floorDiv_III (l : Launch) (dC : Nat → ClassId) (dI : Nat → Nat → Nat) (cy : Nat → ClassId) (sz : Nat)   (a1 : Int32) (a2 : Int32) (uu : Int32) (h : P_Jm_floorDiv_III a1 a2 = some uu) : Met l y_Jm_floorDiv_III (Cond.code y_Jm_floorDiv_III b_Jm_floorDiv_III 3 (some .int) :: G) ({ frames := 0, cells := 0, slots := 0, locals := 0 } : Room) (va_Pc [.int a1, .int a2] (fun U => U.heap.size = sz ∧ va_P (dC, dI) classes [] U.heap ∧ va_K (dC, dI) classes (TY cy) U ∧ va_D (fun _ => True) [])) (va_Qi (fun r (_ : Unit) => r = uu) (fun _ t => va_P (dC, dI) classes [] t.heap ∧ va_K (dC, dI) classes (TY cy) t ∧ va_D (va_A [] sz) []) (va_A [] sz)) 0 0 (va_A [] sz) := by
  refine va_MetF (cc := b_Jm_floorDiv_III) (maxL := 3) (ret := (some .int)) (by decide +kernel) rfl ?_
  intro p e s m args below meth c s₁ B hml hv
  obtain ⟨rfl, hsz, hP, hK, hD0⟩ := hv
  have hx := B.exec
  have hb := B.bytes
  have hr := B.returns
  have hts := atoms_spec (ws := Cond.code y_Jm_floorDiv_III b_Jm_floorDiv_III 3 (some .int) :: G) B.pre
  have htsG : ∀ w ∈ G, w.before _ s = true := fun w hw => hts w (List.mem_cons_of_mem _ hw)
  have hown : s.vm.findClass "java/lang/Math" = some m.cls := findClass_of_methodNamed B.named
  have hlocks := B.notSynchronized
  subst hsz
  have hD := hD0.self (sz := s.heap.size)
  generalize hAe : va_A [] s.heap.size = A at hD ⊢
  have hA : ∀ q : Nat, s.heap.size ≤ q → A q := fun q h => by rw [← hAe]; exact Or.inr h
  have hS : va_S A s.heap s.heap [] := va_S.rf
  have hl := lv_entry ([.int a1, .int a2]) (n := 3) (Nat.le_of_ble_eq_true rfl)
  rw [lg_entry_eq]
  generalize (lg_sl ([.int a1, .int a2]) ++ List.replicate (3 - (lg_sl ([.int a1, .int a2])).length) Slot.unset).toArray = ls at hl ⊢
  have hl : lv_has ls 3 [(0, .int a1), (1, .int a2)] := hl
  have C0 : Cx p s m _ meth c A dC dI cy b_Jm_floorDiv_III 3 (some .int) "java/lang/Math" := ⟨hx, hb, hr, hlocks, hml, hown, htsG, hA, hK⟩
  unfold P_Jm_floorDiv_III at h
  refine lv_iload_n hx hb d_Jm_floorDiv_III_0 rfl (lv_at hl 0 rfl) ?_
  refine lv_iload_n hx hb d_Jm_floorDiv_III_1 rfl (lv_at hl 1 rfl) ?_
  obtain ⟨hne_1, h⟩ := dzI_some h
  refine lv_idiv hx hb d_Jm_floorDiv_III_2 hne_1 ?_
  refine lv_istore_n (lv' := [(2, .int (a1 / a2)), (0, .int a1), (1, .int a2)]) hx hb d_Jm_floorDiv_III_3 rfl hl (by decide) rfl (fun ls hl => ?_)
  refine lv_iload_n hx hb d_Jm_floorDiv_III_4 rfl (lv_at hl 1 rfl) ?_
  refine lv_iload_n hx hb d_Jm_floorDiv_III_5 rfl (lv_at hl 2 rfl) ?_
  refine lv_ixor hx hb d_Jm_floorDiv_III_6 ?_
  refine lv_if_ge (tgt := 21) hx hb d_Jm_floorDiv_III_7 (by decide) (fun c_2 => ?_) (fun c_2 => ?_)
  · replace h := (if_pos c_2).symm.trans h
    refine lv_iload_n hx hb d_Jm_floorDiv_III_21 rfl (lv_at hl 0 rfl) ?_
    cases h
    exact W.iret hx hb hr (fun t ht hW => ⟨⟨_, (), rfl, rfl, by rw [ht]; exact hP, va_K.moved hW.alike hK, hD⟩, hS.F ht⟩) hS.2.2 d_Jm_floorDiv_III_22 hlocks
  · replace h := (if_neg c_2).symm.trans h
    refine lv_iload_n hx hb d_Jm_floorDiv_III_10 rfl (lv_at hl 0 rfl) ?_
    refine lv_iload_n hx hb d_Jm_floorDiv_III_11 rfl (lv_at hl 2 rfl) ?_
    refine lv_imul hx hb d_Jm_floorDiv_III_12 ?_
    refine lv_iload_n hx hb d_Jm_floorDiv_III_13 rfl (lv_at hl 1 rfl) ?_
    refine lv_icmp_eq (tgt := 21) hx hb d_Jm_floorDiv_III_14 (by decide) (fun c_3 => ?_) (fun c_3 => ?_)
    · replace h := (if_pos c_3).symm.trans h
      refine lv_iload_n hx hb d_Jm_floorDiv_III_21 rfl (lv_at hl 0 rfl) ?_
      cases h
      exact W.iret hx hb hr (fun t ht hW => ⟨⟨_, (), rfl, rfl, by rw [ht]; exact hP, va_K.moved hW.alike hK, hD⟩, hS.F ht⟩) hS.2.2 d_Jm_floorDiv_III_22 hlocks
    · replace h := (if_neg c_3).symm.trans h
      refine lv_iload_n hx hb d_Jm_floorDiv_III_17 rfl (lv_at hl 0 rfl) ?_
      refine lv_iconst (v := (1 : Int32)) hx hb d_Jm_floorDiv_III_18 (by decide) ?_
      refine lv_isub hx hb d_Jm_floorDiv_III_19 ?_
      cases h
      exact W.iret hx hb hr (fun t ht hW => ⟨⟨_, (), rfl, rfl, by rw [ht]; exact hP, va_K.moved hW.alike hK, hD⟩, hS.F ht⟩) hS.2.2 d_Jm_floorDiv_III_20 hlocks
def P_Jm_abs_JJ  (a1 : Int64) : Option (Int64) :=
  if 0 ≤ (lg_cmp a1 (0 : Int64)) then (some a1) else (some (-a1))
set_option maxHeartbeats 4000000 in
set_option maxRecDepth 100000 in
theorem c_Jm_abs_JJ (l : Launch) (dC : Nat → ClassId) (dI : Nat → Nat → Nat) (cy : Nat → ClassId) (sz : Nat)   (a1 : Int64) (uu : Int64) (h : P_Jm_abs_JJ a1 = some uu) : Met l y_Jm_abs_JJ (Cond.code y_Jm_abs_JJ b_Jm_abs_JJ 2 (some .long) :: G) ({ frames := 0, cells := 0, slots := 0, locals := 0 } : Room) (va_Pc [.long a1] (fun U => U.heap.size = sz ∧ va_P (dC, dI) classes [] U.heap ∧ va_K (dC, dI) classes (TY cy) U ∧ va_D (fun _ => True) [])) (va_Ql (fun r (_ : Unit) => r = uu) (fun _ t => va_P (dC, dI) classes [] t.heap ∧ va_K (dC, dI) classes (TY cy) t ∧ va_D (va_A [] sz) []) (va_A [] sz)) 0 0 (va_A [] sz) := by
  refine va_MetF (cc := b_Jm_abs_JJ) (maxL := 2) (ret := (some .long)) (by decide +kernel) rfl ?_
  intro p e s m args below meth c s₁ B hml hv
  obtain ⟨rfl, hsz, hP, hK, hD0⟩ := hv
  have hx := B.exec
  have hb := B.bytes
  have hr := B.returns
  have hts := atoms_spec (ws := Cond.code y_Jm_abs_JJ b_Jm_abs_JJ 2 (some .long) :: G) B.pre
  have htsG : ∀ w ∈ G, w.before _ s = true := fun w hw => hts w (List.mem_cons_of_mem _ hw)
  have hown : s.vm.findClass "java/lang/Math" = some m.cls := findClass_of_methodNamed B.named
  have hlocks := B.notSynchronized
  subst hsz
  have hD := hD0.self (sz := s.heap.size)
  generalize hAe : va_A [] s.heap.size = A at hD ⊢
  have hA : ∀ q : Nat, s.heap.size ≤ q → A q := fun q h => by rw [← hAe]; exact Or.inr h
  have hS : va_S A s.heap s.heap [] := va_S.rf
  have hl := lv_entry ([.long a1]) (n := 2) (Nat.le_of_ble_eq_true rfl)
  rw [lg_entry_eq]
  generalize (lg_sl ([.long a1]) ++ List.replicate (2 - (lg_sl ([.long a1])).length) Slot.unset).toArray = ls at hl ⊢
  have hl : lv_has ls 2 [(0, .long a1)] := hl
  have C0 : Cx p s m _ meth c A dC dI cy b_Jm_abs_JJ 2 (some .long) "java/lang/Math" := ⟨hx, hb, hr, hlocks, hml, hown, htsG, hA, hK⟩
  unfold P_Jm_abs_JJ at h
  refine lv_lload_n hx hb d_Jm_abs_JJ_0 rfl (lv_at hl 0 rfl) ?_
  refine lv_lconst (v := (0 : Int64)) hx hb d_Jm_abs_JJ_1 (by decide) ?_
  refine W.lcmp hx hb d_Jm_abs_JJ_2 ?_
  refine lv_if_ge (tgt := 11) hx hb d_Jm_abs_JJ_3 (by decide) (fun c_1 => ?_) (fun c_1 => ?_)
  · replace h := (if_pos c_1).symm.trans h
    refine lv_lload_n hx hb d_Jm_abs_JJ_11 rfl (lv_at hl 0 rfl) ?_
    cases h
    exact W.lret hx hb hr (fun t ht hW => ⟨⟨_, (), rfl, rfl, by rw [ht]; exact hP, va_K.moved hW.alike hK, hD⟩, hS.F ht⟩) hS.2.2 d_Jm_abs_JJ_12 hlocks
  · replace h := (if_neg c_1).symm.trans h
    refine lv_lload_n hx hb d_Jm_abs_JJ_6 rfl (lv_at hl 0 rfl) ?_
    refine lv_lneg hx hb d_Jm_abs_JJ_7 ?_
    refine lv_goto (tgt := 12) hx hb d_Jm_abs_JJ_8 (by decide) ?_
    cases h
    exact W.lret hx hb hr (fun t ht hW => ⟨⟨_, (), rfl, rfl, by rw [ht]; exact hP, va_K.moved hW.alike hK, hD⟩, hS.F ht⟩) hS.2.2 d_Jm_abs_JJ_12 hlocks
def P_Jm_abs_II  (a1 : Int32) : Option (Int32) :=
  if 0 ≤ a1 then (some a1) else (some (-a1))
set_option maxHeartbeats 4000000 in
set_option maxRecDepth 100000 in
theorem c_Jm_abs_II (l : Launch) (dC : Nat → ClassId) (dI : Nat → Nat → Nat) (cy : Nat → ClassId) (sz : Nat)   (a1 : Int32) (uu : Int32) (h : P_Jm_abs_II a1 = some uu) : Met l y_Jm_abs_II (Cond.code y_Jm_abs_II b_Jm_abs_II 1 (some .int) :: G) ({ frames := 0, cells := 0, slots := 0, locals := 0 } : Room) (va_Pc [.int a1] (fun U => U.heap.size = sz ∧ va_P (dC, dI) classes [] U.heap ∧ va_K (dC, dI) classes (TY cy) U ∧ va_D (fun _ => True) [])) (va_Qi (fun r (_ : Unit) => r = uu) (fun _ t => va_P (dC, dI) classes [] t.heap ∧ va_K (dC, dI) classes (TY cy) t ∧ va_D (va_A [] sz) []) (va_A [] sz)) 0 0 (va_A [] sz) := by
  refine va_MetF (cc := b_Jm_abs_II) (maxL := 1) (ret := (some .int)) (by decide +kernel) rfl ?_
  intro p e s m args below meth c s₁ B hml hv
  obtain ⟨rfl, hsz, hP, hK, hD0⟩ := hv
  have hx := B.exec
  have hb := B.bytes
  have hr := B.returns
  have hts := atoms_spec (ws := Cond.code y_Jm_abs_II b_Jm_abs_II 1 (some .int) :: G) B.pre
  have htsG : ∀ w ∈ G, w.before _ s = true := fun w hw => hts w (List.mem_cons_of_mem _ hw)
  have hown : s.vm.findClass "java/lang/Math" = some m.cls := findClass_of_methodNamed B.named
  have hlocks := B.notSynchronized
  subst hsz
  have hD := hD0.self (sz := s.heap.size)
  generalize hAe : va_A [] s.heap.size = A at hD ⊢
  have hA : ∀ q : Nat, s.heap.size ≤ q → A q := fun q h => by rw [← hAe]; exact Or.inr h
  have hS : va_S A s.heap s.heap [] := va_S.rf
  have hl := lv_entry ([.int a1]) (n := 1) (Nat.le_of_ble_eq_true rfl)
  rw [lg_entry_eq]
  generalize (lg_sl ([.int a1]) ++ List.replicate (1 - (lg_sl ([.int a1])).length) Slot.unset).toArray = ls at hl ⊢
  have hl : lv_has ls 1 [(0, .int a1)] := hl
  have C0 : Cx p s m _ meth c A dC dI cy b_Jm_abs_II 1 (some .int) "java/lang/Math" := ⟨hx, hb, hr, hlocks, hml, hown, htsG, hA, hK⟩
  unfold P_Jm_abs_II at h
  refine lv_iload_n hx hb d_Jm_abs_II_0 rfl (lv_at hl 0 rfl) ?_
  refine lv_if_ge (tgt := 9) hx hb d_Jm_abs_II_1 (by decide) (fun c_1 => ?_) (fun c_1 => ?_)
  · replace h := (if_pos c_1).symm.trans h
    refine lv_iload_n hx hb d_Jm_abs_II_9 rfl (lv_at hl 0 rfl) ?_
    cases h
    exact W.iret hx hb hr (fun t ht hW => ⟨⟨_, (), rfl, rfl, by rw [ht]; exact hP, va_K.moved hW.alike hK, hD⟩, hS.F ht⟩) hS.2.2 d_Jm_abs_II_10 hlocks
  · replace h := (if_neg c_1).symm.trans h
    refine lv_iload_n hx hb d_Jm_abs_II_4 rfl (lv_at hl 0 rfl) ?_
    refine lv_ineg hx hb d_Jm_abs_II_5 ?_
    refine lv_goto (tgt := 10) hx hb d_Jm_abs_II_6 (by decide) ?_
    cases h
    exact W.iret hx hb hr (fun t ht hW => ⟨⟨_, (), rfl, rfl, by rw [ht]; exact hP, va_K.moved hW.alike hK, hD⟩, hS.F ht⟩) hS.2.2 d_Jm_abs_II_10 hlocks
def P_Jl_signum  (a1 : Int64) : Option (Int32) :=
  some (((a1 >>> ((63 : Int32).toInt64 &&& 63)) ||| (((-a1).toUInt64 >>> ((63 : Int32).toInt64.toUInt64 &&& Int64.toUInt64 63)).toInt64)).toInt32)
set_option maxHeartbeats 4000000 in
set_option maxRecDepth 100000 in
theorem c_Jl_signum (l : Launch) (dC : Nat → ClassId) (dI : Nat → Nat → Nat) (cy : Nat → ClassId) (sz : Nat)   (a1 : Int64) (uu : Int32) (h : P_Jl_signum a1 = some uu) : Met l y_Jl_signum (Cond.code y_Jl_signum b_Jl_signum 2 (some .int) :: G) ({ frames := 0, cells := 0, slots := 0, locals := 0 } : Room) (va_Pc [.long a1] (fun U => U.heap.size = sz ∧ va_P (dC, dI) classes [] U.heap ∧ va_K (dC, dI) classes (TY cy) U ∧ va_D (fun _ => True) [])) (va_Qi (fun r (_ : Unit) => r = uu) (fun _ t => va_P (dC, dI) classes [] t.heap ∧ va_K (dC, dI) classes (TY cy) t ∧ va_D (va_A [] sz) []) (va_A [] sz)) 0 0 (va_A [] sz) := by
  refine va_MetF (cc := b_Jl_signum) (maxL := 2) (ret := (some .int)) (by decide +kernel) rfl ?_
  intro p e s m args below meth c s₁ B hml hv
  obtain ⟨rfl, hsz, hP, hK, hD0⟩ := hv
  have hx := B.exec
  have hb := B.bytes
  have hr := B.returns
  have hts := atoms_spec (ws := Cond.code y_Jl_signum b_Jl_signum 2 (some .int) :: G) B.pre
  have htsG : ∀ w ∈ G, w.before _ s = true := fun w hw => hts w (List.mem_cons_of_mem _ hw)
  have hown : s.vm.findClass "java/lang/Long" = some m.cls := findClass_of_methodNamed B.named
  have hlocks := B.notSynchronized
  subst hsz
  have hD := hD0.self (sz := s.heap.size)
  generalize hAe : va_A [] s.heap.size = A at hD ⊢
  have hA : ∀ q : Nat, s.heap.size ≤ q → A q := fun q h => by rw [← hAe]; exact Or.inr h
  have hS : va_S A s.heap s.heap [] := va_S.rf
  have hl := lv_entry ([.long a1]) (n := 2) (Nat.le_of_ble_eq_true rfl)
  rw [lg_entry_eq]
  generalize (lg_sl ([.long a1]) ++ List.replicate (2 - (lg_sl ([.long a1])).length) Slot.unset).toArray = ls at hl ⊢
  have hl : lv_has ls 2 [(0, .long a1)] := hl
  have C0 : Cx p s m _ meth c A dC dI cy b_Jl_signum 2 (some .int) "java/lang/Long" := ⟨hx, hb, hr, hlocks, hml, hown, htsG, hA, hK⟩
  unfold P_Jl_signum at h
  refine lv_lload_n hx hb d_Jl_signum_0 rfl (lv_at hl 0 rfl) ?_
  refine lv_bipush (v := (63 : Int32)) hx hb d_Jl_signum_1 (by decide) ?_
  refine lv_lshr hx hb d_Jl_signum_3 rfl ?_
  refine lv_lload_n hx hb d_Jl_signum_4 rfl (lv_at hl 0 rfl) ?_
  refine lv_lneg hx hb d_Jl_signum_5 ?_
  refine lv_bipush (v := (63 : Int32)) hx hb d_Jl_signum_6 (by decide) ?_
  refine lv_lushr hx hb d_Jl_signum_8 rfl ?_
  refine lv_lor hx hb d_Jl_signum_9 ?_
  refine lv_l2i hx hb d_Jl_signum_10 rfl ?_
  cases h
  exact W.iret hx hb hr (fun t ht hW => ⟨⟨_, (), rfl, rfl, by rw [ht]; exact hP, va_K.moved hW.alike hK, hD⟩, hS.F ht⟩) hS.2.2 d_Jl_signum_11 hlocks
def P_Jl_compare  (a1 : Int64) (a2 : Int64) : Option (Int32) :=
  if 0 ≤ (lg_cmp a1 a2) then (if (lg_cmp a1 a2) = 0 then (some (0 : Int32)) else (some (1 : Int32))) else (some (-1 : Int32))
set_option maxHeartbeats 4000000 in
set_option maxRecDepth 100000 in
theorem c_Jl_compare (l : Launch) (dC : Nat → ClassId) (dI : Nat → Nat → Nat) (cy : Nat → ClassId) (sz : Nat)   (a1 : Int64) (a2 : Int64) (uu : Int32) (h : P_Jl_compare a1 a2 = some uu) : Met l y_Jl_compare (Cond.code y_Jl_compare b_Jl_compare 4 (some .int) :: G) ({ frames := 0, cells := 0, slots := 0, locals := 0 } : Room) (va_Pc [.long a1, .long a2] (fun U => U.heap.size = sz ∧ va_P (dC, dI) classes [] U.heap ∧ va_K (dC, dI) classes (TY cy) U ∧ va_D (fun _ => True) [])) (va_Qi (fun r (_ : Unit) => r = uu) (fun _ t => va_P (dC, dI) classes [] t.heap ∧ va_K (dC, dI) classes (TY cy) t ∧ va_D (va_A [] sz) []) (va_A [] sz)) 0 0 (va_A [] sz) := by
  refine va_MetF (cc := b_Jl_compare) (maxL := 4) (ret := (some .int)) (by decide +kernel) rfl ?_
  intro p e s m args below meth c s₁ B hml hv
  obtain ⟨rfl, hsz, hP, hK, hD0⟩ := hv
  have hx := B.exec
  have hb := B.bytes
  have hr := B.returns
  have hts := atoms_spec (ws := Cond.code y_Jl_compare b_Jl_compare 4 (some .int) :: G) B.pre
  have htsG : ∀ w ∈ G, w.before _ s = true := fun w hw => hts w (List.mem_cons_of_mem _ hw)
  have hown : s.vm.findClass "java/lang/Long" = some m.cls := findClass_of_methodNamed B.named
  have hlocks := B.notSynchronized
  subst hsz
  have hD := hD0.self (sz := s.heap.size)
  generalize hAe : va_A [] s.heap.size = A at hD ⊢
  have hA : ∀ q : Nat, s.heap.size ≤ q → A q := fun q h => by rw [← hAe]; exact Or.inr h
  have hS : va_S A s.heap s.heap [] := va_S.rf
  have hl := lv_entry ([.long a1, .long a2]) (n := 4) (Nat.le_of_ble_eq_true rfl)
  rw [lg_entry_eq]
  generalize (lg_sl ([.long a1, .long a2]) ++ List.replicate (4 - (lg_sl ([.long a1, .long a2])).length) Slot.unset).toArray = ls at hl ⊢
  have hl : lv_has ls 4 [(0, .long a1), (2, .long a2)] := hl
  have C0 : Cx p s m _ meth c A dC dI cy b_Jl_compare 4 (some .int) "java/lang/Long" := ⟨hx, hb, hr, hlocks, hml, hown, htsG, hA, hK⟩
  unfold P_Jl_compare at h
  refine lv_lload_n hx hb d_Jl_compare_0 rfl (lv_at hl 0 rfl) ?_
  refine lv_lload_n hx hb d_Jl_compare_1 rfl (lv_at hl 1 rfl) ?_
  refine W.lcmp hx hb d_Jl_compare_2 ?_
  refine lv_if_ge (tgt := 10) hx hb d_Jl_compare_3 (by decide) (fun c_1 => ?_) (fun c_1 => ?_)
  · replace h := (if_pos c_1).symm.trans h
    refine lv_lload_n hx hb d_Jl_compare_10 rfl (lv_at hl 0 rfl) ?_
    refine lv_lload_n hx hb d_Jl_compare_11 rfl (lv_at hl 1 rfl) ?_
    refine W.lcmp hx hb d_Jl_compare_12 ?_
    refine lv_if_ne (tgt := 20) hx hb d_Jl_compare_13 (by decide) (fun c_2 => ?_) (fun c_2 => ?_)
    · replace h := (if_neg c_2).symm.trans h
      refine lv_iconst (v := (1 : Int32)) hx hb d_Jl_compare_20 (by decide) ?_
      cases h
      exact W.iret hx hb hr (fun t ht hW => ⟨⟨_, (), rfl, rfl, by rw [ht]; exact hP, va_K.moved hW.alike hK, hD⟩, hS.F ht⟩) hS.2.2 d_Jl_compare_21 hlocks
    · replace h := (if_pos c_2).symm.trans h
      refine lv_iconst (v := (0 : Int32)) hx hb d_Jl_compare_16 (by decide) ?_
      refine lv_goto (tgt := 21) hx hb d_Jl_compare_17 (by decide) ?_
      cases h
      exact W.iret hx hb hr (fun t ht hW => ⟨⟨_, (), rfl, rfl, by rw [ht]; exact hP, va_K.moved hW.alike hK, hD⟩, hS.F ht⟩) hS.2.2 d_Jl_compare_21 hlocks
  · replace h := (if_neg c_1).symm.trans h
    refine lv_iconst (v := (-1 : Int32)) hx hb d_Jl_compare_6 (by decide) ?_
    refine lv_goto (tgt := 21) hx hb d_Jl_compare_7 (by decide) ?_
    cases h
    exact W.iret hx hb hr (fun t ht hW => ⟨⟨_, (), rfl, rfl, by rw [ht]; exact hP, va_K.moved hW.alike hK, hD⟩, hS.F ht⟩) hS.2.2 d_Jl_compare_21 hlocks
def P_Jl_bitCount_48   (x0 : Int64) : Option (Int32) :=
  some (((x0 + ((x0.toUInt64 >>> ((32 : Int32).toInt64.toUInt64 &&& Int64.toUInt64 63)).toInt64)).toInt32) &&& (127 : Int32))
set_option maxHeartbeats 4000000 in
set_option maxRecDepth 100000 in
theorem w_Jl_bitCount_48 (C0 : Cx p s m args meth c A dC dI cy b_Jl_bitCount 2 (some .int) "java/lang/Long") (a1 : Int64) (uu : Int32)  (x0 : Int64) {H : Heap} {locs : List Loc} {ls : Array Slot} (h : P_Jl_bitCount_48 x0 = some uu) : va_P (dC, dI) classes [] H → va_D A [] → va_S A s.heap H locs → lv_has ls 2 [(0, .long x0)] → W p l e ({ frames := 0, cells := 0, slots := 0, locals := 0 } : Room) s m args below meth c H locs 0 0 (MQ below (va_Qi (fun r (_ : Unit) => r = uu) (fun _ t => va_P (dC, dI) classes [] t.heap ∧ va_K (dC, dI) classes (TY cy) t ∧ va_D A []) A) args s 0 0 A) (F0 m 48 ls []) := by
  intro hP hD hS hl
  obtain ⟨hx, hb, hr, hlocks, hml, hown, htsG, hA, hK⟩ := id C0
  unfold P_Jl_bitCount_48 at h
  refine lv_lload_n hx hb d_Jl_bitCount_48 rfl (lv_at hl 0 rfl) ?_
  refine lv_lload_n hx hb d_Jl_bitCount_49 rfl (lv_at hl 0 rfl) ?_
  refine lv_bipush (v := (32 : Int32)) hx hb d_Jl_bitCount_50 (by decide) ?_
  refine lv_lushr hx hb d_Jl_bitCount_52 rfl ?_
  refine lv_ladd hx hb d_Jl_bitCount_53 ?_
  refine lv_lstore_n (lv' := [(0, .long (x0 + ((x0.toUInt64 >>> ((32 : Int32).toInt64.toUInt64 &&& Int64.toUInt64 63)).toInt64)))]) hx hb d_Jl_bitCount_54 rfl hl (by decide) rfl (fun ls hl => ?_)
  refine lv_lload_n hx hb d_Jl_bitCount_55 rfl (lv_at hl 0 rfl) ?_
  refine lv_l2i hx hb d_Jl_bitCount_56 rfl ?_
  refine lv_bipush (v := (127 : Int32)) hx hb d_Jl_bitCount_57 (by decide) ?_
  refine lv_iand hx hb d_Jl_bitCount_59 ?_
  cases h
  exact W.iret hx hb hr (fun t ht hW => ⟨⟨_, (), rfl, rfl, by rw [ht]; exact hP, va_K.moved hW.alike hK, hD⟩, hS.F ht⟩) hS.2.2 d_Jl_bitCount_60 hlocks
def P_Jl_bitCount_34   (x0 : Int64) : Option (Int32) :=
  P_Jl_bitCount_48 ((x0 + ((x0.toUInt64 >>> ((8 : Int32).toInt64.toUInt64 &&& Int64.toUInt64 63)).toInt64)) + (((x0 + ((x0.toUInt64 >>> ((8 : Int32).toInt64.toUInt64 &&& Int64.toUInt64 63)).toInt64)).toUInt64 >>> ((16 : Int32).toInt64.toUInt64 &&& Int64.toUInt64 63)).toInt64))
set_option maxHeartbeats 4000000 in
set_option maxRecDepth 100000 in
theorem w_Jl_bitCount_34 (C0 : Cx p s m args meth c A dC dI cy b_Jl_bitCount 2 (some .int) "java/lang/Long") (a1 : Int64) (uu : Int32)  (x0 : Int64) {H : Heap} {locs : List Loc} {ls : Array Slot} (h : P_Jl_bitCount_34 x0 = some uu) : va_P (dC, dI) classes [] H → va_D A [] → va_S A s.heap H locs → lv_has ls 2 [(0, .long x0)] → W p l e ({ frames := 0, cells := 0, slots := 0, locals := 0 } : Room) s m args below meth c H locs 0 0 (MQ below (va_Qi (fun r (_ : Unit) => r = uu) (fun _ t => va_P (dC, dI) classes [] t.heap ∧ va_K (dC, dI) classes (TY cy) t ∧ va_D A []) A) args s 0 0 A) (F0 m 34 ls []) := by
  intro hP hD hS hl
  obtain ⟨hx, hb, hr, hlocks, hml, hown, htsG, hA, hK⟩ := id C0
  unfold P_Jl_bitCount_34 at h
  refine lv_lload_n hx hb d_Jl_bitCount_34 rfl (lv_at hl 0 rfl) ?_
  refine lv_lload_n hx hb d_Jl_bitCount_35 rfl (lv_at hl 0 rfl) ?_
  refine lv_bipush (v := (8 : Int32)) hx hb d_Jl_bitCount_36 (by decide) ?_
  refine lv_lushr hx hb d_Jl_bitCount_38 rfl ?_
  refine lv_ladd hx hb d_Jl_bitCount_39 ?_
  refine lv_lstore_n (lv' := [(0, .long (x0 + ((x0.toUInt64 >>> ((8 : Int32).toInt64.toUInt64 &&& Int64.toUInt64 63)).toInt64)))]) hx hb d_Jl_bitCount_40 rfl hl (by decide) rfl (fun ls hl => ?_)
  refine lv_lload_n hx hb d_Jl_bitCount_41 rfl (lv_at hl 0 rfl) ?_
  refine lv_lload_n hx hb d_Jl_bitCount_42 rfl (lv_at hl 0 rfl) ?_
  refine lv_bipush (v := (16 : Int32)) hx hb d_Jl_bitCount_43 (by decide) ?_
  refine lv_lushr hx hb d_Jl_bitCount_45 rfl ?_
  refine lv_ladd hx hb d_Jl_bitCount_46 ?_
  refine lv_lstore_n (lv' := [(0, .long ((x0 + ((x0.toUInt64 >>> ((8 : Int32).toInt64.toUInt64 &&& Int64.toUInt64 63)).toInt64)) + (((x0 + ((x0.toUInt64 >>> ((8 : Int32).toInt64.toUInt64 &&& Int64.toUInt64 63)).toInt64)).toUInt64 >>> ((16 : Int32).toInt64.toUInt64 &&& Int64.toUInt64 63)).toInt64)))]) hx hb d_Jl_bitCount_47 rfl hl (by decide) rfl (fun ls hl => ?_)
  exact w_Jl_bitCount_48 C0 a1 uu  ((x0 + ((x0.toUInt64 >>> ((8 : Int32).toInt64.toUInt64 &&& Int64.toUInt64 63)).toInt64)) + (((x0 + ((x0.toUInt64 >>> ((8 : Int32).toInt64.toUInt64 &&& Int64.toUInt64 63)).toInt64)).toUInt64 >>> ((16 : Int32).toInt64.toUInt64 &&& Int64.toUInt64 63)).toInt64)) h hP hD hS (lv_sub hl [0] rfl)
def P_Jl_bitCount_24   (x0 : Int64) : Option (Int32) :=
  P_Jl_bitCount_34 ((x0 + ((x0.toUInt64 >>> ((4 : Int32).toInt64.toUInt64 &&& Int64.toUInt64 63)).toInt64)) &&& (1085102592571150095 : Int64))
set_option maxHeartbeats 4000000 in
set_option maxRecDepth 100000 in
theorem w_Jl_bitCount_24 (C0 : Cx p s m args meth c A dC dI cy b_Jl_bitCount 2 (some .int) "java/lang/Long") (a1 : Int64) (uu : Int32)  (x0 : Int64) {H : Heap} {locs : List Loc} {ls : Array Slot} (h : P_Jl_bitCount_24 x0 = some uu) : va_P (dC, dI) classes [] H → va_D A [] → va_S A s.heap H locs → lv_has ls 2 [(0, .long x0)] → W p l e ({ frames := 0, cells := 0, slots := 0, locals := 0 } : Room) s m args below meth c H locs 0 0 (MQ below (va_Qi (fun r (_ : Unit) => r = uu) (fun _ t => va_P (dC, dI) classes [] t.heap ∧ va_K (dC, dI) classes (TY cy) t ∧ va_D A []) A) args s 0 0 A) (F0 m 24 ls []) := by
  intro hP hD hS hl
  obtain ⟨hx, hb, hr, hlocks, hml, hown, htsG, hA, hK⟩ := id C0
  unfold P_Jl_bitCount_24 at h
  refine lv_lload_n hx hb d_Jl_bitCount_24 rfl (lv_at hl 0 rfl) ?_
  refine lv_lload_n hx hb d_Jl_bitCount_25 rfl (lv_at hl 0 rfl) ?_
  refine lv_iconst (v := (4 : Int32)) hx hb d_Jl_bitCount_26 (by decide) ?_
  refine lv_lushr hx hb d_Jl_bitCount_27 rfl ?_
  refine lv_ladd hx hb d_Jl_bitCount_28 ?_
  refine lv_ldc2 hx hb hown (htsG _ mW699) d_Jl_bitCount_29 ?_
  refine lv_land hx hb d_Jl_bitCount_32 ?_
  refine lv_lstore_n (lv' := [(0, .long ((x0 + ((x0.toUInt64 >>> ((4 : Int32).toInt64.toUInt64 &&& Int64.toUInt64 63)).toInt64)) &&& (1085102592571150095 : Int64)))]) hx hb d_Jl_bitCount_33 rfl hl (by decide) rfl (fun ls hl => ?_)
  exact w_Jl_bitCount_34 C0 a1 uu  ((x0 + ((x0.toUInt64 >>> ((4 : Int32).toInt64.toUInt64 &&& Int64.toUInt64 63)).toInt64)) &&& (1085102592571150095 : Int64)) h hP hD hS (lv_sub hl [0] rfl)
def P_Jl_bitCount_10   (x0 : Int64) : Option (Int32) :=
  P_Jl_bitCount_24 ((x0 &&& (3689348814741910323 : Int64)) + (((x0.toUInt64 >>> ((2 : Int32).toInt64.toUInt64 &&& Int64.toUInt64 63)).toInt64) &&& (3689348814741910323 : Int64)))
set_option maxHeartbeats 4000000 in
set_option maxRecDepth 100000 in
theorem w_Jl_bitCount_10 (C0 : Cx p s m args meth c A dC dI cy b_Jl_bitCount 2 (some .int) "java/lang/Long") (a1 : Int64) (uu : Int32)  (x0 : Int64) {H : Heap} {locs : List Loc} {ls : Array Slot} (h : P_Jl_bitCount_10 x0 = some uu) : va_P (dC, dI) classes [] H → va_D A [] → va_S A s.heap H locs → lv_has ls 2 [(0, .long x0)] → W p l e ({ frames := 0, cells := 0, slots := 0, locals := 0 } : Room) s m args below meth c H locs 0 0 (MQ below (va_Qi (fun r (_ : Unit) => r = uu) (fun _ t => va_P (dC, dI) classes [] t.heap ∧ va_K (dC, dI) classes (TY cy) t ∧ va_D A []) A) args s 0 0 A) (F0 m 10 ls []) := by
  intro hP hD hS hl
  obtain ⟨hx, hb, hr, hlocks, hml, hown, htsG, hA, hK⟩ := id C0
  unfold P_Jl_bitCount_10 at h
  refine lv_lload_n hx hb d_Jl_bitCount_10 rfl (lv_at hl 0 rfl) ?_
  refine lv_ldc2 hx hb hown (htsG _ mW698) d_Jl_bitCount_11 ?_
  refine lv_land hx hb d_Jl_bitCount_14 ?_
  refine lv_lload_n hx hb d_Jl_bitCount_15 rfl (lv_at hl 0 rfl) ?_
  refine lv_iconst (v := (2 : Int32)) hx hb d_Jl_bitCount_16 (by decide) ?_
  refine lv_lushr hx hb d_Jl_bitCount_17 rfl ?_
  refine lv_ldc2 hx hb hown (htsG _ mW698) d_Jl_bitCount_18 ?_
  refine lv_land hx hb d_Jl_bitCount_21 ?_
  refine lv_ladd hx hb d_Jl_bitCount_22 ?_
  refine lv_lstore_n (lv' := [(0, .long ((x0 &&& (3689348814741910323 : Int64)) + (((x0.toUInt64 >>> ((2 : Int32).toInt64.toUInt64 &&& Int64.toUInt64 63)).toInt64) &&& (3689348814741910323 : Int64))))]) hx hb d_Jl_bitCount_23 rfl hl (by decide) rfl (fun ls hl => ?_)
  exact w_Jl_bitCount_24 C0 a1 uu  ((x0 &&& (3689348814741910323 : Int64)) + (((x0.toUInt64 >>> ((2 : Int32).toInt64.toUInt64 &&& Int64.toUInt64 63)).toInt64) &&& (3689348814741910323 : Int64))) h hP hD hS (lv_sub hl [0] rfl)
def P_Jl_bitCount  (a1 : Int64) : Option (Int32) :=
  P_Jl_bitCount_10 (a1 - (((a1.toUInt64 >>> ((1 : Int32).toInt64.toUInt64 &&& Int64.toUInt64 63)).toInt64) &&& (6148914691236517205 : Int64)))
set_option maxHeartbeats 4000000 in
set_option maxRecDepth 100000 in
theorem c_Jl_bitCount (l : Launch) (dC : Nat → ClassId) (dI : Nat → Nat → Nat) (cy : Nat → ClassId) (sz : Nat)   (a1 : Int64) (uu : Int32) (h : P_Jl_bitCount a1 = some uu) : Met l y_Jl_bitCount (Cond.code y_Jl_bitCount b_Jl_bitCount 2 (some .int) :: G) ({ frames := 0, cells := 0, slots := 0, locals := 0 } : Room) (va_Pc [.long a1] (fun U => U.heap.size = sz ∧ va_P (dC, dI) classes [] U.heap ∧ va_K (dC, dI) classes (TY cy) U ∧ va_D (fun _ => True) [])) (va_Qi (fun r (_ : Unit) => r = uu) (fun _ t => va_P (dC, dI) classes [] t.heap ∧ va_K (dC, dI) classes (TY cy) t ∧ va_D (va_A [] sz) []) (va_A [] sz)) 0 0 (va_A [] sz) := by
  refine va_MetF (cc := b_Jl_bitCount) (maxL := 2) (ret := (some .int)) (by decide +kernel) rfl ?_
  intro p e s m args below meth c s₁ B hml hv
  obtain ⟨rfl, hsz, hP, hK, hD0⟩ := hv
  have hx := B.exec
  have hb := B.bytes
  have hr := B.returns
  have hts := atoms_spec (ws := Cond.code y_Jl_bitCount b_Jl_bitCount 2 (some .int) :: G) B.pre
  have htsG : ∀ w ∈ G, w.before _ s = true := fun w hw => hts w (List.mem_cons_of_mem _ hw)
  have hown : s.vm.findClass "java/lang/Long" = some m.cls := findClass_of_methodNamed B.named
  have hlocks := B.notSynchronized
  subst hsz
  have hD := hD0.self (sz := s.heap.size)
  generalize hAe : va_A [] s.heap.size = A at hD ⊢
  have hA : ∀ q : Nat, s.heap.size ≤ q → A q := fun q h => by rw [← hAe]; exact Or.inr h
  have hS : va_S A s.heap s.heap [] := va_S.rf
  have hl := lv_entry ([.long a1]) (n := 2) (Nat.le_of_ble_eq_true rfl)
  rw [lg_entry_eq]
  generalize (lg_sl ([.long a1]) ++ List.replicate (2 - (lg_sl ([.long a1])).length) Slot.unset).toArray = ls at hl ⊢
  have hl : lv_has ls 2 [(0, .long a1)] := hl
  have C0 : Cx p s m _ meth c A dC dI cy b_Jl_bitCount 2 (some .int) "java/lang/Long" := ⟨hx, hb, hr, hlocks, hml, hown, htsG, hA, hK⟩
  unfold P_Jl_bitCount at h
  refine lv_lload_n hx hb d_Jl_bitCount_0 rfl (lv_at hl 0 rfl) ?_
  refine lv_lload_n hx hb d_Jl_bitCount_1 rfl (lv_at hl 0 rfl) ?_
  refine lv_iconst (v := (1 : Int32)) hx hb d_Jl_bitCount_2 (by decide) ?_
  refine lv_lushr hx hb d_Jl_bitCount_3 rfl ?_
  refine lv_ldc2 hx hb hown (htsG _ mW697) d_Jl_bitCount_4 ?_
  refine lv_land hx hb d_Jl_bitCount_7 ?_
  refine lv_lsub hx hb d_Jl_bitCount_8 ?_
  refine lv_lstore_n (lv' := [(0, .long (a1 - (((a1.toUInt64 >>> ((1 : Int32).toInt64.toUInt64 &&& Int64.toUInt64 63)).toInt64) &&& (6148914691236517205 : Int64))))]) hx hb d_Jl_bitCount_9 rfl hl (by decide) rfl (fun ls hl => ?_)
  exact w_Jl_bitCount_10 C0 a1 uu  (a1 - (((a1.toUInt64 >>> ((1 : Int32).toInt64.toUInt64 &&& Int64.toUInt64 63)).toInt64) &&& (6148914691236517205 : Int64))) h hP hD hS (lv_sub hl [0] rfl)
def P_Ff_twoAt (o_length : Int32) (o_bytes_f : Nat → Int32) (a1 : Int32) : Option (Int32) :=
  if a1 < 0 then (some (0 : Int32)) else (if (a1 + (1 : Int32)) < o_length then (bd a1 4096 <| bd (a1 + (1 : Int32)) 4096 <| some ((((o_bytes_f a1.toNatClampNeg) &&& (255 : Int32)) <<< ((8 : Int32) &&& 31)) ||| ((o_bytes_f (a1 + (1 : Int32)).toNatClampNeg) &&& (255 : Int32)))) else (some (0 : Int32)))
set_option maxHeartbeats 4000000 in
set_option maxRecDepth 100000 in
theorem c_Ff_twoAt (l : Launch) (dC : Nat → ClassId) (dI : Nat → Nat → Nat) (cy : Nat → ClassId) (sz : Nat) (o : Nat) (o_bytes : Nat) (o_starts : Nat) (o_sizes : Nat) (o_glyphStarts : Nat) (o_length : Int32) (o_units : Int32) (o_glyphs : Int32) (o_ascent : Int32) (o_descent : Int32) (o_gap : Int32) (o_longLoca : Int32) (o_metrics : Int32) (o_codes : Int32) (o_codesSize : Int32) (o_segments : Int32) (o_pairs : Int32) (o_bytes_f : Nat → Int32) (o_starts_f : Nat → Int32) (o_sizes_f : Nat → Int32) (o_glyphStarts_f : Nat → Int32) (a1 : Int32) (uu : Int32) (h : P_Ff_twoAt o_length o_bytes_f a1 = some uu) : Met l y_Ff_twoAt (Cond.code y_Ff_twoAt b_Ff_twoAt 2 (some .int) :: G) ({ frames := 0, cells := 0, slots := 0, locals := 0 } : Room) (va_Pc [.ref o, .int a1] (fun U => U.heap.size = sz ∧ va_P (dC, dI) classes [(o, .inr (7, [.ref o_bytes, .int o_length, .ref o_starts, .ref o_sizes, .ref o_glyphStarts, .int o_units, .int o_glyphs, .int o_ascent, .int o_descent, .int o_gap, .int o_longLoca, .int o_metrics, .int o_codes, .int o_codesSize, .int o_segments, .int o_pairs])), (o_bytes, .inl (cy 1, 4096, .inl o_bytes_f)), (o_starts, .inl (cy 0, 8, .inl o_starts_f)), (o_sizes, .inl (cy 0, 8, .inl o_sizes_f)), (o_glyphStarts, .inl (cy 0, 65, .inl o_glyphStarts_f))] U.heap ∧ va_K (dC, dI) classes (TY cy) U ∧ va_D (fun _ => True) [(o, .inr (7, [.ref o_bytes, .int o_length, .ref o_starts, .ref o_sizes, .ref o_glyphStarts, .int o_units, .int o_glyphs, .int o_ascent, .int o_descent, .int o_gap, .int o_longLoca, .int o_metrics, .int o_codes, .int o_codesSize, .int o_segments, .int o_pairs])), (o_bytes, .inl (cy 1, 4096, .inl o_bytes_f)), (o_starts, .inl (cy 0, 8, .inl o_starts_f)), (o_sizes, .inl (cy 0, 8, .inl o_sizes_f)), (o_glyphStarts, .inl (cy 0, 65, .inl o_glyphStarts_f))])) (va_Qi (fun r (_ : Unit) => r = uu) (fun _ t => va_P (dC, dI) classes [(o, .inr (7, [.ref o_bytes, .int o_length, .ref o_starts, .ref o_sizes, .ref o_glyphStarts, .int o_units, .int o_glyphs, .int o_ascent, .int o_descent, .int o_gap, .int o_longLoca, .int o_metrics, .int o_codes, .int o_codesSize, .int o_segments, .int o_pairs])), (o_bytes, .inl (cy 1, 4096, .inl o_bytes_f)), (o_starts, .inl (cy 0, 8, .inl o_starts_f)), (o_sizes, .inl (cy 0, 8, .inl o_sizes_f)), (o_glyphStarts, .inl (cy 0, 65, .inl o_glyphStarts_f))] t.heap ∧ va_K (dC, dI) classes (TY cy) t ∧ va_D (va_A [(o, .inr (7, [.ref o_bytes, .int o_length, .ref o_starts, .ref o_sizes, .ref o_glyphStarts, .int o_units, .int o_glyphs, .int o_ascent, .int o_descent, .int o_gap, .int o_longLoca, .int o_metrics, .int o_codes, .int o_codesSize, .int o_segments, .int o_pairs])), (o_bytes, .inl (cy 1, 4096, .inl o_bytes_f)), (o_starts, .inl (cy 0, 8, .inl o_starts_f)), (o_sizes, .inl (cy 0, 8, .inl o_sizes_f)), (o_glyphStarts, .inl (cy 0, 65, .inl o_glyphStarts_f))] sz) [(o, .inr (7, [.ref o_bytes, .int o_length, .ref o_starts, .ref o_sizes, .ref o_glyphStarts, .int o_units, .int o_glyphs, .int o_ascent, .int o_descent, .int o_gap, .int o_longLoca, .int o_metrics, .int o_codes, .int o_codesSize, .int o_segments, .int o_pairs])), (o_bytes, .inl (cy 1, 4096, .inl o_bytes_f)), (o_starts, .inl (cy 0, 8, .inl o_starts_f)), (o_sizes, .inl (cy 0, 8, .inl o_sizes_f)), (o_glyphStarts, .inl (cy 0, 65, .inl o_glyphStarts_f))]) (va_A [(o, .inr (7, [.ref o_bytes, .int o_length, .ref o_starts, .ref o_sizes, .ref o_glyphStarts, .int o_units, .int o_glyphs, .int o_ascent, .int o_descent, .int o_gap, .int o_longLoca, .int o_metrics, .int o_codes, .int o_codesSize, .int o_segments, .int o_pairs])), (o_bytes, .inl (cy 1, 4096, .inl o_bytes_f)), (o_starts, .inl (cy 0, 8, .inl o_starts_f)), (o_sizes, .inl (cy 0, 8, .inl o_sizes_f)), (o_glyphStarts, .inl (cy 0, 65, .inl o_glyphStarts_f))] sz)) 0 0 (va_A [(o, .inr (7, [.ref o_bytes, .int o_length, .ref o_starts, .ref o_sizes, .ref o_glyphStarts, .int o_units, .int o_glyphs, .int o_ascent, .int o_descent, .int o_gap, .int o_longLoca, .int o_metrics, .int o_codes, .int o_codesSize, .int o_segments, .int o_pairs])), (o_bytes, .inl (cy 1, 4096, .inl o_bytes_f)), (o_starts, .inl (cy 0, 8, .inl o_starts_f)), (o_sizes, .inl (cy 0, 8, .inl o_sizes_f)), (o_glyphStarts, .inl (cy 0, 65, .inl o_glyphStarts_f))] sz) := by
  refine Met.ofW (cc := b_Ff_twoAt) (maxL := 2) (ret := (some .int)) (by decide) rfl ?_
  intro p e s m args below meth c s₁ B hml hv
  obtain ⟨rfl, hsz, hP, hK, hD0⟩ := hv
  have hx := B.exec
  have hb := B.bytes
  have hr := B.returns
  have hts := atoms_spec (ws := Cond.code y_Ff_twoAt b_Ff_twoAt 2 (some .int) :: G) B.pre
  have htsG : ∀ w ∈ G, w.before _ s = true := fun w hw => hts w (List.mem_cons_of_mem _ hw)
  have hown : s.vm.findClass "GlyphPage$FontFile" = some m.cls := findClass_of_methodNamed B.named
  have hlocks := B.notSynchronized
  subst hsz
  have hD := hD0.self (sz := s.heap.size)
  generalize hAe : va_A [(o, .inr (7, [.ref o_bytes, .int o_length, .ref o_starts, .ref o_sizes, .ref o_glyphStarts, .int o_units, .int o_glyphs, .int o_ascent, .int o_descent, .int o_gap, .int o_longLoca, .int o_metrics, .int o_codes, .int o_codesSize, .int o_segments, .int o_pairs])), (o_bytes, .inl (cy 1, 4096, .inl o_bytes_f)), (o_starts, .inl (cy 0, 8, .inl o_starts_f)), (o_sizes, .inl (cy 0, 8, .inl o_sizes_f)), (o_glyphStarts, .inl (cy 0, 65, .inl o_glyphStarts_f))] s.heap.size = A at hD ⊢
  have hA : ∀ q : Nat, s.heap.size ≤ q → A q := fun q h => by rw [← hAe]; exact Or.inr h
  have hS : va_S A s.heap s.heap [] := va_S.rf
  have hl := lv_entry ([.ref o, .int a1]) (n := 2) (Nat.le_of_ble_eq_true rfl)
  rw [lg_entry_eq]
  generalize (lg_sl ([.ref o, .int a1]) ++ List.replicate (2 - (lg_sl ([.ref o, .int a1])).length) Slot.unset).toArray = ls at hl ⊢
  have hl : lv_has ls 2 [(0, .ref o), (1, .int a1)] := hl
  have C0 : Cx p s m _ meth c A dC dI cy b_Ff_twoAt 2 (some .int) "GlyphPage$FontFile" := ⟨hx, hb, hr, hlocks, hml, hown, htsG, hA, hK⟩
  unfold P_Ff_twoAt at h
  refine lv_iload_n hx hb d_Ff_twoAt_0 rfl (lv_at hl 1 rfl) ?_
  refine lv_if_lt (tgt := 14) hx hb d_Ff_twoAt_1 (by decide) (fun c_1 => ?_) (fun c_1 => ?_)
  · replace h := (if_pos c_1).symm.trans h
    refine lv_iconst (v := (0 : Int32)) hx hb d_Ff_twoAt_14 (by decide) ?_
    cases h
    exact W.iret hx hb hr (fun t ht hW => ⟨⟨_, (), rfl, rfl, by rw [ht]; exact hP, va_K.moved hW.alike hK, hD⟩, hS.F ht⟩) hS.2.2 d_Ff_twoAt_15 hlocks
  · replace h := (if_neg c_1).symm.trans h
    refine lv_iload_n hx hb d_Ff_twoAt_4 rfl (lv_at hl 1 rfl) ?_
    refine lv_iconst (v := (1 : Int32)) hx hb d_Ff_twoAt_5 (by decide) ?_
    refine lv_iadd hx hb d_Ff_twoAt_6 ?_
    refine lv_aload_n hx hb d_Ff_twoAt_7 rfl (lv_at hl 0 rfl) ?_
    refine va_get (D := (dC, dI)) (ci := 7) (v := .int o_length) (C := "GlyphPage$FontFile") (T := F_Ff) (N := 16) hx hb htsG iG_Ff hown hK hP 0 rfl rfl 1 (by decide) (htsG _ mW301) (fun _ h9 => h9) rfl d_Ff_twoAt_8 ?_
    refine lv_icmp_lt (tgt := 16) hx hb d_Ff_twoAt_11 (by decide) (fun c_2 => ?_) (fun c_2 => ?_)
    · replace h := (if_pos c_2).symm.trans h
      refine lv_aload_n hx hb d_Ff_twoAt_16 rfl (lv_at hl 0 rfl) ?_
      refine va_get (D := (dC, dI)) (ci := 7) (v := .ref o_bytes) (C := "GlyphPage$FontFile") (T := F_Ff) (N := 16) hx hb htsG iG_Ff hown hK hP 0 rfl rfl 0 (by decide) (htsG _ mW299) (fun _ h9 => h9) rfl d_Ff_twoAt_17 ?_
      refine lv_iload_n hx hb d_Ff_twoAt_20 rfl (lv_at hl 1 rfl) ?_
      obtain ⟨hin_3, h⟩ := bd_some h
      refine va_bald hx hb hK hP 1 1 rfl rfl hin_3 d_Ff_twoAt_21 ?_
      refine lv_sipush (v := (255 : Int32)) hx hb d_Ff_twoAt_22 (by decide) ?_
      refine lv_iand hx hb d_Ff_twoAt_25 ?_
      refine lv_bipush (v := (8 : Int32)) hx hb d_Ff_twoAt_26 (by decide) ?_
      refine lv_ishl hx hb d_Ff_twoAt_28 ?_
      refine lv_aload_n hx hb d_Ff_twoAt_29 rfl (lv_at hl 0 rfl) ?_
      refine va_get (D := (dC, dI)) (ci := 7) (v := .ref o_bytes) (C := "GlyphPage$FontFile") (T := F_Ff) (N := 16) hx hb htsG iG_Ff hown hK hP 0 rfl rfl 0 (by decide) (htsG _ mW299) (fun _ h9 => h9) rfl d_Ff_twoAt_30 ?_
      refine lv_iload_n hx hb d_Ff_twoAt_33 rfl (lv_at hl 1 rfl) ?_
      refine lv_iconst (v := (1 : Int32)) hx hb d_Ff_twoAt_34 (by decide) ?_
      refine lv_iadd hx hb d_Ff_twoAt_35 ?_
      obtain ⟨hin_4, h⟩ := bd_some h
      refine va_bald hx hb hK hP 1 1 rfl rfl hin_4 d_Ff_twoAt_36 ?_
      refine lv_sipush (v := (255 : Int32)) hx hb d_Ff_twoAt_37 (by decide) ?_
      refine lv_iand hx hb d_Ff_twoAt_40 ?_
      refine lv_ior hx hb d_Ff_twoAt_41 ?_
      cases h
      exact W.iret hx hb hr (fun t ht hW => ⟨⟨_, (), rfl, rfl, by rw [ht]; exact hP, va_K.moved hW.alike hK, hD⟩, hS.F ht⟩) hS.2.2 d_Ff_twoAt_42 hlocks
    · replace h := (if_neg c_2).symm.trans h
      refine lv_iconst (v := (0 : Int32)) hx hb d_Ff_twoAt_14 (by decide) ?_
      cases h
      exact W.iret hx hb hr (fun t ht hW => ⟨⟨_, (), rfl, rfl, by rw [ht]; exact hP, va_K.moved hW.alike hK, hD⟩, hS.F ht⟩) hS.2.2 d_Ff_twoAt_15 hlocks
def P_Ff_signedAt (o_length : Int32) (o_bytes_f : Nat → Int32) (a1 : Int32) : Option (Int32) :=
  (P_Ff_twoAt o_length o_bytes_f a1).bind fun r_1 => some (r_1.toInt16.toInt32)
set_option maxHeartbeats 4000000 in
set_option maxRecDepth 100000 in
theorem c_Ff_signedAt (l : Launch) (dC : Nat → ClassId) (dI : Nat → Nat → Nat) (cy : Nat → ClassId) (sz : Nat) (o : Nat) (o_bytes : Nat) (o_starts : Nat) (o_sizes : Nat) (o_glyphStarts : Nat) (o_length : Int32) (o_units : Int32) (o_glyphs : Int32) (o_ascent : Int32) (o_descent : Int32) (o_gap : Int32) (o_longLoca : Int32) (o_metrics : Int32) (o_codes : Int32) (o_codesSize : Int32) (o_segments : Int32) (o_pairs : Int32) (o_bytes_f : Nat → Int32) (o_starts_f : Nat → Int32) (o_sizes_f : Nat → Int32) (o_glyphStarts_f : Nat → Int32) (a1 : Int32) (uu : Int32) (h : P_Ff_signedAt o_length o_bytes_f a1 = some uu) : Met l y_Ff_signedAt (Cond.code y_Ff_signedAt b_Ff_signedAt 2 (some .int) :: G) ({ frames := 1, cells := 0, slots := 0, locals := 21 } : Room) (va_Pc [.ref o, .int a1] (fun U => U.heap.size = sz ∧ va_P (dC, dI) classes [(o, .inr (7, [.ref o_bytes, .int o_length, .ref o_starts, .ref o_sizes, .ref o_glyphStarts, .int o_units, .int o_glyphs, .int o_ascent, .int o_descent, .int o_gap, .int o_longLoca, .int o_metrics, .int o_codes, .int o_codesSize, .int o_segments, .int o_pairs])), (o_bytes, .inl (cy 1, 4096, .inl o_bytes_f)), (o_starts, .inl (cy 0, 8, .inl o_starts_f)), (o_sizes, .inl (cy 0, 8, .inl o_sizes_f)), (o_glyphStarts, .inl (cy 0, 65, .inl o_glyphStarts_f))] U.heap ∧ va_K (dC, dI) classes (TY cy) U ∧ va_D (fun _ => True) [(o, .inr (7, [.ref o_bytes, .int o_length, .ref o_starts, .ref o_sizes, .ref o_glyphStarts, .int o_units, .int o_glyphs, .int o_ascent, .int o_descent, .int o_gap, .int o_longLoca, .int o_metrics, .int o_codes, .int o_codesSize, .int o_segments, .int o_pairs])), (o_bytes, .inl (cy 1, 4096, .inl o_bytes_f)), (o_starts, .inl (cy 0, 8, .inl o_starts_f)), (o_sizes, .inl (cy 0, 8, .inl o_sizes_f)), (o_glyphStarts, .inl (cy 0, 65, .inl o_glyphStarts_f))])) (va_Qi (fun r (_ : Unit) => r = uu) (fun _ t => va_P (dC, dI) classes [(o, .inr (7, [.ref o_bytes, .int o_length, .ref o_starts, .ref o_sizes, .ref o_glyphStarts, .int o_units, .int o_glyphs, .int o_ascent, .int o_descent, .int o_gap, .int o_longLoca, .int o_metrics, .int o_codes, .int o_codesSize, .int o_segments, .int o_pairs])), (o_bytes, .inl (cy 1, 4096, .inl o_bytes_f)), (o_starts, .inl (cy 0, 8, .inl o_starts_f)), (o_sizes, .inl (cy 0, 8, .inl o_sizes_f)), (o_glyphStarts, .inl (cy 0, 65, .inl o_glyphStarts_f))] t.heap ∧ va_K (dC, dI) classes (TY cy) t ∧ va_D (va_A [(o, .inr (7, [.ref o_bytes, .int o_length, .ref o_starts, .ref o_sizes, .ref o_glyphStarts, .int o_units, .int o_glyphs, .int o_ascent, .int o_descent, .int o_gap, .int o_longLoca, .int o_metrics, .int o_codes, .int o_codesSize, .int o_segments, .int o_pairs])), (o_bytes, .inl (cy 1, 4096, .inl o_bytes_f)), (o_starts, .inl (cy 0, 8, .inl o_starts_f)), (o_sizes, .inl (cy 0, 8, .inl o_sizes_f)), (o_glyphStarts, .inl (cy 0, 65, .inl o_glyphStarts_f))] sz) [(o, .inr (7, [.ref o_bytes, .int o_length, .ref o_starts, .ref o_sizes, .ref o_glyphStarts, .int o_units, .int o_glyphs, .int o_ascent, .int o_descent, .int o_gap, .int o_longLoca, .int o_metrics, .int o_codes, .int o_codesSize, .int o_segments, .int o_pairs])), (o_bytes, .inl (cy 1, 4096, .inl o_bytes_f)), (o_starts, .inl (cy 0, 8, .inl o_starts_f)), (o_sizes, .inl (cy 0, 8, .inl o_sizes_f)), (o_glyphStarts, .inl (cy 0, 65, .inl o_glyphStarts_f))]) (va_A [(o, .inr (7, [.ref o_bytes, .int o_length, .ref o_starts, .ref o_sizes, .ref o_glyphStarts, .int o_units, .int o_glyphs, .int o_ascent, .int o_descent, .int o_gap, .int o_longLoca, .int o_metrics, .int o_codes, .int o_codesSize, .int o_segments, .int o_pairs])), (o_bytes, .inl (cy 1, 4096, .inl o_bytes_f)), (o_starts, .inl (cy 0, 8, .inl o_starts_f)), (o_sizes, .inl (cy 0, 8, .inl o_sizes_f)), (o_glyphStarts, .inl (cy 0, 65, .inl o_glyphStarts_f))] sz)) 0 0 (va_A [(o, .inr (7, [.ref o_bytes, .int o_length, .ref o_starts, .ref o_sizes, .ref o_glyphStarts, .int o_units, .int o_glyphs, .int o_ascent, .int o_descent, .int o_gap, .int o_longLoca, .int o_metrics, .int o_codes, .int o_codesSize, .int o_segments, .int o_pairs])), (o_bytes, .inl (cy 1, 4096, .inl o_bytes_f)), (o_starts, .inl (cy 0, 8, .inl o_starts_f)), (o_sizes, .inl (cy 0, 8, .inl o_sizes_f)), (o_glyphStarts, .inl (cy 0, 65, .inl o_glyphStarts_f))] sz) := by
  refine Met.ofW (cc := b_Ff_signedAt) (maxL := 2) (ret := (some .int)) (by decide) rfl ?_
  intro p e s m args below meth c s₁ B hml hv
  obtain ⟨rfl, hsz, hP, hK, hD0⟩ := hv
  have hx := B.exec
  have hb := B.bytes
  have hr := B.returns
  have hts := atoms_spec (ws := Cond.code y_Ff_signedAt b_Ff_signedAt 2 (some .int) :: G) B.pre
  have htsG : ∀ w ∈ G, w.before _ s = true := fun w hw => hts w (List.mem_cons_of_mem _ hw)
  have hown : s.vm.findClass "GlyphPage$FontFile" = some m.cls := findClass_of_methodNamed B.named
  have hlocks := B.notSynchronized
  subst hsz
  have hD := hD0.self (sz := s.heap.size)
  generalize hAe : va_A [(o, .inr (7, [.ref o_bytes, .int o_length, .ref o_starts, .ref o_sizes, .ref o_glyphStarts, .int o_units, .int o_glyphs, .int o_ascent, .int o_descent, .int o_gap, .int o_longLoca, .int o_metrics, .int o_codes, .int o_codesSize, .int o_segments, .int o_pairs])), (o_bytes, .inl (cy 1, 4096, .inl o_bytes_f)), (o_starts, .inl (cy 0, 8, .inl o_starts_f)), (o_sizes, .inl (cy 0, 8, .inl o_sizes_f)), (o_glyphStarts, .inl (cy 0, 65, .inl o_glyphStarts_f))] s.heap.size = A at hD ⊢
  have hA : ∀ q : Nat, s.heap.size ≤ q → A q := fun q h => by rw [← hAe]; exact Or.inr h
  have hS : va_S A s.heap s.heap [] := va_S.rf
  have hl := lv_entry ([.ref o, .int a1]) (n := 2) (Nat.le_of_ble_eq_true rfl)
  rw [lg_entry_eq]
  generalize (lg_sl ([.ref o, .int a1]) ++ List.replicate (2 - (lg_sl ([.ref o, .int a1])).length) Slot.unset).toArray = ls at hl ⊢
  have hl : lv_has ls 2 [(0, .ref o), (1, .int a1)] := hl
  have C0 : Cx p s m _ meth c A dC dI cy b_Ff_signedAt 2 (some .int) "GlyphPage$FontFile" := ⟨hx, hb, hr, hlocks, hml, hown, htsG, hA, hK⟩
  unfold P_Ff_signedAt at h
  refine lv_aload_n hx hb d_Ff_signedAt_0 rfl (lv_at hl 0 rfl) ?_
  refine lv_iload_n hx hb d_Ff_signedAt_1 rfl (lv_at hl 1 rfl) ?_
  obtain ⟨r_1, hq, h⟩ := Option.bind_eq_some_iff.mp h
  try dsimp only at h
  have hPc := hP.sub (ws' := [(o, .inr (7, [.ref o_bytes, .int o_length, .ref o_starts, .ref o_sizes, .ref o_glyphStarts, .int o_units, .int o_glyphs, .int o_ascent, .int o_descent, .int o_gap, .int o_longLoca, .int o_metrics, .int o_codes, .int o_codesSize, .int o_segments, .int o_pairs])), (o_bytes, .inl (cy 1, 4096, .inl o_bytes_f)), (o_starts, .inl (cy 0, 8, .inl o_starts_f)), (o_sizes, .inl (cy 0, 8, .inl o_sizes_f)), (o_glyphStarts, .inl (cy 0, 65, .inl o_glyphStarts_f))]) [0, 1, 2, 3, 4] rfl
  have hDc := hD.sub (ws' := [(o, .inr (7, [.ref o_bytes, .int o_length, .ref o_starts, .ref o_sizes, .ref o_glyphStarts, .int o_units, .int o_glyphs, .int o_ascent, .int o_descent, .int o_gap, .int o_longLoca, .int o_metrics, .int o_codes, .int o_codesSize, .int o_segments, .int o_pairs])), (o_bytes, .inl (cy 1, 4096, .inl o_bytes_f)), (o_starts, .inl (cy 0, 8, .inl o_starts_f)), (o_sizes, .inl (cy 0, 8, .inl o_sizes_f)), (o_glyphStarts, .inl (cy 0, 65, .inl o_glyphStarts_f))]) [0, 1, 2, 3, 4] (by decide) rfl
  have hFc := va_free (wc := [(o, .inr (7, [.ref o_bytes, .int o_length, .ref o_starts, .ref o_sizes, .ref o_glyphStarts, .int o_units, .int o_glyphs, .int o_ascent, .int o_descent, .int o_gap, .int o_longLoca, .int o_metrics, .int o_codes, .int o_codesSize, .int o_segments, .int o_pairs])), (o_bytes, .inl (cy 1, 4096, .inl o_bytes_f)), (o_starts, .inl (cy 0, 8, .inl o_starts_f)), (o_sizes, .inl (cy 0, 8, .inl o_sizes_f)), (o_glyphStarts, .inl (cy 0, 65, .inl o_glyphStarts_f))]) hD hS hA [0, 1, 2, 3, 4] rfl
  refine va_calli (va_runV (As := [.int a1]) (rest := []) ⟨hx, hb, hml, hown, htsG⟩ (c_Ff_twoAt l dC dI cy s.heap.size o o_bytes o_starts o_sizes o_glyphStarts o_length o_units o_glyphs o_ascent o_descent o_gap o_longLoca o_metrics o_codes o_codesSize o_segments o_pairs o_bytes_f o_starts_f o_sizes_f o_glyphStarts_f a1 r_1 hq) (cwV 1 htsG (gV mW365 mW367 mS_Ff_twoAt mW11 mW368) rfl rfl rfl (by decide +kernel) ⟨Nat.le_of_ble_eq_true rfl, Nat.le_of_ble_eq_true rfl⟩) ⟨fun a U g mk q => by obtain ⟨q0, q1, qP, qK, qD⟩ := q; exact ⟨q0, q1, qP, va_K.moved (u := U) (U := U.calling g mk a) (Vm.Alike.refl U.vm) qK, qD⟩, va_recv hK hPc (ci := 7) (q0 := 0) rfl rfl, fun U hU hW => ⟨rfl, by rw [hU], by rw [hU]; exact hPc, va_K.moved hW.alike hK, hDc.weaken (fun _ _ _ _ => trivial)⟩⟩ rfl rfl hl.1 rfl (lv_room (Nat.le_of_ble_eq_true rfl)) d_Ff_signedAt_2 ⟨Nat.le_of_ble_eq_true rfl, Nat.le_of_ble_eq_true rfl⟩) hS (fun q _ h => hFc q h) hFc (fun rr u t H1 locs ht hvm hw hB hz1 hk1 hS => ?_)
  obtain ⟨hP1, hK1, hD1⟩ := hB
  rw [ht] at hP1
  replace hw : r_1 = rr := hw.symm
  subst hw
  obtain ⟨hP, hD⟩ := va_join (wr := []) (w1 := [(o, .inr (7, [.ref o_bytes, .int o_length, .ref o_starts, .ref o_sizes, .ref o_glyphStarts, .int o_units, .int o_glyphs, .int o_ascent, .int o_descent, .int o_gap, .int o_longLoca, .int o_metrics, .int o_codes, .int o_codesSize, .int o_segments, .int o_pairs])), (o_bytes, .inl (cy 1, 4096, .inl o_bytes_f)), (o_starts, .inl (cy 0, 8, .inl o_starts_f)), (o_sizes, .inl (cy 0, 8, .inl o_sizes_f)), (o_glyphStarts, .inl (cy 0, 65, .inl o_glyphStarts_f))]) hP hD [0, 1, 2, 3, 4] [] rfl rfl (by decide) (by decide) hk1 hFc hP1 hD1
  generalize H1 = H at hP hS ⊢
  have hP := hP.sub (ws' := [(o, .inr (7, [.ref o_bytes, .int o_length, .ref o_starts, .ref o_sizes, .ref o_glyphStarts, .int o_units, .int o_glyphs, .int o_ascent, .int o_descent, .int o_gap, .int o_longLoca, .int o_metrics, .int o_codes, .int o_codesSize, .int o_segments, .int o_pairs])), (o_bytes, .inl (cy 1, 4096, .inl o_bytes_f)), (o_starts, .inl (cy 0, 8, .inl o_starts_f)), (o_sizes, .inl (cy 0, 8, .inl o_sizes_f)), (o_glyphStarts, .inl (cy 0, 65, .inl o_glyphStarts_f))]) [0, 1, 2, 3, 4] rfl
  have hD := hD.sub (ws' := [(o, .inr (7, [.ref o_bytes, .int o_length, .ref o_starts, .ref o_sizes, .ref o_glyphStarts, .int o_units, .int o_glyphs, .int o_ascent, .int o_descent, .int o_gap, .int o_longLoca, .int o_metrics, .int o_codes, .int o_codesSize, .int o_segments, .int o_pairs])), (o_bytes, .inl (cy 1, 4096, .inl o_bytes_f)), (o_starts, .inl (cy 0, 8, .inl o_starts_f)), (o_sizes, .inl (cy 0, 8, .inl o_sizes_f)), (o_glyphStarts, .inl (cy 0, 65, .inl o_glyphStarts_f))]) [0, 1, 2, 3, 4] (by decide) rfl
  refine W.widen (k := 0) (n := 0) (by decide) (by decide) ?_
  refine lv_i2s hx hb d_Ff_signedAt_5 rfl ?_
  cases h
  exact W.iret hx hb hr (fun t ht hW => ⟨⟨_, (), rfl, rfl, by rw [ht]; exact hP, va_K.moved hW.alike hK, hD⟩, hS.F ht⟩) hS.2.2 d_Ff_signedAt_6 hlocks
def P_Ff_fourAt (o_length : Int32) (o_bytes_f : Nat → Int32) (a1 : Int32) : Option (Int64) :=
  (P_Ff_twoAt o_length o_bytes_f a1).bind fun r_1 => (P_Ff_twoAt o_length o_bytes_f (a1 + (2 : Int32))).bind fun r_2 => some (((r_1.toInt64) <<< ((16 : Int32).toInt64 &&& 63)) ||| (r_2.toInt64))
set_option maxHeartbeats 4000000 in
set_option maxRecDepth 100000 in
theorem c_Ff_fourAt (l : Launch) (dC : Nat → ClassId) (dI : Nat → Nat → Nat) (cy : Nat → ClassId) (sz : Nat) (o : Nat) (o_bytes : Nat) (o_starts : Nat) (o_sizes : Nat) (o_glyphStarts : Nat) (o_length : Int32) (o_units : Int32) (o_glyphs : Int32) (o_ascent : Int32) (o_descent : Int32) (o_gap : Int32) (o_longLoca : Int32) (o_metrics : Int32) (o_codes : Int32) (o_codesSize : Int32) (o_segments : Int32) (o_pairs : Int32) (o_bytes_f : Nat → Int32) (o_starts_f : Nat → Int32) (o_sizes_f : Nat → Int32) (o_glyphStarts_f : Nat → Int32) (a1 : Int32) (uu : Int64) (h : P_Ff_fourAt o_length o_bytes_f a1 = some uu) : Met l y_Ff_fourAt (Cond.code y_Ff_fourAt b_Ff_fourAt 2 (some .long) :: G) ({ frames := 1, cells := 0, slots := 0, locals := 21 } : Room) (va_Pc [.ref o, .int a1] (fun U => U.heap.size = sz ∧ va_P (dC, dI) classes [(o, .inr (7, [.ref o_bytes, .int o_length, .ref o_starts, .ref o_sizes, .ref o_glyphStarts, .int o_units, .int o_glyphs, .int o_ascent, .int o_descent, .int o_gap, .int o_longLoca, .int o_metrics, .int o_codes, .int o_codesSize, .int o_segments, .int o_pairs])), (o_bytes, .inl (cy 1, 4096, .inl o_bytes_f)), (o_starts, .inl (cy 0, 8, .inl o_starts_f)), (o_sizes, .inl (cy 0, 8, .inl o_sizes_f)), (o_glyphStarts, .inl (cy 0, 65, .inl o_glyphStarts_f))] U.heap ∧ va_K (dC, dI) classes (TY cy) U ∧ va_D (fun _ => True) [(o, .inr (7, [.ref o_bytes, .int o_length, .ref o_starts, .ref o_sizes, .ref o_glyphStarts, .int o_units, .int o_glyphs, .int o_ascent, .int o_descent, .int o_gap, .int o_longLoca, .int o_metrics, .int o_codes, .int o_codesSize, .int o_segments, .int o_pairs])), (o_bytes, .inl (cy 1, 4096, .inl o_bytes_f)), (o_starts, .inl (cy 0, 8, .inl o_starts_f)), (o_sizes, .inl (cy 0, 8, .inl o_sizes_f)), (o_glyphStarts, .inl (cy 0, 65, .inl o_glyphStarts_f))])) (va_Ql (fun r (_ : Unit) => r = uu) (fun _ t => va_P (dC, dI) classes [(o, .inr (7, [.ref o_bytes, .int o_length, .ref o_starts, .ref o_sizes, .ref o_glyphStarts, .int o_units, .int o_glyphs, .int o_ascent, .int o_descent, .int o_gap, .int o_longLoca, .int o_metrics, .int o_codes, .int o_codesSize, .int o_segments, .int o_pairs])), (o_bytes, .inl (cy 1, 4096, .inl o_bytes_f)), (o_starts, .inl (cy 0, 8, .inl o_starts_f)), (o_sizes, .inl (cy 0, 8, .inl o_sizes_f)), (o_glyphStarts, .inl (cy 0, 65, .inl o_glyphStarts_f))] t.heap ∧ va_K (dC, dI) classes (TY cy) t ∧ va_D (va_A [(o, .inr (7, [.ref o_bytes, .int o_length, .ref o_starts, .ref o_sizes, .ref o_glyphStarts, .int o_units, .int o_glyphs, .int o_ascent, .int o_descent, .int o_gap, .int o_longLoca, .int o_metrics, .int o_codes, .int o_codesSize, .int o_segments, .int o_pairs])), (o_bytes, .inl (cy 1, 4096, .inl o_bytes_f)), (o_starts, .inl (cy 0, 8, .inl o_starts_f)), (o_sizes, .inl (cy 0, 8, .inl o_sizes_f)), (o_glyphStarts, .inl (cy 0, 65, .inl o_glyphStarts_f))] sz) [(o, .inr (7, [.ref o_bytes, .int o_length, .ref o_starts, .ref o_sizes, .ref o_glyphStarts, .int o_units, .int o_glyphs, .int o_ascent, .int o_descent, .int o_gap, .int o_longLoca, .int o_metrics, .int o_codes, .int o_codesSize, .int o_segments, .int o_pairs])), (o_bytes, .inl (cy 1, 4096, .inl o_bytes_f)), (o_starts, .inl (cy 0, 8, .inl o_starts_f)), (o_sizes, .inl (cy 0, 8, .inl o_sizes_f)), (o_glyphStarts, .inl (cy 0, 65, .inl o_glyphStarts_f))]) (va_A [(o, .inr (7, [.ref o_bytes, .int o_length, .ref o_starts, .ref o_sizes, .ref o_glyphStarts, .int o_units, .int o_glyphs, .int o_ascent, .int o_descent, .int o_gap, .int o_longLoca, .int o_metrics, .int o_codes, .int o_codesSize, .int o_segments, .int o_pairs])), (o_bytes, .inl (cy 1, 4096, .inl o_bytes_f)), (o_starts, .inl (cy 0, 8, .inl o_starts_f)), (o_sizes, .inl (cy 0, 8, .inl o_sizes_f)), (o_glyphStarts, .inl (cy 0, 65, .inl o_glyphStarts_f))] sz)) 0 0 (va_A [(o, .inr (7, [.ref o_bytes, .int o_length, .ref o_starts, .ref o_sizes, .ref o_glyphStarts, .int o_units, .int o_glyphs, .int o_ascent, .int o_descent, .int o_gap, .int o_longLoca, .int o_metrics, .int o_codes, .int o_codesSize, .int o_segments, .int o_pairs])), (o_bytes, .inl (cy 1, 4096, .inl o_bytes_f)), (o_starts, .inl (cy 0, 8, .inl o_starts_f)), (o_sizes, .inl (cy 0, 8, .inl o_sizes_f)), (o_glyphStarts, .inl (cy 0, 65, .inl o_glyphStarts_f))] sz) := by
  refine Met.ofW (cc := b_Ff_fourAt) (maxL := 2) (ret := (some .long)) (by decide) rfl ?_
  intro p e s m args below meth c s₁ B hml hv
  obtain ⟨rfl, hsz, hP, hK, hD0⟩ := hv
  have hx := B.exec
  have hb := B.bytes
  have hr := B.returns
  have hts := atoms_spec (ws := Cond.code y_Ff_fourAt b_Ff_fourAt 2 (some .long) :: G) B.pre
  have htsG : ∀ w ∈ G, w.before _ s = true := fun w hw => hts w (List.mem_cons_of_mem _ hw)
  have hown : s.vm.findClass "GlyphPage$FontFile" = some m.cls := findClass_of_methodNamed B.named
  have hlocks := B.notSynchronized
  subst hsz
  have hD := hD0.self (sz := s.heap.size)
  generalize hAe : va_A [(o, .inr (7, [.ref o_bytes, .int o_length, .ref o_starts, .ref o_sizes, .ref o_glyphStarts, .int o_units, .int o_glyphs, .int o_ascent, .int o_descent, .int o_gap, .int o_longLoca, .int o_metrics, .int o_codes, .int o_codesSize, .int o_segments, .int o_pairs])), (o_bytes, .inl (cy 1, 4096, .inl o_bytes_f)), (o_starts, .inl (cy 0, 8, .inl o_starts_f)), (o_sizes, .inl (cy 0, 8, .inl o_sizes_f)), (o_glyphStarts, .inl (cy 0, 65, .inl o_glyphStarts_f))] s.heap.size = A at hD ⊢
  have hA : ∀ q : Nat, s.heap.size ≤ q → A q := fun q h => by rw [← hAe]; exact Or.inr h
  have hS : va_S A s.heap s.heap [] := va_S.rf
  have hl := lv_entry ([.ref o, .int a1]) (n := 2) (Nat.le_of_ble_eq_true rfl)
  rw [lg_entry_eq]
  generalize (lg_sl ([.ref o, .int a1]) ++ List.replicate (2 - (lg_sl ([.ref o, .int a1])).length) Slot.unset).toArray = ls at hl ⊢
  have hl : lv_has ls 2 [(0, .ref o), (1, .int a1)] := hl
  have C0 : Cx p s m _ meth c A dC dI cy b_Ff_fourAt 2 (some .long) "GlyphPage$FontFile" := ⟨hx, hb, hr, hlocks, hml, hown, htsG, hA, hK⟩
  unfold P_Ff_fourAt at h
  refine lv_aload_n hx hb d_Ff_fourAt_0 rfl (lv_at hl 0 rfl) ?_
  refine lv_iload_n hx hb d_Ff_fourAt_1 rfl (lv_at hl 1 rfl) ?_
  obtain ⟨r_1, hq, h⟩ := Option.bind_eq_some_iff.mp h
  try dsimp only at h
  have hPc := hP.sub (ws' := [(o, .inr (7, [.ref o_bytes, .int o_length, .ref o_starts, .ref o_sizes, .ref o_glyphStarts, .int o_units, .int o_glyphs, .int o_ascent, .int o_descent, .int o_gap, .int o_longLoca, .int o_metrics, .int o_codes, .int o_codesSize, .int o_segments, .int o_pairs])), (o_bytes, .inl (cy 1, 4096, .inl o_bytes_f)), (o_starts, .inl (cy 0, 8, .inl o_starts_f)), (o_sizes, .inl (cy 0, 8, .inl o_sizes_f)), (o_glyphStarts, .inl (cy 0, 65, .inl o_glyphStarts_f))]) [0, 1, 2, 3, 4] rfl
  have hDc := hD.sub (ws' := [(o, .inr (7, [.ref o_bytes, .int o_length, .ref o_starts, .ref o_sizes, .ref o_glyphStarts, .int o_units, .int o_glyphs, .int o_ascent, .int o_descent, .int o_gap, .int o_longLoca, .int o_metrics, .int o_codes, .int o_codesSize, .int o_segments, .int o_pairs])), (o_bytes, .inl (cy 1, 4096, .inl o_bytes_f)), (o_starts, .inl (cy 0, 8, .inl o_starts_f)), (o_sizes, .inl (cy 0, 8, .inl o_sizes_f)), (o_glyphStarts, .inl (cy 0, 65, .inl o_glyphStarts_f))]) [0, 1, 2, 3, 4] (by decide) rfl
  have hFc := va_free (wc := [(o, .inr (7, [.ref o_bytes, .int o_length, .ref o_starts, .ref o_sizes, .ref o_glyphStarts, .int o_units, .int o_glyphs, .int o_ascent, .int o_descent, .int o_gap, .int o_longLoca, .int o_metrics, .int o_codes, .int o_codesSize, .int o_segments, .int o_pairs])), (o_bytes, .inl (cy 1, 4096, .inl o_bytes_f)), (o_starts, .inl (cy 0, 8, .inl o_starts_f)), (o_sizes, .inl (cy 0, 8, .inl o_sizes_f)), (o_glyphStarts, .inl (cy 0, 65, .inl o_glyphStarts_f))]) hD hS hA [0, 1, 2, 3, 4] rfl
  refine va_calli (va_runV (As := [.int a1]) (rest := []) ⟨hx, hb, hml, hown, htsG⟩ (c_Ff_twoAt l dC dI cy s.heap.size o o_bytes o_starts o_sizes o_glyphStarts o_length o_units o_glyphs o_ascent o_descent o_gap o_longLoca o_metrics o_codes o_codesSize o_segments o_pairs o_bytes_f o_starts_f o_sizes_f o_glyphStarts_f a1 r_1 hq) (cwV 1 htsG (gV mW365 mW367 mS_Ff_twoAt mW11 mW368) rfl rfl rfl (by decide +kernel) ⟨Nat.le_of_ble_eq_true rfl, Nat.le_of_ble_eq_true rfl⟩) ⟨fun a U g mk q => by obtain ⟨q0, q1, qP, qK, qD⟩ := q; exact ⟨q0, q1, qP, va_K.moved (u := U) (U := U.calling g mk a) (Vm.Alike.refl U.vm) qK, qD⟩, va_recv hK hPc (ci := 7) (q0 := 0) rfl rfl, fun U hU hW => ⟨rfl, by rw [hU], by rw [hU]; exact hPc, va_K.moved hW.alike hK, hDc.weaken (fun _ _ _ _ => trivial)⟩⟩ rfl rfl hl.1 rfl (lv_room (Nat.le_of_ble_eq_true rfl)) d_Ff_fourAt_2 ⟨Nat.le_of_ble_eq_true rfl, Nat.le_of_ble_eq_true rfl⟩) hS (fun q _ h => hFc q h) hFc (fun rr u t H1 locs ht hvm hw hB hz1 hk1 hS => ?_)
  obtain ⟨hP1, hK1, hD1⟩ := hB
  rw [ht] at hP1
  replace hw : r_1 = rr := hw.symm
  subst hw
  obtain ⟨hP, hD⟩ := va_join (wr := []) (w1 := [(o, .inr (7, [.ref o_bytes, .int o_length, .ref o_starts, .ref o_sizes, .ref o_glyphStarts, .int o_units, .int o_glyphs, .int o_ascent, .int o_descent, .int o_gap, .int o_longLoca, .int o_metrics, .int o_codes, .int o_codesSize, .int o_segments, .int o_pairs])), (o_bytes, .inl (cy 1, 4096, .inl o_bytes_f)), (o_starts, .inl (cy 0, 8, .inl o_starts_f)), (o_sizes, .inl (cy 0, 8, .inl o_sizes_f)), (o_glyphStarts, .inl (cy 0, 65, .inl o_glyphStarts_f))]) hP hD [0, 1, 2, 3, 4] [] rfl rfl (by decide) (by decide) hk1 hFc hP1 hD1
  generalize H1 = H at hP hS ⊢
  have hP := hP.sub (ws' := [(o, .inr (7, [.ref o_bytes, .int o_length, .ref o_starts, .ref o_sizes, .ref o_glyphStarts, .int o_units, .int o_glyphs, .int o_ascent, .int o_descent, .int o_gap, .int o_longLoca, .int o_metrics, .int o_codes, .int o_codesSize, .int o_segments, .int o_pairs])), (o_bytes, .inl (cy 1, 4096, .inl o_bytes_f)), (o_starts, .inl (cy 0, 8, .inl o_starts_f)), (o_sizes, .inl (cy 0, 8, .inl o_sizes_f)), (o_glyphStarts, .inl (cy 0, 65, .inl o_glyphStarts_f))]) [0, 1, 2, 3, 4] rfl
  have hD := hD.sub (ws' := [(o, .inr (7, [.ref o_bytes, .int o_length, .ref o_starts, .ref o_sizes, .ref o_glyphStarts, .int o_units, .int o_glyphs, .int o_ascent, .int o_descent, .int o_gap, .int o_longLoca, .int o_metrics, .int o_codes, .int o_codesSize, .int o_segments, .int o_pairs])), (o_bytes, .inl (cy 1, 4096, .inl o_bytes_f)), (o_starts, .inl (cy 0, 8, .inl o_starts_f)), (o_sizes, .inl (cy 0, 8, .inl o_sizes_f)), (o_glyphStarts, .inl (cy 0, 65, .inl o_glyphStarts_f))]) [0, 1, 2, 3, 4] (by decide) rfl
  refine W.widen (k := 0) (n := 0) (by decide) (by decide) ?_
  refine lv_i2l hx hb d_Ff_fourAt_5 rfl ?_
  refine lv_bipush (v := (16 : Int32)) hx hb d_Ff_fourAt_6 (by decide) ?_
  refine lv_lshl hx hb d_Ff_fourAt_8 rfl ?_
  refine lv_aload_n hx hb d_Ff_fourAt_9 rfl (lv_at hl 0 rfl) ?_
  refine lv_iload_n hx hb d_Ff_fourAt_10 rfl (lv_at hl 1 rfl) ?_
  refine lv_iconst (v := (2 : Int32)) hx hb d_Ff_fourAt_11 (by decide) ?_
  refine lv_iadd hx hb d_Ff_fourAt_12 ?_
  obtain ⟨r_2, hq, h⟩ := Option.bind_eq_some_iff.mp h
  try dsimp only at h
  have hPc := hP.sub (ws' := [(o, .inr (7, [.ref o_bytes, .int o_length, .ref o_starts, .ref o_sizes, .ref o_glyphStarts, .int o_units, .int o_glyphs, .int o_ascent, .int o_descent, .int o_gap, .int o_longLoca, .int o_metrics, .int o_codes, .int o_codesSize, .int o_segments, .int o_pairs])), (o_bytes, .inl (cy 1, 4096, .inl o_bytes_f)), (o_starts, .inl (cy 0, 8, .inl o_starts_f)), (o_sizes, .inl (cy 0, 8, .inl o_sizes_f)), (o_glyphStarts, .inl (cy 0, 65, .inl o_glyphStarts_f))]) [0, 1, 2, 3, 4] rfl
  have hDc := hD.sub (ws' := [(o, .inr (7, [.ref o_bytes, .int o_length, .ref o_starts, .ref o_sizes, .ref o_glyphStarts, .int o_units, .int o_glyphs, .int o_ascent, .int o_descent, .int o_gap, .int o_longLoca, .int o_metrics, .int o_codes, .int o_codesSize, .int o_segments, .int o_pairs])), (o_bytes, .inl (cy 1, 4096, .inl o_bytes_f)), (o_starts, .inl (cy 0, 8, .inl o_starts_f)), (o_sizes, .inl (cy 0, 8, .inl o_sizes_f)), (o_glyphStarts, .inl (cy 0, 65, .inl o_glyphStarts_f))]) [0, 1, 2, 3, 4] (by decide) rfl
  have hFc := va_free (wc := [(o, .inr (7, [.ref o_bytes, .int o_length, .ref o_starts, .ref o_sizes, .ref o_glyphStarts, .int o_units, .int o_glyphs, .int o_ascent, .int o_descent, .int o_gap, .int o_longLoca, .int o_metrics, .int o_codes, .int o_codesSize, .int o_segments, .int o_pairs])), (o_bytes, .inl (cy 1, 4096, .inl o_bytes_f)), (o_starts, .inl (cy 0, 8, .inl o_starts_f)), (o_sizes, .inl (cy 0, 8, .inl o_sizes_f)), (o_glyphStarts, .inl (cy 0, 65, .inl o_glyphStarts_f))]) hD hS hA [0, 1, 2, 3, 4] rfl
  refine va_calli (va_runV (As := [.int (a1 + (2 : Int32))]) (rest := [.long ((r_1.toInt64) <<< ((16 : Int32).toInt64 &&& 63))]) ⟨hx, hb, hml, hown, htsG⟩ (c_Ff_twoAt l dC dI cy H.size o o_bytes o_starts o_sizes o_glyphStarts o_length o_units o_glyphs o_ascent o_descent o_gap o_longLoca o_metrics o_codes o_codesSize o_segments o_pairs o_bytes_f o_starts_f o_sizes_f o_glyphStarts_f (a1 + (2 : Int32)) r_2 hq) (cwV 1 htsG (gV mW365 mW367 mS_Ff_twoAt mW11 mW368) rfl rfl rfl (by decide +kernel) ⟨Nat.le_of_ble_eq_true rfl, Nat.le_of_ble_eq_true rfl⟩) ⟨fun a U g mk q => by obtain ⟨q0, q1, qP, qK, qD⟩ := q; exact ⟨q0, q1, qP, va_K.moved (u := U) (U := U.calling g mk a) (Vm.Alike.refl U.vm) qK, qD⟩, va_recv hK hPc (ci := 7) (q0 := 0) rfl rfl, fun U hU hW => ⟨rfl, by rw [hU], by rw [hU]; exact hPc, va_K.moved hW.alike hK, hDc.weaken (fun _ _ _ _ => trivial)⟩⟩ rfl rfl hl.1 rfl (lv_room (Nat.le_of_ble_eq_true rfl)) d_Ff_fourAt_13 ⟨Nat.le_of_ble_eq_true rfl, Nat.le_of_ble_eq_true rfl⟩) hS (fun q _ h => hFc q h) hFc (fun rr u t H1 locs ht hvm hw hB hz1 hk1 hS => ?_)
  obtain ⟨hP1, hK1, hD1⟩ := hB
  rw [ht] at hP1
  replace hw : r_2 = rr := hw.symm
  subst hw
  obtain ⟨hP, hD⟩ := va_join (wr := []) (w1 := [(o, .inr (7, [.ref o_bytes, .int o_length, .ref o_starts, .ref o_sizes, .ref o_glyphStarts, .int o_units, .int o_glyphs, .int o_ascent, .int o_descent, .int o_gap, .int o_longLoca, .int o_metrics, .int o_codes, .int o_codesSize, .int o_segments, .int o_pairs])), (o_bytes, .inl (cy 1, 4096, .inl o_bytes_f)), (o_starts, .inl (cy 0, 8, .inl o_starts_f)), (o_sizes, .inl (cy 0, 8, .inl o_sizes_f)), (o_glyphStarts, .inl (cy 0, 65, .inl o_glyphStarts_f))]) hP hD [0, 1, 2, 3, 4] [] rfl rfl (by decide) (by decide) hk1 hFc hP1 hD1
  generalize H1 = H at hP hS ⊢
  have hP := hP.sub (ws' := [(o, .inr (7, [.ref o_bytes, .int o_length, .ref o_starts, .ref o_sizes, .ref o_glyphStarts, .int o_units, .int o_glyphs, .int o_ascent, .int o_descent, .int o_gap, .int o_longLoca, .int o_metrics, .int o_codes, .int o_codesSize, .int o_segments, .int o_pairs])), (o_bytes, .inl (cy 1, 4096, .inl o_bytes_f)), (o_starts, .inl (cy 0, 8, .inl o_starts_f)), (o_sizes, .inl (cy 0, 8, .inl o_sizes_f)), (o_glyphStarts, .inl (cy 0, 65, .inl o_glyphStarts_f))]) [0, 1, 2, 3, 4] rfl
  have hD := hD.sub (ws' := [(o, .inr (7, [.ref o_bytes, .int o_length, .ref o_starts, .ref o_sizes, .ref o_glyphStarts, .int o_units, .int o_glyphs, .int o_ascent, .int o_descent, .int o_gap, .int o_longLoca, .int o_metrics, .int o_codes, .int o_codesSize, .int o_segments, .int o_pairs])), (o_bytes, .inl (cy 1, 4096, .inl o_bytes_f)), (o_starts, .inl (cy 0, 8, .inl o_starts_f)), (o_sizes, .inl (cy 0, 8, .inl o_sizes_f)), (o_glyphStarts, .inl (cy 0, 65, .inl o_glyphStarts_f))]) [0, 1, 2, 3, 4] (by decide) rfl
  refine W.widen (k := 0) (n := 0) (by decide) (by decide) ?_
  refine lv_i2l hx hb d_Ff_fourAt_16 rfl ?_
  refine lv_lor hx hb d_Ff_fourAt_17 ?_
  cases h
  exact W.lret hx hb hr (fun t ht hW => ⟨⟨_, (), rfl, rfl, by rw [ht]; exact hP, va_K.moved hW.alike hK, hD⟩, hS.F ht⟩) hS.2.2 d_Ff_fourAt_18 hlocks
def P_Ff_isModest (o_units : Int32) (a1 : Int32) : Option (Int32) :=
  if a1 < ((-8 : Int32) * o_units) then (some (0 : Int32)) else (if ((8 : Int32) * o_units) < a1 then (some (0 : Int32)) else (some (1 : Int32)))
set_option maxHeartbeats 4000000 in
set_option maxRecDepth 100000 in
theorem c_Ff_isModest (l : Launch) (dC : Nat → ClassId) (dI : Nat → Nat → Nat) (cy : Nat → ClassId) (sz : Nat) (o : Nat) (o_bytes : Nat) (o_starts : Nat) (o_sizes : Nat) (o_glyphStarts : Nat) (o_length : Int32) (o_units : Int32) (o_glyphs : Int32) (o_ascent : Int32) (o_descent : Int32) (o_gap : Int32) (o_longLoca : Int32) (o_metrics : Int32) (o_codes : Int32) (o_codesSize : Int32) (o_segments : Int32) (o_pairs : Int32) (a1 : Int32) (uu : Int32) (h : P_Ff_isModest o_units a1 = some uu) : Met l y_Ff_isModest (Cond.code y_Ff_isModest b_Ff_isModest 2 (some .boolean) :: G) ({ frames := 0, cells := 0, slots := 0, locals := 0 } : Room) (va_Pc [.ref o, .int a1] (fun U => U.heap.size = sz ∧ va_P (dC, dI) classes [(o, .inr (7, [.ref o_bytes, .int o_length, .ref o_starts, .ref o_sizes, .ref o_glyphStarts, .int o_units, .int o_glyphs, .int o_ascent, .int o_descent, .int o_gap, .int o_longLoca, .int o_metrics, .int o_codes, .int o_codesSize, .int o_segments, .int o_pairs]))] U.heap ∧ va_K (dC, dI) classes (TY cy) U ∧ va_D (fun _ => True) [(o, .inr (7, [.ref o_bytes, .int o_length, .ref o_starts, .ref o_sizes, .ref o_glyphStarts, .int o_units, .int o_glyphs, .int o_ascent, .int o_descent, .int o_gap, .int o_longLoca, .int o_metrics, .int o_codes, .int o_codesSize, .int o_segments, .int o_pairs]))])) (va_Qi (fun r (_ : Unit) => r = uu) (fun _ t => va_P (dC, dI) classes [(o, .inr (7, [.ref o_bytes, .int o_length, .ref o_starts, .ref o_sizes, .ref o_glyphStarts, .int o_units, .int o_glyphs, .int o_ascent, .int o_descent, .int o_gap, .int o_longLoca, .int o_metrics, .int o_codes, .int o_codesSize, .int o_segments, .int o_pairs]))] t.heap ∧ va_K (dC, dI) classes (TY cy) t ∧ va_D (va_A [(o, .inr (7, [.ref o_bytes, .int o_length, .ref o_starts, .ref o_sizes, .ref o_glyphStarts, .int o_units, .int o_glyphs, .int o_ascent, .int o_descent, .int o_gap, .int o_longLoca, .int o_metrics, .int o_codes, .int o_codesSize, .int o_segments, .int o_pairs]))] sz) [(o, .inr (7, [.ref o_bytes, .int o_length, .ref o_starts, .ref o_sizes, .ref o_glyphStarts, .int o_units, .int o_glyphs, .int o_ascent, .int o_descent, .int o_gap, .int o_longLoca, .int o_metrics, .int o_codes, .int o_codesSize, .int o_segments, .int o_pairs]))]) (va_A [(o, .inr (7, [.ref o_bytes, .int o_length, .ref o_starts, .ref o_sizes, .ref o_glyphStarts, .int o_units, .int o_glyphs, .int o_ascent, .int o_descent, .int o_gap, .int o_longLoca, .int o_metrics, .int o_codes, .int o_codesSize, .int o_segments, .int o_pairs]))] sz)) 0 0 (va_A [(o, .inr (7, [.ref o_bytes, .int o_length, .ref o_starts, .ref o_sizes, .ref o_glyphStarts, .int o_units, .int o_glyphs, .int o_ascent, .int o_descent, .int o_gap, .int o_longLoca, .int o_metrics, .int o_codes, .int o_codesSize, .int o_segments, .int o_pairs]))] sz) := by
  refine Met.ofW (cc := b_Ff_isModest) (maxL := 2) (ret := (some .boolean)) (by decide) rfl ?_
  intro p e s m args below meth c s₁ B hml hv
  obtain ⟨rfl, hsz, hP, hK, hD0⟩ := hv
  have hx := B.exec
  have hb := B.bytes
  have hr := B.returns
  have hts := atoms_spec (ws := Cond.code y_Ff_isModest b_Ff_isModest 2 (some .boolean) :: G) B.pre
  have htsG : ∀ w ∈ G, w.before _ s = true := fun w hw => hts w (List.mem_cons_of_mem _ hw)
  have hown : s.vm.findClass "GlyphPage$FontFile" = some m.cls := findClass_of_methodNamed B.named
  have hlocks := B.notSynchronized
  subst hsz
  have hD := hD0.self (sz := s.heap.size)
  generalize hAe : va_A [(o, .inr (7, [.ref o_bytes, .int o_length, .ref o_starts, .ref o_sizes, .ref o_glyphStarts, .int o_units, .int o_glyphs, .int o_ascent, .int o_descent, .int o_gap, .int o_longLoca, .int o_metrics, .int o_codes, .int o_codesSize, .int o_segments, .int o_pairs]))] s.heap.size = A at hD ⊢
  have hA : ∀ q : Nat, s.heap.size ≤ q → A q := fun q h => by rw [← hAe]; exact Or.inr h
  have hS : va_S A s.heap s.heap [] := va_S.rf
  have hl := lv_entry ([.ref o, .int a1]) (n := 2) (Nat.le_of_ble_eq_true rfl)
  rw [lg_entry_eq]
  generalize (lg_sl ([.ref o, .int a1]) ++ List.replicate (2 - (lg_sl ([.ref o, .int a1])).length) Slot.unset).toArray = ls at hl ⊢
  have hl : lv_has ls 2 [(0, .ref o), (1, .int a1)] := hl
  have C0 : Cx p s m _ meth c A dC dI cy b_Ff_isModest 2 (some .boolean) "GlyphPage$FontFile" := ⟨hx, hb, hr, hlocks, hml, hown, htsG, hA, hK⟩
  unfold P_Ff_isModest at h
  refine lv_iload_n hx hb d_Ff_isModest_0 rfl (lv_at hl 1 rfl) ?_
  refine lv_bipush (v := (-8 : Int32)) hx hb d_Ff_isModest_1 (by decide) ?_
  refine lv_aload_n hx hb d_Ff_isModest_3 rfl (lv_at hl 0 rfl) ?_
  refine va_get (D := (dC, dI)) (ci := 7) (v := .int o_units) (C := "GlyphPage$FontFile") (T := F_Ff) (N := 16) hx hb htsG iG_Ff hown hK hP 0 rfl rfl 5 (by decide) (htsG _ mW307) (fun _ h9 => h9) rfl d_Ff_isModest_4 ?_
  refine lv_imul hx hb d_Ff_isModest_7 ?_
  refine lv_icmp_lt (tgt := 26) hx hb d_Ff_isModest_8 (by decide) (fun c_1 => ?_) (fun c_1 => ?_)
  · replace h := (if_pos c_1).symm.trans h
    refine lv_iconst (v := (0 : Int32)) hx hb d_Ff_isModest_26 (by decide) ?_
    cases h
    exact W.zret (ty := .boolean) hx hb hr rfl (fun t ht hW => ⟨⟨_, (), rfl, rfl, by rw [ht]; exact hP, va_K.moved hW.alike hK, hD⟩, hS.F ht⟩) hS.2.2 d_Ff_isModest_27 hlocks
  · replace h := (if_neg c_1).symm.trans h
    refine lv_iload_n hx hb d_Ff_isModest_11 rfl (lv_at hl 1 rfl) ?_
    refine lv_bipush (v := (8 : Int32)) hx hb d_Ff_isModest_12 (by decide) ?_
    refine lv_aload_n hx hb d_Ff_isModest_14 rfl (lv_at hl 0 rfl) ?_
    refine va_get (D := (dC, dI)) (ci := 7) (v := .int o_units) (C := "GlyphPage$FontFile") (T := F_Ff) (N := 16) hx hb htsG iG_Ff hown hK hP 0 rfl rfl 5 (by decide) (htsG _ mW307) (fun _ h9 => h9) rfl d_Ff_isModest_15 ?_
    refine lv_imul hx hb d_Ff_isModest_18 ?_
    refine lv_icmp_gt (tgt := 26) hx hb d_Ff_isModest_19 (by decide) (fun c_2 => ?_) (fun c_2 => ?_)
    · replace h := (if_pos c_2).symm.trans h
      refine lv_iconst (v := (0 : Int32)) hx hb d_Ff_isModest_26 (by decide) ?_
      cases h
      exact W.zret (ty := .boolean) hx hb hr rfl (fun t ht hW => ⟨⟨_, (), rfl, rfl, by rw [ht]; exact hP, va_K.moved hW.alike hK, hD⟩, hS.F ht⟩) hS.2.2 d_Ff_isModest_27 hlocks
    · replace h := (if_neg c_2).symm.trans h
      refine lv_iconst (v := (1 : Int32)) hx hb d_Ff_isModest_22 (by decide) ?_
      refine lv_goto (tgt := 27) hx hb d_Ff_isModest_23 (by decide) ?_
      cases h
      exact W.zret (ty := .boolean) hx hb hr rfl (fun t ht hW => ⟨⟨_, (), rfl, rfl, by rw [ht]; exact hP, va_K.moved hW.alike hK, hD⟩, hS.F ht⟩) hS.2.2 d_Ff_isModest_27 hlocks
def P_Ff_advanceOf (o_length : Int32) (o_metrics : Int32) (o_bytes_f : Nat → Int32) (o_starts_f : Nat → Int32) (a1 : Int32) : Option (Int32) :=
  bd (4 : Int32) 8 <| (P_Jm_min a1 (o_metrics - (1 : Int32))).bind fun r_2 => (P_Ff_twoAt o_length o_bytes_f ((o_starts_f (4 : Int32).toNatClampNeg) + ((4 : Int32) * r_2))).bind fun r_3 => some r_3
set_option maxHeartbeats 4000000 in
set_option maxRecDepth 100000 in
theorem c_Ff_advanceOf (l : Launch) (dC : Nat → ClassId) (dI : Nat → Nat → Nat) (cy : Nat → ClassId) (sz : Nat) (o : Nat) (o_bytes : Nat) (o_starts : Nat) (o_sizes : Nat) (o_glyphStarts : Nat) (o_length : Int32) (o_units : Int32) (o_glyphs : Int32) (o_ascent : Int32) (o_descent : Int32) (o_gap : Int32) (o_longLoca : Int32) (o_metrics : Int32) (o_codes : Int32) (o_codesSize : Int32) (o_segments : Int32) (o_pairs : Int32) (o_bytes_f : Nat → Int32) (o_starts_f : Nat → Int32) (o_sizes_f : Nat → Int32) (o_glyphStarts_f : Nat → Int32) (a1 : Int32) (uu : Int32) (h : P_Ff_advanceOf o_length o_metrics o_bytes_f o_starts_f a1 = some uu) : Met l y_Ff_advanceOf (Cond.code y_Ff_advanceOf b_Ff_advanceOf 2 (some .int) :: G) ({ frames := 1, cells := 0, slots := 0, locals := 21 } : Room) (va_Pc [.ref o, .int a1] (fun U => U.heap.size = sz ∧ va_P (dC, dI) classes [(o, .inr (7, [.ref o_bytes, .int o_length, .ref o_starts, .ref o_sizes, .ref o_glyphStarts, .int o_units, .int o_glyphs, .int o_ascent, .int o_descent, .int o_gap, .int o_longLoca, .int o_metrics, .int o_codes, .int o_codesSize, .int o_segments, .int o_pairs])), (o_bytes, .inl (cy 1, 4096, .inl o_bytes_f)), (o_starts, .inl (cy 0, 8, .inl o_starts_f)), (o_sizes, .inl (cy 0, 8, .inl o_sizes_f)), (o_glyphStarts, .inl (cy 0, 65, .inl o_glyphStarts_f))] U.heap ∧ va_K (dC, dI) classes (TY cy) U ∧ va_D (fun _ => True) [(o, .inr (7, [.ref o_bytes, .int o_length, .ref o_starts, .ref o_sizes, .ref o_glyphStarts, .int o_units, .int o_glyphs, .int o_ascent, .int o_descent, .int o_gap, .int o_longLoca, .int o_metrics, .int o_codes, .int o_codesSize, .int o_segments, .int o_pairs])), (o_bytes, .inl (cy 1, 4096, .inl o_bytes_f)), (o_starts, .inl (cy 0, 8, .inl o_starts_f)), (o_sizes, .inl (cy 0, 8, .inl o_sizes_f)), (o_glyphStarts, .inl (cy 0, 65, .inl o_glyphStarts_f))])) (va_Qi (fun r (_ : Unit) => r = uu) (fun _ t => va_P (dC, dI) classes [(o, .inr (7, [.ref o_bytes, .int o_length, .ref o_starts, .ref o_sizes, .ref o_glyphStarts, .int o_units, .int o_glyphs, .int o_ascent, .int o_descent, .int o_gap, .int o_longLoca, .int o_metrics, .int o_codes, .int o_codesSize, .int o_segments, .int o_pairs])), (o_bytes, .inl (cy 1, 4096, .inl o_bytes_f)), (o_starts, .inl (cy 0, 8, .inl o_starts_f)), (o_sizes, .inl (cy 0, 8, .inl o_sizes_f)), (o_glyphStarts, .inl (cy 0, 65, .inl o_glyphStarts_f))] t.heap ∧ va_K (dC, dI) classes (TY cy) t ∧ va_D (va_A [(o, .inr (7, [.ref o_bytes, .int o_length, .ref o_starts, .ref o_sizes, .ref o_glyphStarts, .int o_units, .int o_glyphs, .int o_ascent, .int o_descent, .int o_gap, .int o_longLoca, .int o_metrics, .int o_codes, .int o_codesSize, .int o_segments, .int o_pairs])), (o_bytes, .inl (cy 1, 4096, .inl o_bytes_f)), (o_starts, .inl (cy 0, 8, .inl o_starts_f)), (o_sizes, .inl (cy 0, 8, .inl o_sizes_f)), (o_glyphStarts, .inl (cy 0, 65, .inl o_glyphStarts_f))] sz) [(o, .inr (7, [.ref o_bytes, .int o_length, .ref o_starts, .ref o_sizes, .ref o_glyphStarts, .int o_units, .int o_glyphs, .int o_ascent, .int o_descent, .int o_gap, .int o_longLoca, .int o_metrics, .int o_codes, .int o_codesSize, .int o_segments, .int o_pairs])), (o_bytes, .inl (cy 1, 4096, .inl o_bytes_f)), (o_starts, .inl (cy 0, 8, .inl o_starts_f)), (o_sizes, .inl (cy 0, 8, .inl o_sizes_f)), (o_glyphStarts, .inl (cy 0, 65, .inl o_glyphStarts_f))]) (va_A [(o, .inr (7, [.ref o_bytes, .int o_length, .ref o_starts, .ref o_sizes, .ref o_glyphStarts, .int o_units, .int o_glyphs, .int o_ascent, .int o_descent, .int o_gap, .int o_longLoca, .int o_metrics, .int o_codes, .int o_codesSize, .int o_segments, .int o_pairs])), (o_bytes, .inl (cy 1, 4096, .inl o_bytes_f)), (o_starts, .inl (cy 0, 8, .inl o_starts_f)), (o_sizes, .inl (cy 0, 8, .inl o_sizes_f)), (o_glyphStarts, .inl (cy 0, 65, .inl o_glyphStarts_f))] sz)) 0 0 (va_A [(o, .inr (7, [.ref o_bytes, .int o_length, .ref o_starts, .ref o_sizes, .ref o_glyphStarts, .int o_units, .int o_glyphs, .int o_ascent, .int o_descent, .int o_gap, .int o_longLoca, .int o_metrics, .int o_codes, .int o_codesSize, .int o_segments, .int o_pairs])), (o_bytes, .inl (cy 1, 4096, .inl o_bytes_f)), (o_starts, .inl (cy 0, 8, .inl o_starts_f)), (o_sizes, .inl (cy 0, 8, .inl o_sizes_f)), (o_glyphStarts, .inl (cy 0, 65, .inl o_glyphStarts_f))] sz) := by
  refine Met.ofW (cc := b_Ff_advanceOf) (maxL := 2) (ret := (some .int)) (by decide) rfl ?_
  intro p e s m args below meth c s₁ B hml hv
  obtain ⟨rfl, hsz, hP, hK, hD0⟩ := hv
  have hx := B.exec
  have hb := B.bytes
  have hr := B.returns
  have hts := atoms_spec (ws := Cond.code y_Ff_advanceOf b_Ff_advanceOf 2 (some .int) :: G) B.pre
  have htsG : ∀ w ∈ G, w.before _ s = true := fun w hw => hts w (List.mem_cons_of_mem _ hw)
  have hown : s.vm.findClass "GlyphPage$FontFile" = some m.cls := findClass_of_methodNamed B.named
  have hlocks := B.notSynchronized
  subst hsz
  have hD := hD0.self (sz := s.heap.size)
  generalize hAe : va_A [(o, .inr (7, [.ref o_bytes, .int o_length, .ref o_starts, .ref o_sizes, .ref o_glyphStarts, .int o_units, .int o_glyphs, .int o_ascent, .int o_descent, .int o_gap, .int o_longLoca, .int o_metrics, .int o_codes, .int o_codesSize, .int o_segments, .int o_pairs])), (o_bytes, .inl (cy 1, 4096, .inl o_bytes_f)), (o_starts, .inl (cy 0, 8, .inl o_starts_f)), (o_sizes, .inl (cy 0, 8, .inl o_sizes_f)), (o_glyphStarts, .inl (cy 0, 65, .inl o_glyphStarts_f))] s.heap.size = A at hD ⊢
  have hA : ∀ q : Nat, s.heap.size ≤ q → A q := fun q h => by rw [← hAe]; exact Or.inr h
  have hS : va_S A s.heap s.heap [] := va_S.rf
  have hl := lv_entry ([.ref o, .int a1]) (n := 2) (Nat.le_of_ble_eq_true rfl)
  rw [lg_entry_eq]
  generalize (lg_sl ([.ref o, .int a1]) ++ List.replicate (2 - (lg_sl ([.ref o, .int a1])).length) Slot.unset).toArray = ls at hl ⊢
  have hl : lv_has ls 2 [(0, .ref o), (1, .int a1)] := hl
  have C0 : Cx p s m _ meth c A dC dI cy b_Ff_advanceOf 2 (some .int) "GlyphPage$FontFile" := ⟨hx, hb, hr, hlocks, hml, hown, htsG, hA, hK⟩
  unfold P_Ff_advanceOf at h
  refine lv_aload_n hx hb d_Ff_advanceOf_0 rfl (lv_at hl 0 rfl) ?_
  refine lv_aload_n hx hb d_Ff_advanceOf_1 rfl (lv_at hl 0 rfl) ?_
  refine va_get (D := (dC, dI)) (ci := 7) (v := .ref o_starts) (C := "GlyphPage$FontFile") (T := F_Ff) (N := 16) hx hb htsG iG_Ff hown hK hP 0 rfl rfl 2 (by decide) (htsG _ mW303) (fun _ h9 => h9) rfl d_Ff_advanceOf_2 ?_
  refine lv_iconst (v := (4 : Int32)) hx hb d_Ff_advanceOf_5 (by decide) ?_
  obtain ⟨hin_1, h⟩ := bd_some h
  refine va_iald hx hb hK hP 2 0 rfl rfl hin_1 d_Ff_advanceOf_6 ?_
  refine lv_iconst (v := (4 : Int32)) hx hb d_Ff_advanceOf_7 (by decide) ?_
  refine lv_iload_n hx hb d_Ff_advanceOf_8 rfl (lv_at hl 1 rfl) ?_
  refine lv_aload_n hx hb d_Ff_advanceOf_9 rfl (lv_at hl 0 rfl) ?_
  refine va_get (D := (dC, dI)) (ci := 7) (v := .int o_metrics) (C := "GlyphPage$FontFile") (T := F_Ff) (N := 16) hx hb htsG iG_Ff hown hK hP 0 rfl rfl 11 (by decide) (htsG _ mW319) (fun _ h9 => h9) rfl d_Ff_advanceOf_10 ?_
  refine lv_iconst (v := (1 : Int32)) hx hb d_Ff_advanceOf_13 (by decide) ?_
  refine lv_isub hx hb d_Ff_advanceOf_14 ?_
  obtain ⟨r_2, hq, h⟩ := Option.bind_eq_some_iff.mp h
  try dsimp only at h
  have hPc := hP.sub (ws' := []) [] rfl
  have hDc := hD.sub (ws' := []) [] (by decide) rfl
  have hFc := va_free (wc := []) hD hS hA [] rfl
  refine va_calli (va_runS (As := [.int a1, .int (o_metrics - (1 : Int32))]) (rest := [.int (4 : Int32), .int (o_starts_f (4 : Int32).toNatClampNeg), .ref o]) ⟨hx, hb, hml, hown, htsG⟩ (c_Jm_min l dC dI cy s.heap.size a1 (o_metrics - (1 : Int32)) r_2 hq) (va_cwS 2 htsG (gS mW416 mW216 mW8 mW217) rfl rfl rfl (by decide +kernel) ⟨Nat.le_of_ble_eq_true rfl, Nat.le_of_ble_eq_true rfl⟩) ⟨fun a U g mk q => by obtain ⟨q0, q1, qP, qK, qD⟩ := q; exact ⟨q0, q1, qP, va_K.moved (u := U) (U := U.calling g mk a) (Vm.Alike.refl U.vm) qK, qD⟩, fun U hU hW => ⟨rfl, by rw [hU], by rw [hU]; exact hPc, va_K.moved hW.alike hK, hDc.weaken (fun _ _ _ _ => trivial)⟩⟩ rfl rfl hl.1 rfl (lv_room (Nat.le_of_ble_eq_true rfl)) d_Ff_advanceOf_15 ⟨Nat.le_of_ble_eq_true rfl, Nat.le_of_ble_eq_true rfl⟩) hS (fun q _ h => hFc q h) hFc (fun rr u t H1 locs ht hvm hw hB hz1 hk1 hS => ?_)
  obtain ⟨hP1, hK1, hD1⟩ := hB
  rw [ht] at hP1
  replace hw : r_2 = rr := hw.symm
  subst hw
  obtain ⟨hP, hD⟩ := va_join (wr := [(o, .inr (7, [.ref o_bytes, .int o_length, .ref o_starts, .ref o_sizes, .ref o_glyphStarts, .int o_units, .int o_glyphs, .int o_ascent, .int o_descent, .int o_gap, .int o_longLoca, .int o_metrics, .int o_codes, .int o_codesSize, .int o_segments, .int o_pairs])), (o_bytes, .inl (cy 1, 4096, .inl o_bytes_f)), (o_starts, .inl (cy 0, 8, .inl o_starts_f)), (o_sizes, .inl (cy 0, 8, .inl o_sizes_f)), (o_glyphStarts, .inl (cy 0, 65, .inl o_glyphStarts_f))]) (w1 := []) hP hD [] [0, 1, 2, 3, 4] rfl rfl (by decide) (by decide) hk1 hFc hP1 hD1
  generalize H1 = H at hP hS ⊢
  have hP := hP.sub (ws' := [(o, .inr (7, [.ref o_bytes, .int o_length, .ref o_starts, .ref o_sizes, .ref o_glyphStarts, .int o_units, .int o_glyphs, .int o_ascent, .int o_descent, .int o_gap, .int o_longLoca, .int o_metrics, .int o_codes, .int o_codesSize, .int o_segments, .int o_pairs])), (o_bytes, .inl (cy 1, 4096, .inl o_bytes_f)), (o_starts, .inl (cy 0, 8, .inl o_starts_f)), (o_sizes, .inl (cy 0, 8, .inl o_sizes_f)), (o_glyphStarts, .inl (cy 0, 65, .inl o_glyphStarts_f))]) [0, 1, 2, 3, 4] rfl
  have hD := hD.sub (ws' := [(o, .inr (7, [.ref o_bytes, .int o_length, .ref o_starts, .ref o_sizes, .ref o_glyphStarts, .int o_units, .int o_glyphs, .int o_ascent, .int o_descent, .int o_gap, .int o_longLoca, .int o_metrics, .int o_codes, .int o_codesSize, .int o_segments, .int o_pairs])), (o_bytes, .inl (cy 1, 4096, .inl o_bytes_f)), (o_starts, .inl (cy 0, 8, .inl o_starts_f)), (o_sizes, .inl (cy 0, 8, .inl o_sizes_f)), (o_glyphStarts, .inl (cy 0, 65, .inl o_glyphStarts_f))]) [0, 1, 2, 3, 4] (by decide) rfl
  refine W.widen (k := 0) (n := 0) (by decide) (by decide) ?_
  refine lv_imul hx hb d_Ff_advanceOf_18 ?_
  refine lv_iadd hx hb d_Ff_advanceOf_19 ?_
  obtain ⟨r_3, hq, h⟩ := Option.bind_eq_some_iff.mp h
  try dsimp only at h
  have hPc := hP.sub (ws' := [(o, .inr (7, [.ref o_bytes, .int o_length, .ref o_starts, .ref o_sizes, .ref o_glyphStarts, .int o_units, .int o_glyphs, .int o_ascent, .int o_descent, .int o_gap, .int o_longLoca, .int o_metrics, .int o_codes, .int o_codesSize, .int o_segments, .int o_pairs])), (o_bytes, .inl (cy 1, 4096, .inl o_bytes_f)), (o_starts, .inl (cy 0, 8, .inl o_starts_f)), (o_sizes, .inl (cy 0, 8, .inl o_sizes_f)), (o_glyphStarts, .inl (cy 0, 65, .inl o_glyphStarts_f))]) [0, 1, 2, 3, 4] rfl
  have hDc := hD.sub (ws' := [(o, .inr (7, [.ref o_bytes, .int o_length, .ref o_starts, .ref o_sizes, .ref o_glyphStarts, .int o_units, .int o_glyphs, .int o_ascent, .int o_descent, .int o_gap, .int o_longLoca, .int o_metrics, .int o_codes, .int o_codesSize, .int o_segments, .int o_pairs])), (o_bytes, .inl (cy 1, 4096, .inl o_bytes_f)), (o_starts, .inl (cy 0, 8, .inl o_starts_f)), (o_sizes, .inl (cy 0, 8, .inl o_sizes_f)), (o_glyphStarts, .inl (cy 0, 65, .inl o_glyphStarts_f))]) [0, 1, 2, 3, 4] (by decide) rfl
  have hFc := va_free (wc := [(o, .inr (7, [.ref o_bytes, .int o_length, .ref o_starts, .ref o_sizes, .ref o_glyphStarts, .int o_units, .int o_glyphs, .int o_ascent, .int o_descent, .int o_gap, .int o_longLoca, .int o_metrics, .int o_codes, .int o_codesSize, .int o_segments, .int o_pairs])), (o_bytes, .inl (cy 1, 4096, .inl o_bytes_f)), (o_starts, .inl (cy 0, 8, .inl o_starts_f)), (o_sizes, .inl (cy 0, 8, .inl o_sizes_f)), (o_glyphStarts, .inl (cy 0, 65, .inl o_glyphStarts_f))]) hD hS hA [0, 1, 2, 3, 4] rfl
  refine va_calli (va_runV (As := [.int ((o_starts_f (4 : Int32).toNatClampNeg) + ((4 : Int32) * r_2))]) (rest := []) ⟨hx, hb, hml, hown, htsG⟩ (c_Ff_twoAt l dC dI cy H.size o o_bytes o_starts o_sizes o_glyphStarts o_length o_units o_glyphs o_ascent o_descent o_gap o_longLoca o_metrics o_codes o_codesSize o_segments o_pairs o_bytes_f o_starts_f o_sizes_f o_glyphStarts_f ((o_starts_f (4 : Int32).toNatClampNeg) + ((4 : Int32) * r_2)) r_3 hq) (cwV 1 htsG (gV mW365 mW367 mS_Ff_twoAt mW11 mW368) rfl rfl rfl (by decide +kernel) ⟨Nat.le_of_ble_eq_true rfl, Nat.le_of_ble_eq_true rfl⟩) ⟨fun a U g mk q => by obtain ⟨q0, q1, qP, qK, qD⟩ := q; exact ⟨q0, q1, qP, va_K.moved (u := U) (U := U.calling g mk a) (Vm.Alike.refl U.vm) qK, qD⟩, va_recv hK hPc (ci := 7) (q0 := 0) rfl rfl, fun U hU hW => ⟨rfl, by rw [hU], by rw [hU]; exact hPc, va_K.moved hW.alike hK, hDc.weaken (fun _ _ _ _ => trivial)⟩⟩ rfl rfl hl.1 rfl (lv_room (Nat.le_of_ble_eq_true rfl)) d_Ff_advanceOf_20 ⟨Nat.le_of_ble_eq_true rfl, Nat.le_of_ble_eq_true rfl⟩) hS (fun q _ h => hFc q h) hFc (fun rr u t H1 locs ht hvm hw hB hz1 hk1 hS => ?_)
  obtain ⟨hP1, hK1, hD1⟩ := hB
  rw [ht] at hP1
  replace hw : r_3 = rr := hw.symm
  subst hw
  obtain ⟨hP, hD⟩ := va_join (wr := []) (w1 := [(o, .inr (7, [.ref o_bytes, .int o_length, .ref o_starts, .ref o_sizes, .ref o_glyphStarts, .int o_units, .int o_glyphs, .int o_ascent, .int o_descent, .int o_gap, .int o_longLoca, .int o_metrics, .int o_codes, .int o_codesSize, .int o_segments, .int o_pairs])), (o_bytes, .inl (cy 1, 4096, .inl o_bytes_f)), (o_starts, .inl (cy 0, 8, .inl o_starts_f)), (o_sizes, .inl (cy 0, 8, .inl o_sizes_f)), (o_glyphStarts, .inl (cy 0, 65, .inl o_glyphStarts_f))]) hP hD [0, 1, 2, 3, 4] [] rfl rfl (by decide) (by decide) hk1 hFc hP1 hD1
  generalize H1 = H at hP hS ⊢
  have hP := hP.sub (ws' := [(o, .inr (7, [.ref o_bytes, .int o_length, .ref o_starts, .ref o_sizes, .ref o_glyphStarts, .int o_units, .int o_glyphs, .int o_ascent, .int o_descent, .int o_gap, .int o_longLoca, .int o_metrics, .int o_codes, .int o_codesSize, .int o_segments, .int o_pairs])), (o_bytes, .inl (cy 1, 4096, .inl o_bytes_f)), (o_starts, .inl (cy 0, 8, .inl o_starts_f)), (o_sizes, .inl (cy 0, 8, .inl o_sizes_f)), (o_glyphStarts, .inl (cy 0, 65, .inl o_glyphStarts_f))]) [0, 1, 2, 3, 4] rfl
  have hD := hD.sub (ws' := [(o, .inr (7, [.ref o_bytes, .int o_length, .ref o_starts, .ref o_sizes, .ref o_glyphStarts, .int o_units, .int o_glyphs, .int o_ascent, .int o_descent, .int o_gap, .int o_longLoca, .int o_metrics, .int o_codes, .int o_codesSize, .int o_segments, .int o_pairs])), (o_bytes, .inl (cy 1, 4096, .inl o_bytes_f)), (o_starts, .inl (cy 0, 8, .inl o_starts_f)), (o_sizes, .inl (cy 0, 8, .inl o_sizes_f)), (o_glyphStarts, .inl (cy 0, 65, .inl o_glyphStarts_f))]) [0, 1, 2, 3, 4] (by decide) rfl
  refine W.widen (k := 0) (n := 0) (by decide) (by decide) ?_
  cases h
  exact W.iret hx hb hr (fun t ht hW => ⟨⟨_, (), rfl, rfl, by rw [ht]; exact hP, va_K.moved hW.alike hK, hD⟩, hS.F ht⟩) hS.2.2 d_Ff_advanceOf_23 hlocks
def P_Ff_locaAt (o_length : Int32) (o_longLoca : Int32) (o_bytes_f : Nat → Int32) (o_starts_f : Nat → Int32) (a1 : Int32) : Option (Int64) :=
  bd (5 : Int32) 8 <| if o_longLoca = 0 then ((P_Ff_twoAt o_length o_bytes_f ((o_starts_f (5 : Int32).toNatClampNeg) + ((2 : Int32) * a1))).bind fun r_3 => some ((2 : Int64) * (r_3.toInt64))) else ((P_Ff_fourAt o_length o_bytes_f ((o_starts_f (5 : Int32).toNatClampNeg) + ((4 : Int32) * a1))).bind fun r_4 => some r_4)
set_option maxHeartbeats 4000000 in
set_option maxRecDepth 100000 in
theorem c_Ff_locaAt (l : Launch) (dC : Nat → ClassId) (dI : Nat → Nat → Nat) (cy : Nat → ClassId) (sz : Nat) (o : Nat) (o_bytes : Nat) (o_starts : Nat) (o_sizes : Nat) (o_glyphStarts : Nat) (o_length : Int32) (o_units : Int32) (o_glyphs : Int32) (o_ascent : Int32) (o_descent : Int32) (o_gap : Int32) (o_longLoca : Int32) (o_metrics : Int32) (o_codes : Int32) (o_codesSize : Int32) (o_segments : Int32) (o_pairs : Int32) (o_bytes_f : Nat → Int32) (o_starts_f : Nat → Int32) (o_sizes_f : Nat → Int32) (o_glyphStarts_f : Nat → Int32) (a1 : Int32) (uu : Int64) (h : P_Ff_locaAt o_length o_longLoca o_bytes_f o_starts_f a1 = some uu) : Met l y_Ff_locaAt (Cond.code y_Ff_locaAt b_Ff_locaAt 3 (some .long) :: G) ({ frames := 2, cells := 0, slots := 0, locals := 42 } : Room) (va_Pc [.ref o, .int a1] (fun U => U.heap.size = sz ∧ va_P (dC, dI) classes [(o, .inr (7, [.ref o_bytes, .int o_length, .ref o_starts, .ref o_sizes, .ref o_glyphStarts, .int o_units, .int o_glyphs, .int o_ascent, .int o_descent, .int o_gap, .int o_longLoca, .int o_metrics, .int o_codes, .int o_codesSize, .int o_segments, .int o_pairs])), (o_bytes, .inl (cy 1, 4096, .inl o_bytes_f)), (o_starts, .inl (cy 0, 8, .inl o_starts_f)), (o_sizes, .inl (cy 0, 8, .inl o_sizes_f)), (o_glyphStarts, .inl (cy 0, 65, .inl o_glyphStarts_f))] U.heap ∧ va_K (dC, dI) classes (TY cy) U ∧ va_D (fun _ => True) [(o, .inr (7, [.ref o_bytes, .int o_length, .ref o_starts, .ref o_sizes, .ref o_glyphStarts, .int o_units, .int o_glyphs, .int o_ascent, .int o_descent, .int o_gap, .int o_longLoca, .int o_metrics, .int o_codes, .int o_codesSize, .int o_segments, .int o_pairs])), (o_bytes, .inl (cy 1, 4096, .inl o_bytes_f)), (o_starts, .inl (cy 0, 8, .inl o_starts_f)), (o_sizes, .inl (cy 0, 8, .inl o_sizes_f)), (o_glyphStarts, .inl (cy 0, 65, .inl o_glyphStarts_f))])) (va_Ql (fun r (_ : Unit) => r = uu) (fun _ t => va_P (dC, dI) classes [(o, .inr (7, [.ref o_bytes, .int o_length, .ref o_starts, .ref o_sizes, .ref o_glyphStarts, .int o_units, .int o_glyphs, .int o_ascent, .int o_descent, .int o_gap, .int o_longLoca, .int o_metrics, .int o_codes, .int o_codesSize, .int o_segments, .int o_pairs])), (o_bytes, .inl (cy 1, 4096, .inl o_bytes_f)), (o_starts, .inl (cy 0, 8, .inl o_starts_f)), (o_sizes, .inl (cy 0, 8, .inl o_sizes_f)), (o_glyphStarts, .inl (cy 0, 65, .inl o_glyphStarts_f))] t.heap ∧ va_K (dC, dI) classes (TY cy) t ∧ va_D (va_A [(o, .inr (7, [.ref o_bytes, .int o_length, .ref o_starts, .ref o_sizes, .ref o_glyphStarts, .int o_units, .int o_glyphs, .int o_ascent, .int o_descent, .int o_gap, .int o_longLoca, .int o_metrics, .int o_codes, .int o_codesSize, .int o_segments, .int o_pairs])), (o_bytes, .inl (cy 1, 4096, .inl o_bytes_f)), (o_starts, .inl (cy 0, 8, .inl o_starts_f)), (o_sizes, .inl (cy 0, 8, .inl o_sizes_f)), (o_glyphStarts, .inl (cy 0, 65, .inl o_glyphStarts_f))] sz) [(o, .inr (7, [.ref o_bytes, .int o_length, .ref o_starts, .ref o_sizes, .ref o_glyphStarts, .int o_units, .int o_glyphs, .int o_ascent, .int o_descent, .int o_gap, .int o_longLoca, .int o_metrics, .int o_codes, .int o_codesSize, .int o_segments, .int o_pairs])), (o_bytes, .inl (cy 1, 4096, .inl o_bytes_f)), (o_starts, .inl (cy 0, 8, .inl o_starts_f)), (o_sizes, .inl (cy 0, 8, .inl o_sizes_f)), (o_glyphStarts, .inl (cy 0, 65, .inl o_glyphStarts_f))]) (va_A [(o, .inr (7, [.ref o_bytes, .int o_length, .ref o_starts, .ref o_sizes, .ref o_glyphStarts, .int o_units, .int o_glyphs, .int o_ascent, .int o_descent, .int o_gap, .int o_longLoca, .int o_metrics, .int o_codes, .int o_codesSize, .int o_segments, .int o_pairs])), (o_bytes, .inl (cy 1, 4096, .inl o_bytes_f)), (o_starts, .inl (cy 0, 8, .inl o_starts_f)), (o_sizes, .inl (cy 0, 8, .inl o_sizes_f)), (o_glyphStarts, .inl (cy 0, 65, .inl o_glyphStarts_f))] sz)) 0 0 (va_A [(o, .inr (7, [.ref o_bytes, .int o_length, .ref o_starts, .ref o_sizes, .ref o_glyphStarts, .int o_units, .int o_glyphs, .int o_ascent, .int o_descent, .int o_gap, .int o_longLoca, .int o_metrics, .int o_codes, .int o_codesSize, .int o_segments, .int o_pairs])), (o_bytes, .inl (cy 1, 4096, .inl o_bytes_f)), (o_starts, .inl (cy 0, 8, .inl o_starts_f)), (o_sizes, .inl (cy 0, 8, .inl o_sizes_f)), (o_glyphStarts, .inl (cy 0, 65, .inl o_glyphStarts_f))] sz) := by
  refine Met.ofW (cc := b_Ff_locaAt) (maxL := 3) (ret := (some .long)) (by decide) rfl ?_
  intro p e s m args below meth c s₁ B hml hv
  obtain ⟨rfl, hsz, hP, hK, hD0⟩ := hv
  have hx := B.exec
  have hb := B.bytes
  have hr := B.returns
  have hts := atoms_spec (ws := Cond.code y_Ff_locaAt b_Ff_locaAt 3 (some .long) :: G) B.pre
  have htsG : ∀ w ∈ G, w.before _ s = true := fun w hw => hts w (List.mem_cons_of_mem _ hw)
  have hown : s.vm.findClass "GlyphPage$FontFile" = some m.cls := findClass_of_methodNamed B.named
  have hlocks := B.notSynchronized
  subst hsz
  have hD := hD0.self (sz := s.heap.size)
  generalize hAe : va_A [(o, .inr (7, [.ref o_bytes, .int o_length, .ref o_starts, .ref o_sizes, .ref o_glyphStarts, .int o_units, .int o_glyphs, .int o_ascent, .int o_descent, .int o_gap, .int o_longLoca, .int o_metrics, .int o_codes, .int o_codesSize, .int o_segments, .int o_pairs])), (o_bytes, .inl (cy 1, 4096, .inl o_bytes_f)), (o_starts, .inl (cy 0, 8, .inl o_starts_f)), (o_sizes, .inl (cy 0, 8, .inl o_sizes_f)), (o_glyphStarts, .inl (cy 0, 65, .inl o_glyphStarts_f))] s.heap.size = A at hD ⊢
  have hA : ∀ q : Nat, s.heap.size ≤ q → A q := fun q h => by rw [← hAe]; exact Or.inr h
  have hS : va_S A s.heap s.heap [] := va_S.rf
  have hl := lv_entry ([.ref o, .int a1]) (n := 3) (Nat.le_of_ble_eq_true rfl)
  rw [lg_entry_eq]
  generalize (lg_sl ([.ref o, .int a1]) ++ List.replicate (3 - (lg_sl ([.ref o, .int a1])).length) Slot.unset).toArray = ls at hl ⊢
  have hl : lv_has ls 3 [(0, .ref o), (1, .int a1)] := hl
  have C0 : Cx p s m _ meth c A dC dI cy b_Ff_locaAt 3 (some .long) "GlyphPage$FontFile" := ⟨hx, hb, hr, hlocks, hml, hown, htsG, hA, hK⟩
  unfold P_Ff_locaAt at h
  refine lv_aload_n hx hb d_Ff_locaAt_0 rfl (lv_at hl 0 rfl) ?_
  refine va_get (D := (dC, dI)) (ci := 7) (v := .ref o_starts) (C := "GlyphPage$FontFile") (T := F_Ff) (N := 16) hx hb htsG iG_Ff hown hK hP 0 rfl rfl 2 (by decide) (htsG _ mW303) (fun _ h9 => h9) rfl d_Ff_locaAt_1 ?_
  refine lv_iconst (v := (5 : Int32)) hx hb d_Ff_locaAt_4 (by decide) ?_
  obtain ⟨hin_1, h⟩ := bd_some h
  refine va_iald hx hb hK hP 2 0 rfl rfl hin_1 d_Ff_locaAt_5 ?_
  refine lv_istore_n (lv' := [(2, .int (o_starts_f (5 : Int32).toNatClampNeg)), (0, .ref o), (1, .int a1)]) hx hb d_Ff_locaAt_6 rfl hl (by decide) rfl (fun ls hl => ?_)
  refine lv_aload_n hx hb d_Ff_locaAt_7 rfl (lv_at hl 1 rfl) ?_
  refine va_get (D := (dC, dI)) (ci := 7) (v := .int o_longLoca) (C := "GlyphPage$FontFile") (T := F_Ff) (N := 16) hx hb htsG iG_Ff hown hK hP 0 rfl rfl 10 (by decide) (htsG _ mW318) (fun _ h9 => h9) rfl d_Ff_locaAt_8 ?_
  refine lv_if_eq (tgt := 26) hx hb d_Ff_locaAt_11 (by decide) (fun c_2 => ?_) (fun c_2 => ?_)
  · replace h := (if_pos c_2).symm.trans h
    refine lv_ldc2 hx hb hown (htsG _ mW425) d_Ff_locaAt_26 ?_
    refine lv_aload_n hx hb d_Ff_locaAt_29 rfl (lv_at hl 1 rfl) ?_
    refine lv_iload_n hx hb d_Ff_locaAt_30 rfl (lv_at hl 0 rfl) ?_
    refine lv_iconst (v := (2 : Int32)) hx hb d_Ff_locaAt_31 (by decide) ?_
    refine lv_iload_n hx hb d_Ff_locaAt_32 rfl (lv_at hl 2 rfl) ?_
    refine lv_imul hx hb d_Ff_locaAt_33 ?_
    refine lv_iadd hx hb d_Ff_locaAt_34 ?_
    obtain ⟨r_3, hq, h⟩ := Option.bind_eq_some_iff.mp h
    try dsimp only at h
    have hPc := hP.sub (ws' := [(o, .inr (7, [.ref o_bytes, .int o_length, .ref o_starts, .ref o_sizes, .ref o_glyphStarts, .int o_units, .int o_glyphs, .int o_ascent, .int o_descent, .int o_gap, .int o_longLoca, .int o_metrics, .int o_codes, .int o_codesSize, .int o_segments, .int o_pairs])), (o_bytes, .inl (cy 1, 4096, .inl o_bytes_f)), (o_starts, .inl (cy 0, 8, .inl o_starts_f)), (o_sizes, .inl (cy 0, 8, .inl o_sizes_f)), (o_glyphStarts, .inl (cy 0, 65, .inl o_glyphStarts_f))]) [0, 1, 2, 3, 4] rfl
    have hDc := hD.sub (ws' := [(o, .inr (7, [.ref o_bytes, .int o_length, .ref o_starts, .ref o_sizes, .ref o_glyphStarts, .int o_units, .int o_glyphs, .int o_ascent, .int o_descent, .int o_gap, .int o_longLoca, .int o_metrics, .int o_codes, .int o_codesSize, .int o_segments, .int o_pairs])), (o_bytes, .inl (cy 1, 4096, .inl o_bytes_f)), (o_starts, .inl (cy 0, 8, .inl o_starts_f)), (o_sizes, .inl (cy 0, 8, .inl o_sizes_f)), (o_glyphStarts, .inl (cy 0, 65, .inl o_glyphStarts_f))]) [0, 1, 2, 3, 4] (by decide) rfl
    have hFc := va_free (wc := [(o, .inr (7, [.ref o_bytes, .int o_length, .ref o_starts, .ref o_sizes, .ref o_glyphStarts, .int o_units, .int o_glyphs, .int o_ascent, .int o_descent, .int o_gap, .int o_longLoca, .int o_metrics, .int o_codes, .int o_codesSize, .int o_segments, .int o_pairs])), (o_bytes, .inl (cy 1, 4096, .inl o_bytes_f)), (o_starts, .inl (cy 0, 8, .inl o_starts_f)), (o_sizes, .inl (cy 0, 8, .inl o_sizes_f)), (o_glyphStarts, .inl (cy 0, 65, .inl o_glyphStarts_f))]) hD hS hA [0, 1, 2, 3, 4] rfl
    refine va_calli (va_runV (As := [.int ((o_starts_f (5 : Int32).toNatClampNeg) + ((2 : Int32) * a1))]) (rest := [.long (2 : Int64)]) ⟨hx, hb, hml, hown, htsG⟩ (c_Ff_twoAt l dC dI cy s.heap.size o o_bytes o_starts o_sizes o_glyphStarts o_length o_units o_glyphs o_ascent o_descent o_gap o_longLoca o_metrics o_codes o_codesSize o_segments o_pairs o_bytes_f o_starts_f o_sizes_f o_glyphStarts_f ((o_starts_f (5 : Int32).toNatClampNeg) + ((2 : Int32) * a1)) r_3 hq) (cwV 1 htsG (gV mW365 mW367 mS_Ff_twoAt mW11 mW368) rfl rfl rfl (by decide +kernel) ⟨Nat.le_of_ble_eq_true rfl, Nat.le_of_ble_eq_true rfl⟩) ⟨fun a U g mk q => by obtain ⟨q0, q1, qP, qK, qD⟩ := q; exact ⟨q0, q1, qP, va_K.moved (u := U) (U := U.calling g mk a) (Vm.Alike.refl U.vm) qK, qD⟩, va_recv hK hPc (ci := 7) (q0 := 0) rfl rfl, fun U hU hW => ⟨rfl, by rw [hU], by rw [hU]; exact hPc, va_K.moved hW.alike hK, hDc.weaken (fun _ _ _ _ => trivial)⟩⟩ rfl rfl hl.1 rfl (lv_room (Nat.le_of_ble_eq_true rfl)) d_Ff_locaAt_35 ⟨Nat.le_of_ble_eq_true rfl, Nat.le_of_ble_eq_true rfl⟩) hS (fun q _ h => hFc q h) hFc (fun rr u t H1 locs ht hvm hw hB hz1 hk1 hS => ?_)
    obtain ⟨hP1, hK1, hD1⟩ := hB
    rw [ht] at hP1
    replace hw : r_3 = rr := hw.symm
    subst hw
    obtain ⟨hP, hD⟩ := va_join (wr := []) (w1 := [(o, .inr (7, [.ref o_bytes, .int o_length, .ref o_starts, .ref o_sizes, .ref o_glyphStarts, .int o_units, .int o_glyphs, .int o_ascent, .int o_descent, .int o_gap, .int o_longLoca, .int o_metrics, .int o_codes, .int o_codesSize, .int o_segments, .int o_pairs])), (o_bytes, .inl (cy 1, 4096, .inl o_bytes_f)), (o_starts, .inl (cy 0, 8, .inl o_starts_f)), (o_sizes, .inl (cy 0, 8, .inl o_sizes_f)), (o_glyphStarts, .inl (cy 0, 65, .inl o_glyphStarts_f))]) hP hD [0, 1, 2, 3, 4] [] rfl rfl (by decide) (by decide) hk1 hFc hP1 hD1
    generalize H1 = H at hP hS ⊢
    have hP := hP.sub (ws' := [(o, .inr (7, [.ref o_bytes, .int o_length, .ref o_starts, .ref o_sizes, .ref o_glyphStarts, .int o_units, .int o_glyphs, .int o_ascent, .int o_descent, .int o_gap, .int o_longLoca, .int o_metrics, .int o_codes, .int o_codesSize, .int o_segments, .int o_pairs])), (o_bytes, .inl (cy 1, 4096, .inl o_bytes_f)), (o_starts, .inl (cy 0, 8, .inl o_starts_f)), (o_sizes, .inl (cy 0, 8, .inl o_sizes_f)), (o_glyphStarts, .inl (cy 0, 65, .inl o_glyphStarts_f))]) [0, 1, 2, 3, 4] rfl
    have hD := hD.sub (ws' := [(o, .inr (7, [.ref o_bytes, .int o_length, .ref o_starts, .ref o_sizes, .ref o_glyphStarts, .int o_units, .int o_glyphs, .int o_ascent, .int o_descent, .int o_gap, .int o_longLoca, .int o_metrics, .int o_codes, .int o_codesSize, .int o_segments, .int o_pairs])), (o_bytes, .inl (cy 1, 4096, .inl o_bytes_f)), (o_starts, .inl (cy 0, 8, .inl o_starts_f)), (o_sizes, .inl (cy 0, 8, .inl o_sizes_f)), (o_glyphStarts, .inl (cy 0, 65, .inl o_glyphStarts_f))]) [0, 1, 2, 3, 4] (by decide) rfl
    refine W.widen (k := 0) (n := 0) (by decide) (by decide) ?_
    refine lv_i2l hx hb d_Ff_locaAt_38 rfl ?_
    refine lv_lmul hx hb d_Ff_locaAt_39 ?_
    cases h
    exact W.lret hx hb hr (fun t ht hW => ⟨⟨_, (), rfl, rfl, by rw [ht]; exact hP, va_K.moved hW.alike hK, hD⟩, hS.F ht⟩) hS.2.2 d_Ff_locaAt_40 hlocks
  · replace h := (if_neg c_2).symm.trans h
    refine lv_aload_n hx hb d_Ff_locaAt_14 rfl (lv_at hl 1 rfl) ?_
    refine lv_iload_n hx hb d_Ff_locaAt_15 rfl (lv_at hl 0 rfl) ?_
    refine lv_iconst (v := (4 : Int32)) hx hb d_Ff_locaAt_16 (by decide) ?_
    refine lv_iload_n hx hb d_Ff_locaAt_17 rfl (lv_at hl 2 rfl) ?_
    refine lv_imul hx hb d_Ff_locaAt_18 ?_
    refine lv_iadd hx hb d_Ff_locaAt_19 ?_
    obtain ⟨r_4, hq, h⟩ := Option.bind_eq_some_iff.mp h
    try dsimp only at h
    have hPc := hP.sub (ws' := [(o, .inr (7, [.ref o_bytes, .int o_length, .ref o_starts, .ref o_sizes, .ref o_glyphStarts, .int o_units, .int o_glyphs, .int o_ascent, .int o_descent, .int o_gap, .int o_longLoca, .int o_metrics, .int o_codes, .int o_codesSize, .int o_segments, .int o_pairs])), (o_bytes, .inl (cy 1, 4096, .inl o_bytes_f)), (o_starts, .inl (cy 0, 8, .inl o_starts_f)), (o_sizes, .inl (cy 0, 8, .inl o_sizes_f)), (o_glyphStarts, .inl (cy 0, 65, .inl o_glyphStarts_f))]) [0, 1, 2, 3, 4] rfl
    have hDc := hD.sub (ws' := [(o, .inr (7, [.ref o_bytes, .int o_length, .ref o_starts, .ref o_sizes, .ref o_glyphStarts, .int o_units, .int o_glyphs, .int o_ascent, .int o_descent, .int o_gap, .int o_longLoca, .int o_metrics, .int o_codes, .int o_codesSize, .int o_segments, .int o_pairs])), (o_bytes, .inl (cy 1, 4096, .inl o_bytes_f)), (o_starts, .inl (cy 0, 8, .inl o_starts_f)), (o_sizes, .inl (cy 0, 8, .inl o_sizes_f)), (o_glyphStarts, .inl (cy 0, 65, .inl o_glyphStarts_f))]) [0, 1, 2, 3, 4] (by decide) rfl
    have hFc := va_free (wc := [(o, .inr (7, [.ref o_bytes, .int o_length, .ref o_starts, .ref o_sizes, .ref o_glyphStarts, .int o_units, .int o_glyphs, .int o_ascent, .int o_descent, .int o_gap, .int o_longLoca, .int o_metrics, .int o_codes, .int o_codesSize, .int o_segments, .int o_pairs])), (o_bytes, .inl (cy 1, 4096, .inl o_bytes_f)), (o_starts, .inl (cy 0, 8, .inl o_starts_f)), (o_sizes, .inl (cy 0, 8, .inl o_sizes_f)), (o_glyphStarts, .inl (cy 0, 65, .inl o_glyphStarts_f))]) hD hS hA [0, 1, 2, 3, 4] rfl
    refine va_calll (va_runV (As := [.int ((o_starts_f (5 : Int32).toNatClampNeg) + ((4 : Int32) * a1))]) (rest := []) ⟨hx, hb, hml, hown, htsG⟩ (c_Ff_fourAt l dC dI cy s.heap.size o o_bytes o_starts o_sizes o_glyphStarts o_length o_units o_glyphs o_ascent o_descent o_gap o_longLoca o_metrics o_codes o_codesSize o_segments o_pairs o_bytes_f o_starts_f o_sizes_f o_glyphStarts_f ((o_starts_f (5 : Int32).toNatClampNeg) + ((4 : Int32) * a1)) r_4 hq) (cwV 1 htsG (gV mW369 mW371 mS_Ff_fourAt mW11 mW372) rfl rfl rfl (by decide +kernel) ⟨Nat.le_of_ble_eq_true rfl, Nat.le_of_ble_eq_true rfl⟩) ⟨fun a U g mk q => by obtain ⟨q0, q1, qP, qK, qD⟩ := q; exact ⟨q0, q1, qP, va_K.moved (u := U) (U := U.calling g mk a) (Vm.Alike.refl U.vm) qK, qD⟩, va_recv hK hPc (ci := 7) (q0 := 0) rfl rfl, fun U hU hW => ⟨rfl, by rw [hU], by rw [hU]; exact hPc, va_K.moved hW.alike hK, hDc.weaken (fun _ _ _ _ => trivial)⟩⟩ rfl rfl hl.1 rfl (lv_room (Nat.le_of_ble_eq_true rfl)) d_Ff_locaAt_20 ⟨Nat.le_of_ble_eq_true rfl, Nat.le_of_ble_eq_true rfl⟩) hS (fun q _ h => hFc q h) hFc (fun rr u t H1 locs ht hvm hw hB hz1 hk1 hS => ?_)
    obtain ⟨hP1, hK1, hD1⟩ := hB
    rw [ht] at hP1
    replace hw : r_4 = rr := hw.symm
    subst hw
    obtain ⟨hP, hD⟩ := va_join (wr := []) (w1 := [(o, .inr (7, [.ref o_bytes, .int o_length, .ref o_starts, .ref o_sizes, .ref o_glyphStarts, .int o_units, .int o_glyphs, .int o_ascent, .int o_descent, .int o_gap, .int o_longLoca, .int o_metrics, .int o_codes, .int o_codesSize, .int o_segments, .int o_pairs])), (o_bytes, .inl (cy 1, 4096, .inl o_bytes_f)), (o_starts, .inl (cy 0, 8, .inl o_starts_f)), (o_sizes, .inl (cy 0, 8, .inl o_sizes_f)), (o_glyphStarts, .inl (cy 0, 65, .inl o_glyphStarts_f))]) hP hD [0, 1, 2, 3, 4] [] rfl rfl (by decide) (by decide) hk1 hFc hP1 hD1
    generalize H1 = H at hP hS ⊢
    have hP := hP.sub (ws' := [(o, .inr (7, [.ref o_bytes, .int o_length, .ref o_starts, .ref o_sizes, .ref o_glyphStarts, .int o_units, .int o_glyphs, .int o_ascent, .int o_descent, .int o_gap, .int o_longLoca, .int o_metrics, .int o_codes, .int o_codesSize, .int o_segments, .int o_pairs])), (o_bytes, .inl (cy 1, 4096, .inl o_bytes_f)), (o_starts, .inl (cy 0, 8, .inl o_starts_f)), (o_sizes, .inl (cy 0, 8, .inl o_sizes_f)), (o_glyphStarts, .inl (cy 0, 65, .inl o_glyphStarts_f))]) [0, 1, 2, 3, 4] rfl
    have hD := hD.sub (ws' := [(o, .inr (7, [.ref o_bytes, .int o_length, .ref o_starts, .ref o_sizes, .ref o_glyphStarts, .int o_units, .int o_glyphs, .int o_ascent, .int o_descent, .int o_gap, .int o_longLoca, .int o_metrics, .int o_codes, .int o_codesSize, .int o_segments, .int o_pairs])), (o_bytes, .inl (cy 1, 4096, .inl o_bytes_f)), (o_starts, .inl (cy 0, 8, .inl o_starts_f)), (o_sizes, .inl (cy 0, 8, .inl o_sizes_f)), (o_glyphStarts, .inl (cy 0, 65, .inl o_glyphStarts_f))]) [0, 1, 2, 3, 4] (by decide) rfl
    refine W.widen (k := 0) (n := 0) (by decide) (by decide) ?_
    refine lv_goto (tgt := 40) hx hb d_Ff_locaAt_23 (by decide) ?_
    cases h
    exact W.lret hx hb hr (fun t ht hW => ⟨⟨_, (), rfl, rfl, by rw [ht]; exact hP, va_K.moved hW.alike hK, hD⟩, hS.F ht⟩) hS.2.2 d_Ff_locaAt_40 hlocks
def P_Ff_pairAt (o_length : Int32) (o_bytes_f : Nat → Int32) (o_starts_f : Nat → Int32) (a1 : Int32) : Option (Int64) :=
  bd (7 : Int32) 8 <| (P_Ff_fourAt o_length o_bytes_f (((o_starts_f (7 : Int32).toNatClampNeg) + (18 : Int32)) + ((6 : Int32) * a1))).bind fun r_2 => some r_2
set_option maxHeartbeats 4000000 in
set_option maxRecDepth 100000 in
theorem c_Ff_pairAt (l : Launch) (dC : Nat → ClassId) (dI : Nat → Nat → Nat) (cy : Nat → ClassId) (sz : Nat) (o : Nat) (o_bytes : Nat) (o_starts : Nat) (o_sizes : Nat) (o_glyphStarts : Nat) (o_length : Int32) (o_units : Int32) (o_glyphs : Int32) (o_ascent : Int32) (o_descent : Int32) (o_gap : Int32) (o_longLoca : Int32) (o_metrics : Int32) (o_codes : Int32) (o_codesSize : Int32) (o_segments : Int32) (o_pairs : Int32) (o_bytes_f : Nat → Int32) (o_starts_f : Nat → Int32) (o_sizes_f : Nat → Int32) (o_glyphStarts_f : Nat → Int32) (a1 : Int32) (uu : Int64) (h : P_Ff_pairAt o_length o_bytes_f o_starts_f a1 = some uu) : Met l y_Ff_pairAt (Cond.code y_Ff_pairAt b_Ff_pairAt 2 (some .long) :: G) ({ frames := 2, cells := 0, slots := 0, locals := 42 } : Room) (va_Pc [.ref o, .int a1] (fun U => U.heap.size = sz ∧ va_P (dC, dI) classes [(o, .inr (7, [.ref o_bytes, .int o_length, .ref o_starts, .ref o_sizes, .ref o_glyphStarts, .int o_units, .int o_glyphs, .int o_ascent, .int o_descent, .int o_gap, .int o_longLoca, .int o_metrics, .int o_codes, .int o_codesSize, .int o_segments, .int o_pairs])), (o_bytes, .inl (cy 1, 4096, .inl o_bytes_f)), (o_starts, .inl (cy 0, 8, .inl o_starts_f)), (o_sizes, .inl (cy 0, 8, .inl o_sizes_f)), (o_glyphStarts, .inl (cy 0, 65, .inl o_glyphStarts_f))] U.heap ∧ va_K (dC, dI) classes (TY cy) U ∧ va_D (fun _ => True) [(o, .inr (7, [.ref o_bytes, .int o_length, .ref o_starts, .ref o_sizes, .ref o_glyphStarts, .int o_units, .int o_glyphs, .int o_ascent, .int o_descent, .int o_gap, .int o_longLoca, .int o_metrics, .int o_codes, .int o_codesSize, .int o_segments, .int o_pairs])), (o_bytes, .inl (cy 1, 4096, .inl o_bytes_f)), (o_starts, .inl (cy 0, 8, .inl o_starts_f)), (o_sizes, .inl (cy 0, 8, .inl o_sizes_f)), (o_glyphStarts, .inl (cy 0, 65, .inl o_glyphStarts_f))])) (va_Ql (fun r (_ : Unit) => r = uu) (fun _ t => va_P (dC, dI) classes [(o, .inr (7, [.ref o_bytes, .int o_length, .ref o_starts, .ref o_sizes, .ref o_glyphStarts, .int o_units, .int o_glyphs, .int o_ascent, .int o_descent, .int o_gap, .int o_longLoca, .int o_metrics, .int o_codes, .int o_codesSize, .int o_segments, .int o_pairs])), (o_bytes, .inl (cy 1, 4096, .inl o_bytes_f)), (o_starts, .inl (cy 0, 8, .inl o_starts_f)), (o_sizes, .inl (cy 0, 8, .inl o_sizes_f)), (o_glyphStarts, .inl (cy 0, 65, .inl o_glyphStarts_f))] t.heap ∧ va_K (dC, dI) classes (TY cy) t ∧ va_D (va_A [(o, .inr (7, [.ref o_bytes, .int o_length, .ref o_starts, .ref o_sizes, .ref o_glyphStarts, .int o_units, .int o_glyphs, .int o_ascent, .int o_descent, .int o_gap, .int o_longLoca, .int o_metrics, .int o_codes, .int o_codesSize, .int o_segments, .int o_pairs])), (o_bytes, .inl (cy 1, 4096, .inl o_bytes_f)), (o_starts, .inl (cy 0, 8, .inl o_starts_f)), (o_sizes, .inl (cy 0, 8, .inl o_sizes_f)), (o_glyphStarts, .inl (cy 0, 65, .inl o_glyphStarts_f))] sz) [(o, .inr (7, [.ref o_bytes, .int o_length, .ref o_starts, .ref o_sizes, .ref o_glyphStarts, .int o_units, .int o_glyphs, .int o_ascent, .int o_descent, .int o_gap, .int o_longLoca, .int o_metrics, .int o_codes, .int o_codesSize, .int o_segments, .int o_pairs])), (o_bytes, .inl (cy 1, 4096, .inl o_bytes_f)), (o_starts, .inl (cy 0, 8, .inl o_starts_f)), (o_sizes, .inl (cy 0, 8, .inl o_sizes_f)), (o_glyphStarts, .inl (cy 0, 65, .inl o_glyphStarts_f))]) (va_A [(o, .inr (7, [.ref o_bytes, .int o_length, .ref o_starts, .ref o_sizes, .ref o_glyphStarts, .int o_units, .int o_glyphs, .int o_ascent, .int o_descent, .int o_gap, .int o_longLoca, .int o_metrics, .int o_codes, .int o_codesSize, .int o_segments, .int o_pairs])), (o_bytes, .inl (cy 1, 4096, .inl o_bytes_f)), (o_starts, .inl (cy 0, 8, .inl o_starts_f)), (o_sizes, .inl (cy 0, 8, .inl o_sizes_f)), (o_glyphStarts, .inl (cy 0, 65, .inl o_glyphStarts_f))] sz)) 0 0 (va_A [(o, .inr (7, [.ref o_bytes, .int o_length, .ref o_starts, .ref o_sizes, .ref o_glyphStarts, .int o_units, .int o_glyphs, .int o_ascent, .int o_descent, .int o_gap, .int o_longLoca, .int o_metrics, .int o_codes, .int o_codesSize, .int o_segments, .int o_pairs])), (o_bytes, .inl (cy 1, 4096, .inl o_bytes_f)), (o_starts, .inl (cy 0, 8, .inl o_starts_f)), (o_sizes, .inl (cy 0, 8, .inl o_sizes_f)), (o_glyphStarts, .inl (cy 0, 65, .inl o_glyphStarts_f))] sz) := by
  refine Met.ofW (cc := b_Ff_pairAt) (maxL := 2) (ret := (some .long)) (by decide) rfl ?_
  intro p e s m args below meth c s₁ B hml hv
  obtain ⟨rfl, hsz, hP, hK, hD0⟩ := hv
  have hx := B.exec
  have hb := B.bytes
  have hr := B.returns
  have hts := atoms_spec (ws := Cond.code y_Ff_pairAt b_Ff_pairAt 2 (some .long) :: G) B.pre
  have htsG : ∀ w ∈ G, w.before _ s = true := fun w hw => hts w (List.mem_cons_of_mem _ hw)
  have hown : s.vm.findClass "GlyphPage$FontFile" = some m.cls := findClass_of_methodNamed B.named
  have hlocks := B.notSynchronized
  subst hsz
  have hD := hD0.self (sz := s.heap.size)
  generalize hAe : va_A [(o, .inr (7, [.ref o_bytes, .int o_length, .ref o_starts, .ref o_sizes, .ref o_glyphStarts, .int o_units, .int o_glyphs, .int o_ascent, .int o_descent, .int o_gap, .int o_longLoca, .int o_metrics, .int o_codes, .int o_codesSize, .int o_segments, .int o_pairs])), (o_bytes, .inl (cy 1, 4096, .inl o_bytes_f)), (o_starts, .inl (cy 0, 8, .inl o_starts_f)), (o_sizes, .inl (cy 0, 8, .inl o_sizes_f)), (o_glyphStarts, .inl (cy 0, 65, .inl o_glyphStarts_f))] s.heap.size = A at hD ⊢
  have hA : ∀ q : Nat, s.heap.size ≤ q → A q := fun q h => by rw [← hAe]; exact Or.inr h
  have hS : va_S A s.heap s.heap [] := va_S.rf
  have hl := lv_entry ([.ref o, .int a1]) (n := 2) (Nat.le_of_ble_eq_true rfl)
  rw [lg_entry_eq]
  generalize (lg_sl ([.ref o, .int a1]) ++ List.replicate (2 - (lg_sl ([.ref o, .int a1])).length) Slot.unset).toArray = ls at hl ⊢
  have hl : lv_has ls 2 [(0, .ref o), (1, .int a1)] := hl
  have C0 : Cx p s m _ meth c A dC dI cy b_Ff_pairAt 2 (some .long) "GlyphPage$FontFile" := ⟨hx, hb, hr, hlocks, hml, hown, htsG, hA, hK⟩
  unfold P_Ff_pairAt at h
  refine lv_aload_n hx hb d_Ff_pairAt_0 rfl (lv_at hl 0 rfl) ?_
  refine lv_aload_n hx hb d_Ff_pairAt_1 rfl (lv_at hl 0 rfl) ?_
  refine va_get (D := (dC, dI)) (ci := 7) (v := .ref o_starts) (C := "GlyphPage$FontFile") (T := F_Ff) (N := 16) hx hb htsG iG_Ff hown hK hP 0 rfl rfl 2 (by decide) (htsG _ mW303) (fun _ h9 => h9) rfl d_Ff_pairAt_2 ?_
  refine lv_bipush (v := (7 : Int32)) hx hb d_Ff_pairAt_5 (by decide) ?_
  obtain ⟨hin_1, h⟩ := bd_some h
  refine va_iald hx hb hK hP 2 0 rfl rfl hin_1 d_Ff_pairAt_7 ?_
  refine lv_bipush (v := (18 : Int32)) hx hb d_Ff_pairAt_8 (by decide) ?_
  refine lv_iadd hx hb d_Ff_pairAt_10 ?_
  refine lv_bipush (v := (6 : Int32)) hx hb d_Ff_pairAt_11 (by decide) ?_
  refine lv_iload_n hx hb d_Ff_pairAt_13 rfl (lv_at hl 1 rfl) ?_
  refine lv_imul hx hb d_Ff_pairAt_14 ?_
  refine lv_iadd hx hb d_Ff_pairAt_15 ?_
  obtain ⟨r_2, hq, h⟩ := Option.bind_eq_some_iff.mp h
  try dsimp only at h
  have hPc := hP.sub (ws' := [(o, .inr (7, [.ref o_bytes, .int o_length, .ref o_starts, .ref o_sizes, .ref o_glyphStarts, .int o_units, .int o_glyphs, .int o_ascent, .int o_descent, .int o_gap, .int o_longLoca, .int o_metrics, .int o_codes, .int o_codesSize, .int o_segments, .int o_pairs])), (o_bytes, .inl (cy 1, 4096, .inl o_bytes_f)), (o_starts, .inl (cy 0, 8, .inl o_starts_f)), (o_sizes, .inl (cy 0, 8, .inl o_sizes_f)), (o_glyphStarts, .inl (cy 0, 65, .inl o_glyphStarts_f))]) [0, 1, 2, 3, 4] rfl
  have hDc := hD.sub (ws' := [(o, .inr (7, [.ref o_bytes, .int o_length, .ref o_starts, .ref o_sizes, .ref o_glyphStarts, .int o_units, .int o_glyphs, .int o_ascent, .int o_descent, .int o_gap, .int o_longLoca, .int o_metrics, .int o_codes, .int o_codesSize, .int o_segments, .int o_pairs])), (o_bytes, .inl (cy 1, 4096, .inl o_bytes_f)), (o_starts, .inl (cy 0, 8, .inl o_starts_f)), (o_sizes, .inl (cy 0, 8, .inl o_sizes_f)), (o_glyphStarts, .inl (cy 0, 65, .inl o_glyphStarts_f))]) [0, 1, 2, 3, 4] (by decide) rfl
  have hFc := va_free (wc := [(o, .inr (7, [.ref o_bytes, .int o_length, .ref o_starts, .ref o_sizes, .ref o_glyphStarts, .int o_units, .int o_glyphs, .int o_ascent, .int o_descent, .int o_gap, .int o_longLoca, .int o_metrics, .int o_codes, .int o_codesSize, .int o_segments, .int o_pairs])), (o_bytes, .inl (cy 1, 4096, .inl o_bytes_f)), (o_starts, .inl (cy 0, 8, .inl o_starts_f)), (o_sizes, .inl (cy 0, 8, .inl o_sizes_f)), (o_glyphStarts, .inl (cy 0, 65, .inl o_glyphStarts_f))]) hD hS hA [0, 1, 2, 3, 4] rfl
  refine va_calll (va_runV (As := [.int (((o_starts_f (7 : Int32).toNatClampNeg) + (18 : Int32)) + ((6 : Int32) * a1))]) (rest := []) ⟨hx, hb, hml, hown, htsG⟩ (c_Ff_fourAt l dC dI cy s.heap.size o o_bytes o_starts o_sizes o_glyphStarts o_length o_units o_glyphs o_ascent o_descent o_gap o_longLoca o_metrics o_codes o_codesSize o_segments o_pairs o_bytes_f o_starts_f o_sizes_f o_glyphStarts_f (((o_starts_f (7 : Int32).toNatClampNeg) + (18 : Int32)) + ((6 : Int32) * a1)) r_2 hq) (cwV 1 htsG (gV mW369 mW371 mS_Ff_fourAt mW11 mW372) rfl rfl rfl (by decide +kernel) ⟨Nat.le_of_ble_eq_true rfl, Nat.le_of_ble_eq_true rfl⟩) ⟨fun a U g mk q => by obtain ⟨q0, q1, qP, qK, qD⟩ := q; exact ⟨q0, q1, qP, va_K.moved (u := U) (U := U.calling g mk a) (Vm.Alike.refl U.vm) qK, qD⟩, va_recv hK hPc (ci := 7) (q0 := 0) rfl rfl, fun U hU hW => ⟨rfl, by rw [hU], by rw [hU]; exact hPc, va_K.moved hW.alike hK, hDc.weaken (fun _ _ _ _ => trivial)⟩⟩ rfl rfl hl.1 rfl (lv_room (Nat.le_of_ble_eq_true rfl)) d_Ff_pairAt_16 ⟨Nat.le_of_ble_eq_true rfl, Nat.le_of_ble_eq_true rfl⟩) hS (fun q _ h => hFc q h) hFc (fun rr u t H1 locs ht hvm hw hB hz1 hk1 hS => ?_)
  obtain ⟨hP1, hK1, hD1⟩ := hB
  rw [ht] at hP1
  replace hw : r_2 = rr := hw.symm
  subst hw
  obtain ⟨hP, hD⟩ := va_join (wr := []) (w1 := [(o, .inr (7, [.ref o_bytes, .int o_length, .ref o_starts, .ref o_sizes, .ref o_glyphStarts, .int o_units, .int o_glyphs, .int o_ascent, .int o_descent, .int o_gap, .int o_longLoca, .int o_metrics, .int o_codes, .int o_codesSize, .int o_segments, .int o_pairs])), (o_bytes, .inl (cy 1, 4096, .inl o_bytes_f)), (o_starts, .inl (cy 0, 8, .inl o_starts_f)), (o_sizes, .inl (cy 0, 8, .inl o_sizes_f)), (o_glyphStarts, .inl (cy 0, 65, .inl o_glyphStarts_f))]) hP hD [0, 1, 2, 3, 4] [] rfl rfl (by decide) (by decide) hk1 hFc hP1 hD1
  generalize H1 = H at hP hS ⊢
  have hP := hP.sub (ws' := [(o, .inr (7, [.ref o_bytes, .int o_length, .ref o_starts, .ref o_sizes, .ref o_glyphStarts, .int o_units, .int o_glyphs, .int o_ascent, .int o_descent, .int o_gap, .int o_longLoca, .int o_metrics, .int o_codes, .int o_codesSize, .int o_segments, .int o_pairs])), (o_bytes, .inl (cy 1, 4096, .inl o_bytes_f)), (o_starts, .inl (cy 0, 8, .inl o_starts_f)), (o_sizes, .inl (cy 0, 8, .inl o_sizes_f)), (o_glyphStarts, .inl (cy 0, 65, .inl o_glyphStarts_f))]) [0, 1, 2, 3, 4] rfl
  have hD := hD.sub (ws' := [(o, .inr (7, [.ref o_bytes, .int o_length, .ref o_starts, .ref o_sizes, .ref o_glyphStarts, .int o_units, .int o_glyphs, .int o_ascent, .int o_descent, .int o_gap, .int o_longLoca, .int o_metrics, .int o_codes, .int o_codesSize, .int o_segments, .int o_pairs])), (o_bytes, .inl (cy 1, 4096, .inl o_bytes_f)), (o_starts, .inl (cy 0, 8, .inl o_starts_f)), (o_sizes, .inl (cy 0, 8, .inl o_sizes_f)), (o_glyphStarts, .inl (cy 0, 65, .inl o_glyphStarts_f))]) [0, 1, 2, 3, 4] (by decide) rfl
  refine W.widen (k := 0) (n := 0) (by decide) (by decide) ?_
  cases h
  exact W.lret hx hb hr (fun t ht hW => ⟨⟨_, (), rfl, rfl, by rw [ht]; exact hP, va_K.moved hW.alike hK, hD⟩, hS.F ht⟩) hS.2.2 d_Ff_pairAt_19 hlocks
def P_Ff_scaled (o_units : Int32) (a1 : Int32) (a2 : Int32) : Option (Int32) :=
  (P_Jm_floorDiv_JJJ ((((128 : Int64) * (a2.toInt64)) * (a1.toInt64)) + (o_units.toInt64)) ((2 : Int64) * (o_units.toInt64))).bind fun r_1 => some (r_1.toInt32)
set_option maxHeartbeats 4000000 in
set_option maxRecDepth 100000 in
theorem c_Ff_scaled (l : Launch) (dC : Nat → ClassId) (dI : Nat → Nat → Nat) (cy : Nat → ClassId) (sz : Nat) (o : Nat) (o_bytes : Nat) (o_starts : Nat) (o_sizes : Nat) (o_glyphStarts : Nat) (o_length : Int32) (o_units : Int32) (o_glyphs : Int32) (o_ascent : Int32) (o_descent : Int32) (o_gap : Int32) (o_longLoca : Int32) (o_metrics : Int32) (o_codes : Int32) (o_codesSize : Int32) (o_segments : Int32) (o_pairs : Int32) (a1 : Int32) (a2 : Int32) (uu : Int32) (h : P_Ff_scaled o_units a1 a2 = some uu) : Met l y_Ff_scaled (Cond.code y_Ff_scaled b_Ff_scaled 3 (some .int) :: G) ({ frames := 1, cells := 0, slots := 0, locals := 25 } : Room) (va_Pc [.ref o, .int a1, .int a2] (fun U => U.heap.size = sz ∧ va_P (dC, dI) classes [(o, .inr (7, [.ref o_bytes, .int o_length, .ref o_starts, .ref o_sizes, .ref o_glyphStarts, .int o_units, .int o_glyphs, .int o_ascent, .int o_descent, .int o_gap, .int o_longLoca, .int o_metrics, .int o_codes, .int o_codesSize, .int o_segments, .int o_pairs]))] U.heap ∧ va_K (dC, dI) classes (TY cy) U ∧ va_D (fun _ => True) [(o, .inr (7, [.ref o_bytes, .int o_length, .ref o_starts, .ref o_sizes, .ref o_glyphStarts, .int o_units, .int o_glyphs, .int o_ascent, .int o_descent, .int o_gap, .int o_longLoca, .int o_metrics, .int o_codes, .int o_codesSize, .int o_segments, .int o_pairs]))])) (va_Qi (fun r (_ : Unit) => r = uu) (fun _ t => va_P (dC, dI) classes [(o, .inr (7, [.ref o_bytes, .int o_length, .ref o_starts, .ref o_sizes, .ref o_glyphStarts, .int o_units, .int o_glyphs, .int o_ascent, .int o_descent, .int o_gap, .int o_longLoca, .int o_metrics, .int o_codes, .int o_codesSize, .int o_segments, .int o_pairs]))] t.heap ∧ va_K (dC, dI) classes (TY cy) t ∧ va_D (va_A [(o, .inr (7, [.ref o_bytes, .int o_length, .ref o_starts, .ref o_sizes, .ref o_glyphStarts, .int o_units, .int o_glyphs, .int o_ascent, .int o_descent, .int o_gap, .int o_longLoca, .int o_metrics, .int o_codes, .int o_codesSize, .int o_segments, .int o_pairs]))] sz) [(o, .inr (7, [.ref o_bytes, .int o_length, .ref o_starts, .ref o_sizes, .ref o_glyphStarts, .int o_units, .int o_glyphs, .int o_ascent, .int o_descent, .int o_gap, .int o_longLoca, .int o_metrics, .int o_codes, .int o_codesSize, .int o_segments, .int o_pairs]))]) (va_A [(o, .inr (7, [.ref o_bytes, .int o_length, .ref o_starts, .ref o_sizes, .ref o_glyphStarts, .int o_units, .int o_glyphs, .int o_ascent, .int o_descent, .int o_gap, .int o_longLoca, .int o_metrics, .int o_codes, .int o_codesSize, .int o_segments, .int o_pairs]))] sz)) 0 0 (va_A [(o, .inr (7, [.ref o_bytes, .int o_length, .ref o_starts, .ref o_sizes, .ref o_glyphStarts, .int o_units, .int o_glyphs, .int o_ascent, .int o_descent, .int o_gap, .int o_longLoca, .int o_metrics, .int o_codes, .int o_codesSize, .int o_segments, .int o_pairs]))] sz) := by
  refine Met.ofW (cc := b_Ff_scaled) (maxL := 3) (ret := (some .int)) (by decide) rfl ?_
  intro p e s m args below meth c s₁ B hml hv
  obtain ⟨rfl, hsz, hP, hK, hD0⟩ := hv
  have hx := B.exec
  have hb := B.bytes
  have hr := B.returns
  have hts := atoms_spec (ws := Cond.code y_Ff_scaled b_Ff_scaled 3 (some .int) :: G) B.pre
  have htsG : ∀ w ∈ G, w.before _ s = true := fun w hw => hts w (List.mem_cons_of_mem _ hw)
  have hown : s.vm.findClass "GlyphPage$FontFile" = some m.cls := findClass_of_methodNamed B.named
  have hlocks := B.notSynchronized
  subst hsz
  have hD := hD0.self (sz := s.heap.size)
  generalize hAe : va_A [(o, .inr (7, [.ref o_bytes, .int o_length, .ref o_starts, .ref o_sizes, .ref o_glyphStarts, .int o_units, .int o_glyphs, .int o_ascent, .int o_descent, .int o_gap, .int o_longLoca, .int o_metrics, .int o_codes, .int o_codesSize, .int o_segments, .int o_pairs]))] s.heap.size = A at hD ⊢
  have hA : ∀ q : Nat, s.heap.size ≤ q → A q := fun q h => by rw [← hAe]; exact Or.inr h
  have hS : va_S A s.heap s.heap [] := va_S.rf
  have hl := lv_entry ([.ref o, .int a1, .int a2]) (n := 3) (Nat.le_of_ble_eq_true rfl)
  rw [lg_entry_eq]
  generalize (lg_sl ([.ref o, .int a1, .int a2]) ++ List.replicate (3 - (lg_sl ([.ref o, .int a1, .int a2])).length) Slot.unset).toArray = ls at hl ⊢
  have hl : lv_has ls 3 [(0, .ref o), (1, .int a1), (2, .int a2)] := hl
  have C0 : Cx p s m _ meth c A dC dI cy b_Ff_scaled 3 (some .int) "GlyphPage$FontFile" := ⟨hx, hb, hr, hlocks, hml, hown, htsG, hA, hK⟩
  unfold P_Ff_scaled at h
  refine lv_ldc2 hx hb hown (htsG _ mW580) d_Ff_scaled_0 ?_
  refine lv_iload_n hx hb d_Ff_scaled_3 rfl (lv_at hl 2 rfl) ?_
  refine lv_i2l hx hb d_Ff_scaled_4 rfl ?_
  refine lv_lmul hx hb d_Ff_scaled_5 ?_
  refine lv_iload_n hx hb d_Ff_scaled_6 rfl (lv_at hl 1 rfl) ?_
  refine lv_i2l hx hb d_Ff_scaled_7 rfl ?_
  refine lv_lmul hx hb d_Ff_scaled_8 ?_
  refine lv_aload_n hx hb d_Ff_scaled_9 rfl (lv_at hl 0 rfl) ?_
  refine va_get (D := (dC, dI)) (ci := 7) (v := .int o_units) (C := "GlyphPage$FontFile") (T := F_Ff) (N := 16) hx hb htsG iG_Ff hown hK hP 0 rfl rfl 5 (by decide) (htsG _ mW307) (fun _ h9 => h9) rfl d_Ff_scaled_10 ?_
  refine lv_i2l hx hb d_Ff_scaled_13 rfl ?_
  refine lv_ladd hx hb d_Ff_scaled_14 ?_
  refine lv_ldc2 hx hb hown (htsG _ mW425) d_Ff_scaled_15 ?_
  refine lv_aload_n hx hb d_Ff_scaled_18 rfl (lv_at hl 0 rfl) ?_
  refine va_get (D := (dC, dI)) (ci := 7) (v := .int o_units) (C := "GlyphPage$FontFile") (T := F_Ff) (N := 16) hx hb htsG iG_Ff hown hK hP 0 rfl rfl 5 (by decide) (htsG _ mW307) (fun _ h9 => h9) rfl d_Ff_scaled_19 ?_
  refine lv_i2l hx hb d_Ff_scaled_22 rfl ?_
  refine lv_lmul hx hb d_Ff_scaled_23 ?_
  obtain ⟨r_1, hq, h⟩ := Option.bind_eq_some_iff.mp h
  try dsimp only at h
  have hPc := hP.sub (ws' := []) [] rfl
  have hDc := hD.sub (ws' := []) [] (by decide) rfl
  have hFc := va_free (wc := []) hD hS hA [] rfl
  refine va_calll (va_runS (As := [.long ((((128 : Int64) * (a2.toInt64)) * (a1.toInt64)) + (o_units.toInt64)), .long ((2 : Int64) * (o_units.toInt64))]) (rest := []) ⟨hx, hb, hml, hown, htsG⟩ (c_Jm_floorDiv_JJJ l dC dI cy s.heap.size ((((128 : Int64) * (a2.toInt64)) * (a1.toInt64)) + (o_units.toInt64)) ((2 : Int64) * (o_units.toInt64)) r_1 hq) (va_cwS 2 htsG (gS mW581 mW582 mW8 mW583) rfl rfl rfl (by decide +kernel) ⟨Nat.le_of_ble_eq_true rfl, Nat.le_of_ble_eq_true rfl⟩) ⟨fun a U g mk q => by obtain ⟨q0, q1, qP, qK, qD⟩ := q; exact ⟨q0, q1, qP, va_K.moved (u := U) (U := U.calling g mk a) (Vm.Alike.refl U.vm) qK, qD⟩, fun U hU hW => ⟨rfl, by rw [hU], by rw [hU]; exact hPc, va_K.moved hW.alike hK, hDc.weaken (fun _ _ _ _ => trivial)⟩⟩ rfl rfl hl.1 rfl (lv_room (Nat.le_of_ble_eq_true rfl)) d_Ff_scaled_24 ⟨Nat.le_of_ble_eq_true rfl, Nat.le_of_ble_eq_true rfl⟩) hS (fun q _ h => hFc q h) hFc (fun rr u t H1 locs ht hvm hw hB hz1 hk1 hS => ?_)
  obtain ⟨hP1, hK1, hD1⟩ := hB
  rw [ht] at hP1
  replace hw : r_1 = rr := hw.symm
  subst hw
  obtain ⟨hP, hD⟩ := va_join (wr := [(o, .inr (7, [.ref o_bytes, .int o_length, .ref o_starts, .ref o_sizes, .ref o_glyphStarts, .int o_units, .int o_glyphs, .int o_ascent, .int o_descent, .int o_gap, .int o_longLoca, .int o_metrics, .int o_codes, .int o_codesSize, .int o_segments, .int o_pairs]))]) (w1 := []) hP hD [] [0] rfl rfl (by decide) (by decide) hk1 hFc hP1 hD1
  generalize H1 = H at hP hS ⊢
  have hP := hP.sub (ws' := [(o, .inr (7, [.ref o_bytes, .int o_length, .ref o_starts, .ref o_sizes, .ref o_glyphStarts, .int o_units, .int o_glyphs, .int o_ascent, .int o_descent, .int o_gap, .int o_longLoca, .int o_metrics, .int o_codes, .int o_codesSize, .int o_segments, .int o_pairs]))]) [0] rfl
  have hD := hD.sub (ws' := [(o, .inr (7, [.ref o_bytes, .int o_length, .ref o_starts, .ref o_sizes, .ref o_glyphStarts, .int o_units, .int o_glyphs, .int o_ascent, .int o_descent, .int o_gap, .int o_longLoca, .int o_metrics, .int o_codes, .int o_codesSize, .int o_segments, .int o_pairs]))]) [0] (by decide) rfl
  refine W.widen (k := 0) (n := 0) (by decide) (by decide) ?_
  refine lv_l2i hx hb d_Ff_scaled_27 rfl ?_
  cases h
  exact W.iret hx hb hr (fun t ht hW => ⟨⟨_, (), rfl, rfl, by rw [ht]; exact hP, va_K.moved hW.alike hK, hD⟩, hS.F ht⟩) hS.2.2 d_Ff_scaled_28 hlocks
def P_Ff_sum_70 (o_length : Int32) (o_bytes_f : Nat → Int32) (z6 : Int32 × Int32 × Int32 × Int32 × Int32 → Option (Int64)) (x1 : Int32) (x2 : Int32) (x3 : Int32) (x4 : Int32) (x5 : Int32) : Option (Int64) :=
  z6 (x1, x2, x3, x4, (x5 + (1 : Int32)))
set_option maxHeartbeats 4000000 in
set_option maxRecDepth 100000 in
theorem w_Ff_sum_70 (C0 : Cx p s m args meth c A dC dI cy b_Ff_sum 6 (some .long) "GlyphPage$FontFile") (o : Nat) (o_bytes : Nat) (o_starts : Nat) (o_sizes : Nat) (o_glyphStarts : Nat) (o_length : Int32) (o_units : Int32) (o_glyphs : Int32) (o_ascent : Int32) (o_descent : Int32) (o_gap : Int32) (o_longLoca : Int32) (o_metrics : Int32) (o_codes : Int32) (o_codesSize : Int32) (o_segments : Int32) (o_pairs : Int32) (o_bytes_f : Nat → Int32) (o_starts_f : Nat → Int32) (o_sizes_f : Nat → Int32) (o_glyphStarts_f : Nat → Int32) (a1 : Int32) (a2 : Int32) (a3 : Int32) (uu : Int64) (z6 : Int32 × Int32 × Int32 × Int32 × Int32 → Option (Int64)) (hz6 : ∀ (x1 : Int32) (x2 : Int32) (x3 : Int32) (x4 : Int32) (x5 : Int32) (H : Heap) (locs : List Loc) (ls : Array Slot), z6 (x1, x2, x3, x4, x5) = some uu → va_P (dC, dI) classes [(o, .inr (7, [.ref o_bytes, .int o_length, .ref o_starts, .ref o_sizes, .ref o_glyphStarts, .int o_units, .int o_glyphs, .int o_ascent, .int o_descent, .int o_gap, .int o_longLoca, .int o_metrics, .int o_codes, .int o_codesSize, .int o_segments, .int o_pairs])), (o_bytes, .inl (cy 1, 4096, .inl o_bytes_f)), (o_starts, .inl (cy 0, 8, .inl o_starts_f)), (o_sizes, .inl (cy 0, 8, .inl o_sizes_f)), (o_glyphStarts, .inl (cy 0, 65, .inl o_glyphStarts_f))] H → va_D A [(o, .inr (7, [.ref o_bytes, .int o_length, .ref o_starts, .ref o_sizes, .ref o_glyphStarts, .int o_units, .int o_glyphs, .int o_ascent, .int o_descent, .int o_gap, .int o_longLoca, .int o_metrics, .int o_codes, .int o_codesSize, .int o_segments, .int o_pairs])), (o_bytes, .inl (cy 1, 4096, .inl o_bytes_f)), (o_starts, .inl (cy 0, 8, .inl o_starts_f)), (o_sizes, .inl (cy 0, 8, .inl o_sizes_f)), (o_glyphStarts, .inl (cy 0, 65, .inl o_glyphStarts_f))] → va_S A s.heap H locs → lv_has ls 6 [(0, .ref o), (1, .int x1), (2, .int x2), (3, .int x3), (4, .int x4), (5, .int x5)] → W p l e ({ frames := 0, cells := 0, slots := 0, locals := 0 } : Room) s m args below meth c H locs 0 0 (MQ below (va_Ql (fun r (_ : Unit) => r = uu) (fun _ t => va_P (dC, dI) classes [(o, .inr (7, [.ref o_bytes, .int o_length, .ref o_starts, .ref o_sizes, .ref o_glyphStarts, .int o_units, .int o_glyphs, .int o_ascent, .int o_descent, .int o_gap, .int o_longLoca, .int o_metrics, .int o_codes, .int o_codesSize, .int o_segments, .int o_pairs])), (o_bytes, .inl (cy 1, 4096, .inl o_bytes_f)), (o_starts, .inl (cy 0, 8, .inl o_starts_f)), (o_sizes, .inl (cy 0, 8, .inl o_sizes_f)), (o_glyphStarts, .inl (cy 0, 65, .inl o_glyphStarts_f))] t.heap ∧ va_K (dC, dI) classes (TY cy) t ∧ va_D A [(o, .inr (7, [.ref o_bytes, .int o_length, .ref o_starts, .ref o_sizes, .ref o_glyphStarts, .int o_units, .int o_glyphs, .int o_ascent, .int o_descent, .int o_gap, .int o_longLoca, .int o_metrics, .int o_codes, .int o_codesSize, .int o_segments, .int o_pairs])), (o_bytes, .inl (cy 1, 4096, .inl o_bytes_f)), (o_starts, .inl (cy 0, 8, .inl o_starts_f)), (o_sizes, .inl (cy 0, 8, .inl o_sizes_f)), (o_glyphStarts, .inl (cy 0, 65, .inl o_glyphStarts_f))]) A) args s 0 0 A) (F0 m 6 ls [])) (x1 : Int32) (x2 : Int32) (x3 : Int32) (x4 : Int32) (x5 : Int32) {H : Heap} {locs : List Loc} {ls : Array Slot} (h : P_Ff_sum_70 o_length o_bytes_f z6 x1 x2 x3 x4 x5 = some uu) : va_P (dC, dI) classes [(o, .inr (7, [.ref o_bytes, .int o_length, .ref o_starts, .ref o_sizes, .ref o_glyphStarts, .int o_units, .int o_glyphs, .int o_ascent, .int o_descent, .int o_gap, .int o_longLoca, .int o_metrics, .int o_codes, .int o_codesSize, .int o_segments, .int o_pairs])), (o_bytes, .inl (cy 1, 4096, .inl o_bytes_f)), (o_starts, .inl (cy 0, 8, .inl o_starts_f)), (o_sizes, .inl (cy 0, 8, .inl o_sizes_f)), (o_glyphStarts, .inl (cy 0, 65, .inl o_glyphStarts_f))] H → va_D A [(o, .inr (7, [.ref o_bytes, .int o_length, .ref o_starts, .ref o_sizes, .ref o_glyphStarts, .int o_units, .int o_glyphs, .int o_ascent, .int o_descent, .int o_gap, .int o_longLoca, .int o_metrics, .int o_codes, .int o_codesSize, .int o_segments, .int o_pairs])), (o_bytes, .inl (cy 1, 4096, .inl o_bytes_f)), (o_starts, .inl (cy 0, 8, .inl o_starts_f)), (o_sizes, .inl (cy 0, 8, .inl o_sizes_f)), (o_glyphStarts, .inl (cy 0, 65, .inl o_glyphStarts_f))] → va_S A s.heap H locs → lv_has ls 6 [(0, .ref o), (1, .int x1), (2, .int x2), (3, .int x3), (4, .int x4), (5, .int x5)] → W p l e ({ frames := 0, cells := 0, slots := 0, locals := 0 } : Room) s m args below meth c H locs 0 0 (MQ below (va_Ql (fun r (_ : Unit) => r = uu) (fun _ t => va_P (dC, dI) classes [(o, .inr (7, [.ref o_bytes, .int o_length, .ref o_starts, .ref o_sizes, .ref o_glyphStarts, .int o_units, .int o_glyphs, .int o_ascent, .int o_descent, .int o_gap, .int o_longLoca, .int o_metrics, .int o_codes, .int o_codesSize, .int o_segments, .int o_pairs])), (o_bytes, .inl (cy 1, 4096, .inl o_bytes_f)), (o_starts, .inl (cy 0, 8, .inl o_starts_f)), (o_sizes, .inl (cy 0, 8, .inl o_sizes_f)), (o_glyphStarts, .inl (cy 0, 65, .inl o_glyphStarts_f))] t.heap ∧ va_K (dC, dI) classes (TY cy) t ∧ va_D A [(o, .inr (7, [.ref o_bytes, .int o_length, .ref o_starts, .ref o_sizes, .ref o_glyphStarts, .int o_units, .int o_glyphs, .int o_ascent, .int o_descent, .int o_gap, .int o_longLoca, .int o_metrics, .int o_codes, .int o_codesSize, .int o_segments, .int o_pairs])), (o_bytes, .inl (cy 1, 4096, .inl o_bytes_f)), (o_starts, .inl (cy 0, 8, .inl o_starts_f)), (o_sizes, .inl (cy 0, 8, .inl o_sizes_f)), (o_glyphStarts, .inl (cy 0, 65, .inl o_glyphStarts_f))]) A) args s 0 0 A) (F0 m 70 ls []) := by
  intro hP hD hS hl
  obtain ⟨hx, hb, hr, hlocks, hml, hown, htsG, hA, hK⟩ := id C0
  unfold P_Ff_sum_70 at h
  refine lv_iinc (v := (x5 + (1 : Int32))) (lv' := [(5, .int (x5 + (1 : Int32))), (0, .ref o), (1, .int x1), (2, .int x2), (3, .int x3), (4, .int x4)]) hx hb d_Ff_sum_70 hl (k := 5) rfl rfl (by decide) rfl (fun ls hl => ?_)
  refine lv_goto (tgt := 6) hx hb d_Ff_sum_73 (by decide) ?_
  exact hz6 x1 x2 x3 x4 (x5 + (1 : Int32)) _ _ _ h hP hD hS (lv_sub hl [1, 2, 3, 4, 5, 0] rfl)
def P_Ff_sum_41 (o_length : Int32) (o_bytes_f : Nat → Int32) (z6 : Int32 × Int32 × Int32 × Int32 × Int32 → Option (Int64)) (x1 : Int32) (x2 : Int32) (x3 : Int32) (x4 : Int32) (x5 : Int32) : Option (Int64) :=
  bd (x1 + x5) 4096 <| P_Ff_sum_70 o_length o_bytes_f z6 x1 x2 x3 (x4 + (((o_bytes_f (x1 + x5).toNatClampNeg) &&& (255 : Int32)) <<< (((24 : Int32) - ((8 : Int32) * (x5 &&& (3 : Int32)))) &&& 31))) x5
set_option maxHeartbeats 4000000 in
set_option maxRecDepth 100000 in
theorem w_Ff_sum_41 (C0 : Cx p s m args meth c A dC dI cy b_Ff_sum 6 (some .long) "GlyphPage$FontFile") (o : Nat) (o_bytes : Nat) (o_starts : Nat) (o_sizes : Nat) (o_glyphStarts : Nat) (o_length : Int32) (o_units : Int32) (o_glyphs : Int32) (o_ascent : Int32) (o_descent : Int32) (o_gap : Int32) (o_longLoca : Int32) (o_metrics : Int32) (o_codes : Int32) (o_codesSize : Int32) (o_segments : Int32) (o_pairs : Int32) (o_bytes_f : Nat → Int32) (o_starts_f : Nat → Int32) (o_sizes_f : Nat → Int32) (o_glyphStarts_f : Nat → Int32) (a1 : Int32) (a2 : Int32) (a3 : Int32) (uu : Int64) (z6 : Int32 × Int32 × Int32 × Int32 × Int32 → Option (Int64)) (hz6 : ∀ (x1 : Int32) (x2 : Int32) (x3 : Int32) (x4 : Int32) (x5 : Int32) (H : Heap) (locs : List Loc) (ls : Array Slot), z6 (x1, x2, x3, x4, x5) = some uu → va_P (dC, dI) classes [(o, .inr (7, [.ref o_bytes, .int o_length, .ref o_starts, .ref o_sizes, .ref o_glyphStarts, .int o_units, .int o_glyphs, .int o_ascent, .int o_descent, .int o_gap, .int o_longLoca, .int o_metrics, .int o_codes, .int o_codesSize, .int o_segments, .int o_pairs])), (o_bytes, .inl (cy 1, 4096, .inl o_bytes_f)), (o_starts, .inl (cy 0, 8, .inl o_starts_f)), (o_sizes, .inl (cy 0, 8, .inl o_sizes_f)), (o_glyphStarts, .inl (cy 0, 65, .inl o_glyphStarts_f))] H → va_D A [(o, .inr (7, [.ref o_bytes, .int o_length, .ref o_starts, .ref o_sizes, .ref o_glyphStarts, .int o_units, .int o_glyphs, .int o_ascent, .int o_descent, .int o_gap, .int o_longLoca, .int o_metrics, .int o_codes, .int o_codesSize, .int o_segments, .int o_pairs])), (o_bytes, .inl (cy 1, 4096, .inl o_bytes_f)), (o_starts, .inl (cy 0, 8, .inl o_starts_f)), (o_sizes, .inl (cy 0, 8, .inl o_sizes_f)), (o_glyphStarts, .inl (cy 0, 65, .inl o_glyphStarts_f))] → va_S A s.heap H locs → lv_has ls 6 [(0, .ref o), (1, .int x1), (2, .int x2), (3, .int x3), (4, .int x4), (5, .int x5)] → W p l e ({ frames := 0, cells := 0, slots := 0, locals := 0 } : Room) s m args below meth c H locs 0 0 (MQ below (va_Ql (fun r (_ : Unit) => r = uu) (fun _ t => va_P (dC, dI) classes [(o, .inr (7, [.ref o_bytes, .int o_length, .ref o_starts, .ref o_sizes, .ref o_glyphStarts, .int o_units, .int o_glyphs, .int o_ascent, .int o_descent, .int o_gap, .int o_longLoca, .int o_metrics, .int o_codes, .int o_codesSize, .int o_segments, .int o_pairs])), (o_bytes, .inl (cy 1, 4096, .inl o_bytes_f)), (o_starts, .inl (cy 0, 8, .inl o_starts_f)), (o_sizes, .inl (cy 0, 8, .inl o_sizes_f)), (o_glyphStarts, .inl (cy 0, 65, .inl o_glyphStarts_f))] t.heap ∧ va_K (dC, dI) classes (TY cy) t ∧ va_D A [(o, .inr (7, [.ref o_bytes, .int o_length, .ref o_starts, .ref o_sizes, .ref o_glyphStarts, .int o_units, .int o_glyphs, .int o_ascent, .int o_descent, .int o_gap, .int o_longLoca, .int o_metrics, .int o_codes, .int o_codesSize, .int o_segments, .int o_pairs])), (o_bytes, .inl (cy 1, 4096, .inl o_bytes_f)), (o_starts, .inl (cy 0, 8, .inl o_starts_f)), (o_sizes, .inl (cy 0, 8, .inl o_sizes_f)), (o_glyphStarts, .inl (cy 0, 65, .inl o_glyphStarts_f))]) A) args s 0 0 A) (F0 m 6 ls [])) (x1 : Int32) (x2 : Int32) (x3 : Int32) (x4 : Int32) (x5 : Int32) {H : Heap} {locs : List Loc} {ls : Array Slot} (h : P_Ff_sum_41 o_length o_bytes_f z6 x1 x2 x3 x4 x5 = some uu) : va_P (dC, dI) classes [(o, .inr (7, [.ref o_bytes, .int o_length, .ref o_starts, .ref o_sizes, .ref o_glyphStarts, .int o_units, .int o_glyphs, .int o_ascent, .int o_descent, .int o_gap, .int o_longLoca, .int o_metrics, .int o_codes, .int o_codesSize, .int o_segments, .int o_pairs])), (o_bytes, .inl (cy 1, 4096, .inl o_bytes_f)), (o_starts, .inl (cy 0, 8, .inl o_starts_f)), (o_sizes, .inl (cy 0, 8, .inl o_sizes_f)), (o_glyphStarts, .inl (cy 0, 65, .inl o_glyphStarts_f))] H → va_D A [(o, .inr (7, [.ref o_bytes, .int o_length, .ref o_starts, .ref o_sizes, .ref o_glyphStarts, .int o_units, .int o_glyphs, .int o_ascent, .int o_descent, .int o_gap, .int o_longLoca, .int o_metrics, .int o_codes, .int o_codesSize, .int o_segments, .int o_pairs])), (o_bytes, .inl (cy 1, 4096, .inl o_bytes_f)), (o_starts, .inl (cy 0, 8, .inl o_starts_f)), (o_sizes, .inl (cy 0, 8, .inl o_sizes_f)), (o_glyphStarts, .inl (cy 0, 65, .inl o_glyphStarts_f))] → va_S A s.heap H locs → lv_has ls 6 [(0, .ref o), (1, .int x1), (2, .int x2), (3, .int x3), (4, .int x4), (5, .int x5)] → W p l e ({ frames := 0, cells := 0, slots := 0, locals := 0 } : Room) s m args below meth c H locs 0 0 (MQ below (va_Ql (fun r (_ : Unit) => r = uu) (fun _ t => va_P (dC, dI) classes [(o, .inr (7, [.ref o_bytes, .int o_length, .ref o_starts, .ref o_sizes, .ref o_glyphStarts, .int o_units, .int o_glyphs, .int o_ascent, .int o_descent, .int o_gap, .int o_longLoca, .int o_metrics, .int o_codes, .int o_codesSize, .int o_segments, .int o_pairs])), (o_bytes, .inl (cy 1, 4096, .inl o_bytes_f)), (o_starts, .inl (cy 0, 8, .inl o_starts_f)), (o_sizes, .inl (cy 0, 8, .inl o_sizes_f)), (o_glyphStarts, .inl (cy 0, 65, .inl o_glyphStarts_f))] t.heap ∧ va_K (dC, dI) classes (TY cy) t ∧ va_D A [(o, .inr (7, [.ref o_bytes, .int o_length, .ref o_starts, .ref o_sizes, .ref o_glyphStarts, .int o_units, .int o_glyphs, .int o_ascent, .int o_descent, .int o_gap, .int o_longLoca, .int o_metrics, .int o_codes, .int o_codesSize, .int o_segments, .int o_pairs])), (o_bytes, .inl (cy 1, 4096, .inl o_bytes_f)), (o_starts, .inl (cy 0, 8, .inl o_starts_f)), (o_sizes, .inl (cy 0, 8, .inl o_sizes_f)), (o_glyphStarts, .inl (cy 0, 65, .inl o_glyphStarts_f))]) A) args s 0 0 A) (F0 m 41 ls []) := by
  intro hP hD hS hl
  obtain ⟨hx, hb, hr, hlocks, hml, hown, htsG, hA, hK⟩ := id C0
  unfold P_Ff_sum_41 at h
  refine lv_iload hx hb d_Ff_sum_41 (lv_at hl 4 rfl) ?_
  refine lv_aload_n hx hb d_Ff_sum_43 rfl (lv_at hl 0 rfl) ?_
  refine va_get (D := (dC, dI)) (ci := 7) (v := .ref o_bytes) (C := "GlyphPage$FontFile") (T := F_Ff) (N := 16) hx hb htsG iG_Ff hown hK hP 0 rfl rfl 0 (by decide) (htsG _ mW299) (fun _ h9 => h9) rfl d_Ff_sum_44 ?_
  refine lv_iload_n hx hb d_Ff_sum_47 rfl (lv_at hl 1 rfl) ?_
  refine lv_iload hx hb d_Ff_sum_48 (lv_at hl 5 rfl) ?_
  refine lv_iadd hx hb d_Ff_sum_50 ?_
  obtain ⟨hin_1, h⟩ := bd_some h
  refine va_bald hx hb hK hP 1 1 rfl rfl hin_1 d_Ff_sum_51 ?_
  refine lv_sipush (v := (255 : Int32)) hx hb d_Ff_sum_52 (by decide) ?_
  refine lv_iand hx hb d_Ff_sum_55 ?_
  refine lv_bipush (v := (24 : Int32)) hx hb d_Ff_sum_56 (by decide) ?_
  refine lv_bipush (v := (8 : Int32)) hx hb d_Ff_sum_58 (by decide) ?_
  refine lv_iload hx hb d_Ff_sum_60 (lv_at hl 5 rfl) ?_
  refine lv_iconst (v := (3 : Int32)) hx hb d_Ff_sum_62 (by decide) ?_
  refine lv_iand hx hb d_Ff_sum_63 ?_
  refine lv_imul hx hb d_Ff_sum_64 ?_
  refine lv_isub hx hb d_Ff_sum_65 ?_
  refine lv_ishl hx hb d_Ff_sum_66 ?_
  refine lv_iadd hx hb d_Ff_sum_67 ?_
  refine lv_istore (lv' := [(4, .int (x4 + (((o_bytes_f (x1 + x5).toNatClampNeg) &&& (255 : Int32)) <<< (((24 : Int32) - ((8 : Int32) * (x5 &&& (3 : Int32)))) &&& 31)))), (0, .ref o), (1, .int x1), (2, .int x2), (3, .int x3), (5, .int x5)]) hx hb d_Ff_sum_68 hl (by decide) rfl (fun ls hl => ?_)
  exact w_Ff_sum_70 C0 o o_bytes o_starts o_sizes o_glyphStarts o_length o_units o_glyphs o_ascent o_descent o_gap o_longLoca o_metrics o_codes o_codesSize o_segments o_pairs o_bytes_f o_starts_f o_sizes_f o_glyphStarts_f a1 a2 a3 uu z6 hz6 x1 x2 x3 (x4 + (((o_bytes_f (x1 + x5).toNatClampNeg) &&& (255 : Int32)) <<< (((24 : Int32) - ((8 : Int32) * (x5 &&& (3 : Int32)))) &&& 31))) x5 h hP hD hS (lv_sub hl [1, 2, 3, 4, 0, 5] rfl)
def P_Ff_sum_6b (o_length : Int32) (o_bytes_f : Nat → Int32)  (z6 : Int32 × Int32 × Int32 × Int32 × Int32 → Option (Int64)) (x1 : Int32) (x2 : Int32) (x3 : Int32) (x4 : Int32) (x5 : Int32) : Option (Int64) :=
  if x2 ≤ x5 then (some ((x4.toInt64) &&& (4294967295 : Int64))) else (if o_length ≤ (x1 + x5) then (some ((x4.toInt64) &&& (4294967295 : Int64))) else (if x3 = 0 then (P_Ff_sum_41 o_length o_bytes_f z6 x1 x2 x3 x4 x5) else (if x5 < (8 : Int32) then (P_Ff_sum_41 o_length o_bytes_f z6 x1 x2 x3 x4 x5) else (if x5 ≤ (11 : Int32) then (P_Ff_sum_70 o_length o_bytes_f z6 x1 x2 x3 x4 x5) else (P_Ff_sum_41 o_length o_bytes_f z6 x1 x2 x3 x4 x5)))))
def L_Ff_sum_6 (o_length : Int32) (o_bytes_f : Nat → Int32)  : (Int32 × Int32 × Int32 × Int32 × Int32 → Option (Int64)) → (Int32 × Int32 × Int32 × Int32 × Int32) → Option (Int64) :=
  fun z => unp fun x1 => unp fun x2 => unp fun x3 => unp fun x4 x5 => P_Ff_sum_6b o_length o_bytes_f z x1 x2 x3 x4 x5
def P_Ff_sum_6 (o_length : Int32) (o_bytes_f : Nat → Int32)  (x1 : Int32) (x2 : Int32) (x3 : Int32) (x4 : Int32) (x5 : Int32) : Option (Int64) :=
  lp (L_Ff_sum_6 o_length o_bytes_f) fuel (x1, x2, x3, x4, x5)
theorem e_Ff_sum_6 (o_length : Int32) (o_bytes_f : Nat → Int32)  (n : Nat) (x1 : Int32) (x2 : Int32) (x3 : Int32) (x4 : Int32) (x5 : Int32) : lp (L_Ff_sum_6 o_length o_bytes_f) (n + 1) (x1, x2, x3, x4, x5) = P_Ff_sum_6b o_length o_bytes_f (lp (L_Ff_sum_6 o_length o_bytes_f) n) x1 x2 x3 x4 x5 := rfl
set_option maxHeartbeats 4000000 in
set_option maxRecDepth 100000 in
theorem w_Ff_sum_6b (C0 : Cx p s m args meth c A dC dI cy b_Ff_sum 6 (some .long) "GlyphPage$FontFile") (o : Nat) (o_bytes : Nat) (o_starts : Nat) (o_sizes : Nat) (o_glyphStarts : Nat) (o_length : Int32) (o_units : Int32) (o_glyphs : Int32) (o_ascent : Int32) (o_descent : Int32) (o_gap : Int32) (o_longLoca : Int32) (o_metrics : Int32) (o_codes : Int32) (o_codesSize : Int32) (o_segments : Int32) (o_pairs : Int32) (o_bytes_f : Nat → Int32) (o_starts_f : Nat → Int32) (o_sizes_f : Nat → Int32) (o_glyphStarts_f : Nat → Int32) (a1 : Int32) (a2 : Int32) (a3 : Int32) (uu : Int64)  (z6 : Int32 × Int32 × Int32 × Int32 × Int32 → Option (Int64)) (hz6 : ∀ (x1 : Int32) (x2 : Int32) (x3 : Int32) (x4 : Int32) (x5 : Int32) (H : Heap) (locs : List Loc) (ls : Array Slot), z6 (x1, x2, x3, x4, x5) = some uu → va_P (dC, dI) classes [(o, .inr (7, [.ref o_bytes, .int o_length, .ref o_starts, .ref o_sizes, .ref o_glyphStarts, .int o_units, .int o_glyphs, .int o_ascent, .int o_descent, .int o_gap, .int o_longLoca, .int o_metrics, .int o_codes, .int o_codesSize, .int o_segments, .int o_pairs])), (o_bytes, .inl (cy 1, 4096, .inl o_bytes_f)), (o_starts, .inl (cy 0, 8, .inl o_starts_f)), (o_sizes, .inl (cy 0, 8, .inl o_sizes_f)), (o_glyphStarts, .inl (cy 0, 65, .inl o_glyphStarts_f))] H → va_D A [(o, .inr (7, [.ref o_bytes, .int o_length, .ref o_starts, .ref o_sizes, .ref o_glyphStarts, .int o_units, .int o_glyphs, .int o_ascent, .int o_descent, .int o_gap, .int o_longLoca, .int o_metrics, .int o_codes, .int o_codesSize, .int o_segments, .int o_pairs])), (o_bytes, .inl (cy 1, 4096, .inl o_bytes_f)), (o_starts, .inl (cy 0, 8, .inl o_starts_f)), (o_sizes, .inl (cy 0, 8, .inl o_sizes_f)), (o_glyphStarts, .inl (cy 0, 65, .inl o_glyphStarts_f))] → va_S A s.heap H locs → lv_has ls 6 [(0, .ref o), (1, .int x1), (2, .int x2), (3, .int x3), (4, .int x4), (5, .int x5)] → W p l e ({ frames := 0, cells := 0, slots := 0, locals := 0 } : Room) s m args below meth c H locs 0 0 (MQ below (va_Ql (fun r (_ : Unit) => r = uu) (fun _ t => va_P (dC, dI) classes [(o, .inr (7, [.ref o_bytes, .int o_length, .ref o_starts, .ref o_sizes, .ref o_glyphStarts, .int o_units, .int o_glyphs, .int o_ascent, .int o_descent, .int o_gap, .int o_longLoca, .int o_metrics, .int o_codes, .int o_codesSize, .int o_segments, .int o_pairs])), (o_bytes, .inl (cy 1, 4096, .inl o_bytes_f)), (o_starts, .inl (cy 0, 8, .inl o_starts_f)), (o_sizes, .inl (cy 0, 8, .inl o_sizes_f)), (o_glyphStarts, .inl (cy 0, 65, .inl o_glyphStarts_f))] t.heap ∧ va_K (dC, dI) classes (TY cy) t ∧ va_D A [(o, .inr (7, [.ref o_bytes, .int o_length, .ref o_starts, .ref o_sizes, .ref o_glyphStarts, .int o_units, .int o_glyphs, .int o_ascent, .int o_descent, .int o_gap, .int o_longLoca, .int o_metrics, .int o_codes, .int o_codesSize, .int o_segments, .int o_pairs])), (o_bytes, .inl (cy 1, 4096, .inl o_bytes_f)), (o_starts, .inl (cy 0, 8, .inl o_starts_f)), (o_sizes, .inl (cy 0, 8, .inl o_sizes_f)), (o_glyphStarts, .inl (cy 0, 65, .inl o_glyphStarts_f))]) A) args s 0 0 A) (F0 m 6 ls [])) (x1 : Int32) (x2 : Int32) (x3 : Int32) (x4 : Int32) (x5 : Int32) {H : Heap} {locs : List Loc} {ls : Array Slot} (h : P_Ff_sum_6b o_length o_bytes_f z6 x1 x2 x3 x4 x5 = some uu) : va_P (dC, dI) classes [(o, .inr (7, [.ref o_bytes, .int o_length, .ref o_starts, .ref o_sizes, .ref o_glyphStarts, .int o_units, .int o_glyphs, .int o_ascent, .int o_descent, .int o_gap, .int o_longLoca, .int o_metrics, .int o_codes, .int o_codesSize, .int o_segments, .int o_pairs])), (o_bytes, .inl (cy 1, 4096, .inl o_bytes_f)), (o_starts, .inl (cy 0, 8, .inl o_starts_f)), (o_sizes, .inl (cy 0, 8, .inl o_sizes_f)), (o_glyphStarts, .inl (cy 0, 65, .inl o_glyphStarts_f))] H → va_D A [(o, .inr (7, [.ref o_bytes, .int o_length, .ref o_starts, .ref o_sizes, .ref o_glyphStarts, .int o_units, .int o_glyphs, .int o_ascent, .int o_descent, .int o_gap, .int o_longLoca, .int o_metrics, .int o_codes, .int o_codesSize, .int o_segments, .int o_pairs])), (o_bytes, .inl (cy 1, 4096, .inl o_bytes_f)), (o_starts, .inl (cy 0, 8, .inl o_starts_f)), (o_sizes, .inl (cy 0, 8, .inl o_sizes_f)), (o_glyphStarts, .inl (cy 0, 65, .inl o_glyphStarts_f))] → va_S A s.heap H locs → lv_has ls 6 [(0, .ref o), (1, .int x1), (2, .int x2), (3, .int x3), (4, .int x4), (5, .int x5)] → W p l e ({ frames := 0, cells := 0, slots := 0, locals := 0 } : Room) s m args below meth c H locs 0 0 (MQ below (va_Ql (fun r (_ : Unit) => r = uu) (fun _ t => va_P (dC, dI) classes [(o, .inr (7, [.ref o_bytes, .int o_length, .ref o_starts, .ref o_sizes, .ref o_glyphStarts, .int o_units, .int o_glyphs, .int o_ascent, .int o_descent, .int o_gap, .int o_longLoca, .int o_metrics, .int o_codes, .int o_codesSize, .int o_segments, .int o_pairs])), (o_bytes, .inl (cy 1, 4096, .inl o_bytes_f)), (o_starts, .inl (cy 0, 8, .inl o_starts_f)), (o_sizes, .inl (cy 0, 8, .inl o_sizes_f)), (o_glyphStarts, .inl (cy 0, 65, .inl o_glyphStarts_f))] t.heap ∧ va_K (dC, dI) classes (TY cy) t ∧ va_D A [(o, .inr (7, [.ref o_bytes, .int o_length, .ref o_starts, .ref o_sizes, .ref o_glyphStarts, .int o_units, .int o_glyphs, .int o_ascent, .int o_descent, .int o_gap, .int o_longLoca, .int o_metrics, .int o_codes, .int o_codesSize, .int o_segments, .int o_pairs])), (o_bytes, .inl (cy 1, 4096, .inl o_bytes_f)), (o_starts, .inl (cy 0, 8, .inl o_starts_f)), (o_sizes, .inl (cy 0, 8, .inl o_sizes_f)), (o_glyphStarts, .inl (cy 0, 65, .inl o_glyphStarts_f))]) A) args s 0 0 A) (F0 m 6 ls []) := by
  intro hP hD hS hl
  obtain ⟨hx, hb, hr, hlocks, hml, hown, htsG, hA, hK⟩ := id C0
  unfold P_Ff_sum_6b at h
  refine lv_iload hx hb d_Ff_sum_6 (lv_at hl 5 rfl) ?_
  refine lv_iload_n hx hb d_Ff_sum_8 rfl (lv_at hl 2 rfl) ?_
  refine lv_icmp_ge (tgt := 76) hx hb d_Ff_sum_9 (by decide) (fun c_1 => ?_) (fun c_1 => ?_)
  · replace h := (if_pos c_1).symm.trans h
    refine lv_iload hx hb d_Ff_sum_76 (lv_at hl 4 rfl) ?_
    refine lv_i2l hx hb d_Ff_sum_78 rfl ?_
    refine lv_ldc2 hx hb hown (htsG _ mW386) d_Ff_sum_79 ?_
    refine lv_land hx hb d_Ff_sum_82 ?_
    cases h
    exact W.lret hx hb hr (fun t ht hW => ⟨⟨_, (), rfl, rfl, by rw [ht]; exact hP, va_K.moved hW.alike hK, hD⟩, hS.F ht⟩) hS.2.2 d_Ff_sum_83 hlocks
  · replace h := (if_neg c_1).symm.trans h
    refine lv_iload_n hx hb d_Ff_sum_12 rfl (lv_at hl 1 rfl) ?_
    refine lv_iload hx hb d_Ff_sum_13 (lv_at hl 5 rfl) ?_
    refine lv_iadd hx hb d_Ff_sum_15 ?_
    refine lv_aload_n hx hb d_Ff_sum_16 rfl (lv_at hl 0 rfl) ?_
    refine va_get (D := (dC, dI)) (ci := 7) (v := .int o_length) (C := "GlyphPage$FontFile") (T := F_Ff) (N := 16) hx hb htsG iG_Ff hown hK hP 0 rfl rfl 1 (by decide) (htsG _ mW301) (fun _ h9 => h9) rfl d_Ff_sum_17 ?_
    refine lv_icmp_ge (tgt := 76) hx hb d_Ff_sum_20 (by decide) (fun c_2 => ?_) (fun c_2 => ?_)
    · replace h := (if_pos c_2).symm.trans h
      refine lv_iload hx hb d_Ff_sum_76 (lv_at hl 4 rfl) ?_
      refine lv_i2l hx hb d_Ff_sum_78 rfl ?_
      refine lv_ldc2 hx hb hown (htsG _ mW386) d_Ff_sum_79 ?_
      refine lv_land hx hb d_Ff_sum_82 ?_
      cases h
      exact W.lret hx hb hr (fun t ht hW => ⟨⟨_, (), rfl, rfl, by rw [ht]; exact hP, va_K.moved hW.alike hK, hD⟩, hS.F ht⟩) hS.2.2 d_Ff_sum_83 hlocks
    · replace h := (if_neg c_2).symm.trans h
      refine lv_iload_n hx hb d_Ff_sum_23 rfl (lv_at hl 3 rfl) ?_
      refine lv_if_eq (tgt := 41) hx hb d_Ff_sum_24 (by decide) (fun c_3 => ?_) (fun c_3 => ?_)
      · replace h := (if_pos c_3).symm.trans h
        exact w_Ff_sum_41 C0 o o_bytes o_starts o_sizes o_glyphStarts o_length o_units o_glyphs o_ascent o_descent o_gap o_longLoca o_metrics o_codes o_codesSize o_segments o_pairs o_bytes_f o_starts_f o_sizes_f o_glyphStarts_f a1 a2 a3 uu z6 hz6 x1 x2 x3 x4 x5 h hP hD hS (lv_sub hl [0, 1, 2, 3, 4, 5] rfl)
      · replace h := (if_neg c_3).symm.trans h
        refine lv_iload hx hb d_Ff_sum_27 (lv_at hl 5 rfl) ?_
        refine lv_bipush (v := (8 : Int32)) hx hb d_Ff_sum_29 (by decide) ?_
        refine lv_icmp_lt (tgt := 41) hx hb d_Ff_sum_31 (by decide) (fun c_4 => ?_) (fun c_4 => ?_)
        · replace h := (if_pos c_4).symm.trans h
          exact w_Ff_sum_41 C0 o o_bytes o_starts o_sizes o_glyphStarts o_length o_units o_glyphs o_ascent o_descent o_gap o_longLoca o_metrics o_codes o_codesSize o_segments o_pairs o_bytes_f o_starts_f o_sizes_f o_glyphStarts_f a1 a2 a3 uu z6 hz6 x1 x2 x3 x4 x5 h hP hD hS (lv_sub hl [0, 1, 2, 3, 4, 5] rfl)
        · replace h := (if_neg c_4).symm.trans h
          refine lv_iload hx hb d_Ff_sum_34 (lv_at hl 5 rfl) ?_
          refine lv_bipush (v := (11 : Int32)) hx hb d_Ff_sum_36 (by decide) ?_
          refine lv_icmp_le (tgt := 70) hx hb d_Ff_sum_38 (by decide) (fun c_5 => ?_) (fun c_5 => ?_)
          · replace h := (if_pos c_5).symm.trans h
            exact w_Ff_sum_70 C0 o o_bytes o_starts o_sizes o_glyphStarts o_length o_units o_glyphs o_ascent o_descent o_gap o_longLoca o_metrics o_codes o_codesSize o_segments o_pairs o_bytes_f o_starts_f o_sizes_f o_glyphStarts_f a1 a2 a3 uu z6 hz6 x1 x2 x3 x4 x5 h hP hD hS (lv_sub hl [0, 1, 2, 3, 4, 5] rfl)
          · replace h := (if_neg c_5).symm.trans h
            exact w_Ff_sum_41 C0 o o_bytes o_starts o_sizes o_glyphStarts o_length o_units o_glyphs o_ascent o_descent o_gap o_longLoca o_metrics o_codes o_codesSize o_segments o_pairs o_bytes_f o_starts_f o_sizes_f o_glyphStarts_f a1 a2 a3 uu z6 hz6 x1 x2 x3 x4 x5 h hP hD hS (lv_sub hl [0, 1, 2, 3, 4, 5] rfl)
theorem w_Ff_sum_6 (C0 : Cx p s m args meth c A dC dI cy b_Ff_sum 6 (some .long) "GlyphPage$FontFile") (o : Nat) (o_bytes : Nat) (o_starts : Nat) (o_sizes : Nat) (o_glyphStarts : Nat) (o_length : Int32) (o_units : Int32) (o_glyphs : Int32) (o_ascent : Int32) (o_descent : Int32) (o_gap : Int32) (o_longLoca : Int32) (o_metrics : Int32) (o_codes : Int32) (o_codesSize : Int32) (o_segments : Int32) (o_pairs : Int32) (o_bytes_f : Nat → Int32) (o_starts_f : Nat → Int32) (o_sizes_f : Nat → Int32) (o_glyphStarts_f : Nat → Int32) (a1 : Int32) (a2 : Int32) (a3 : Int32) (uu : Int64)  (x1 : Int32) (x2 : Int32) (x3 : Int32) (x4 : Int32) (x5 : Int32) {H : Heap} {locs : List Loc} {ls : Array Slot} (h : P_Ff_sum_6 o_length o_bytes_f x1 x2 x3 x4 x5 = some uu) : va_P (dC, dI) classes [(o, .inr (7, [.ref o_bytes, .int o_length, .ref o_starts, .ref o_sizes, .ref o_glyphStarts, .int o_units, .int o_glyphs, .int o_ascent, .int o_descent, .int o_gap, .int o_longLoca, .int o_metrics, .int o_codes, .int o_codesSize, .int o_segments, .int o_pairs])), (o_bytes, .inl (cy 1, 4096, .inl o_bytes_f)), (o_starts, .inl (cy 0, 8, .inl o_starts_f)), (o_sizes, .inl (cy 0, 8, .inl o_sizes_f)), (o_glyphStarts, .inl (cy 0, 65, .inl o_glyphStarts_f))] H → va_D A [(o, .inr (7, [.ref o_bytes, .int o_length, .ref o_starts, .ref o_sizes, .ref o_glyphStarts, .int o_units, .int o_glyphs, .int o_ascent, .int o_descent, .int o_gap, .int o_longLoca, .int o_metrics, .int o_codes, .int o_codesSize, .int o_segments, .int o_pairs])), (o_bytes, .inl (cy 1, 4096, .inl o_bytes_f)), (o_starts, .inl (cy 0, 8, .inl o_starts_f)), (o_sizes, .inl (cy 0, 8, .inl o_sizes_f)), (o_glyphStarts, .inl (cy 0, 65, .inl o_glyphStarts_f))] → va_S A s.heap H locs → lv_has ls 6 [(0, .ref o), (1, .int x1), (2, .int x2), (3, .int x3), (4, .int x4), (5, .int x5)] → W p l e ({ frames := 0, cells := 0, slots := 0, locals := 0 } : Room) s m args below meth c H locs 0 0 (MQ below (va_Ql (fun r (_ : Unit) => r = uu) (fun _ t => va_P (dC, dI) classes [(o, .inr (7, [.ref o_bytes, .int o_length, .ref o_starts, .ref o_sizes, .ref o_glyphStarts, .int o_units, .int o_glyphs, .int o_ascent, .int o_descent, .int o_gap, .int o_longLoca, .int o_metrics, .int o_codes, .int o_codesSize, .int o_segments, .int o_pairs])), (o_bytes, .inl (cy 1, 4096, .inl o_bytes_f)), (o_starts, .inl (cy 0, 8, .inl o_starts_f)), (o_sizes, .inl (cy 0, 8, .inl o_sizes_f)), (o_glyphStarts, .inl (cy 0, 65, .inl o_glyphStarts_f))] t.heap ∧ va_K (dC, dI) classes (TY cy) t ∧ va_D A [(o, .inr (7, [.ref o_bytes, .int o_length, .ref o_starts, .ref o_sizes, .ref o_glyphStarts, .int o_units, .int o_glyphs, .int o_ascent, .int o_descent, .int o_gap, .int o_longLoca, .int o_metrics, .int o_codes, .int o_codesSize, .int o_segments, .int o_pairs])), (o_bytes, .inl (cy 1, 4096, .inl o_bytes_f)), (o_starts, .inl (cy 0, 8, .inl o_starts_f)), (o_sizes, .inl (cy 0, 8, .inl o_sizes_f)), (o_glyphStarts, .inl (cy 0, 65, .inl o_glyphStarts_f))]) A) args s 0 0 A) (F0 m 6 ls []) := by
  have key : ∀ (n : Nat) (x1 : Int32) (x2 : Int32) (x3 : Int32) (x4 : Int32) (x5 : Int32) (H : Heap) (locs : List Loc) (ls : Array Slot), lp (L_Ff_sum_6 o_length o_bytes_f) n (x1, x2, x3, x4, x5) = some uu → va_P (dC, dI) classes [(o, .inr (7, [.ref o_bytes, .int o_length, .ref o_starts, .ref o_sizes, .ref o_glyphStarts, .int o_units, .int o_glyphs, .int o_ascent, .int o_descent, .int o_gap, .int o_longLoca, .int o_metrics, .int o_codes, .int o_codesSize, .int o_segments, .int o_pairs])), (o_bytes, .inl (cy 1, 4096, .inl o_bytes_f)), (o_starts, .inl (cy 0, 8, .inl o_starts_f)), (o_sizes, .inl (cy 0, 8, .inl o_sizes_f)), (o_glyphStarts, .inl (cy 0, 65, .inl o_glyphStarts_f))] H → va_D A [(o, .inr (7, [.ref o_bytes, .int o_length, .ref o_starts, .ref o_sizes, .ref o_glyphStarts, .int o_units, .int o_glyphs, .int o_ascent, .int o_descent, .int o_gap, .int o_longLoca, .int o_metrics, .int o_codes, .int o_codesSize, .int o_segments, .int o_pairs])), (o_bytes, .inl (cy 1, 4096, .inl o_bytes_f)), (o_starts, .inl (cy 0, 8, .inl o_starts_f)), (o_sizes, .inl (cy 0, 8, .inl o_sizes_f)), (o_glyphStarts, .inl (cy 0, 65, .inl o_glyphStarts_f))] → va_S A s.heap H locs → lv_has ls 6 [(0, .ref o), (1, .int x1), (2, .int x2), (3, .int x3), (4, .int x4), (5, .int x5)] → W p l e ({ frames := 0, cells := 0, slots := 0, locals := 0 } : Room) s m args below meth c H locs 0 0 (MQ below (va_Ql (fun r (_ : Unit) => r = uu) (fun _ t => va_P (dC, dI) classes [(o, .inr (7, [.ref o_bytes, .int o_length, .ref o_starts, .ref o_sizes, .ref o_glyphStarts, .int o_units, .int o_glyphs, .int o_ascent, .int o_descent, .int o_gap, .int o_longLoca, .int o_metrics, .int o_codes, .int o_codesSize, .int o_segments, .int o_pairs])), (o_bytes, .inl (cy 1, 4096, .inl o_bytes_f)), (o_starts, .inl (cy 0, 8, .inl o_starts_f)), (o_sizes, .inl (cy 0, 8, .inl o_sizes_f)), (o_glyphStarts, .inl (cy 0, 65, .inl o_glyphStarts_f))] t.heap ∧ va_K (dC, dI) classes (TY cy) t ∧ va_D A [(o, .inr (7, [.ref o_bytes, .int o_length, .ref o_starts, .ref o_sizes, .ref o_glyphStarts, .int o_units, .int o_glyphs, .int o_ascent, .int o_descent, .int o_gap, .int o_longLoca, .int o_metrics, .int o_codes, .int o_codesSize, .int o_segments, .int o_pairs])), (o_bytes, .inl (cy 1, 4096, .inl o_bytes_f)), (o_starts, .inl (cy 0, 8, .inl o_starts_f)), (o_sizes, .inl (cy 0, 8, .inl o_sizes_f)), (o_glyphStarts, .inl (cy 0, 65, .inl o_glyphStarts_f))]) A) args s 0 0 A) (F0 m 6 ls []) := by
    intro n
    induction n with
    | zero => intro x1 x2 x3 x4 x5 H locs ls h; cases h
    | succ n ih => intro x1 x2 x3 x4 x5 H locs ls h; exact w_Ff_sum_6b C0 o o_bytes o_starts o_sizes o_glyphStarts o_length o_units o_glyphs o_ascent o_descent o_gap o_longLoca o_metrics o_codes o_codesSize o_segments o_pairs o_bytes_f o_starts_f o_sizes_f o_glyphStarts_f a1 a2 a3 uu  (lp (L_Ff_sum_6 o_length o_bytes_f) n) ih x1 x2 x3 x4 x5 ((e_Ff_sum_6 o_length o_bytes_f n x1 x2 x3 x4 x5).symm.trans h)
  exact key fuel x1 x2 x3 x4 x5 H locs ls h
def P_Ff_sum (o_length : Int32) (o_bytes_f : Nat → Int32) (a1 : Int32) (a2 : Int32) (a3 : Int32) : Option (Int64) :=
  P_Ff_sum_6 o_length o_bytes_f a1 a2 a3 (0 : Int32) (0 : Int32)
set_option maxHeartbeats 4000000 in
set_option maxRecDepth 100000 in
theorem c_Ff_sum (l : Launch) (dC : Nat → ClassId) (dI : Nat → Nat → Nat) (cy : Nat → ClassId) (sz : Nat) (o : Nat) (o_bytes : Nat) (o_starts : Nat) (o_sizes : Nat) (o_glyphStarts : Nat) (o_length : Int32) (o_units : Int32) (o_glyphs : Int32) (o_ascent : Int32) (o_descent : Int32) (o_gap : Int32) (o_longLoca : Int32) (o_metrics : Int32) (o_codes : Int32) (o_codesSize : Int32) (o_segments : Int32) (o_pairs : Int32) (o_bytes_f : Nat → Int32) (o_starts_f : Nat → Int32) (o_sizes_f : Nat → Int32) (o_glyphStarts_f : Nat → Int32) (a1 : Int32) (a2 : Int32) (a3 : Int32) (uu : Int64) (h : P_Ff_sum o_length o_bytes_f a1 a2 a3 = some uu) : Met l y_Ff_sum (Cond.code y_Ff_sum b_Ff_sum 6 (some .long) :: G) ({ frames := 0, cells := 0, slots := 0, locals := 0 } : Room) (va_Pc [.ref o, .int a1, .int a2, .int a3] (fun U => U.heap.size = sz ∧ va_P (dC, dI) classes [(o, .inr (7, [.ref o_bytes, .int o_length, .ref o_starts, .ref o_sizes, .ref o_glyphStarts, .int o_units, .int o_glyphs, .int o_ascent, .int o_descent, .int o_gap, .int o_longLoca, .int o_metrics, .int o_codes, .int o_codesSize, .int o_segments, .int o_pairs])), (o_bytes, .inl (cy 1, 4096, .inl o_bytes_f)), (o_starts, .inl (cy 0, 8, .inl o_starts_f)), (o_sizes, .inl (cy 0, 8, .inl o_sizes_f)), (o_glyphStarts, .inl (cy 0, 65, .inl o_glyphStarts_f))] U.heap ∧ va_K (dC, dI) classes (TY cy) U ∧ va_D (fun _ => True) [(o, .inr (7, [.ref o_bytes, .int o_length, .ref o_starts, .ref o_sizes, .ref o_glyphStarts, .int o_units, .int o_glyphs, .int o_ascent, .int o_descent, .int o_gap, .int o_longLoca, .int o_metrics, .int o_codes, .int o_codesSize, .int o_segments, .int o_pairs])), (o_bytes, .inl (cy 1, 4096, .inl o_bytes_f)), (o_starts, .inl (cy 0, 8, .inl o_starts_f)), (o_sizes, .inl (cy 0, 8, .inl o_sizes_f)), (o_glyphStarts, .inl (cy 0, 65, .inl o_glyphStarts_f))])) (va_Ql (fun r (_ : Unit) => r = uu) (fun _ t => va_P (dC, dI) classes [(o, .inr (7, [.ref o_bytes, .int o_length, .ref o_starts, .ref o_sizes, .ref o_glyphStarts, .int o_units, .int o_glyphs, .int o_ascent, .int o_descent, .int o_gap, .int o_longLoca, .int o_metrics, .int o_codes, .int o_codesSize, .int o_segments, .int o_pairs])), (o_bytes, .inl (cy 1, 4096, .inl o_bytes_f)), (o_starts, .inl (cy 0, 8, .inl o_starts_f)), (o_sizes, .inl (cy 0, 8, .inl o_sizes_f)), (o_glyphStarts, .inl (cy 0, 65, .inl o_glyphStarts_f))] t.heap ∧ va_K (dC, dI) classes (TY cy) t ∧ va_D (va_A [(o, .inr (7, [.ref o_bytes, .int o_length, .ref o_starts, .ref o_sizes, .ref o_glyphStarts, .int o_units, .int o_glyphs, .int o_ascent, .int o_descent, .int o_gap, .int o_longLoca, .int o_metrics, .int o_codes, .int o_codesSize, .int o_segments, .int o_pairs])), (o_bytes, .inl (cy 1, 4096, .inl o_bytes_f)), (o_starts, .inl (cy 0, 8, .inl o_starts_f)), (o_sizes, .inl (cy 0, 8, .inl o_sizes_f)), (o_glyphStarts, .inl (cy 0, 65, .inl o_glyphStarts_f))] sz) [(o, .inr (7, [.ref o_bytes, .int o_length, .ref o_starts, .ref o_sizes, .ref o_glyphStarts, .int o_units, .int o_glyphs, .int o_ascent, .int o_descent, .int o_gap, .int o_longLoca, .int o_metrics, .int o_codes, .int o_codesSize, .int o_segments, .int o_pairs])), (o_bytes, .inl (cy 1, 4096, .inl o_bytes_f)), (o_starts, .inl (cy 0, 8, .inl o_starts_f)), (o_sizes, .inl (cy 0, 8, .inl o_sizes_f)), (o_glyphStarts, .inl (cy 0, 65, .inl o_glyphStarts_f))]) (va_A [(o, .inr (7, [.ref o_bytes, .int o_length, .ref o_starts, .ref o_sizes, .ref o_glyphStarts, .int o_units, .int o_glyphs, .int o_ascent, .int o_descent, .int o_gap, .int o_longLoca, .int o_metrics, .int o_codes, .int o_codesSize, .int o_segments, .int o_pairs])), (o_bytes, .inl (cy 1, 4096, .inl o_bytes_f)), (o_starts, .inl (cy 0, 8, .inl o_starts_f)), (o_sizes, .inl (cy 0, 8, .inl o_sizes_f)), (o_glyphStarts, .inl (cy 0, 65, .inl o_glyphStarts_f))] sz)) 0 0 (va_A [(o, .inr (7, [.ref o_bytes, .int o_length, .ref o_starts, .ref o_sizes, .ref o_glyphStarts, .int o_units, .int o_glyphs, .int o_ascent, .int o_descent, .int o_gap, .int o_longLoca, .int o_metrics, .int o_codes, .int o_codesSize, .int o_segments, .int o_pairs])), (o_bytes, .inl (cy 1, 4096, .inl o_bytes_f)), (o_starts, .inl (cy 0, 8, .inl o_starts_f)), (o_sizes, .inl (cy 0, 8, .inl o_sizes_f)), (o_glyphStarts, .inl (cy 0, 65, .inl o_glyphStarts_f))] sz) := by
  refine Met.ofW (cc := b_Ff_sum) (maxL := 6) (ret := (some .long)) (by decide) rfl ?_
  intro p e s m args below meth c s₁ B hml hv
  obtain ⟨rfl, hsz, hP, hK, hD0⟩ := hv
  have hx := B.exec
  have hb := B.bytes
  have hr := B.returns
  have hts := atoms_spec (ws := Cond.code y_Ff_sum b_Ff_sum 6 (some .long) :: G) B.pre
  have htsG : ∀ w ∈ G, w.before _ s = true := fun w hw => hts w (List.mem_cons_of_mem _ hw)
  have hown : s.vm.findClass "GlyphPage$FontFile" = some m.cls := findClass_of_methodNamed B.named
  have hlocks := B.notSynchronized
  subst hsz
  have hD := hD0.self (sz := s.heap.size)
  generalize hAe : va_A [(o, .inr (7, [.ref o_bytes, .int o_length, .ref o_starts, .ref o_sizes, .ref o_glyphStarts, .int o_units, .int o_glyphs, .int o_ascent, .int o_descent, .int o_gap, .int o_longLoca, .int o_metrics, .int o_codes, .int o_codesSize, .int o_segments, .int o_pairs])), (o_bytes, .inl (cy 1, 4096, .inl o_bytes_f)), (o_starts, .inl (cy 0, 8, .inl o_starts_f)), (o_sizes, .inl (cy 0, 8, .inl o_sizes_f)), (o_glyphStarts, .inl (cy 0, 65, .inl o_glyphStarts_f))] s.heap.size = A at hD ⊢
  have hA : ∀ q : Nat, s.heap.size ≤ q → A q := fun q h => by rw [← hAe]; exact Or.inr h
  have hS : va_S A s.heap s.heap [] := va_S.rf
  have hl := lv_entry ([.ref o, .int a1, .int a2, .int a3]) (n := 6) (Nat.le_of_ble_eq_true rfl)
  rw [lg_entry_eq]
  generalize (lg_sl ([.ref o, .int a1, .int a2, .int a3]) ++ List.replicate (6 - (lg_sl ([.ref o, .int a1, .int a2, .int a3])).length) Slot.unset).toArray = ls at hl ⊢
  have hl : lv_has ls 6 [(0, .ref o), (1, .int a1), (2, .int a2), (3, .int a3)] := hl
  have C0 : Cx p s m _ meth c A dC dI cy b_Ff_sum 6 (some .long) "GlyphPage$FontFile" := ⟨hx, hb, hr, hlocks, hml, hown, htsG, hA, hK⟩
  unfold P_Ff_sum at h
  refine lv_iconst (v := (0 : Int32)) hx hb d_Ff_sum_0 (by decide) ?_
  refine lv_istore (lv' := [(4, .int (0 : Int32)), (0, .ref o), (1, .int a1), (2, .int a2), (3, .int a3)]) hx hb d_Ff_sum_1 hl (by decide) rfl (fun ls hl => ?_)
  refine lv_iconst (v := (0 : Int32)) hx hb d_Ff_sum_3 (by decide) ?_
  refine lv_istore (lv' := [(5, .int (0 : Int32)), (4, .int (0 : Int32)), (0, .ref o), (1, .int a1), (2, .int a2), (3, .int a3)]) hx hb d_Ff_sum_4 hl (by decide) rfl (fun ls hl => ?_)
  exact w_Ff_sum_6 C0 o o_bytes o_starts o_sizes o_glyphStarts o_length o_units o_glyphs o_ascent o_descent o_gap o_longLoca o_metrics o_codes o_codesSize o_segments o_pairs o_bytes_f o_starts_f o_sizes_f o_glyphStarts_f a1 a2 a3 uu  a1 a2 a3 (0 : Int32) (0 : Int32) h hP hD hS (lv_sub hl [2, 3, 4, 5, 1, 0] rfl)
end
