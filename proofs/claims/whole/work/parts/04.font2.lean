theorem mW304 : (Jvm.Cond.fieldLink "GlyphPage$FontFile" (13 : Nat) "GlyphPage$FontFile" "sizes" "[I") ∈ G := inG (inT2 (List.mem_of_getElem? (i := 64) rfl)) rfl
theorem mW305 : (Jvm.Cond.fieldLink "GlyphPage$FontFile" (16 : Nat) "GlyphPage$FontFile" "glyphStarts" "[I") ∈ G := inG (inT2 (List.mem_of_getElem? (i := 65) rfl)) rfl
theorem mW309 : (Jvm.Cond.fieldLink "GlyphPage$FontFile" (23 : Nat) "GlyphPage$FontFile" "glyphs" "I") ∈ G := inG (inT2 (List.mem_of_getElem? (i := 69) rfl)) rfl
theorem mW312 : (Jvm.Cond.fieldLink "GlyphPage$FontFile" (26 : Nat) "GlyphPage$FontFile" "ascent" "I") ∈ G := inG (inT2 (List.mem_of_getElem? (i := 72) rfl)) rfl
theorem mW314 : (Jvm.Cond.fieldLink "GlyphPage$FontFile" (29 : Nat) "GlyphPage$FontFile" "descent" "I") ∈ G := inG (inT2 (List.mem_of_getElem? (i := 74) rfl)) rfl
theorem mW316 : (Jvm.Cond.fieldLink "GlyphPage$FontFile" (32 : Nat) "GlyphPage$FontFile" "gap" "I") ∈ G := inG (inT2 (List.mem_of_getElem? (i := 76) rfl)) rfl
theorem mW320 : (Jvm.Cond.fieldLink "GlyphPage$FontFile" (42 : Nat) "GlyphPage$FontFile" "codes" "I") ∈ G := inG (inT2 (List.mem_of_getElem? (i := 80) rfl)) rfl
theorem mW321 : (Jvm.Cond.fieldLink "GlyphPage$FontFile" (45 : Nat) "GlyphPage$FontFile" "codesSize" "I") ∈ G := inG (inT2 (List.mem_of_getElem? (i := 81) rfl)) rfl
theorem mW322 : (Jvm.Cond.fieldLink "GlyphPage$FontFile" (48 : Nat) "GlyphPage$FontFile" "segments" "I") ∈ G := inG (inT2 (List.mem_of_getElem? (i := 82) rfl)) rfl
theorem mW323 : (Jvm.Cond.fieldLink "GlyphPage$FontFile" (51 : Nat) "GlyphPage$FontFile" "pairs" "I") ∈ G := inG (inT2 (List.mem_of_getElem? (i := 83) rfl)) rfl
theorem mW374 : (Jvm.Cond.constantLong "GlyphPage$FontFile" (106 : Nat) (-1 : Int64)) ∈ G := inG (inT2 (List.mem_of_getElem? (i := 134) rfl)) rfl
theorem mW391 : (Jvm.Cond.constantLong "GlyphPage$FontFile" (123 : Nat) (1594834165 : Int64)) ∈ G := inG (inT2 (List.mem_of_getElem? (i := 151) rfl)) rfl
theorem mW400 : (Jvm.Cond.methodLink "GlyphPage$FontFile" (125 : Nat) ({ cls := "GlyphPage$FontFile", name := "signedAt", desc := "(I)I" } : Jvm.MethodName)) ∈ G := inG (inT2 (List.mem_of_getElem? (i := 160) rfl)) rfl
theorem mW402 : (Jvm.Cond.instanceMethod ({ cls := "GlyphPage$FontFile", name := "signedAt", desc := "(I)I" } : Jvm.MethodName)) ∈ G := inG (inT2 (List.mem_of_getElem? (i := 162) rfl)) rfl
theorem mW403 : (Jvm.Cond.code ({ cls := "GlyphPage$FontFile", name := "signedAt", desc := "(I)I" } : Jvm.MethodName) prog_3_method_4_code (2 : Nat) (Option.some Jvm.ClassFile.FieldType.int)) ∈ G := inG (inT2 (List.mem_of_getElem? (i := 163) rfl)) rfl
theorem mW404 : (Jvm.Cond.methodLink "GlyphPage$FontFile" (128 : Nat) ({ cls := "GlyphPage$FontFile", name := "isModest", desc := "(I)Z" } : Jvm.MethodName)) ∈ G := inG (inT2 (List.mem_of_getElem? (i := 164) rfl)) rfl
theorem mW406 : (Jvm.Cond.instanceMethod ({ cls := "GlyphPage$FontFile", name := "isModest", desc := "(I)Z" } : Jvm.MethodName)) ∈ G := inG (inT2 (List.mem_of_getElem? (i := 166) rfl)) rfl
theorem mW407 : (Jvm.Cond.code ({ cls := "GlyphPage$FontFile", name := "isModest", desc := "(I)Z" } : Jvm.MethodName) prog_3_method_12_code (2 : Nat) (Option.some Jvm.ClassFile.FieldType.boolean)) ∈ G := inG (inT2 (List.mem_of_getElem? (i := 167) rfl)) rfl
theorem mW412 : (Jvm.Cond.methodLink "GlyphPage$FontFile" (132 : Nat) ({ cls := "GlyphPage$FontFile", name := "advanceOf", desc := "(I)I" } : Jvm.MethodName)) ∈ G := inG (inT2 (List.mem_of_getElem? (i := 172) rfl)) rfl
theorem mW413 : (Jvm.Cond.instanceMethod ({ cls := "GlyphPage$FontFile", name := "advanceOf", desc := "(I)I" } : Jvm.MethodName)) ∈ G := inG (inT2 (List.mem_of_getElem? (i := 173) rfl)) rfl
theorem mW414 : (Jvm.Cond.selects "GlyphPage$FontFile" ({ cls := "GlyphPage$FontFile", name := "advanceOf", desc := "(I)I" } : Jvm.MethodName) ({ cls := "GlyphPage$FontFile", name := "advanceOf", desc := "(I)I" } : Jvm.MethodName)) ∈ G := inG (inT2 (List.mem_of_getElem? (i := 174) rfl)) rfl
theorem mW415 : (Jvm.Cond.code ({ cls := "GlyphPage$FontFile", name := "advanceOf", desc := "(I)I" } : Jvm.MethodName) prog_3_method_14_code (2 : Nat) (Option.some Jvm.ClassFile.FieldType.int)) ∈ G := inG (inT2 (List.mem_of_getElem? (i := 175) rfl)) rfl
theorem mW421 : (Jvm.Cond.methodLink "GlyphPage$FontFile" (141 : Nat) ({ cls := "GlyphPage$FontFile", name := "locaAt", desc := "(I)J" } : Jvm.MethodName)) ∈ G := inG (inT2 (List.mem_of_getElem? (i := 181) rfl)) rfl
theorem mW423 : (Jvm.Cond.instanceMethod ({ cls := "GlyphPage$FontFile", name := "locaAt", desc := "(I)J" } : Jvm.MethodName)) ∈ G := inG (inT2 (List.mem_of_getElem? (i := 183) rfl)) rfl
theorem mW424 : (Jvm.Cond.code ({ cls := "GlyphPage$FontFile", name := "locaAt", desc := "(I)J" } : Jvm.MethodName) prog_3_method_16_code (3 : Nat) (Option.some Jvm.ClassFile.FieldType.long)) ∈ G := inG (inT2 (List.mem_of_getElem? (i := 184) rfl)) rfl
theorem mW430 : (Jvm.Cond.methodLink "GlyphPage$FontFile" (146 : Nat) ({ cls := "GlyphPage$FontFile", name := "readCodes", desc := "(J)Z" } : Jvm.MethodName)) ∈ G := inG (inT2 (List.mem_of_getElem? (i := 190) rfl)) rfl
theorem mW432 : (Jvm.Cond.instanceMethod ({ cls := "GlyphPage$FontFile", name := "readCodes", desc := "(J)Z" } : Jvm.MethodName)) ∈ G := inG (inT2 (List.mem_of_getElem? (i := 192) rfl)) rfl
theorem mW433 : (Jvm.Cond.code ({ cls := "GlyphPage$FontFile", name := "readCodes", desc := "(J)Z" } : Jvm.MethodName) prog_3_method_18_code (4 : Nat) (Option.some Jvm.ClassFile.FieldType.boolean)) ∈ G := inG (inT2 (List.mem_of_getElem? (i := 193) rfl)) rfl
theorem mW434 : (Jvm.Cond.constantLong "GlyphPage$FontFile" (150 : Nat) (8 : Int64)) ∈ G := inG (inT2 (List.mem_of_getElem? (i := 194) rfl)) rfl
theorem mW512 : (Jvm.Cond.methodLink "GlyphPage$FontFile" (162 : Nat) ({ cls := "GlyphPage$FontFile", name := "pairAt", desc := "(I)J" } : Jvm.MethodName)) ∈ G := inG (inT3 (List.mem_of_getElem? (i := 32) rfl)) rfl
theorem mW514 : (Jvm.Cond.instanceMethod ({ cls := "GlyphPage$FontFile", name := "pairAt", desc := "(I)J" } : Jvm.MethodName)) ∈ G := inG (inT3 (List.mem_of_getElem? (i := 34) rfl)) rfl
theorem mW515 : (Jvm.Cond.code ({ cls := "GlyphPage$FontFile", name := "pairAt", desc := "(I)J" } : Jvm.MethodName) prog_3_method_23_code (2 : Nat) (Option.some Jvm.ClassFile.FieldType.long)) ∈ G := inG (inT3 (List.mem_of_getElem? (i := 35) rfl)) rfl
theorem mW529 : (Jvm.Cond.methodLink "GlyphPage$FontFile" (152 : Nat) ({ cls := "GlyphPage$FontFile", name := "glyphInSegment", desc := "(II)I" } : Jvm.MethodName)) ∈ G := inG (inT3 (List.mem_of_getElem? (i := 49) rfl)) rfl
theorem mW531 : (Jvm.Cond.instanceMethod ({ cls := "GlyphPage$FontFile", name := "glyphInSegment", desc := "(II)I" } : Jvm.MethodName)) ∈ G := inG (inT3 (List.mem_of_getElem? (i := 51) rfl)) rfl
theorem mW532 : (Jvm.Cond.code ({ cls := "GlyphPage$FontFile", name := "glyphInSegment", desc := "(II)I" } : Jvm.MethodName) prog_3_method_20_code (9 : Nat) (Option.some Jvm.ClassFile.FieldType.int)) ∈ G := inG (inT3 (List.mem_of_getElem? (i := 52) rfl)) rfl
theorem mW533 : (Jvm.Cond.constant "GlyphPage$FontFile" (155 : Nat) (65535 : Int32)) ∈ G := inG (inT3 (List.mem_of_getElem? (i := 53) rfl)) rfl
theorem mS_Ff_glyphInSegment : Cond.selects "GlyphPage$FontFile" ⟨"GlyphPage$FontFile", "glyphInSegment", "(II)I"⟩ ⟨"GlyphPage$FontFile", "glyphInSegment", "(II)I"⟩ ∈ G := inGp (q := (⟨"GlyphPage$FontFile", "glyphInSegment", "(II)I"⟩, 16)) (List.mem_append_right _ (List.mem_append_left _ (List.mem_of_getElem? (i := 9) rfl))) rfl
theorem mS_Ff_isModest : Cond.selects "GlyphPage$FontFile" ⟨"GlyphPage$FontFile", "isModest", "(I)Z"⟩ ⟨"GlyphPage$FontFile", "isModest", "(I)Z"⟩ ∈ G := inGp (q := (⟨"GlyphPage$FontFile", "isModest", "(I)Z"⟩, 16)) (List.mem_append_left _ (List.mem_of_getElem? (i := 10) rfl)) rfl
theorem mS_Ff_locaAt : Cond.selects "GlyphPage$FontFile" ⟨"GlyphPage$FontFile", "locaAt", "(I)J"⟩ ⟨"GlyphPage$FontFile", "locaAt", "(I)J"⟩ ∈ G := inGp (q := (⟨"GlyphPage$FontFile", "locaAt", "(I)J"⟩, 16)) (List.mem_append_left _ (List.mem_of_getElem? (i := 13) rfl)) rfl
theorem mS_Ff_pairAt : Cond.selects "GlyphPage$FontFile" ⟨"GlyphPage$FontFile", "pairAt", "(I)J"⟩ ⟨"GlyphPage$FontFile", "pairAt", "(I)J"⟩ ∈ G := inGp (q := (⟨"GlyphPage$FontFile", "pairAt", "(I)J"⟩, 16)) (List.mem_append_right _ (List.mem_append_left _ (List.mem_of_getElem? (i := 8) rfl))) rfl
theorem mS_Ff_readCodes : Cond.selects "GlyphPage$FontFile" ⟨"GlyphPage$FontFile", "readCodes", "(J)Z"⟩ ⟨"GlyphPage$FontFile", "readCodes", "(J)Z"⟩ ∈ G := inGp (q := (⟨"GlyphPage$FontFile", "readCodes", "(J)Z"⟩, 16)) (List.mem_append_left _ (List.mem_of_getElem? (i := 15) rfl)) rfl
theorem mS_Ff_signedAt : Cond.selects "GlyphPage$FontFile" ⟨"GlyphPage$FontFile", "signedAt", "(I)I"⟩ ⟨"GlyphPage$FontFile", "signedAt", "(I)I"⟩ ∈ G := inGp (q := (⟨"GlyphPage$FontFile", "signedAt", "(I)I"⟩, 16)) (List.mem_append_left _ (List.mem_of_getElem? (i := 9) rfl)) rfl
abbrev b_Ff_readHead : ByteArray := prog_3_method_9_code
def y_Ff_readHead : MethodName := ⟨"GlyphPage$FontFile", "readHead", "()Z"⟩
theorem d_Ff_readHead_0 : decode b_Ff_readHead 0 = .ok (.aload_n 0, 1) := by decide +kernel
theorem d_Ff_readHead_1 : decode b_Ff_readHead 1 = .ok (.getfield 9, 3) := by decide +kernel
theorem d_Ff_readHead_4 : decode b_Ff_readHead 4 = .ok (.iconst 2, 1) := by decide +kernel
theorem d_Ff_readHead_5 : decode b_Ff_readHead 5 = .ok (.iaload, 1) := by decide +kernel
theorem d_Ff_readHead_6 : decode b_Ff_readHead 6 = .ok (.istore_n 1, 1) := by decide +kernel
theorem d_Ff_readHead_7 : decode b_Ff_readHead 7 = .ok (.aload_n 0, 1) := by decide +kernel
theorem d_Ff_readHead_8 : decode b_Ff_readHead 8 = .ok (.getfield 13, 3) := by decide +kernel
theorem d_Ff_readHead_11 : decode b_Ff_readHead 11 = .ok (.iconst 2, 1) := by decide +kernel
theorem d_Ff_readHead_12 : decode b_Ff_readHead 12 = .ok (.iaload, 1) := by decide +kernel
theorem d_Ff_readHead_13 : decode b_Ff_readHead 13 = .ok (.bipush 54, 2) := by decide +kernel
theorem d_Ff_readHead_15 : decode b_Ff_readHead 15 = .ok (.if_icmp .lt 18, 3) := by decide +kernel
theorem d_Ff_readHead_18 : decode b_Ff_readHead 18 = .ok (.aload_n 0, 1) := by decide +kernel
theorem d_Ff_readHead_19 : decode b_Ff_readHead 19 = .ok (.iload_n 1, 1) := by decide +kernel
theorem d_Ff_readHead_20 : decode b_Ff_readHead 20 = .ok (.bipush 12, 2) := by decide +kernel
theorem d_Ff_readHead_22 : decode b_Ff_readHead 22 = .ok (.iadd, 1) := by decide +kernel
theorem d_Ff_readHead_23 : decode b_Ff_readHead 23 = .ok (.invokevirtual 100, 3) := by decide +kernel
theorem d_Ff_readHead_26 : decode b_Ff_readHead 26 = .ok (.ldc2_w 123, 3) := by decide +kernel
theorem d_Ff_readHead_29 : decode b_Ff_readHead 29 = .ok (.lcmp, 1) := by decide +kernel
theorem d_Ff_readHead_30 : decode b_Ff_readHead 30 = .ok (.ifCond .eq 5, 3) := by decide +kernel
theorem d_Ff_readHead_33 : decode b_Ff_readHead 33 = .ok (.iconst 0, 1) := by decide +kernel
theorem d_Ff_readHead_34 : decode b_Ff_readHead 34 = .ok (.ireturn, 1) := by decide +kernel
theorem d_Ff_readHead_35 : decode b_Ff_readHead 35 = .ok (.aload_n 0, 1) := by decide +kernel
theorem d_Ff_readHead_36 : decode b_Ff_readHead 36 = .ok (.aload_n 0, 1) := by decide +kernel
theorem d_Ff_readHead_37 : decode b_Ff_readHead 37 = .ok (.iload_n 1, 1) := by decide +kernel
theorem d_Ff_readHead_38 : decode b_Ff_readHead 38 = .ok (.bipush 18, 2) := by decide +kernel
theorem d_Ff_readHead_40 : decode b_Ff_readHead 40 = .ok (.iadd, 1) := by decide +kernel
theorem d_Ff_readHead_41 : decode b_Ff_readHead 41 = .ok (.invokevirtual 96, 3) := by decide +kernel
theorem d_Ff_readHead_44 : decode b_Ff_readHead 44 = .ok (.putfield 19, 3) := by decide +kernel
theorem d_Ff_readHead_47 : decode b_Ff_readHead 47 = .ok (.aload_n 0, 1) := by decide +kernel
theorem d_Ff_readHead_48 : decode b_Ff_readHead 48 = .ok (.aload_n 0, 1) := by decide +kernel
theorem d_Ff_readHead_49 : decode b_Ff_readHead 49 = .ok (.iload_n 1, 1) := by decide +kernel
theorem d_Ff_readHead_50 : decode b_Ff_readHead 50 = .ok (.bipush 50, 2) := by decide +kernel
theorem d_Ff_readHead_52 : decode b_Ff_readHead 52 = .ok (.iadd, 1) := by decide +kernel
theorem d_Ff_readHead_53 : decode b_Ff_readHead 53 = .ok (.invokevirtual 96, 3) := by decide +kernel
theorem d_Ff_readHead_56 : decode b_Ff_readHead 56 = .ok (.iconst 1, 1) := by decide +kernel
theorem d_Ff_readHead_57 : decode b_Ff_readHead 57 = .ok (.if_icmp .ne 7, 3) := by decide +kernel
theorem d_Ff_readHead_60 : decode b_Ff_readHead 60 = .ok (.iconst 1, 1) := by decide +kernel
theorem d_Ff_readHead_61 : decode b_Ff_readHead 61 = .ok (.goto 4, 3) := by decide +kernel
theorem d_Ff_readHead_64 : decode b_Ff_readHead 64 = .ok (.iconst 0, 1) := by decide +kernel
theorem d_Ff_readHead_65 : decode b_Ff_readHead 65 = .ok (.putfield 35, 3) := by decide +kernel
theorem d_Ff_readHead_68 : decode b_Ff_readHead 68 = .ok (.aload_n 0, 1) := by decide +kernel
theorem d_Ff_readHead_69 : decode b_Ff_readHead 69 = .ok (.getfield 19, 3) := by decide +kernel
theorem d_Ff_readHead_72 : decode b_Ff_readHead 72 = .ok (.bipush 16, 2) := by decide +kernel
theorem d_Ff_readHead_74 : decode b_Ff_readHead 74 = .ok (.if_icmp .lt 29, 3) := by decide +kernel
theorem d_Ff_readHead_77 : decode b_Ff_readHead 77 = .ok (.aload_n 0, 1) := by decide +kernel
theorem d_Ff_readHead_78 : decode b_Ff_readHead 78 = .ok (.getfield 19, 3) := by decide +kernel
theorem d_Ff_readHead_81 : decode b_Ff_readHead 81 = .ok (.sipush 16384, 3) := by decide +kernel
theorem d_Ff_readHead_84 : decode b_Ff_readHead 84 = .ok (.if_icmp .gt 19, 3) := by decide +kernel
theorem d_Ff_readHead_87 : decode b_Ff_readHead 87 = .ok (.aload_n 0, 1) := by decide +kernel
theorem d_Ff_readHead_88 : decode b_Ff_readHead 88 = .ok (.iload_n 1, 1) := by decide +kernel
theorem d_Ff_readHead_89 : decode b_Ff_readHead 89 = .ok (.bipush 50, 2) := by decide +kernel
theorem d_Ff_readHead_91 : decode b_Ff_readHead 91 = .ok (.iadd, 1) := by decide +kernel
theorem d_Ff_readHead_92 : decode b_Ff_readHead 92 = .ok (.invokevirtual 96, 3) := by decide +kernel
theorem d_Ff_readHead_95 : decode b_Ff_readHead 95 = .ok (.iconst 1, 1) := by decide +kernel
theorem d_Ff_readHead_96 : decode b_Ff_readHead 96 = .ok (.if_icmp .gt 7, 3) := by decide +kernel
theorem d_Ff_readHead_99 : decode b_Ff_readHead 99 = .ok (.iconst 1, 1) := by decide +kernel
theorem d_Ff_readHead_100 : decode b_Ff_readHead 100 = .ok (.goto 4, 3) := by decide +kernel
theorem d_Ff_readHead_103 : decode b_Ff_readHead 103 = .ok (.iconst 0, 1) := by decide +kernel
theorem d_Ff_readHead_104 : decode b_Ff_readHead 104 = .ok (.ireturn, 1) := by decide +kernel
abbrev b_Ff_readMaxp : ByteArray := prog_3_method_10_code
def y_Ff_readMaxp : MethodName := ⟨"GlyphPage$FontFile", "readMaxp", "()Z"⟩
theorem d_Ff_readMaxp_0 : decode b_Ff_readMaxp 0 = .ok (.aload_n 0, 1) := by decide +kernel
theorem d_Ff_readMaxp_1 : decode b_Ff_readMaxp 1 = .ok (.aload_n 0, 1) := by decide +kernel
theorem d_Ff_readMaxp_2 : decode b_Ff_readMaxp 2 = .ok (.aload_n 0, 1) := by decide +kernel
theorem d_Ff_readMaxp_3 : decode b_Ff_readMaxp 3 = .ok (.getfield 9, 3) := by decide +kernel
theorem d_Ff_readMaxp_6 : decode b_Ff_readMaxp 6 = .ok (.bipush 6, 2) := by decide +kernel
theorem d_Ff_readMaxp_8 : decode b_Ff_readMaxp 8 = .ok (.iaload, 1) := by decide +kernel
theorem d_Ff_readMaxp_9 : decode b_Ff_readMaxp 9 = .ok (.iconst 4, 1) := by decide +kernel
theorem d_Ff_readMaxp_10 : decode b_Ff_readMaxp 10 = .ok (.iadd, 1) := by decide +kernel
theorem d_Ff_readMaxp_11 : decode b_Ff_readMaxp 11 = .ok (.invokevirtual 96, 3) := by decide +kernel
theorem d_Ff_readMaxp_14 : decode b_Ff_readMaxp 14 = .ok (.putfield 23, 3) := by decide +kernel
theorem d_Ff_readMaxp_17 : decode b_Ff_readMaxp 17 = .ok (.aload_n 0, 1) := by decide +kernel
theorem d_Ff_readMaxp_18 : decode b_Ff_readMaxp 18 = .ok (.getfield 13, 3) := by decide +kernel
theorem d_Ff_readMaxp_21 : decode b_Ff_readMaxp 21 = .ok (.bipush 6, 2) := by decide +kernel
theorem d_Ff_readMaxp_23 : decode b_Ff_readMaxp 23 = .ok (.iaload, 1) := by decide +kernel
theorem d_Ff_readMaxp_24 : decode b_Ff_readMaxp 24 = .ok (.bipush 6, 2) := by decide +kernel
theorem d_Ff_readMaxp_26 : decode b_Ff_readMaxp 26 = .ok (.if_icmp .lt 24, 3) := by decide +kernel
theorem d_Ff_readMaxp_29 : decode b_Ff_readMaxp 29 = .ok (.aload_n 0, 1) := by decide +kernel
theorem d_Ff_readMaxp_30 : decode b_Ff_readMaxp 30 = .ok (.getfield 23, 3) := by decide +kernel
theorem d_Ff_readMaxp_33 : decode b_Ff_readMaxp 33 = .ok (.iconst 1, 1) := by decide +kernel
theorem d_Ff_readMaxp_34 : decode b_Ff_readMaxp 34 = .ok (.if_icmp .lt 16, 3) := by decide +kernel
theorem d_Ff_readMaxp_37 : decode b_Ff_readMaxp 37 = .ok (.aload_n 0, 1) := by decide +kernel
theorem d_Ff_readMaxp_38 : decode b_Ff_readMaxp 38 = .ok (.getfield 23, 3) := by decide +kernel
theorem d_Ff_readMaxp_41 : decode b_Ff_readMaxp 41 = .ok (.bipush 64, 2) := by decide +kernel
theorem d_Ff_readMaxp_43 : decode b_Ff_readMaxp 43 = .ok (.if_icmp .gt 7, 3) := by decide +kernel
theorem d_Ff_readMaxp_46 : decode b_Ff_readMaxp 46 = .ok (.iconst 1, 1) := by decide +kernel
theorem d_Ff_readMaxp_47 : decode b_Ff_readMaxp 47 = .ok (.goto 4, 3) := by decide +kernel
theorem d_Ff_readMaxp_50 : decode b_Ff_readMaxp 50 = .ok (.iconst 0, 1) := by decide +kernel
theorem d_Ff_readMaxp_51 : decode b_Ff_readMaxp 51 = .ok (.ireturn, 1) := by decide +kernel
abbrev b_Ff_readHhea : ByteArray := prog_3_method_11_code
def y_Ff_readHhea : MethodName := ⟨"GlyphPage$FontFile", "readHhea", "()Z"⟩
theorem d_Ff_readHhea_0 : decode b_Ff_readHhea 0 = .ok (.aload_n 0, 1) := by decide +kernel
theorem d_Ff_readHhea_1 : decode b_Ff_readHhea 1 = .ok (.getfield 9, 3) := by decide +kernel
theorem d_Ff_readHhea_4 : decode b_Ff_readHhea 4 = .ok (.iconst 3, 1) := by decide +kernel
theorem d_Ff_readHhea_5 : decode b_Ff_readHhea 5 = .ok (.iaload, 1) := by decide +kernel
theorem d_Ff_readHhea_6 : decode b_Ff_readHhea 6 = .ok (.istore_n 1, 1) := by decide +kernel
theorem d_Ff_readHhea_7 : decode b_Ff_readHhea 7 = .ok (.aload_n 0, 1) := by decide +kernel
theorem d_Ff_readHhea_8 : decode b_Ff_readHhea 8 = .ok (.aload_n 0, 1) := by decide +kernel
theorem d_Ff_readHhea_9 : decode b_Ff_readHhea 9 = .ok (.iload_n 1, 1) := by decide +kernel
theorem d_Ff_readHhea_10 : decode b_Ff_readHhea 10 = .ok (.iconst 4, 1) := by decide +kernel
theorem d_Ff_readHhea_11 : decode b_Ff_readHhea 11 = .ok (.iadd, 1) := by decide +kernel
theorem d_Ff_readHhea_12 : decode b_Ff_readHhea 12 = .ok (.invokevirtual 125, 3) := by decide +kernel
theorem d_Ff_readHhea_15 : decode b_Ff_readHhea 15 = .ok (.putfield 26, 3) := by decide +kernel
theorem d_Ff_readHhea_18 : decode b_Ff_readHhea 18 = .ok (.aload_n 0, 1) := by decide +kernel
theorem d_Ff_readHhea_19 : decode b_Ff_readHhea 19 = .ok (.aload_n 0, 1) := by decide +kernel
theorem d_Ff_readHhea_20 : decode b_Ff_readHhea 20 = .ok (.iload_n 1, 1) := by decide +kernel
theorem d_Ff_readHhea_21 : decode b_Ff_readHhea 21 = .ok (.bipush 6, 2) := by decide +kernel
theorem d_Ff_readHhea_23 : decode b_Ff_readHhea 23 = .ok (.iadd, 1) := by decide +kernel
theorem d_Ff_readHhea_24 : decode b_Ff_readHhea 24 = .ok (.invokevirtual 125, 3) := by decide +kernel
theorem d_Ff_readHhea_27 : decode b_Ff_readHhea 27 = .ok (.putfield 29, 3) := by decide +kernel
theorem d_Ff_readHhea_30 : decode b_Ff_readHhea 30 = .ok (.aload_n 0, 1) := by decide +kernel
theorem d_Ff_readHhea_31 : decode b_Ff_readHhea 31 = .ok (.aload_n 0, 1) := by decide +kernel
theorem d_Ff_readHhea_32 : decode b_Ff_readHhea 32 = .ok (.iload_n 1, 1) := by decide +kernel
theorem d_Ff_readHhea_33 : decode b_Ff_readHhea 33 = .ok (.bipush 8, 2) := by decide +kernel
theorem d_Ff_readHhea_35 : decode b_Ff_readHhea 35 = .ok (.iadd, 1) := by decide +kernel
theorem d_Ff_readHhea_36 : decode b_Ff_readHhea 36 = .ok (.invokevirtual 125, 3) := by decide +kernel
theorem d_Ff_readHhea_39 : decode b_Ff_readHhea 39 = .ok (.putfield 32, 3) := by decide +kernel
theorem d_Ff_readHhea_42 : decode b_Ff_readHhea 42 = .ok (.aload_n 0, 1) := by decide +kernel
theorem d_Ff_readHhea_43 : decode b_Ff_readHhea 43 = .ok (.aload_n 0, 1) := by decide +kernel
theorem d_Ff_readHhea_44 : decode b_Ff_readHhea 44 = .ok (.iload_n 1, 1) := by decide +kernel
theorem d_Ff_readHhea_45 : decode b_Ff_readHhea 45 = .ok (.bipush 34, 2) := by decide +kernel
theorem d_Ff_readHhea_47 : decode b_Ff_readHhea 47 = .ok (.iadd, 1) := by decide +kernel
theorem d_Ff_readHhea_48 : decode b_Ff_readHhea 48 = .ok (.invokevirtual 96, 3) := by decide +kernel
theorem d_Ff_readHhea_51 : decode b_Ff_readHhea 51 = .ok (.putfield 39, 3) := by decide +kernel
theorem d_Ff_readHhea_54 : decode b_Ff_readHhea 54 = .ok (.aload_n 0, 1) := by decide +kernel
theorem d_Ff_readHhea_55 : decode b_Ff_readHhea 55 = .ok (.getfield 13, 3) := by decide +kernel
theorem d_Ff_readHhea_58 : decode b_Ff_readHhea 58 = .ok (.iconst 3, 1) := by decide +kernel
theorem d_Ff_readHhea_59 : decode b_Ff_readHhea 59 = .ok (.iaload, 1) := by decide +kernel
theorem d_Ff_readHhea_60 : decode b_Ff_readHhea 60 = .ok (.bipush 36, 2) := by decide +kernel
theorem d_Ff_readHhea_62 : decode b_Ff_readHhea 62 = .ok (.if_icmp .lt 59, 3) := by decide +kernel
theorem d_Ff_readHhea_65 : decode b_Ff_readHhea 65 = .ok (.aload_n 0, 1) := by decide +kernel
theorem d_Ff_readHhea_66 : decode b_Ff_readHhea 66 = .ok (.aload_n 0, 1) := by decide +kernel
theorem d_Ff_readHhea_67 : decode b_Ff_readHhea 67 = .ok (.getfield 26, 3) := by decide +kernel
theorem d_Ff_readHhea_70 : decode b_Ff_readHhea 70 = .ok (.invokevirtual 128, 3) := by decide +kernel
theorem d_Ff_readHhea_73 : decode b_Ff_readHhea 73 = .ok (.ifCond .eq 48, 3) := by decide +kernel
theorem d_Ff_readHhea_76 : decode b_Ff_readHhea 76 = .ok (.aload_n 0, 1) := by decide +kernel
theorem d_Ff_readHhea_77 : decode b_Ff_readHhea 77 = .ok (.aload_n 0, 1) := by decide +kernel
theorem d_Ff_readHhea_78 : decode b_Ff_readHhea 78 = .ok (.getfield 29, 3) := by decide +kernel
theorem d_Ff_readHhea_81 : decode b_Ff_readHhea 81 = .ok (.invokevirtual 128, 3) := by decide +kernel
theorem d_Ff_readHhea_84 : decode b_Ff_readHhea 84 = .ok (.ifCond .eq 37, 3) := by decide +kernel
theorem d_Ff_readHhea_87 : decode b_Ff_readHhea 87 = .ok (.aload_n 0, 1) := by decide +kernel
theorem d_Ff_readHhea_88 : decode b_Ff_readHhea 88 = .ok (.aload_n 0, 1) := by decide +kernel
theorem d_Ff_readHhea_89 : decode b_Ff_readHhea 89 = .ok (.getfield 32, 3) := by decide +kernel
theorem d_Ff_readHhea_92 : decode b_Ff_readHhea 92 = .ok (.invokevirtual 128, 3) := by decide +kernel
theorem d_Ff_readHhea_95 : decode b_Ff_readHhea 95 = .ok (.ifCond .eq 26, 3) := by decide +kernel
theorem d_Ff_readHhea_98 : decode b_Ff_readHhea 98 = .ok (.aload_n 0, 1) := by decide +kernel
theorem d_Ff_readHhea_99 : decode b_Ff_readHhea 99 = .ok (.getfield 39, 3) := by decide +kernel
theorem d_Ff_readHhea_102 : decode b_Ff_readHhea 102 = .ok (.iconst 1, 1) := by decide +kernel
theorem d_Ff_readHhea_103 : decode b_Ff_readHhea 103 = .ok (.if_icmp .lt 18, 3) := by decide +kernel
theorem d_Ff_readHhea_106 : decode b_Ff_readHhea 106 = .ok (.aload_n 0, 1) := by decide +kernel
theorem d_Ff_readHhea_107 : decode b_Ff_readHhea 107 = .ok (.getfield 39, 3) := by decide +kernel
theorem d_Ff_readHhea_110 : decode b_Ff_readHhea 110 = .ok (.aload_n 0, 1) := by decide +kernel
theorem d_Ff_readHhea_111 : decode b_Ff_readHhea 111 = .ok (.getfield 23, 3) := by decide +kernel
theorem d_Ff_readHhea_114 : decode b_Ff_readHhea 114 = .ok (.if_icmp .gt 7, 3) := by decide +kernel
theorem d_Ff_readHhea_117 : decode b_Ff_readHhea 117 = .ok (.iconst 1, 1) := by decide +kernel
theorem d_Ff_readHhea_118 : decode b_Ff_readHhea 118 = .ok (.goto 4, 3) := by decide +kernel
theorem d_Ff_readHhea_121 : decode b_Ff_readHhea 121 = .ok (.iconst 0, 1) := by decide +kernel
theorem d_Ff_readHhea_122 : decode b_Ff_readHhea 122 = .ok (.ireturn, 1) := by decide +kernel
abbrev b_Ff_hmtxIsSound : ByteArray := prog_3_method_13_code
def y_Ff_hmtxIsSound : MethodName := ⟨"GlyphPage$FontFile", "hmtxIsSound", "()Z"⟩
theorem d_Ff_hmtxIsSound_0 : decode b_Ff_hmtxIsSound 0 = .ok (.aload_n 0, 1) := by decide +kernel
theorem d_Ff_hmtxIsSound_1 : decode b_Ff_hmtxIsSound 1 = .ok (.getfield 13, 3) := by decide +kernel
theorem d_Ff_hmtxIsSound_4 : decode b_Ff_hmtxIsSound 4 = .ok (.iconst 4, 1) := by decide +kernel
theorem d_Ff_hmtxIsSound_5 : decode b_Ff_hmtxIsSound 5 = .ok (.iaload, 1) := by decide +kernel
theorem d_Ff_hmtxIsSound_6 : decode b_Ff_hmtxIsSound 6 = .ok (.iconst 4, 1) := by decide +kernel
theorem d_Ff_hmtxIsSound_7 : decode b_Ff_hmtxIsSound 7 = .ok (.aload_n 0, 1) := by decide +kernel
theorem d_Ff_hmtxIsSound_8 : decode b_Ff_hmtxIsSound 8 = .ok (.getfield 39, 3) := by decide +kernel
theorem d_Ff_hmtxIsSound_11 : decode b_Ff_hmtxIsSound 11 = .ok (.imul, 1) := by decide +kernel
theorem d_Ff_hmtxIsSound_12 : decode b_Ff_hmtxIsSound 12 = .ok (.iconst 2, 1) := by decide +kernel
theorem d_Ff_hmtxIsSound_13 : decode b_Ff_hmtxIsSound 13 = .ok (.aload_n 0, 1) := by decide +kernel
theorem d_Ff_hmtxIsSound_14 : decode b_Ff_hmtxIsSound 14 = .ok (.getfield 23, 3) := by decide +kernel
theorem d_Ff_hmtxIsSound_17 : decode b_Ff_hmtxIsSound 17 = .ok (.aload_n 0, 1) := by decide +kernel
theorem d_Ff_hmtxIsSound_18 : decode b_Ff_hmtxIsSound 18 = .ok (.getfield 39, 3) := by decide +kernel
theorem d_Ff_hmtxIsSound_21 : decode b_Ff_hmtxIsSound 21 = .ok (.isub, 1) := by decide +kernel
theorem d_Ff_hmtxIsSound_22 : decode b_Ff_hmtxIsSound 22 = .ok (.imul, 1) := by decide +kernel
theorem d_Ff_hmtxIsSound_23 : decode b_Ff_hmtxIsSound 23 = .ok (.iadd, 1) := by decide +kernel
theorem d_Ff_hmtxIsSound_24 : decode b_Ff_hmtxIsSound 24 = .ok (.if_icmp .ge 5, 3) := by decide +kernel
theorem d_Ff_hmtxIsSound_27 : decode b_Ff_hmtxIsSound 27 = .ok (.iconst 0, 1) := by decide +kernel
theorem d_Ff_hmtxIsSound_28 : decode b_Ff_hmtxIsSound 28 = .ok (.ireturn, 1) := by decide +kernel
theorem d_Ff_hmtxIsSound_29 : decode b_Ff_hmtxIsSound 29 = .ok (.iconst 0, 1) := by decide +kernel
theorem d_Ff_hmtxIsSound_30 : decode b_Ff_hmtxIsSound 30 = .ok (.istore_n 1, 1) := by decide +kernel
theorem d_Ff_hmtxIsSound_31 : decode b_Ff_hmtxIsSound 31 = .ok (.iload_n 1, 1) := by decide +kernel
theorem d_Ff_hmtxIsSound_32 : decode b_Ff_hmtxIsSound 32 = .ok (.aload_n 0, 1) := by decide +kernel
theorem d_Ff_hmtxIsSound_33 : decode b_Ff_hmtxIsSound 33 = .ok (.getfield 39, 3) := by decide +kernel
theorem d_Ff_hmtxIsSound_36 : decode b_Ff_hmtxIsSound 36 = .ok (.if_icmp .ge 23, 3) := by decide +kernel
theorem d_Ff_hmtxIsSound_39 : decode b_Ff_hmtxIsSound 39 = .ok (.aload_n 0, 1) := by decide +kernel
theorem d_Ff_hmtxIsSound_40 : decode b_Ff_hmtxIsSound 40 = .ok (.aload_n 0, 1) := by decide +kernel
theorem d_Ff_hmtxIsSound_41 : decode b_Ff_hmtxIsSound 41 = .ok (.iload_n 1, 1) := by decide +kernel
theorem d_Ff_hmtxIsSound_42 : decode b_Ff_hmtxIsSound 42 = .ok (.invokevirtual 132, 3) := by decide +kernel
theorem d_Ff_hmtxIsSound_45 : decode b_Ff_hmtxIsSound 45 = .ok (.invokevirtual 128, 3) := by decide +kernel
theorem d_Ff_hmtxIsSound_48 : decode b_Ff_hmtxIsSound 48 = .ok (.ifCond .ne 5, 3) := by decide +kernel
theorem d_Ff_hmtxIsSound_51 : decode b_Ff_hmtxIsSound 51 = .ok (.iconst 0, 1) := by decide +kernel
theorem d_Ff_hmtxIsSound_52 : decode b_Ff_hmtxIsSound 52 = .ok (.ireturn, 1) := by decide +kernel
theorem d_Ff_hmtxIsSound_53 : decode b_Ff_hmtxIsSound 53 = .ok (.iinc 1 1, 3) := by decide +kernel
theorem d_Ff_hmtxIsSound_56 : decode b_Ff_hmtxIsSound 56 = .ok (.goto (-25), 3) := by decide +kernel
theorem d_Ff_hmtxIsSound_59 : decode b_Ff_hmtxIsSound 59 = .ok (.iconst 1, 1) := by decide +kernel
theorem d_Ff_hmtxIsSound_60 : decode b_Ff_hmtxIsSound 60 = .ok (.ireturn, 1) := by decide +kernel
abbrev b_Ff_locaIsSound : ByteArray := prog_3_method_15_code
def y_Ff_locaIsSound : MethodName := ⟨"GlyphPage$FontFile", "locaIsSound", "()Z"⟩
theorem d_Ff_locaIsSound_0 : decode b_Ff_locaIsSound 0 = .ok (.aload_n 0, 1) := by decide +kernel
theorem d_Ff_locaIsSound_1 : decode b_Ff_locaIsSound 1 = .ok (.getfield 13, 3) := by decide +kernel
theorem d_Ff_locaIsSound_4 : decode b_Ff_locaIsSound 4 = .ok (.iconst 5, 1) := by decide +kernel
theorem d_Ff_locaIsSound_5 : decode b_Ff_locaIsSound 5 = .ok (.iaload, 1) := by decide +kernel
theorem d_Ff_locaIsSound_6 : decode b_Ff_locaIsSound 6 = .ok (.aload_n 0, 1) := by decide +kernel
theorem d_Ff_locaIsSound_7 : decode b_Ff_locaIsSound 7 = .ok (.getfield 23, 3) := by decide +kernel
theorem d_Ff_locaIsSound_10 : decode b_Ff_locaIsSound 10 = .ok (.iconst 1, 1) := by decide +kernel
theorem d_Ff_locaIsSound_11 : decode b_Ff_locaIsSound 11 = .ok (.iadd, 1) := by decide +kernel
theorem d_Ff_locaIsSound_12 : decode b_Ff_locaIsSound 12 = .ok (.aload_n 0, 1) := by decide +kernel
theorem d_Ff_locaIsSound_13 : decode b_Ff_locaIsSound 13 = .ok (.getfield 35, 3) := by decide +kernel
theorem d_Ff_locaIsSound_16 : decode b_Ff_locaIsSound 16 = .ok (.ifCond .eq 7, 3) := by decide +kernel
theorem d_Ff_locaIsSound_19 : decode b_Ff_locaIsSound 19 = .ok (.iconst 4, 1) := by decide +kernel
theorem d_Ff_locaIsSound_20 : decode b_Ff_locaIsSound 20 = .ok (.goto 4, 3) := by decide +kernel
theorem d_Ff_locaIsSound_23 : decode b_Ff_locaIsSound 23 = .ok (.iconst 2, 1) := by decide +kernel
theorem d_Ff_locaIsSound_24 : decode b_Ff_locaIsSound 24 = .ok (.imul, 1) := by decide +kernel
theorem d_Ff_locaIsSound_25 : decode b_Ff_locaIsSound 25 = .ok (.if_icmp .ge 5, 3) := by decide +kernel
theorem d_Ff_locaIsSound_28 : decode b_Ff_locaIsSound 28 = .ok (.iconst 0, 1) := by decide +kernel
theorem d_Ff_locaIsSound_29 : decode b_Ff_locaIsSound 29 = .ok (.ireturn, 1) := by decide +kernel
theorem d_Ff_locaIsSound_30 : decode b_Ff_locaIsSound 30 = .ok (.lconst 0, 1) := by decide +kernel
theorem d_Ff_locaIsSound_31 : decode b_Ff_locaIsSound 31 = .ok (.lstore_n 1, 1) := by decide +kernel
theorem d_Ff_locaIsSound_32 : decode b_Ff_locaIsSound 32 = .ok (.iconst 0, 1) := by decide +kernel
theorem d_Ff_locaIsSound_33 : decode b_Ff_locaIsSound 33 = .ok (.istore_n 3, 1) := by decide +kernel
theorem d_Ff_locaIsSound_34 : decode b_Ff_locaIsSound 34 = .ok (.iload_n 3, 1) := by decide +kernel
theorem d_Ff_locaIsSound_35 : decode b_Ff_locaIsSound 35 = .ok (.aload_n 0, 1) := by decide +kernel
theorem d_Ff_locaIsSound_36 : decode b_Ff_locaIsSound 36 = .ok (.getfield 23, 3) := by decide +kernel
theorem d_Ff_locaIsSound_39 : decode b_Ff_locaIsSound 39 = .ok (.if_icmp .gt 44, 3) := by decide +kernel
theorem d_Ff_locaIsSound_42 : decode b_Ff_locaIsSound 42 = .ok (.aload_n 0, 1) := by decide +kernel
theorem d_Ff_locaIsSound_43 : decode b_Ff_locaIsSound 43 = .ok (.iload_n 3, 1) := by decide +kernel
theorem d_Ff_locaIsSound_44 : decode b_Ff_locaIsSound 44 = .ok (.invokevirtual 141, 3) := by decide +kernel
theorem d_Ff_locaIsSound_47 : decode b_Ff_locaIsSound 47 = .ok (.lstore 4, 2) := by decide +kernel
theorem d_Ff_locaIsSound_49 : decode b_Ff_locaIsSound 49 = .ok (.lload 4, 2) := by decide +kernel
theorem d_Ff_locaIsSound_51 : decode b_Ff_locaIsSound 51 = .ok (.lload_n 1, 1) := by decide +kernel
theorem d_Ff_locaIsSound_52 : decode b_Ff_locaIsSound 52 = .ok (.lcmp, 1) := by decide +kernel
theorem d_Ff_locaIsSound_53 : decode b_Ff_locaIsSound 53 = .ok (.ifCond .ge 5, 3) := by decide +kernel
theorem d_Ff_locaIsSound_56 : decode b_Ff_locaIsSound 56 = .ok (.iconst 0, 1) := by decide +kernel
theorem d_Ff_locaIsSound_57 : decode b_Ff_locaIsSound 57 = .ok (.ireturn, 1) := by decide +kernel
theorem d_Ff_locaIsSound_58 : decode b_Ff_locaIsSound 58 = .ok (.lload 4, 2) := by decide +kernel
theorem d_Ff_locaIsSound_60 : decode b_Ff_locaIsSound 60 = .ok (.lstore_n 1, 1) := by decide +kernel
theorem d_Ff_locaIsSound_61 : decode b_Ff_locaIsSound 61 = .ok (.aload_n 0, 1) := by decide +kernel
theorem d_Ff_locaIsSound_62 : decode b_Ff_locaIsSound 62 = .ok (.getfield 16, 3) := by decide +kernel
theorem d_Ff_locaIsSound_65 : decode b_Ff_locaIsSound 65 = .ok (.iload_n 3, 1) := by decide +kernel
theorem d_Ff_locaIsSound_66 : decode b_Ff_locaIsSound 66 = .ok (.aload_n 0, 1) := by decide +kernel
theorem d_Ff_locaIsSound_67 : decode b_Ff_locaIsSound 67 = .ok (.getfield 9, 3) := by decide +kernel
theorem d_Ff_locaIsSound_70 : decode b_Ff_locaIsSound 70 = .ok (.iconst 1, 1) := by decide +kernel
theorem d_Ff_locaIsSound_71 : decode b_Ff_locaIsSound 71 = .ok (.iaload, 1) := by decide +kernel
theorem d_Ff_locaIsSound_72 : decode b_Ff_locaIsSound 72 = .ok (.lload 4, 2) := by decide +kernel
theorem d_Ff_locaIsSound_74 : decode b_Ff_locaIsSound 74 = .ok (.l2i, 1) := by decide +kernel
theorem d_Ff_locaIsSound_75 : decode b_Ff_locaIsSound 75 = .ok (.iadd, 1) := by decide +kernel
theorem d_Ff_locaIsSound_76 : decode b_Ff_locaIsSound 76 = .ok (.iastore, 1) := by decide +kernel
theorem d_Ff_locaIsSound_77 : decode b_Ff_locaIsSound 77 = .ok (.iinc 3 1, 3) := by decide +kernel
theorem d_Ff_locaIsSound_80 : decode b_Ff_locaIsSound 80 = .ok (.goto (-46), 3) := by decide +kernel
theorem d_Ff_locaIsSound_83 : decode b_Ff_locaIsSound 83 = .ok (.lload_n 1, 1) := by decide +kernel
theorem d_Ff_locaIsSound_84 : decode b_Ff_locaIsSound 84 = .ok (.aload_n 0, 1) := by decide +kernel
theorem d_Ff_locaIsSound_85 : decode b_Ff_locaIsSound 85 = .ok (.getfield 13, 3) := by decide +kernel
theorem d_Ff_locaIsSound_88 : decode b_Ff_locaIsSound 88 = .ok (.iconst 1, 1) := by decide +kernel
theorem d_Ff_locaIsSound_89 : decode b_Ff_locaIsSound 89 = .ok (.iaload, 1) := by decide +kernel
theorem d_Ff_locaIsSound_90 : decode b_Ff_locaIsSound 90 = .ok (.i2l, 1) := by decide +kernel
theorem d_Ff_locaIsSound_91 : decode b_Ff_locaIsSound 91 = .ok (.lcmp, 1) := by decide +kernel
theorem d_Ff_locaIsSound_92 : decode b_Ff_locaIsSound 92 = .ok (.ifCond .gt 7, 3) := by decide +kernel
theorem d_Ff_locaIsSound_95 : decode b_Ff_locaIsSound 95 = .ok (.iconst 1, 1) := by decide +kernel
theorem d_Ff_locaIsSound_96 : decode b_Ff_locaIsSound 96 = .ok (.goto 4, 3) := by decide +kernel
theorem d_Ff_locaIsSound_99 : decode b_Ff_locaIsSound 99 = .ok (.iconst 0, 1) := by decide +kernel
theorem d_Ff_locaIsSound_100 : decode b_Ff_locaIsSound 100 = .ok (.ireturn, 1) := by decide +kernel
abbrev b_Ff_readCodes : ByteArray := prog_3_method_18_code
def y_Ff_readCodes : MethodName := ⟨"GlyphPage$FontFile", "readCodes", "(J)Z"⟩
theorem d_Ff_readCodes_0 : decode b_Ff_readCodes 0 = .ok (.lload_n 1, 1) := by decide +kernel
theorem d_Ff_readCodes_1 : decode b_Ff_readCodes 1 = .ok (.ldc2_w 150, 3) := by decide +kernel
theorem d_Ff_readCodes_4 : decode b_Ff_readCodes 4 = .ok (.ladd, 1) := by decide +kernel
theorem d_Ff_readCodes_5 : decode b_Ff_readCodes 5 = .ok (.aload_n 0, 1) := by decide +kernel
theorem d_Ff_readCodes_6 : decode b_Ff_readCodes 6 = .ok (.getfield 13, 3) := by decide +kernel
theorem d_Ff_readCodes_9 : decode b_Ff_readCodes 9 = .ok (.iconst 0, 1) := by decide +kernel
theorem d_Ff_readCodes_10 : decode b_Ff_readCodes 10 = .ok (.iaload, 1) := by decide +kernel
theorem d_Ff_readCodes_11 : decode b_Ff_readCodes 11 = .ok (.i2l, 1) := by decide +kernel
theorem d_Ff_readCodes_12 : decode b_Ff_readCodes 12 = .ok (.lcmp, 1) := by decide +kernel
theorem d_Ff_readCodes_13 : decode b_Ff_readCodes 13 = .ok (.ifCond .le 5, 3) := by decide +kernel
theorem d_Ff_readCodes_16 : decode b_Ff_readCodes 16 = .ok (.iconst 0, 1) := by decide +kernel
theorem d_Ff_readCodes_17 : decode b_Ff_readCodes 17 = .ok (.ireturn, 1) := by decide +kernel
theorem d_Ff_readCodes_18 : decode b_Ff_readCodes 18 = .ok (.aload_n 0, 1) := by decide +kernel
theorem d_Ff_readCodes_19 : decode b_Ff_readCodes 19 = .ok (.aload_n 0, 1) := by decide +kernel
theorem d_Ff_readCodes_20 : decode b_Ff_readCodes 20 = .ok (.getfield 9, 3) := by decide +kernel
theorem d_Ff_readCodes_23 : decode b_Ff_readCodes 23 = .ok (.iconst 0, 1) := by decide +kernel
theorem d_Ff_readCodes_24 : decode b_Ff_readCodes 24 = .ok (.iaload, 1) := by decide +kernel
theorem d_Ff_readCodes_25 : decode b_Ff_readCodes 25 = .ok (.lload_n 1, 1) := by decide +kernel
theorem d_Ff_readCodes_26 : decode b_Ff_readCodes 26 = .ok (.l2i, 1) := by decide +kernel
theorem d_Ff_readCodes_27 : decode b_Ff_readCodes 27 = .ok (.iadd, 1) := by decide +kernel
theorem d_Ff_readCodes_28 : decode b_Ff_readCodes 28 = .ok (.putfield 42, 3) := by decide +kernel
theorem d_Ff_readCodes_31 : decode b_Ff_readCodes 31 = .ok (.aload_n 0, 1) := by decide +kernel
theorem d_Ff_readCodes_32 : decode b_Ff_readCodes 32 = .ok (.aload_n 0, 1) := by decide +kernel
theorem d_Ff_readCodes_33 : decode b_Ff_readCodes 33 = .ok (.aload_n 0, 1) := by decide +kernel
theorem d_Ff_readCodes_34 : decode b_Ff_readCodes 34 = .ok (.getfield 42, 3) := by decide +kernel
theorem d_Ff_readCodes_37 : decode b_Ff_readCodes 37 = .ok (.iconst 2, 1) := by decide +kernel
theorem d_Ff_readCodes_38 : decode b_Ff_readCodes 38 = .ok (.iadd, 1) := by decide +kernel
theorem d_Ff_readCodes_39 : decode b_Ff_readCodes 39 = .ok (.invokevirtual 96, 3) := by decide +kernel
theorem d_Ff_readCodes_42 : decode b_Ff_readCodes 42 = .ok (.putfield 45, 3) := by decide +kernel
theorem d_Ff_readCodes_45 : decode b_Ff_readCodes 45 = .ok (.aload_n 0, 1) := by decide +kernel
theorem d_Ff_readCodes_46 : decode b_Ff_readCodes 46 = .ok (.aload_n 0, 1) := by decide +kernel
theorem d_Ff_readCodes_47 : decode b_Ff_readCodes 47 = .ok (.getfield 42, 3) := by decide +kernel
theorem d_Ff_readCodes_50 : decode b_Ff_readCodes 50 = .ok (.bipush 6, 2) := by decide +kernel
theorem d_Ff_readCodes_52 : decode b_Ff_readCodes 52 = .ok (.iadd, 1) := by decide +kernel
theorem d_Ff_readCodes_53 : decode b_Ff_readCodes 53 = .ok (.invokevirtual 96, 3) := by decide +kernel
theorem d_Ff_readCodes_56 : decode b_Ff_readCodes 56 = .ok (.istore_n 3, 1) := by decide +kernel
theorem d_Ff_readCodes_57 : decode b_Ff_readCodes 57 = .ok (.aload_n 0, 1) := by decide +kernel
theorem d_Ff_readCodes_58 : decode b_Ff_readCodes 58 = .ok (.iload_n 3, 1) := by decide +kernel
theorem d_Ff_readCodes_59 : decode b_Ff_readCodes 59 = .ok (.iconst 2, 1) := by decide +kernel
theorem d_Ff_readCodes_60 : decode b_Ff_readCodes 60 = .ok (.idiv, 1) := by decide +kernel
theorem d_Ff_readCodes_61 : decode b_Ff_readCodes 61 = .ok (.putfield 48, 3) := by decide +kernel
theorem d_Ff_readCodes_64 : decode b_Ff_readCodes 64 = .ok (.aload_n 0, 1) := by decide +kernel
theorem d_Ff_readCodes_65 : decode b_Ff_readCodes 65 = .ok (.aload_n 0, 1) := by decide +kernel
theorem d_Ff_readCodes_66 : decode b_Ff_readCodes 66 = .ok (.getfield 42, 3) := by decide +kernel
theorem d_Ff_readCodes_69 : decode b_Ff_readCodes 69 = .ok (.invokevirtual 96, 3) := by decide +kernel
theorem d_Ff_readCodes_72 : decode b_Ff_readCodes 72 = .ok (.iconst 4, 1) := by decide +kernel
theorem d_Ff_readCodes_73 : decode b_Ff_readCodes 73 = .ok (.if_icmp .ne 56, 3) := by decide +kernel
theorem d_Ff_readCodes_76 : decode b_Ff_readCodes 76 = .ok (.lload_n 1, 1) := by decide +kernel
theorem d_Ff_readCodes_77 : decode b_Ff_readCodes 77 = .ok (.aload_n 0, 1) := by decide +kernel
theorem d_Ff_readCodes_78 : decode b_Ff_readCodes 78 = .ok (.getfield 45, 3) := by decide +kernel
theorem d_Ff_readCodes_81 : decode b_Ff_readCodes 81 = .ok (.i2l, 1) := by decide +kernel
theorem d_Ff_readCodes_82 : decode b_Ff_readCodes 82 = .ok (.ladd, 1) := by decide +kernel
theorem d_Ff_readCodes_83 : decode b_Ff_readCodes 83 = .ok (.aload_n 0, 1) := by decide +kernel
theorem d_Ff_readCodes_84 : decode b_Ff_readCodes 84 = .ok (.getfield 13, 3) := by decide +kernel
theorem d_Ff_readCodes_87 : decode b_Ff_readCodes 87 = .ok (.iconst 0, 1) := by decide +kernel
theorem d_Ff_readCodes_88 : decode b_Ff_readCodes 88 = .ok (.iaload, 1) := by decide +kernel
theorem d_Ff_readCodes_89 : decode b_Ff_readCodes 89 = .ok (.i2l, 1) := by decide +kernel
theorem d_Ff_readCodes_90 : decode b_Ff_readCodes 90 = .ok (.lcmp, 1) := by decide +kernel
theorem d_Ff_readCodes_91 : decode b_Ff_readCodes 91 = .ok (.ifCond .gt 38, 3) := by decide +kernel
theorem d_Ff_readCodes_94 : decode b_Ff_readCodes 94 = .ok (.iload_n 3, 1) := by decide +kernel
theorem d_Ff_readCodes_95 : decode b_Ff_readCodes 95 = .ok (.iconst 2, 1) := by decide +kernel
theorem d_Ff_readCodes_96 : decode b_Ff_readCodes 96 = .ok (.irem, 1) := by decide +kernel
theorem d_Ff_readCodes_97 : decode b_Ff_readCodes 97 = .ok (.ifCond .ne 32, 3) := by decide +kernel
theorem d_Ff_readCodes_100 : decode b_Ff_readCodes 100 = .ok (.aload_n 0, 1) := by decide +kernel
theorem d_Ff_readCodes_101 : decode b_Ff_readCodes 101 = .ok (.getfield 48, 3) := by decide +kernel
theorem d_Ff_readCodes_104 : decode b_Ff_readCodes 104 = .ok (.iconst 1, 1) := by decide +kernel
theorem d_Ff_readCodes_105 : decode b_Ff_readCodes 105 = .ok (.if_icmp .lt 24, 3) := by decide +kernel
theorem d_Ff_readCodes_108 : decode b_Ff_readCodes 108 = .ok (.bipush 16, 2) := by decide +kernel
theorem d_Ff_readCodes_110 : decode b_Ff_readCodes 110 = .ok (.bipush 8, 2) := by decide +kernel
theorem d_Ff_readCodes_112 : decode b_Ff_readCodes 112 = .ok (.aload_n 0, 1) := by decide +kernel
theorem d_Ff_readCodes_113 : decode b_Ff_readCodes 113 = .ok (.getfield 48, 3) := by decide +kernel
theorem d_Ff_readCodes_116 : decode b_Ff_readCodes 116 = .ok (.imul, 1) := by decide +kernel
theorem d_Ff_readCodes_117 : decode b_Ff_readCodes 117 = .ok (.iadd, 1) := by decide +kernel
theorem d_Ff_readCodes_118 : decode b_Ff_readCodes 118 = .ok (.aload_n 0, 1) := by decide +kernel
theorem d_Ff_readCodes_119 : decode b_Ff_readCodes 119 = .ok (.getfield 45, 3) := by decide +kernel
theorem d_Ff_readCodes_122 : decode b_Ff_readCodes 122 = .ok (.if_icmp .gt 7, 3) := by decide +kernel
theorem d_Ff_readCodes_125 : decode b_Ff_readCodes 125 = .ok (.iconst 1, 1) := by decide +kernel
theorem d_Ff_readCodes_126 : decode b_Ff_readCodes 126 = .ok (.goto 4, 3) := by decide +kernel
theorem d_Ff_readCodes_129 : decode b_Ff_readCodes 129 = .ok (.iconst 0, 1) := by decide +kernel
theorem d_Ff_readCodes_130 : decode b_Ff_readCodes 130 = .ok (.ireturn, 1) := by decide +kernel
abbrev b_Ff_readCmap : ByteArray := prog_3_method_17_code
def y_Ff_readCmap : MethodName := ⟨"GlyphPage$FontFile", "readCmap", "()Z"⟩
theorem d_Ff_readCmap_0 : decode b_Ff_readCmap 0 = .ok (.aload_n 0, 1) := by decide +kernel
theorem d_Ff_readCmap_1 : decode b_Ff_readCmap 1 = .ok (.getfield 9, 3) := by decide +kernel
theorem d_Ff_readCmap_4 : decode b_Ff_readCmap 4 = .ok (.iconst 0, 1) := by decide +kernel
theorem d_Ff_readCmap_5 : decode b_Ff_readCmap 5 = .ok (.iaload, 1) := by decide +kernel
theorem d_Ff_readCmap_6 : decode b_Ff_readCmap 6 = .ok (.istore_n 1, 1) := by decide +kernel
theorem d_Ff_readCmap_7 : decode b_Ff_readCmap 7 = .ok (.aload_n 0, 1) := by decide +kernel
theorem d_Ff_readCmap_8 : decode b_Ff_readCmap 8 = .ok (.iload_n 1, 1) := by decide +kernel
theorem d_Ff_readCmap_9 : decode b_Ff_readCmap 9 = .ok (.iconst 2, 1) := by decide +kernel
theorem d_Ff_readCmap_10 : decode b_Ff_readCmap 10 = .ok (.iadd, 1) := by decide +kernel
theorem d_Ff_readCmap_11 : decode b_Ff_readCmap 11 = .ok (.invokevirtual 96, 3) := by decide +kernel
theorem d_Ff_readCmap_14 : decode b_Ff_readCmap 14 = .ok (.istore_n 2, 1) := by decide +kernel
theorem d_Ff_readCmap_15 : decode b_Ff_readCmap 15 = .ok (.aload_n 0, 1) := by decide +kernel
theorem d_Ff_readCmap_16 : decode b_Ff_readCmap 16 = .ok (.getfield 13, 3) := by decide +kernel
theorem d_Ff_readCmap_19 : decode b_Ff_readCmap 19 = .ok (.iconst 0, 1) := by decide +kernel
theorem d_Ff_readCmap_20 : decode b_Ff_readCmap 20 = .ok (.iaload, 1) := by decide +kernel
theorem d_Ff_readCmap_21 : decode b_Ff_readCmap 21 = .ok (.iconst 4, 1) := by decide +kernel
theorem d_Ff_readCmap_22 : decode b_Ff_readCmap 22 = .ok (.if_icmp .lt 18, 3) := by decide +kernel
theorem d_Ff_readCmap_25 : decode b_Ff_readCmap 25 = .ok (.iconst 4, 1) := by decide +kernel
theorem d_Ff_readCmap_26 : decode b_Ff_readCmap 26 = .ok (.bipush 8, 2) := by decide +kernel
theorem d_Ff_readCmap_28 : decode b_Ff_readCmap 28 = .ok (.iload_n 2, 1) := by decide +kernel
theorem d_Ff_readCmap_29 : decode b_Ff_readCmap 29 = .ok (.imul, 1) := by decide +kernel
theorem d_Ff_readCmap_30 : decode b_Ff_readCmap 30 = .ok (.iadd, 1) := by decide +kernel
theorem d_Ff_readCmap_31 : decode b_Ff_readCmap 31 = .ok (.aload_n 0, 1) := by decide +kernel
theorem d_Ff_readCmap_32 : decode b_Ff_readCmap 32 = .ok (.getfield 13, 3) := by decide +kernel
theorem d_Ff_readCmap_35 : decode b_Ff_readCmap 35 = .ok (.iconst 0, 1) := by decide +kernel
theorem d_Ff_readCmap_36 : decode b_Ff_readCmap 36 = .ok (.iaload, 1) := by decide +kernel
theorem d_Ff_readCmap_37 : decode b_Ff_readCmap 37 = .ok (.if_icmp .le 5, 3) := by decide +kernel
theorem d_Ff_readCmap_40 : decode b_Ff_readCmap 40 = .ok (.iconst 0, 1) := by decide +kernel
theorem d_Ff_readCmap_41 : decode b_Ff_readCmap 41 = .ok (.ireturn, 1) := by decide +kernel
theorem d_Ff_readCmap_42 : decode b_Ff_readCmap 42 = .ok (.iconst 0, 1) := by decide +kernel
theorem d_Ff_readCmap_43 : decode b_Ff_readCmap 43 = .ok (.istore_n 3, 1) := by decide +kernel
theorem d_Ff_readCmap_44 : decode b_Ff_readCmap 44 = .ok (.iload_n 3, 1) := by decide +kernel
theorem d_Ff_readCmap_45 : decode b_Ff_readCmap 45 = .ok (.iload_n 2, 1) := by decide +kernel
theorem d_Ff_readCmap_46 : decode b_Ff_readCmap 46 = .ok (.if_icmp .ge 54, 3) := by decide +kernel
theorem d_Ff_readCmap_49 : decode b_Ff_readCmap 49 = .ok (.iload_n 1, 1) := by decide +kernel
theorem d_Ff_readCmap_50 : decode b_Ff_readCmap 50 = .ok (.iconst 4, 1) := by decide +kernel
theorem d_Ff_readCmap_51 : decode b_Ff_readCmap 51 = .ok (.iadd, 1) := by decide +kernel
theorem d_Ff_readCmap_52 : decode b_Ff_readCmap 52 = .ok (.bipush 8, 2) := by decide +kernel
theorem d_Ff_readCmap_54 : decode b_Ff_readCmap 54 = .ok (.iload_n 3, 1) := by decide +kernel
theorem d_Ff_readCmap_55 : decode b_Ff_readCmap 55 = .ok (.imul, 1) := by decide +kernel
theorem d_Ff_readCmap_56 : decode b_Ff_readCmap 56 = .ok (.iadd, 1) := by decide +kernel
theorem d_Ff_readCmap_57 : decode b_Ff_readCmap 57 = .ok (.istore 4, 2) := by decide +kernel
theorem d_Ff_readCmap_59 : decode b_Ff_readCmap 59 = .ok (.aload_n 0, 1) := by decide +kernel
theorem d_Ff_readCmap_60 : decode b_Ff_readCmap 60 = .ok (.iload 4, 2) := by decide +kernel
theorem d_Ff_readCmap_62 : decode b_Ff_readCmap 62 = .ok (.invokevirtual 96, 3) := by decide +kernel
theorem d_Ff_readCmap_65 : decode b_Ff_readCmap 65 = .ok (.iconst 3, 1) := by decide +kernel
theorem d_Ff_readCmap_66 : decode b_Ff_readCmap 66 = .ok (.if_icmp .ne 28, 3) := by decide +kernel
theorem d_Ff_readCmap_69 : decode b_Ff_readCmap 69 = .ok (.aload_n 0, 1) := by decide +kernel
theorem d_Ff_readCmap_70 : decode b_Ff_readCmap 70 = .ok (.iload 4, 2) := by decide +kernel
theorem d_Ff_readCmap_72 : decode b_Ff_readCmap 72 = .ok (.iconst 2, 1) := by decide +kernel
theorem d_Ff_readCmap_73 : decode b_Ff_readCmap 73 = .ok (.iadd, 1) := by decide +kernel
theorem d_Ff_readCmap_74 : decode b_Ff_readCmap 74 = .ok (.invokevirtual 96, 3) := by decide +kernel
theorem d_Ff_readCmap_77 : decode b_Ff_readCmap 77 = .ok (.iconst 1, 1) := by decide +kernel
theorem d_Ff_readCmap_78 : decode b_Ff_readCmap 78 = .ok (.if_icmp .ne 16, 3) := by decide +kernel
theorem d_Ff_readCmap_81 : decode b_Ff_readCmap 81 = .ok (.aload_n 0, 1) := by decide +kernel
theorem d_Ff_readCmap_82 : decode b_Ff_readCmap 82 = .ok (.aload_n 0, 1) := by decide +kernel
theorem d_Ff_readCmap_83 : decode b_Ff_readCmap 83 = .ok (.iload 4, 2) := by decide +kernel
theorem d_Ff_readCmap_85 : decode b_Ff_readCmap 85 = .ok (.iconst 4, 1) := by decide +kernel
theorem d_Ff_readCmap_86 : decode b_Ff_readCmap 86 = .ok (.iadd, 1) := by decide +kernel
theorem d_Ff_readCmap_87 : decode b_Ff_readCmap 87 = .ok (.invokevirtual 100, 3) := by decide +kernel
theorem d_Ff_readCmap_90 : decode b_Ff_readCmap 90 = .ok (.invokevirtual 146, 3) := by decide +kernel
theorem d_Ff_readCmap_93 : decode b_Ff_readCmap 93 = .ok (.ireturn, 1) := by decide +kernel
theorem d_Ff_readCmap_94 : decode b_Ff_readCmap 94 = .ok (.iinc 3 1, 3) := by decide +kernel
theorem d_Ff_readCmap_97 : decode b_Ff_readCmap 97 = .ok (.goto (-53), 3) := by decide +kernel
theorem d_Ff_readCmap_100 : decode b_Ff_readCmap 100 = .ok (.iconst 0, 1) := by decide +kernel
theorem d_Ff_readCmap_101 : decode b_Ff_readCmap 101 = .ok (.ireturn, 1) := by decide +kernel
abbrev b_Ff_glyphInSegment : ByteArray := prog_3_method_20_code
def y_Ff_glyphInSegment : MethodName := ⟨"GlyphPage$FontFile", "glyphInSegment", "(II)I"⟩
theorem d_Ff_glyphInSegment_0 : decode b_Ff_glyphInSegment 0 = .ok (.aload_n 0, 1) := by decide +kernel
theorem d_Ff_glyphInSegment_1 : decode b_Ff_glyphInSegment 1 = .ok (.aload_n 0, 1) := by decide +kernel
theorem d_Ff_glyphInSegment_2 : decode b_Ff_glyphInSegment 2 = .ok (.getfield 42, 3) := by decide +kernel
theorem d_Ff_glyphInSegment_5 : decode b_Ff_glyphInSegment 5 = .ok (.bipush 16, 2) := by decide +kernel
theorem d_Ff_glyphInSegment_7 : decode b_Ff_glyphInSegment 7 = .ok (.iadd, 1) := by decide +kernel
theorem d_Ff_glyphInSegment_8 : decode b_Ff_glyphInSegment 8 = .ok (.iconst 2, 1) := by decide +kernel
theorem d_Ff_glyphInSegment_9 : decode b_Ff_glyphInSegment 9 = .ok (.aload_n 0, 1) := by decide +kernel
theorem d_Ff_glyphInSegment_10 : decode b_Ff_glyphInSegment 10 = .ok (.getfield 48, 3) := by decide +kernel
theorem d_Ff_glyphInSegment_13 : decode b_Ff_glyphInSegment 13 = .ok (.imul, 1) := by decide +kernel
theorem d_Ff_glyphInSegment_14 : decode b_Ff_glyphInSegment 14 = .ok (.iadd, 1) := by decide +kernel
theorem d_Ff_glyphInSegment_15 : decode b_Ff_glyphInSegment 15 = .ok (.iconst 2, 1) := by decide +kernel
theorem d_Ff_glyphInSegment_16 : decode b_Ff_glyphInSegment 16 = .ok (.iload_n 1, 1) := by decide +kernel
theorem d_Ff_glyphInSegment_17 : decode b_Ff_glyphInSegment 17 = .ok (.imul, 1) := by decide +kernel
theorem d_Ff_glyphInSegment_18 : decode b_Ff_glyphInSegment 18 = .ok (.iadd, 1) := by decide +kernel
theorem d_Ff_glyphInSegment_19 : decode b_Ff_glyphInSegment 19 = .ok (.invokevirtual 96, 3) := by decide +kernel
theorem d_Ff_glyphInSegment_22 : decode b_Ff_glyphInSegment 22 = .ok (.istore_n 3, 1) := by decide +kernel
theorem d_Ff_glyphInSegment_23 : decode b_Ff_glyphInSegment 23 = .ok (.aload_n 0, 1) := by decide +kernel
theorem d_Ff_glyphInSegment_24 : decode b_Ff_glyphInSegment 24 = .ok (.aload_n 0, 1) := by decide +kernel
theorem d_Ff_glyphInSegment_25 : decode b_Ff_glyphInSegment 25 = .ok (.getfield 42, 3) := by decide +kernel
theorem d_Ff_glyphInSegment_28 : decode b_Ff_glyphInSegment 28 = .ok (.bipush 16, 2) := by decide +kernel
theorem d_Ff_glyphInSegment_30 : decode b_Ff_glyphInSegment 30 = .ok (.iadd, 1) := by decide +kernel
theorem d_Ff_glyphInSegment_31 : decode b_Ff_glyphInSegment 31 = .ok (.iconst 4, 1) := by decide +kernel
theorem d_Ff_glyphInSegment_32 : decode b_Ff_glyphInSegment 32 = .ok (.aload_n 0, 1) := by decide +kernel
theorem d_Ff_glyphInSegment_33 : decode b_Ff_glyphInSegment 33 = .ok (.getfield 48, 3) := by decide +kernel
theorem d_Ff_glyphInSegment_36 : decode b_Ff_glyphInSegment 36 = .ok (.imul, 1) := by decide +kernel
theorem d_Ff_glyphInSegment_37 : decode b_Ff_glyphInSegment 37 = .ok (.iadd, 1) := by decide +kernel
theorem d_Ff_glyphInSegment_38 : decode b_Ff_glyphInSegment 38 = .ok (.iconst 2, 1) := by decide +kernel
theorem d_Ff_glyphInSegment_39 : decode b_Ff_glyphInSegment 39 = .ok (.iload_n 1, 1) := by decide +kernel
theorem d_Ff_glyphInSegment_40 : decode b_Ff_glyphInSegment 40 = .ok (.imul, 1) := by decide +kernel
theorem d_Ff_glyphInSegment_41 : decode b_Ff_glyphInSegment 41 = .ok (.iadd, 1) := by decide +kernel
theorem d_Ff_glyphInSegment_42 : decode b_Ff_glyphInSegment 42 = .ok (.invokevirtual 96, 3) := by decide +kernel
theorem d_Ff_glyphInSegment_45 : decode b_Ff_glyphInSegment 45 = .ok (.istore 4, 2) := by decide +kernel
theorem d_Ff_glyphInSegment_47 : decode b_Ff_glyphInSegment 47 = .ok (.bipush 16, 2) := by decide +kernel
theorem d_Ff_glyphInSegment_49 : decode b_Ff_glyphInSegment 49 = .ok (.bipush 6, 2) := by decide +kernel
theorem d_Ff_glyphInSegment_51 : decode b_Ff_glyphInSegment 51 = .ok (.aload_n 0, 1) := by decide +kernel
theorem d_Ff_glyphInSegment_52 : decode b_Ff_glyphInSegment 52 = .ok (.getfield 48, 3) := by decide +kernel
theorem d_Ff_glyphInSegment_55 : decode b_Ff_glyphInSegment 55 = .ok (.imul, 1) := by decide +kernel
theorem d_Ff_glyphInSegment_56 : decode b_Ff_glyphInSegment 56 = .ok (.iadd, 1) := by decide +kernel
theorem d_Ff_glyphInSegment_57 : decode b_Ff_glyphInSegment 57 = .ok (.iconst 2, 1) := by decide +kernel
theorem d_Ff_glyphInSegment_58 : decode b_Ff_glyphInSegment 58 = .ok (.iload_n 1, 1) := by decide +kernel
theorem d_Ff_glyphInSegment_59 : decode b_Ff_glyphInSegment 59 = .ok (.imul, 1) := by decide +kernel
theorem d_Ff_glyphInSegment_60 : decode b_Ff_glyphInSegment 60 = .ok (.iadd, 1) := by decide +kernel
theorem d_Ff_glyphInSegment_61 : decode b_Ff_glyphInSegment 61 = .ok (.istore 5, 2) := by decide +kernel
theorem d_Ff_glyphInSegment_63 : decode b_Ff_glyphInSegment 63 = .ok (.aload_n 0, 1) := by decide +kernel
theorem d_Ff_glyphInSegment_64 : decode b_Ff_glyphInSegment 64 = .ok (.aload_n 0, 1) := by decide +kernel
theorem d_Ff_glyphInSegment_65 : decode b_Ff_glyphInSegment 65 = .ok (.getfield 42, 3) := by decide +kernel
theorem d_Ff_glyphInSegment_68 : decode b_Ff_glyphInSegment 68 = .ok (.iload 5, 2) := by decide +kernel
theorem d_Ff_glyphInSegment_70 : decode b_Ff_glyphInSegment 70 = .ok (.iadd, 1) := by decide +kernel
theorem d_Ff_glyphInSegment_71 : decode b_Ff_glyphInSegment 71 = .ok (.invokevirtual 96, 3) := by decide +kernel
theorem d_Ff_glyphInSegment_74 : decode b_Ff_glyphInSegment 74 = .ok (.istore 6, 2) := by decide +kernel
theorem d_Ff_glyphInSegment_76 : decode b_Ff_glyphInSegment 76 = .ok (.iload_n 3, 1) := by decide +kernel
theorem d_Ff_glyphInSegment_77 : decode b_Ff_glyphInSegment 77 = .ok (.iload_n 2, 1) := by decide +kernel
theorem d_Ff_glyphInSegment_78 : decode b_Ff_glyphInSegment 78 = .ok (.if_icmp .le 5, 3) := by decide +kernel
theorem d_Ff_glyphInSegment_81 : decode b_Ff_glyphInSegment 81 = .ok (.iconst 0, 1) := by decide +kernel
theorem d_Ff_glyphInSegment_82 : decode b_Ff_glyphInSegment 82 = .ok (.ireturn, 1) := by decide +kernel
theorem d_Ff_glyphInSegment_83 : decode b_Ff_glyphInSegment 83 = .ok (.iload 6, 2) := by decide +kernel
theorem d_Ff_glyphInSegment_85 : decode b_Ff_glyphInSegment 85 = .ok (.ifCond .ne 11, 3) := by decide +kernel
theorem d_Ff_glyphInSegment_88 : decode b_Ff_glyphInSegment 88 = .ok (.iload_n 2, 1) := by decide +kernel
theorem d_Ff_glyphInSegment_89 : decode b_Ff_glyphInSegment 89 = .ok (.iload 4, 2) := by decide +kernel
theorem d_Ff_glyphInSegment_91 : decode b_Ff_glyphInSegment 91 = .ok (.iadd, 1) := by decide +kernel
theorem d_Ff_glyphInSegment_92 : decode b_Ff_glyphInSegment 92 = .ok (.ldc 155, 2) := by decide +kernel
theorem d_Ff_glyphInSegment_94 : decode b_Ff_glyphInSegment 94 = .ok (.iand, 1) := by decide +kernel
theorem d_Ff_glyphInSegment_95 : decode b_Ff_glyphInSegment 95 = .ok (.ireturn, 1) := by decide +kernel
theorem d_Ff_glyphInSegment_96 : decode b_Ff_glyphInSegment 96 = .ok (.iload 5, 2) := by decide +kernel
theorem d_Ff_glyphInSegment_98 : decode b_Ff_glyphInSegment 98 = .ok (.iload 6, 2) := by decide +kernel
theorem d_Ff_glyphInSegment_100 : decode b_Ff_glyphInSegment 100 = .ok (.iadd, 1) := by decide +kernel
theorem d_Ff_glyphInSegment_101 : decode b_Ff_glyphInSegment 101 = .ok (.iconst 2, 1) := by decide +kernel
theorem d_Ff_glyphInSegment_102 : decode b_Ff_glyphInSegment 102 = .ok (.iload_n 2, 1) := by decide +kernel
theorem d_Ff_glyphInSegment_103 : decode b_Ff_glyphInSegment 103 = .ok (.iload_n 3, 1) := by decide +kernel
theorem d_Ff_glyphInSegment_104 : decode b_Ff_glyphInSegment 104 = .ok (.isub, 1) := by decide +kernel
theorem d_Ff_glyphInSegment_105 : decode b_Ff_glyphInSegment 105 = .ok (.imul, 1) := by decide +kernel
theorem d_Ff_glyphInSegment_106 : decode b_Ff_glyphInSegment 106 = .ok (.iadd, 1) := by decide +kernel
theorem d_Ff_glyphInSegment_107 : decode b_Ff_glyphInSegment 107 = .ok (.istore 7, 2) := by decide +kernel
theorem d_Ff_glyphInSegment_109 : decode b_Ff_glyphInSegment 109 = .ok (.iload 7, 2) := by decide +kernel
theorem d_Ff_glyphInSegment_111 : decode b_Ff_glyphInSegment 111 = .ok (.iconst 2, 1) := by decide +kernel
theorem d_Ff_glyphInSegment_112 : decode b_Ff_glyphInSegment 112 = .ok (.iadd, 1) := by decide +kernel
theorem d_Ff_glyphInSegment_113 : decode b_Ff_glyphInSegment 113 = .ok (.aload_n 0, 1) := by decide +kernel
theorem d_Ff_glyphInSegment_114 : decode b_Ff_glyphInSegment 114 = .ok (.getfield 45, 3) := by decide +kernel
theorem d_Ff_glyphInSegment_117 : decode b_Ff_glyphInSegment 117 = .ok (.if_icmp .gt 17, 3) := by decide +kernel
theorem d_Ff_glyphInSegment_120 : decode b_Ff_glyphInSegment 120 = .ok (.aload_n 0, 1) := by decide +kernel
theorem d_Ff_glyphInSegment_121 : decode b_Ff_glyphInSegment 121 = .ok (.aload_n 0, 1) := by decide +kernel
theorem d_Ff_glyphInSegment_122 : decode b_Ff_glyphInSegment 122 = .ok (.getfield 42, 3) := by decide +kernel
theorem d_Ff_glyphInSegment_125 : decode b_Ff_glyphInSegment 125 = .ok (.iload 7, 2) := by decide +kernel
theorem d_Ff_glyphInSegment_127 : decode b_Ff_glyphInSegment 127 = .ok (.iadd, 1) := by decide +kernel
theorem d_Ff_glyphInSegment_128 : decode b_Ff_glyphInSegment 128 = .ok (.invokevirtual 96, 3) := by decide +kernel
theorem d_Ff_glyphInSegment_131 : decode b_Ff_glyphInSegment 131 = .ok (.goto 4, 3) := by decide +kernel
theorem d_Ff_glyphInSegment_134 : decode b_Ff_glyphInSegment 134 = .ok (.iconst 0, 1) := by decide +kernel
theorem d_Ff_glyphInSegment_135 : decode b_Ff_glyphInSegment 135 = .ok (.istore 8, 2) := by decide +kernel
theorem d_Ff_glyphInSegment_137 : decode b_Ff_glyphInSegment 137 = .ok (.iload 8, 2) := by decide +kernel
theorem d_Ff_glyphInSegment_139 : decode b_Ff_glyphInSegment 139 = .ok (.ifCond .ne 7, 3) := by decide +kernel
theorem d_Ff_glyphInSegment_142 : decode b_Ff_glyphInSegment 142 = .ok (.iconst 0, 1) := by decide +kernel
theorem d_Ff_glyphInSegment_143 : decode b_Ff_glyphInSegment 143 = .ok (.goto 11, 3) := by decide +kernel
theorem d_Ff_glyphInSegment_146 : decode b_Ff_glyphInSegment 146 = .ok (.iload 8, 2) := by decide +kernel
theorem d_Ff_glyphInSegment_148 : decode b_Ff_glyphInSegment 148 = .ok (.iload 4, 2) := by decide +kernel
theorem d_Ff_glyphInSegment_150 : decode b_Ff_glyphInSegment 150 = .ok (.iadd, 1) := by decide +kernel
theorem d_Ff_glyphInSegment_151 : decode b_Ff_glyphInSegment 151 = .ok (.ldc 155, 2) := by decide +kernel
theorem d_Ff_glyphInSegment_153 : decode b_Ff_glyphInSegment 153 = .ok (.iand, 1) := by decide +kernel
theorem d_Ff_glyphInSegment_154 : decode b_Ff_glyphInSegment 154 = .ok (.ireturn, 1) := by decide +kernel
abbrev b_Ff_glyphOf : ByteArray := prog_3_method_19_code
def y_Ff_glyphOf : MethodName := ⟨"GlyphPage$FontFile", "glyphOf", "(I)I"⟩
theorem d_Ff_glyphOf_0 : decode b_Ff_glyphOf 0 = .ok (.iconst 0, 1) := by decide +kernel
theorem d_Ff_glyphOf_1 : decode b_Ff_glyphOf 1 = .ok (.istore_n 2, 1) := by decide +kernel
theorem d_Ff_glyphOf_2 : decode b_Ff_glyphOf 2 = .ok (.iload_n 2, 1) := by decide +kernel
theorem d_Ff_glyphOf_3 : decode b_Ff_glyphOf 3 = .ok (.aload_n 0, 1) := by decide +kernel
theorem d_Ff_glyphOf_4 : decode b_Ff_glyphOf 4 = .ok (.getfield 48, 3) := by decide +kernel
theorem d_Ff_glyphOf_7 : decode b_Ff_glyphOf 7 = .ok (.if_icmp .ge 49, 3) := by decide +kernel
theorem d_Ff_glyphOf_10 : decode b_Ff_glyphOf 10 = .ok (.aload_n 0, 1) := by decide +kernel
theorem d_Ff_glyphOf_11 : decode b_Ff_glyphOf 11 = .ok (.aload_n 0, 1) := by decide +kernel
theorem d_Ff_glyphOf_12 : decode b_Ff_glyphOf 12 = .ok (.getfield 42, 3) := by decide +kernel
theorem d_Ff_glyphOf_15 : decode b_Ff_glyphOf 15 = .ok (.bipush 14, 2) := by decide +kernel
theorem d_Ff_glyphOf_17 : decode b_Ff_glyphOf 17 = .ok (.iadd, 1) := by decide +kernel
theorem d_Ff_glyphOf_18 : decode b_Ff_glyphOf 18 = .ok (.iconst 2, 1) := by decide +kernel
theorem d_Ff_glyphOf_19 : decode b_Ff_glyphOf 19 = .ok (.iload_n 2, 1) := by decide +kernel
theorem d_Ff_glyphOf_20 : decode b_Ff_glyphOf 20 = .ok (.imul, 1) := by decide +kernel
theorem d_Ff_glyphOf_21 : decode b_Ff_glyphOf 21 = .ok (.iadd, 1) := by decide +kernel
theorem d_Ff_glyphOf_22 : decode b_Ff_glyphOf 22 = .ok (.invokevirtual 96, 3) := by decide +kernel
theorem d_Ff_glyphOf_25 : decode b_Ff_glyphOf 25 = .ok (.iload_n 1, 1) := by decide +kernel
theorem d_Ff_glyphOf_26 : decode b_Ff_glyphOf 26 = .ok (.if_icmp .lt 24, 3) := by decide +kernel
theorem d_Ff_glyphOf_29 : decode b_Ff_glyphOf 29 = .ok (.aload_n 0, 1) := by decide +kernel
theorem d_Ff_glyphOf_30 : decode b_Ff_glyphOf 30 = .ok (.iload_n 2, 1) := by decide +kernel
theorem d_Ff_glyphOf_31 : decode b_Ff_glyphOf 31 = .ok (.iload_n 1, 1) := by decide +kernel
theorem d_Ff_glyphOf_32 : decode b_Ff_glyphOf 32 = .ok (.invokevirtual 152, 3) := by decide +kernel
theorem d_Ff_glyphOf_35 : decode b_Ff_glyphOf 35 = .ok (.istore_n 3, 1) := by decide +kernel
theorem d_Ff_glyphOf_36 : decode b_Ff_glyphOf 36 = .ok (.iload_n 3, 1) := by decide +kernel
theorem d_Ff_glyphOf_37 : decode b_Ff_glyphOf 37 = .ok (.aload_n 0, 1) := by decide +kernel
theorem d_Ff_glyphOf_38 : decode b_Ff_glyphOf 38 = .ok (.getfield 23, 3) := by decide +kernel
theorem d_Ff_glyphOf_41 : decode b_Ff_glyphOf 41 = .ok (.if_icmp .ge 7, 3) := by decide +kernel
theorem d_Ff_glyphOf_44 : decode b_Ff_glyphOf 44 = .ok (.iload_n 3, 1) := by decide +kernel
theorem d_Ff_glyphOf_45 : decode b_Ff_glyphOf 45 = .ok (.goto 4, 3) := by decide +kernel
theorem d_Ff_glyphOf_48 : decode b_Ff_glyphOf 48 = .ok (.iconst 0, 1) := by decide +kernel
theorem d_Ff_glyphOf_49 : decode b_Ff_glyphOf 49 = .ok (.ireturn, 1) := by decide +kernel
theorem d_Ff_glyphOf_50 : decode b_Ff_glyphOf 50 = .ok (.iinc 2 1, 3) := by decide +kernel
theorem d_Ff_glyphOf_53 : decode b_Ff_glyphOf 53 = .ok (.goto (-51), 3) := by decide +kernel
theorem d_Ff_glyphOf_56 : decode b_Ff_glyphOf 56 = .ok (.iconst 0, 1) := by decide +kernel
theorem d_Ff_glyphOf_57 : decode b_Ff_glyphOf 57 = .ok (.ireturn, 1) := by decide +kernel
abbrev b_Ff_readKern : ByteArray := prog_3_method_22_code
def y_Ff_readKern : MethodName := ⟨"GlyphPage$FontFile", "readKern", "()Z"⟩
theorem d_Ff_readKern_0 : decode b_Ff_readKern 0 = .ok (.aload_n 0, 1) := by decide +kernel
theorem d_Ff_readKern_1 : decode b_Ff_readKern 1 = .ok (.getfield 13, 3) := by decide +kernel
theorem d_Ff_readKern_4 : decode b_Ff_readKern 4 = .ok (.bipush 7, 2) := by decide +kernel
theorem d_Ff_readKern_6 : decode b_Ff_readKern 6 = .ok (.iaload, 1) := by decide +kernel
theorem d_Ff_readKern_7 : decode b_Ff_readKern 7 = .ok (.ifCond .ge 5, 3) := by decide +kernel
theorem d_Ff_readKern_10 : decode b_Ff_readKern 10 = .ok (.iconst 1, 1) := by decide +kernel
theorem d_Ff_readKern_11 : decode b_Ff_readKern 11 = .ok (.ireturn, 1) := by decide +kernel
theorem d_Ff_readKern_12 : decode b_Ff_readKern 12 = .ok (.aload_n 0, 1) := by decide +kernel
theorem d_Ff_readKern_13 : decode b_Ff_readKern 13 = .ok (.getfield 9, 3) := by decide +kernel
theorem d_Ff_readKern_16 : decode b_Ff_readKern 16 = .ok (.bipush 7, 2) := by decide +kernel
theorem d_Ff_readKern_18 : decode b_Ff_readKern 18 = .ok (.iaload, 1) := by decide +kernel
theorem d_Ff_readKern_19 : decode b_Ff_readKern 19 = .ok (.istore_n 1, 1) := by decide +kernel
theorem d_Ff_readKern_20 : decode b_Ff_readKern 20 = .ok (.aload_n 0, 1) := by decide +kernel
theorem d_Ff_readKern_21 : decode b_Ff_readKern 21 = .ok (.iload_n 1, 1) := by decide +kernel
theorem d_Ff_readKern_22 : decode b_Ff_readKern 22 = .ok (.bipush 6, 2) := by decide +kernel
theorem d_Ff_readKern_24 : decode b_Ff_readKern 24 = .ok (.iadd, 1) := by decide +kernel
theorem d_Ff_readKern_25 : decode b_Ff_readKern 25 = .ok (.invokevirtual 96, 3) := by decide +kernel
theorem d_Ff_readKern_28 : decode b_Ff_readKern 28 = .ok (.istore_n 2, 1) := by decide +kernel
theorem d_Ff_readKern_29 : decode b_Ff_readKern 29 = .ok (.aload_n 0, 1) := by decide +kernel
theorem d_Ff_readKern_30 : decode b_Ff_readKern 30 = .ok (.iload_n 1, 1) := by decide +kernel
theorem d_Ff_readKern_31 : decode b_Ff_readKern 31 = .ok (.bipush 10, 2) := by decide +kernel
theorem d_Ff_readKern_33 : decode b_Ff_readKern 33 = .ok (.iadd, 1) := by decide +kernel
theorem d_Ff_readKern_34 : decode b_Ff_readKern 34 = .ok (.invokevirtual 96, 3) := by decide +kernel
theorem d_Ff_readKern_37 : decode b_Ff_readKern 37 = .ok (.istore_n 3, 1) := by decide +kernel
theorem d_Ff_readKern_38 : decode b_Ff_readKern 38 = .ok (.aload_n 0, 1) := by decide +kernel
theorem d_Ff_readKern_39 : decode b_Ff_readKern 39 = .ok (.getfield 13, 3) := by decide +kernel
theorem d_Ff_readKern_42 : decode b_Ff_readKern 42 = .ok (.bipush 7, 2) := by decide +kernel
theorem d_Ff_readKern_44 : decode b_Ff_readKern 44 = .ok (.iaload, 1) := by decide +kernel
theorem d_Ff_readKern_45 : decode b_Ff_readKern 45 = .ok (.bipush 18, 2) := by decide +kernel
theorem d_Ff_readKern_47 : decode b_Ff_readKern 47 = .ok (.if_icmp .lt 58, 3) := by decide +kernel
theorem d_Ff_readKern_50 : decode b_Ff_readKern 50 = .ok (.aload_n 0, 1) := by decide +kernel
theorem d_Ff_readKern_51 : decode b_Ff_readKern 51 = .ok (.iload_n 1, 1) := by decide +kernel
theorem d_Ff_readKern_52 : decode b_Ff_readKern 52 = .ok (.invokevirtual 96, 3) := by decide +kernel
theorem d_Ff_readKern_55 : decode b_Ff_readKern 55 = .ok (.ifCond .ne 50, 3) := by decide +kernel
theorem d_Ff_readKern_58 : decode b_Ff_readKern 58 = .ok (.aload_n 0, 1) := by decide +kernel
theorem d_Ff_readKern_59 : decode b_Ff_readKern 59 = .ok (.iload_n 1, 1) := by decide +kernel
theorem d_Ff_readKern_60 : decode b_Ff_readKern 60 = .ok (.iconst 2, 1) := by decide +kernel
theorem d_Ff_readKern_61 : decode b_Ff_readKern 61 = .ok (.iadd, 1) := by decide +kernel
theorem d_Ff_readKern_62 : decode b_Ff_readKern 62 = .ok (.invokevirtual 96, 3) := by decide +kernel
theorem d_Ff_readKern_65 : decode b_Ff_readKern 65 = .ok (.iconst 1, 1) := by decide +kernel
theorem d_Ff_readKern_66 : decode b_Ff_readKern 66 = .ok (.if_icmp .lt 39, 3) := by decide +kernel
theorem d_Ff_readKern_69 : decode b_Ff_readKern 69 = .ok (.aload_n 0, 1) := by decide +kernel
theorem d_Ff_readKern_70 : decode b_Ff_readKern 70 = .ok (.iload_n 1, 1) := by decide +kernel
theorem d_Ff_readKern_71 : decode b_Ff_readKern 71 = .ok (.bipush 8, 2) := by decide +kernel
theorem d_Ff_readKern_73 : decode b_Ff_readKern 73 = .ok (.iadd, 1) := by decide +kernel
theorem d_Ff_readKern_74 : decode b_Ff_readKern 74 = .ok (.invokevirtual 96, 3) := by decide +kernel
theorem d_Ff_readKern_77 : decode b_Ff_readKern 77 = .ok (.iconst 1, 1) := by decide +kernel
theorem d_Ff_readKern_78 : decode b_Ff_readKern 78 = .ok (.if_icmp .ne 27, 3) := by decide +kernel
theorem d_Ff_readKern_81 : decode b_Ff_readKern 81 = .ok (.iload_n 2, 1) := by decide +kernel
theorem d_Ff_readKern_82 : decode b_Ff_readKern 82 = .ok (.bipush 14, 2) := by decide +kernel
theorem d_Ff_readKern_84 : decode b_Ff_readKern 84 = .ok (.bipush 6, 2) := by decide +kernel
theorem d_Ff_readKern_86 : decode b_Ff_readKern 86 = .ok (.iload_n 3, 1) := by decide +kernel
theorem d_Ff_readKern_87 : decode b_Ff_readKern 87 = .ok (.imul, 1) := by decide +kernel
theorem d_Ff_readKern_88 : decode b_Ff_readKern 88 = .ok (.iadd, 1) := by decide +kernel
theorem d_Ff_readKern_89 : decode b_Ff_readKern 89 = .ok (.if_icmp .lt 16, 3) := by decide +kernel
theorem d_Ff_readKern_92 : decode b_Ff_readKern 92 = .ok (.iconst 4, 1) := by decide +kernel
theorem d_Ff_readKern_93 : decode b_Ff_readKern 93 = .ok (.iload_n 2, 1) := by decide +kernel
theorem d_Ff_readKern_94 : decode b_Ff_readKern 94 = .ok (.iadd, 1) := by decide +kernel
theorem d_Ff_readKern_95 : decode b_Ff_readKern 95 = .ok (.aload_n 0, 1) := by decide +kernel
theorem d_Ff_readKern_96 : decode b_Ff_readKern 96 = .ok (.getfield 13, 3) := by decide +kernel
theorem d_Ff_readKern_99 : decode b_Ff_readKern 99 = .ok (.bipush 7, 2) := by decide +kernel
theorem d_Ff_readKern_101 : decode b_Ff_readKern 101 = .ok (.iaload, 1) := by decide +kernel
theorem d_Ff_readKern_102 : decode b_Ff_readKern 102 = .ok (.if_icmp .le 5, 3) := by decide +kernel
theorem d_Ff_readKern_105 : decode b_Ff_readKern 105 = .ok (.iconst 0, 1) := by decide +kernel
theorem d_Ff_readKern_106 : decode b_Ff_readKern 106 = .ok (.ireturn, 1) := by decide +kernel
theorem d_Ff_readKern_107 : decode b_Ff_readKern 107 = .ok (.ldc2_w 106, 3) := by decide +kernel
theorem d_Ff_readKern_110 : decode b_Ff_readKern 110 = .ok (.lstore 4, 2) := by decide +kernel
theorem d_Ff_readKern_112 : decode b_Ff_readKern 112 = .ok (.iconst 0, 1) := by decide +kernel
theorem d_Ff_readKern_113 : decode b_Ff_readKern 113 = .ok (.istore 6, 2) := by decide +kernel
theorem d_Ff_readKern_115 : decode b_Ff_readKern 115 = .ok (.iload 6, 2) := by decide +kernel
theorem d_Ff_readKern_117 : decode b_Ff_readKern 117 = .ok (.iload_n 3, 1) := by decide +kernel
theorem d_Ff_readKern_118 : decode b_Ff_readKern 118 = .ok (.if_icmp .ge 52, 3) := by decide +kernel
theorem d_Ff_readKern_121 : decode b_Ff_readKern 121 = .ok (.aload_n 0, 1) := by decide +kernel
theorem d_Ff_readKern_122 : decode b_Ff_readKern 122 = .ok (.iload 6, 2) := by decide +kernel
theorem d_Ff_readKern_124 : decode b_Ff_readKern 124 = .ok (.invokevirtual 162, 3) := by decide +kernel
theorem d_Ff_readKern_127 : decode b_Ff_readKern 127 = .ok (.lload 4, 2) := by decide +kernel
theorem d_Ff_readKern_129 : decode b_Ff_readKern 129 = .ok (.lcmp, 1) := by decide +kernel
theorem d_Ff_readKern_130 : decode b_Ff_readKern 130 = .ok (.ifCond .le 24, 3) := by decide +kernel
theorem d_Ff_readKern_133 : decode b_Ff_readKern 133 = .ok (.aload_n 0, 1) := by decide +kernel
theorem d_Ff_readKern_134 : decode b_Ff_readKern 134 = .ok (.aload_n 0, 1) := by decide +kernel
theorem d_Ff_readKern_135 : decode b_Ff_readKern 135 = .ok (.iload_n 1, 1) := by decide +kernel
theorem d_Ff_readKern_136 : decode b_Ff_readKern 136 = .ok (.bipush 22, 2) := by decide +kernel
theorem d_Ff_readKern_138 : decode b_Ff_readKern 138 = .ok (.iadd, 1) := by decide +kernel
theorem d_Ff_readKern_139 : decode b_Ff_readKern 139 = .ok (.bipush 6, 2) := by decide +kernel
theorem d_Ff_readKern_141 : decode b_Ff_readKern 141 = .ok (.iload 6, 2) := by decide +kernel
theorem d_Ff_readKern_143 : decode b_Ff_readKern 143 = .ok (.imul, 1) := by decide +kernel
theorem d_Ff_readKern_144 : decode b_Ff_readKern 144 = .ok (.iadd, 1) := by decide +kernel
theorem d_Ff_readKern_145 : decode b_Ff_readKern 145 = .ok (.invokevirtual 125, 3) := by decide +kernel
theorem d_Ff_readKern_148 : decode b_Ff_readKern 148 = .ok (.invokevirtual 128, 3) := by decide +kernel
theorem d_Ff_readKern_151 : decode b_Ff_readKern 151 = .ok (.ifCond .ne 5, 3) := by decide +kernel
theorem d_Ff_readKern_154 : decode b_Ff_readKern 154 = .ok (.iconst 0, 1) := by decide +kernel
theorem d_Ff_readKern_155 : decode b_Ff_readKern 155 = .ok (.ireturn, 1) := by decide +kernel
theorem d_Ff_readKern_156 : decode b_Ff_readKern 156 = .ok (.aload_n 0, 1) := by decide +kernel
theorem d_Ff_readKern_157 : decode b_Ff_readKern 157 = .ok (.iload 6, 2) := by decide +kernel
theorem d_Ff_readKern_159 : decode b_Ff_readKern 159 = .ok (.invokevirtual 162, 3) := by decide +kernel
theorem d_Ff_readKern_162 : decode b_Ff_readKern 162 = .ok (.lstore 4, 2) := by decide +kernel
theorem d_Ff_readKern_164 : decode b_Ff_readKern 164 = .ok (.iinc 6 1, 3) := by decide +kernel
theorem d_Ff_readKern_167 : decode b_Ff_readKern 167 = .ok (.goto (-52), 3) := by decide +kernel
theorem d_Ff_readKern_170 : decode b_Ff_readKern 170 = .ok (.aload_n 0, 1) := by decide +kernel
theorem d_Ff_readKern_171 : decode b_Ff_readKern 171 = .ok (.iload_n 3, 1) := by decide +kernel
theorem d_Ff_readKern_172 : decode b_Ff_readKern 172 = .ok (.putfield 51, 3) := by decide +kernel
theorem d_Ff_readKern_175 : decode b_Ff_readKern 175 = .ok (.iconst 1, 1) := by decide +kernel
theorem d_Ff_readKern_176 : decode b_Ff_readKern 176 = .ok (.ireturn, 1) := by decide +kernel
abbrev b_Ff_kernOf : ByteArray := prog_3_method_24_code
def y_Ff_kernOf : MethodName := ⟨"GlyphPage$FontFile", "kernOf", "(II)I"⟩
theorem d_Ff_kernOf_0 : decode b_Ff_kernOf 0 = .ok (.iload_n 1, 1) := by decide +kernel
theorem d_Ff_kernOf_1 : decode b_Ff_kernOf 1 = .ok (.ifCond .lt 19, 3) := by decide +kernel
theorem d_Ff_kernOf_4 : decode b_Ff_kernOf 4 = .ok (.iload_n 1, 1) := by decide +kernel
theorem d_Ff_kernOf_5 : decode b_Ff_kernOf 5 = .ok (.ldc 155, 2) := by decide +kernel
theorem d_Ff_kernOf_7 : decode b_Ff_kernOf 7 = .ok (.if_icmp .gt 13, 3) := by decide +kernel
theorem d_Ff_kernOf_10 : decode b_Ff_kernOf 10 = .ok (.iload_n 2, 1) := by decide +kernel
theorem d_Ff_kernOf_11 : decode b_Ff_kernOf 11 = .ok (.ifCond .lt 9, 3) := by decide +kernel
theorem d_Ff_kernOf_14 : decode b_Ff_kernOf 14 = .ok (.iload_n 2, 1) := by decide +kernel
theorem d_Ff_kernOf_15 : decode b_Ff_kernOf 15 = .ok (.ldc 155, 2) := by decide +kernel
theorem d_Ff_kernOf_17 : decode b_Ff_kernOf 17 = .ok (.if_icmp .le 5, 3) := by decide +kernel
theorem d_Ff_kernOf_20 : decode b_Ff_kernOf 20 = .ok (.iconst 0, 1) := by decide +kernel
theorem d_Ff_kernOf_21 : decode b_Ff_kernOf 21 = .ok (.ireturn, 1) := by decide +kernel
theorem d_Ff_kernOf_22 : decode b_Ff_kernOf 22 = .ok (.iload_n 1, 1) := by decide +kernel
theorem d_Ff_kernOf_23 : decode b_Ff_kernOf 23 = .ok (.i2l, 1) := by decide +kernel
theorem d_Ff_kernOf_24 : decode b_Ff_kernOf 24 = .ok (.bipush 16, 2) := by decide +kernel
theorem d_Ff_kernOf_26 : decode b_Ff_kernOf 26 = .ok (.lshl, 1) := by decide +kernel
theorem d_Ff_kernOf_27 : decode b_Ff_kernOf 27 = .ok (.iload_n 2, 1) := by decide +kernel
theorem d_Ff_kernOf_28 : decode b_Ff_kernOf 28 = .ok (.i2l, 1) := by decide +kernel
theorem d_Ff_kernOf_29 : decode b_Ff_kernOf 29 = .ok (.lor, 1) := by decide +kernel
theorem d_Ff_kernOf_30 : decode b_Ff_kernOf 30 = .ok (.lstore_n 3, 1) := by decide +kernel
theorem d_Ff_kernOf_31 : decode b_Ff_kernOf 31 = .ok (.iconst 0, 1) := by decide +kernel
theorem d_Ff_kernOf_32 : decode b_Ff_kernOf 32 = .ok (.istore 5, 2) := by decide +kernel
theorem d_Ff_kernOf_34 : decode b_Ff_kernOf 34 = .ok (.sipush 1024, 3) := by decide +kernel
theorem d_Ff_kernOf_37 : decode b_Ff_kernOf 37 = .ok (.istore 6, 2) := by decide +kernel
theorem d_Ff_kernOf_39 : decode b_Ff_kernOf 39 = .ok (.iload 6, 2) := by decide +kernel
theorem d_Ff_kernOf_41 : decode b_Ff_kernOf 41 = .ok (.ifCond .le 47, 3) := by decide +kernel
theorem d_Ff_kernOf_44 : decode b_Ff_kernOf 44 = .ok (.iload 5, 2) := by decide +kernel
theorem d_Ff_kernOf_46 : decode b_Ff_kernOf 46 = .ok (.iload 6, 2) := by decide +kernel
theorem d_Ff_kernOf_48 : decode b_Ff_kernOf 48 = .ok (.iadd, 1) := by decide +kernel
theorem d_Ff_kernOf_49 : decode b_Ff_kernOf 49 = .ok (.aload_n 0, 1) := by decide +kernel
theorem d_Ff_kernOf_50 : decode b_Ff_kernOf 50 = .ok (.getfield 51, 3) := by decide +kernel
theorem d_Ff_kernOf_53 : decode b_Ff_kernOf 53 = .ok (.if_icmp .gt 26, 3) := by decide +kernel
theorem d_Ff_kernOf_56 : decode b_Ff_kernOf 56 = .ok (.aload_n 0, 1) := by decide +kernel
theorem d_Ff_kernOf_57 : decode b_Ff_kernOf 57 = .ok (.iload 5, 2) := by decide +kernel
theorem d_Ff_kernOf_59 : decode b_Ff_kernOf 59 = .ok (.iload 6, 2) := by decide +kernel
theorem d_Ff_kernOf_61 : decode b_Ff_kernOf 61 = .ok (.iadd, 1) := by decide +kernel
theorem d_Ff_kernOf_62 : decode b_Ff_kernOf 62 = .ok (.iconst 1, 1) := by decide +kernel
theorem d_Ff_kernOf_63 : decode b_Ff_kernOf 63 = .ok (.isub, 1) := by decide +kernel
theorem d_Ff_kernOf_64 : decode b_Ff_kernOf 64 = .ok (.invokevirtual 162, 3) := by decide +kernel
theorem d_Ff_kernOf_67 : decode b_Ff_kernOf 67 = .ok (.lload_n 3, 1) := by decide +kernel
theorem d_Ff_kernOf_68 : decode b_Ff_kernOf 68 = .ok (.lcmp, 1) := by decide +kernel
theorem d_Ff_kernOf_69 : decode b_Ff_kernOf 69 = .ok (.ifCond .ge 10, 3) := by decide +kernel
theorem d_Ff_kernOf_72 : decode b_Ff_kernOf 72 = .ok (.iload 5, 2) := by decide +kernel
theorem d_Ff_kernOf_74 : decode b_Ff_kernOf 74 = .ok (.iload 6, 2) := by decide +kernel
theorem d_Ff_kernOf_76 : decode b_Ff_kernOf 76 = .ok (.iadd, 1) := by decide +kernel
theorem d_Ff_kernOf_77 : decode b_Ff_kernOf 77 = .ok (.istore 5, 2) := by decide +kernel
theorem d_Ff_kernOf_79 : decode b_Ff_kernOf 79 = .ok (.iload 6, 2) := by decide +kernel
theorem d_Ff_kernOf_81 : decode b_Ff_kernOf 81 = .ok (.iconst 2, 1) := by decide +kernel
theorem d_Ff_kernOf_82 : decode b_Ff_kernOf 82 = .ok (.idiv, 1) := by decide +kernel
theorem d_Ff_kernOf_83 : decode b_Ff_kernOf 83 = .ok (.istore 6, 2) := by decide +kernel
theorem d_Ff_kernOf_85 : decode b_Ff_kernOf 85 = .ok (.goto (-46), 3) := by decide +kernel
theorem d_Ff_kernOf_88 : decode b_Ff_kernOf 88 = .ok (.iload 5, 2) := by decide +kernel
theorem d_Ff_kernOf_90 : decode b_Ff_kernOf 90 = .ok (.aload_n 0, 1) := by decide +kernel
theorem d_Ff_kernOf_91 : decode b_Ff_kernOf 91 = .ok (.getfield 51, 3) := by decide +kernel
theorem d_Ff_kernOf_94 : decode b_Ff_kernOf 94 = .ok (.if_icmp .ge 18, 3) := by decide +kernel
theorem d_Ff_kernOf_97 : decode b_Ff_kernOf 97 = .ok (.aload_n 0, 1) := by decide +kernel
theorem d_Ff_kernOf_98 : decode b_Ff_kernOf 98 = .ok (.iload 5, 2) := by decide +kernel
theorem d_Ff_kernOf_100 : decode b_Ff_kernOf 100 = .ok (.invokevirtual 162, 3) := by decide +kernel
theorem d_Ff_kernOf_103 : decode b_Ff_kernOf 103 = .ok (.lload_n 3, 1) := by decide +kernel
theorem d_Ff_kernOf_104 : decode b_Ff_kernOf 104 = .ok (.lcmp, 1) := by decide +kernel
theorem d_Ff_kernOf_105 : decode b_Ff_kernOf 105 = .ok (.ifCond .ne 7, 3) := by decide +kernel
theorem d_Ff_kernOf_108 : decode b_Ff_kernOf 108 = .ok (.iconst 1, 1) := by decide +kernel
theorem d_Ff_kernOf_109 : decode b_Ff_kernOf 109 = .ok (.goto 4, 3) := by decide +kernel
theorem d_Ff_kernOf_112 : decode b_Ff_kernOf 112 = .ok (.iconst 0, 1) := by decide +kernel
theorem d_Ff_kernOf_113 : decode b_Ff_kernOf 113 = .ok (.istore 6, 2) := by decide +kernel
theorem d_Ff_kernOf_115 : decode b_Ff_kernOf 115 = .ok (.iload 6, 2) := by decide +kernel
theorem d_Ff_kernOf_117 : decode b_Ff_kernOf 117 = .ok (.ifCond .eq 26, 3) := by decide +kernel
theorem d_Ff_kernOf_120 : decode b_Ff_kernOf 120 = .ok (.aload_n 0, 1) := by decide +kernel
theorem d_Ff_kernOf_121 : decode b_Ff_kernOf 121 = .ok (.aload_n 0, 1) := by decide +kernel
theorem d_Ff_kernOf_122 : decode b_Ff_kernOf 122 = .ok (.getfield 9, 3) := by decide +kernel
theorem d_Ff_kernOf_125 : decode b_Ff_kernOf 125 = .ok (.bipush 7, 2) := by decide +kernel
theorem d_Ff_kernOf_127 : decode b_Ff_kernOf 127 = .ok (.iaload, 1) := by decide +kernel
theorem d_Ff_kernOf_128 : decode b_Ff_kernOf 128 = .ok (.bipush 22, 2) := by decide +kernel
theorem d_Ff_kernOf_130 : decode b_Ff_kernOf 130 = .ok (.iadd, 1) := by decide +kernel
theorem d_Ff_kernOf_131 : decode b_Ff_kernOf 131 = .ok (.bipush 6, 2) := by decide +kernel
theorem d_Ff_kernOf_133 : decode b_Ff_kernOf 133 = .ok (.iload 5, 2) := by decide +kernel
theorem d_Ff_kernOf_135 : decode b_Ff_kernOf 135 = .ok (.imul, 1) := by decide +kernel
theorem d_Ff_kernOf_136 : decode b_Ff_kernOf 136 = .ok (.iadd, 1) := by decide +kernel
theorem d_Ff_kernOf_137 : decode b_Ff_kernOf 137 = .ok (.invokevirtual 125, 3) := by decide +kernel
theorem d_Ff_kernOf_140 : decode b_Ff_kernOf 140 = .ok (.goto 4, 3) := by decide +kernel
theorem d_Ff_kernOf_143 : decode b_Ff_kernOf 143 = .ok (.iconst 0, 1) := by decide +kernel
theorem d_Ff_kernOf_144 : decode b_Ff_kernOf 144 = .ok (.ireturn, 1) := by decide +kernel
section
variable {p : Program} {l : Launch} {e : Env} {s : State} {m : MethodId} {args : Array Value} {below : List Frame} {meth : Method} {c : Code} {A : Nat → Prop} {dC : Nat → ClassId} {dI : Nat → Nat → Nat} {cy : Nat → ClassId}
def P_Ff_readHead_65 (o_length : Int32) (o_bytes_f : Nat → Int32) (o_starts_f : Nat → Int32) (o_sizes_f : Nat → Int32)  (x1 : Int32) (k0 : Int32) (o_units : Int32) (o_longLoca : Int32) : Option (Int32 × Int32 × Int32) :=
  zb k0 <| if o_units < (16 : Int32) then (some ((0 : Int32), o_units, k0)) else (if (16384 : Int32) < o_units then (some ((0 : Int32), o_units, k0)) else ((P_Ff_twoAt o_length o_bytes_f (x1 + (50 : Int32))).bind fun r_4 => if (1 : Int32) < r_4 then (some ((0 : Int32), o_units, k0)) else (some ((1 : Int32), o_units, k0))))
set_option maxHeartbeats 4000000 in
set_option maxRecDepth 100000 in
theorem w_Ff_readHead_65 (C0 : Cx p s m args meth c A dC dI cy b_Ff_readHead 2 (some .boolean) "GlyphPage$FontFile") (o : Nat) (o_bytes : Nat) (o_starts : Nat) (o_sizes : Nat) (o_glyphStarts : Nat) (o_length : Int32) (o_glyphs : Int32) (o_ascent : Int32) (o_descent : Int32) (o_gap : Int32) (o_metrics : Int32) (o_codes : Int32) (o_codesSize : Int32) (o_segments : Int32) (o_pairs : Int32) (o_bytes_f : Nat → Int32) (o_starts_f : Nat → Int32) (o_sizes_f : Nat → Int32) (o_glyphStarts_f : Nat → Int32) (uu : Int32 × Int32 × Int32)  (x1 : Int32) (k0 : Int32) (o_units : Int32) (o_longLoca : Int32) {H : Heap} {locs : List Loc} {ls : Array Slot} (h : P_Ff_readHead_65 o_length o_bytes_f o_starts_f o_sizes_f x1 k0 o_units o_longLoca = some uu) : va_P (dC, dI) classes [(o, .inr (7, [.ref o_bytes, .int o_length, .ref o_starts, .ref o_sizes, .ref o_glyphStarts, .int o_units, .int o_glyphs, .int o_ascent, .int o_descent, .int o_gap, .int o_longLoca, .int o_metrics, .int o_codes, .int o_codesSize, .int o_segments, .int o_pairs])), (o_bytes, .inl (cy 1, 4096, .inl o_bytes_f)), (o_starts, .inl (cy 0, 8, .inl o_starts_f)), (o_sizes, .inl (cy 0, 8, .inl o_sizes_f)), (o_glyphStarts, .inl (cy 0, 65, .inl o_glyphStarts_f))] H → va_D A [(o, .inr (7, [.ref o_bytes, .int o_length, .ref o_starts, .ref o_sizes, .ref o_glyphStarts, .int o_units, .int o_glyphs, .int o_ascent, .int o_descent, .int o_gap, .int o_longLoca, .int o_metrics, .int o_codes, .int o_codesSize, .int o_segments, .int o_pairs])), (o_bytes, .inl (cy 1, 4096, .inl o_bytes_f)), (o_starts, .inl (cy 0, 8, .inl o_starts_f)), (o_sizes, .inl (cy 0, 8, .inl o_sizes_f)), (o_glyphStarts, .inl (cy 0, 65, .inl o_glyphStarts_f))] → va_S A s.heap H locs → lv_has ls 2 [(0, .ref o), (1, .int x1)] → W p l e ({ frames := 2, cells := 0, slots := 0, locals := 42 } : Room) s m args below meth c H locs 0 0 (MQ below (va_Qi (fun r (_ : Unit) => r = uu.1) (fun _ t => va_P (dC, dI) classes [(o, .inr (7, [.ref o_bytes, .int o_length, .ref o_starts, .ref o_sizes, .ref o_glyphStarts, .int uu.2.1, .int o_glyphs, .int o_ascent, .int o_descent, .int o_gap, .int uu.2.2, .int o_metrics, .int o_codes, .int o_codesSize, .int o_segments, .int o_pairs])), (o_bytes, .inl (cy 1, 4096, .inl o_bytes_f)), (o_starts, .inl (cy 0, 8, .inl o_starts_f)), (o_sizes, .inl (cy 0, 8, .inl o_sizes_f)), (o_glyphStarts, .inl (cy 0, 65, .inl o_glyphStarts_f))] t.heap ∧ va_K (dC, dI) classes (TY cy) t ∧ va_D A [(o, .inr (7, [.ref o_bytes, .int o_length, .ref o_starts, .ref o_sizes, .ref o_glyphStarts, .int uu.2.1, .int o_glyphs, .int o_ascent, .int o_descent, .int o_gap, .int uu.2.2, .int o_metrics, .int o_codes, .int o_codesSize, .int o_segments, .int o_pairs])), (o_bytes, .inl (cy 1, 4096, .inl o_bytes_f)), (o_starts, .inl (cy 0, 8, .inl o_starts_f)), (o_sizes, .inl (cy 0, 8, .inl o_sizes_f)), (o_glyphStarts, .inl (cy 0, 65, .inl o_glyphStarts_f))]) A) args s 0 0 A) (F0 m 65 ls [.int k0, .ref o]) := by
  intro hP hD hS hl
  obtain ⟨hx, hb, hr, hlocks, hml, hown, htsG, hA, hK⟩ := id C0
  unfold P_Ff_readHead_65 at h
  obtain ⟨hz_1, h⟩ := zb_some h
  refine va_put (D := (dC, dI)) (ci := 7) (v := .int k0) (ty := .boolean) (C := "GlyphPage$FontFile") (T := F_Ff) (N := 16) hx hb htsG iG_Ff t_Ff t_Ff_ok n_Ff hown hK hP hD hS 0 rfl rfl 10 (by decide) (htsG _ mW318) (fun _ h9 => h9) rfl (by decide +kernel) hz_1.1 hz_1.2 (Nat.le_of_ble_eq_true rfl) d_Ff_readHead_65 (fun H locs hP hD hS => ?_)
  have hP : va_P (dC, dI) classes [(o, .inr (7, [.ref o_bytes, .int o_length, .ref o_starts, .ref o_sizes, .ref o_glyphStarts, .int o_units, .int o_glyphs, .int o_ascent, .int o_descent, .int o_gap, .int k0, .int o_metrics, .int o_codes, .int o_codesSize, .int o_segments, .int o_pairs])), (o_bytes, .inl (cy 1, 4096, .inl o_bytes_f)), (o_starts, .inl (cy 0, 8, .inl o_starts_f)), (o_sizes, .inl (cy 0, 8, .inl o_sizes_f)), (o_glyphStarts, .inl (cy 0, 65, .inl o_glyphStarts_f))] H := hP
  have hD : va_D A [(o, .inr (7, [.ref o_bytes, .int o_length, .ref o_starts, .ref o_sizes, .ref o_glyphStarts, .int o_units, .int o_glyphs, .int o_ascent, .int o_descent, .int o_gap, .int k0, .int o_metrics, .int o_codes, .int o_codesSize, .int o_segments, .int o_pairs])), (o_bytes, .inl (cy 1, 4096, .inl o_bytes_f)), (o_starts, .inl (cy 0, 8, .inl o_starts_f)), (o_sizes, .inl (cy 0, 8, .inl o_sizes_f)), (o_glyphStarts, .inl (cy 0, 65, .inl o_glyphStarts_f))] := hD
  refine lv_aload_n hx hb d_Ff_readHead_68 rfl (lv_at hl 0 rfl) ?_
  refine va_get (D := (dC, dI)) (ci := 7) (v := .int o_units) (C := "GlyphPage$FontFile") (T := F_Ff) (N := 16) hx hb htsG iG_Ff hown hK hP 0 rfl rfl 5 (by decide) (htsG _ mW307) (fun _ h9 => h9) rfl d_Ff_readHead_69 ?_
  refine lv_bipush (v := (16 : Int32)) hx hb d_Ff_readHead_72 (by decide) ?_
  refine lv_icmp_lt (tgt := 103) hx hb d_Ff_readHead_74 (by decide) (fun c_2 => ?_) (fun c_2 => ?_)
  · replace h := (if_pos c_2).symm.trans h
    refine lv_iconst (v := (0 : Int32)) hx hb d_Ff_readHead_103 (by decide) ?_
    cases h
    exact W.zret (ty := .boolean) hx hb hr rfl (fun t ht hW => ⟨⟨_, (), rfl, rfl, by rw [ht]; exact hP, va_K.moved hW.alike hK, hD⟩, hS.F ht⟩) hS.2.2 d_Ff_readHead_104 hlocks
  · replace h := (if_neg c_2).symm.trans h
    refine lv_aload_n hx hb d_Ff_readHead_77 rfl (lv_at hl 0 rfl) ?_
    refine va_get (D := (dC, dI)) (ci := 7) (v := .int o_units) (C := "GlyphPage$FontFile") (T := F_Ff) (N := 16) hx hb htsG iG_Ff hown hK hP 0 rfl rfl 5 (by decide) (htsG _ mW307) (fun _ h9 => h9) rfl d_Ff_readHead_78 ?_
    refine lv_sipush (v := (16384 : Int32)) hx hb d_Ff_readHead_81 (by decide) ?_
    refine lv_icmp_gt (tgt := 103) hx hb d_Ff_readHead_84 (by decide) (fun c_3 => ?_) (fun c_3 => ?_)
    · replace h := (if_pos c_3).symm.trans h
      refine lv_iconst (v := (0 : Int32)) hx hb d_Ff_readHead_103 (by decide) ?_
      cases h
      exact W.zret (ty := .boolean) hx hb hr rfl (fun t ht hW => ⟨⟨_, (), rfl, rfl, by rw [ht]; exact hP, va_K.moved hW.alike hK, hD⟩, hS.F ht⟩) hS.2.2 d_Ff_readHead_104 hlocks
    · replace h := (if_neg c_3).symm.trans h
      refine lv_aload_n hx hb d_Ff_readHead_87 rfl (lv_at hl 0 rfl) ?_
      refine lv_iload_n hx hb d_Ff_readHead_88 rfl (lv_at hl 1 rfl) ?_
      refine lv_bipush (v := (50 : Int32)) hx hb d_Ff_readHead_89 (by decide) ?_
      refine lv_iadd hx hb d_Ff_readHead_91 ?_
      obtain ⟨r_4, hq, h⟩ := Option.bind_eq_some_iff.mp h
      try dsimp only at h
      have hPc := hP.sub (ws' := [(o, .inr (7, [.ref o_bytes, .int o_length, .ref o_starts, .ref o_sizes, .ref o_glyphStarts, .int o_units, .int o_glyphs, .int o_ascent, .int o_descent, .int o_gap, .int k0, .int o_metrics, .int o_codes, .int o_codesSize, .int o_segments, .int o_pairs])), (o_bytes, .inl (cy 1, 4096, .inl o_bytes_f)), (o_starts, .inl (cy 0, 8, .inl o_starts_f)), (o_sizes, .inl (cy 0, 8, .inl o_sizes_f)), (o_glyphStarts, .inl (cy 0, 65, .inl o_glyphStarts_f))]) [0, 1, 2, 3, 4] rfl
      have hDc := hD.sub (ws' := [(o, .inr (7, [.ref o_bytes, .int o_length, .ref o_starts, .ref o_sizes, .ref o_glyphStarts, .int o_units, .int o_glyphs, .int o_ascent, .int o_descent, .int o_gap, .int k0, .int o_metrics, .int o_codes, .int o_codesSize, .int o_segments, .int o_pairs])), (o_bytes, .inl (cy 1, 4096, .inl o_bytes_f)), (o_starts, .inl (cy 0, 8, .inl o_starts_f)), (o_sizes, .inl (cy 0, 8, .inl o_sizes_f)), (o_glyphStarts, .inl (cy 0, 65, .inl o_glyphStarts_f))]) [0, 1, 2, 3, 4] (by decide) rfl
      have hFc := va_free (wc := [(o, .inr (7, [.ref o_bytes, .int o_length, .ref o_starts, .ref o_sizes, .ref o_glyphStarts, .int o_units, .int o_glyphs, .int o_ascent, .int o_descent, .int o_gap, .int k0, .int o_metrics, .int o_codes, .int o_codesSize, .int o_segments, .int o_pairs])), (o_bytes, .inl (cy 1, 4096, .inl o_bytes_f)), (o_starts, .inl (cy 0, 8, .inl o_starts_f)), (o_sizes, .inl (cy 0, 8, .inl o_sizes_f)), (o_glyphStarts, .inl (cy 0, 65, .inl o_glyphStarts_f))]) hD hS hA [0, 1, 2, 3, 4] rfl
      refine va_calli (va_runV (As := [.int (x1 + (50 : Int32))]) (rest := []) ⟨hx, hb, hml, hown, htsG⟩ (c_Ff_twoAt l dC dI cy H.size o o_bytes o_starts o_sizes o_glyphStarts o_length o_units o_glyphs o_ascent o_descent o_gap k0 o_metrics o_codes o_codesSize o_segments o_pairs o_bytes_f o_starts_f o_sizes_f o_glyphStarts_f (x1 + (50 : Int32)) r_4 hq) (cwV 1 htsG (gV mW365 mW367 mS_Ff_twoAt mW11 mW368) rfl rfl rfl (by decide +kernel) ⟨Nat.le_of_ble_eq_true rfl, Nat.le_of_ble_eq_true rfl⟩) ⟨fun a U g mk q => by obtain ⟨q0, q1, qP, qK, qD⟩ := q; exact ⟨q0, q1, qP, va_K.moved (u := U) (U := U.calling g mk a) (Vm.Alike.refl U.vm) qK, qD⟩, va_recv hK hPc (ci := 7) (q0 := 0) rfl rfl, fun U hU hW => ⟨rfl, by rw [hU], by rw [hU]; exact hPc, va_K.moved hW.alike hK, hDc.weaken (fun _ _ _ _ => trivial)⟩⟩ rfl rfl hl.1 rfl (lv_room (Nat.le_of_ble_eq_true rfl)) d_Ff_readHead_92 ⟨Nat.le_of_ble_eq_true rfl, Nat.le_of_ble_eq_true rfl⟩) hS (fun q _ h => hFc q h) hFc (fun rr u t H1 locs ht hvm hw hB hz1 hk1 hS => ?_)
      obtain ⟨hP1, hK1, hD1⟩ := hB
      rw [ht] at hP1
      replace hw : r_4 = rr := hw.symm
      subst hw
      obtain ⟨hP, hD⟩ := va_join (wr := []) (w1 := [(o, .inr (7, [.ref o_bytes, .int o_length, .ref o_starts, .ref o_sizes, .ref o_glyphStarts, .int o_units, .int o_glyphs, .int o_ascent, .int o_descent, .int o_gap, .int k0, .int o_metrics, .int o_codes, .int o_codesSize, .int o_segments, .int o_pairs])), (o_bytes, .inl (cy 1, 4096, .inl o_bytes_f)), (o_starts, .inl (cy 0, 8, .inl o_starts_f)), (o_sizes, .inl (cy 0, 8, .inl o_sizes_f)), (o_glyphStarts, .inl (cy 0, 65, .inl o_glyphStarts_f))]) hP hD [0, 1, 2, 3, 4] [] rfl rfl (by decide) (by decide) hk1 hFc hP1 hD1
      generalize H1 = H at hP hS ⊢
      have hP := hP.sub (ws' := [(o, .inr (7, [.ref o_bytes, .int o_length, .ref o_starts, .ref o_sizes, .ref o_glyphStarts, .int o_units, .int o_glyphs, .int o_ascent, .int o_descent, .int o_gap, .int k0, .int o_metrics, .int o_codes, .int o_codesSize, .int o_segments, .int o_pairs])), (o_bytes, .inl (cy 1, 4096, .inl o_bytes_f)), (o_starts, .inl (cy 0, 8, .inl o_starts_f)), (o_sizes, .inl (cy 0, 8, .inl o_sizes_f)), (o_glyphStarts, .inl (cy 0, 65, .inl o_glyphStarts_f))]) [0, 1, 2, 3, 4] rfl
      have hD := hD.sub (ws' := [(o, .inr (7, [.ref o_bytes, .int o_length, .ref o_starts, .ref o_sizes, .ref o_glyphStarts, .int o_units, .int o_glyphs, .int o_ascent, .int o_descent, .int o_gap, .int k0, .int o_metrics, .int o_codes, .int o_codesSize, .int o_segments, .int o_pairs])), (o_bytes, .inl (cy 1, 4096, .inl o_bytes_f)), (o_starts, .inl (cy 0, 8, .inl o_starts_f)), (o_sizes, .inl (cy 0, 8, .inl o_sizes_f)), (o_glyphStarts, .inl (cy 0, 65, .inl o_glyphStarts_f))]) [0, 1, 2, 3, 4] (by decide) rfl
      refine W.widen (k := 0) (n := 0) (by decide) (by decide) ?_
      refine lv_iconst (v := (1 : Int32)) hx hb d_Ff_readHead_95 (by decide) ?_
      refine lv_icmp_gt (tgt := 103) hx hb d_Ff_readHead_96 (by decide) (fun c_5 => ?_) (fun c_5 => ?_)
      · replace h := (if_pos c_5).symm.trans h
        refine lv_iconst (v := (0 : Int32)) hx hb d_Ff_readHead_103 (by decide) ?_
        cases h
        exact W.zret (ty := .boolean) hx hb hr rfl (fun t ht hW => ⟨⟨_, (), rfl, rfl, by rw [ht]; exact hP, va_K.moved hW.alike hK, hD⟩, hS.F ht⟩) hS.2.2 d_Ff_readHead_104 hlocks
      · replace h := (if_neg c_5).symm.trans h
        refine lv_iconst (v := (1 : Int32)) hx hb d_Ff_readHead_99 (by decide) ?_
        refine lv_goto (tgt := 104) hx hb d_Ff_readHead_100 (by decide) ?_
        cases h
        exact W.zret (ty := .boolean) hx hb hr rfl (fun t ht hW => ⟨⟨_, (), rfl, rfl, by rw [ht]; exact hP, va_K.moved hW.alike hK, hD⟩, hS.F ht⟩) hS.2.2 d_Ff_readHead_104 hlocks
def P_Ff_readHead (o_length : Int32) (o_units : Int32) (o_longLoca : Int32) (o_bytes_f : Nat → Int32) (o_starts_f : Nat → Int32) (o_sizes_f : Nat → Int32)  : Option (Int32 × Int32 × Int32) :=
  bd (2 : Int32) 8 <| bd (2 : Int32) 8 <| if (o_sizes_f (2 : Int32).toNatClampNeg) < (54 : Int32) then (some ((0 : Int32), o_units, o_longLoca)) else ((P_Ff_fourAt o_length o_bytes_f ((o_starts_f (2 : Int32).toNatClampNeg) + (12 : Int32))).bind fun r_4 => if (lg_cmp r_4 (1594834165 : Int64)) = 0 then ((P_Ff_twoAt o_length o_bytes_f ((o_starts_f (2 : Int32).toNatClampNeg) + (18 : Int32))).bind fun r_6 => (P_Ff_twoAt o_length o_bytes_f ((o_starts_f (2 : Int32).toNatClampNeg) + (50 : Int32))).bind fun r_7 => if r_7 = (1 : Int32) then (P_Ff_readHead_65 o_length o_bytes_f o_starts_f o_sizes_f (o_starts_f (2 : Int32).toNatClampNeg) (1 : Int32) r_6 o_longLoca) else (P_Ff_readHead_65 o_length o_bytes_f o_starts_f o_sizes_f (o_starts_f (2 : Int32).toNatClampNeg) (0 : Int32) r_6 o_longLoca)) else (some ((0 : Int32), o_units, o_longLoca)))
set_option maxHeartbeats 4000000 in
set_option maxRecDepth 100000 in
theorem c_Ff_readHead (l : Launch) (dC : Nat → ClassId) (dI : Nat → Nat → Nat) (cy : Nat → ClassId) (sz : Nat) (o : Nat) (o_bytes : Nat) (o_starts : Nat) (o_sizes : Nat) (o_glyphStarts : Nat) (o_length : Int32) (o_units : Int32) (o_glyphs : Int32) (o_ascent : Int32) (o_descent : Int32) (o_gap : Int32) (o_longLoca : Int32) (o_metrics : Int32) (o_codes : Int32) (o_codesSize : Int32) (o_segments : Int32) (o_pairs : Int32) (o_bytes_f : Nat → Int32) (o_starts_f : Nat → Int32) (o_sizes_f : Nat → Int32) (o_glyphStarts_f : Nat → Int32)  (uu : Int32 × Int32 × Int32) (h : P_Ff_readHead o_length o_units o_longLoca o_bytes_f o_starts_f o_sizes_f = some uu) : Met l y_Ff_readHead (Cond.code y_Ff_readHead b_Ff_readHead 2 (some .boolean) :: G) ({ frames := 2, cells := 0, slots := 0, locals := 42 } : Room) (va_Pc [.ref o] (fun U => U.heap.size = sz ∧ va_P (dC, dI) classes [(o, .inr (7, [.ref o_bytes, .int o_length, .ref o_starts, .ref o_sizes, .ref o_glyphStarts, .int o_units, .int o_glyphs, .int o_ascent, .int o_descent, .int o_gap, .int o_longLoca, .int o_metrics, .int o_codes, .int o_codesSize, .int o_segments, .int o_pairs])), (o_bytes, .inl (cy 1, 4096, .inl o_bytes_f)), (o_starts, .inl (cy 0, 8, .inl o_starts_f)), (o_sizes, .inl (cy 0, 8, .inl o_sizes_f)), (o_glyphStarts, .inl (cy 0, 65, .inl o_glyphStarts_f))] U.heap ∧ va_K (dC, dI) classes (TY cy) U ∧ va_D (fun _ => True) [(o, .inr (7, [.ref o_bytes, .int o_length, .ref o_starts, .ref o_sizes, .ref o_glyphStarts, .int o_units, .int o_glyphs, .int o_ascent, .int o_descent, .int o_gap, .int o_longLoca, .int o_metrics, .int o_codes, .int o_codesSize, .int o_segments, .int o_pairs])), (o_bytes, .inl (cy 1, 4096, .inl o_bytes_f)), (o_starts, .inl (cy 0, 8, .inl o_starts_f)), (o_sizes, .inl (cy 0, 8, .inl o_sizes_f)), (o_glyphStarts, .inl (cy 0, 65, .inl o_glyphStarts_f))])) (va_Qi (fun r (_ : Unit) => r = uu.1) (fun _ t => va_P (dC, dI) classes [(o, .inr (7, [.ref o_bytes, .int o_length, .ref o_starts, .ref o_sizes, .ref o_glyphStarts, .int uu.2.1, .int o_glyphs, .int o_ascent, .int o_descent, .int o_gap, .int uu.2.2, .int o_metrics, .int o_codes, .int o_codesSize, .int o_segments, .int o_pairs])), (o_bytes, .inl (cy 1, 4096, .inl o_bytes_f)), (o_starts, .inl (cy 0, 8, .inl o_starts_f)), (o_sizes, .inl (cy 0, 8, .inl o_sizes_f)), (o_glyphStarts, .inl (cy 0, 65, .inl o_glyphStarts_f))] t.heap ∧ va_K (dC, dI) classes (TY cy) t ∧ va_D (va_A [(o, .inr (7, [.ref o_bytes, .int o_length, .ref o_starts, .ref o_sizes, .ref o_glyphStarts, .int o_units, .int o_glyphs, .int o_ascent, .int o_descent, .int o_gap, .int o_longLoca, .int o_metrics, .int o_codes, .int o_codesSize, .int o_segments, .int o_pairs])), (o_bytes, .inl (cy 1, 4096, .inl o_bytes_f)), (o_starts, .inl (cy 0, 8, .inl o_starts_f)), (o_sizes, .inl (cy 0, 8, .inl o_sizes_f)), (o_glyphStarts, .inl (cy 0, 65, .inl o_glyphStarts_f))] sz) [(o, .inr (7, [.ref o_bytes, .int o_length, .ref o_starts, .ref o_sizes, .ref o_glyphStarts, .int uu.2.1, .int o_glyphs, .int o_ascent, .int o_descent, .int o_gap, .int uu.2.2, .int o_metrics, .int o_codes, .int o_codesSize, .int o_segments, .int o_pairs])), (o_bytes, .inl (cy 1, 4096, .inl o_bytes_f)), (o_starts, .inl (cy 0, 8, .inl o_starts_f)), (o_sizes, .inl (cy 0, 8, .inl o_sizes_f)), (o_glyphStarts, .inl (cy 0, 65, .inl o_glyphStarts_f))]) (va_A [(o, .inr (7, [.ref o_bytes, .int o_length, .ref o_starts, .ref o_sizes, .ref o_glyphStarts, .int o_units, .int o_glyphs, .int o_ascent, .int o_descent, .int o_gap, .int o_longLoca, .int o_metrics, .int o_codes, .int o_codesSize, .int o_segments, .int o_pairs])), (o_bytes, .inl (cy 1, 4096, .inl o_bytes_f)), (o_starts, .inl (cy 0, 8, .inl o_starts_f)), (o_sizes, .inl (cy 0, 8, .inl o_sizes_f)), (o_glyphStarts, .inl (cy 0, 65, .inl o_glyphStarts_f))] sz)) 0 0 (va_A [(o, .inr (7, [.ref o_bytes, .int o_length, .ref o_starts, .ref o_sizes, .ref o_glyphStarts, .int o_units, .int o_glyphs, .int o_ascent, .int o_descent, .int o_gap, .int o_longLoca, .int o_metrics, .int o_codes, .int o_codesSize, .int o_segments, .int o_pairs])), (o_bytes, .inl (cy 1, 4096, .inl o_bytes_f)), (o_starts, .inl (cy 0, 8, .inl o_starts_f)), (o_sizes, .inl (cy 0, 8, .inl o_sizes_f)), (o_glyphStarts, .inl (cy 0, 65, .inl o_glyphStarts_f))] sz) := by
  refine Met.ofW (cc := b_Ff_readHead) (maxL := 2) (ret := (some .boolean)) (by decide) rfl ?_
  intro p e s m args below meth c s₁ B hml hv
  obtain ⟨rfl, hsz, hP, hK, hD0⟩ := hv
  have hx := B.exec
  have hb := B.bytes
  have hr := B.returns
  have hts := atoms_spec (ws := Cond.code y_Ff_readHead b_Ff_readHead 2 (some .boolean) :: G) B.pre
  have htsG : ∀ w ∈ G, w.before _ s = true := fun w hw => hts w (List.mem_cons_of_mem _ hw)
  have hown : s.vm.findClass "GlyphPage$FontFile" = some m.cls := findClass_of_methodNamed B.named
  have hlocks := B.notSynchronized
  subst hsz
  have hD := hD0.self (sz := s.heap.size)
  generalize hAe : va_A [(o, .inr (7, [.ref o_bytes, .int o_length, .ref o_starts, .ref o_sizes, .ref o_glyphStarts, .int o_units, .int o_glyphs, .int o_ascent, .int o_descent, .int o_gap, .int o_longLoca, .int o_metrics, .int o_codes, .int o_codesSize, .int o_segments, .int o_pairs])), (o_bytes, .inl (cy 1, 4096, .inl o_bytes_f)), (o_starts, .inl (cy 0, 8, .inl o_starts_f)), (o_sizes, .inl (cy 0, 8, .inl o_sizes_f)), (o_glyphStarts, .inl (cy 0, 65, .inl o_glyphStarts_f))] s.heap.size = A at hD ⊢
  have hA : ∀ q : Nat, s.heap.size ≤ q → A q := fun q h => by rw [← hAe]; exact Or.inr h
  have hS : va_S A s.heap s.heap [] := va_S.rf
  have hl := lv_entry ([.ref o]) (n := 2) (Nat.le_of_ble_eq_true rfl)
  rw [lg_entry_eq]
  generalize (lg_sl ([.ref o]) ++ List.replicate (2 - (lg_sl ([.ref o])).length) Slot.unset).toArray = ls at hl ⊢
  have hl : lv_has ls 2 [(0, .ref o)] := hl
  have C0 : Cx p s m _ meth c A dC dI cy b_Ff_readHead 2 (some .boolean) "GlyphPage$FontFile" := ⟨hx, hb, hr, hlocks, hml, hown, htsG, hA, hK⟩
  unfold P_Ff_readHead at h
  refine lv_aload_n hx hb d_Ff_readHead_0 rfl (lv_at hl 0 rfl) ?_
  refine va_get (D := (dC, dI)) (ci := 7) (v := .ref o_starts) (C := "GlyphPage$FontFile") (T := F_Ff) (N := 16) hx hb htsG iG_Ff hown hK hP 0 rfl rfl 2 (by decide) (htsG _ mW303) (fun _ h9 => h9) rfl d_Ff_readHead_1 ?_
  refine lv_iconst (v := (2 : Int32)) hx hb d_Ff_readHead_4 (by decide) ?_
  obtain ⟨hin_1, h⟩ := bd_some h
  refine va_iald hx hb hK hP 2 0 rfl rfl hin_1 d_Ff_readHead_5 ?_
  refine lv_istore_n (lv' := [(1, .int (o_starts_f (2 : Int32).toNatClampNeg)), (0, .ref o)]) hx hb d_Ff_readHead_6 rfl hl (by decide) rfl (fun ls hl => ?_)
  refine lv_aload_n hx hb d_Ff_readHead_7 rfl (lv_at hl 1 rfl) ?_
  refine va_get (D := (dC, dI)) (ci := 7) (v := .ref o_sizes) (C := "GlyphPage$FontFile") (T := F_Ff) (N := 16) hx hb htsG iG_Ff hown hK hP 0 rfl rfl 3 (by decide) (htsG _ mW304) (fun _ h9 => h9) rfl d_Ff_readHead_8 ?_
  refine lv_iconst (v := (2 : Int32)) hx hb d_Ff_readHead_11 (by decide) ?_
  obtain ⟨hin_2, h⟩ := bd_some h
  refine va_iald hx hb hK hP 3 0 rfl rfl hin_2 d_Ff_readHead_12 ?_
  refine lv_bipush (v := (54 : Int32)) hx hb d_Ff_readHead_13 (by decide) ?_
  refine lv_icmp_lt (tgt := 33) hx hb d_Ff_readHead_15 (by decide) (fun c_3 => ?_) (fun c_3 => ?_)
  · replace h := (if_pos c_3).symm.trans h
    refine lv_iconst (v := (0 : Int32)) hx hb d_Ff_readHead_33 (by decide) ?_
    cases h
    exact W.zret (ty := .boolean) hx hb hr rfl (fun t ht hW => ⟨⟨_, (), rfl, rfl, by rw [ht]; exact hP, va_K.moved hW.alike hK, hD⟩, hS.F ht⟩) hS.2.2 d_Ff_readHead_34 hlocks
  · replace h := (if_neg c_3).symm.trans h
    refine lv_aload_n hx hb d_Ff_readHead_18 rfl (lv_at hl 1 rfl) ?_
    refine lv_iload_n hx hb d_Ff_readHead_19 rfl (lv_at hl 0 rfl) ?_
    refine lv_bipush (v := (12 : Int32)) hx hb d_Ff_readHead_20 (by decide) ?_
    refine lv_iadd hx hb d_Ff_readHead_22 ?_
    obtain ⟨r_4, hq, h⟩ := Option.bind_eq_some_iff.mp h
    try dsimp only at h
    have hPc := hP.sub (ws' := [(o, .inr (7, [.ref o_bytes, .int o_length, .ref o_starts, .ref o_sizes, .ref o_glyphStarts, .int o_units, .int o_glyphs, .int o_ascent, .int o_descent, .int o_gap, .int o_longLoca, .int o_metrics, .int o_codes, .int o_codesSize, .int o_segments, .int o_pairs])), (o_bytes, .inl (cy 1, 4096, .inl o_bytes_f)), (o_starts, .inl (cy 0, 8, .inl o_starts_f)), (o_sizes, .inl (cy 0, 8, .inl o_sizes_f)), (o_glyphStarts, .inl (cy 0, 65, .inl o_glyphStarts_f))]) [0, 1, 2, 3, 4] rfl
    have hDc := hD.sub (ws' := [(o, .inr (7, [.ref o_bytes, .int o_length, .ref o_starts, .ref o_sizes, .ref o_glyphStarts, .int o_units, .int o_glyphs, .int o_ascent, .int o_descent, .int o_gap, .int o_longLoca, .int o_metrics, .int o_codes, .int o_codesSize, .int o_segments, .int o_pairs])), (o_bytes, .inl (cy 1, 4096, .inl o_bytes_f)), (o_starts, .inl (cy 0, 8, .inl o_starts_f)), (o_sizes, .inl (cy 0, 8, .inl o_sizes_f)), (o_glyphStarts, .inl (cy 0, 65, .inl o_glyphStarts_f))]) [0, 1, 2, 3, 4] (by decide) rfl
    have hFc := va_free (wc := [(o, .inr (7, [.ref o_bytes, .int o_length, .ref o_starts, .ref o_sizes, .ref o_glyphStarts, .int o_units, .int o_glyphs, .int o_ascent, .int o_descent, .int o_gap, .int o_longLoca, .int o_metrics, .int o_codes, .int o_codesSize, .int o_segments, .int o_pairs])), (o_bytes, .inl (cy 1, 4096, .inl o_bytes_f)), (o_starts, .inl (cy 0, 8, .inl o_starts_f)), (o_sizes, .inl (cy 0, 8, .inl o_sizes_f)), (o_glyphStarts, .inl (cy 0, 65, .inl o_glyphStarts_f))]) hD hS hA [0, 1, 2, 3, 4] rfl
    refine va_calll (va_runV (As := [.int ((o_starts_f (2 : Int32).toNatClampNeg) + (12 : Int32))]) (rest := []) ⟨hx, hb, hml, hown, htsG⟩ (c_Ff_fourAt l dC dI cy s.heap.size o o_bytes o_starts o_sizes o_glyphStarts o_length o_units o_glyphs o_ascent o_descent o_gap o_longLoca o_metrics o_codes o_codesSize o_segments o_pairs o_bytes_f o_starts_f o_sizes_f o_glyphStarts_f ((o_starts_f (2 : Int32).toNatClampNeg) + (12 : Int32)) r_4 hq) (cwV 1 htsG (gV mW369 mW371 mS_Ff_fourAt mW11 mW372) rfl rfl rfl (by decide +kernel) ⟨Nat.le_of_ble_eq_true rfl, Nat.le_of_ble_eq_true rfl⟩) ⟨fun a U g mk q => by obtain ⟨q0, q1, qP, qK, qD⟩ := q; exact ⟨q0, q1, qP, va_K.moved (u := U) (U := U.calling g mk a) (Vm.Alike.refl U.vm) qK, qD⟩, va_recv hK hPc (ci := 7) (q0 := 0) rfl rfl, fun U hU hW => ⟨rfl, by rw [hU], by rw [hU]; exact hPc, va_K.moved hW.alike hK, hDc.weaken (fun _ _ _ _ => trivial)⟩⟩ rfl rfl hl.1 rfl (lv_room (Nat.le_of_ble_eq_true rfl)) d_Ff_readHead_23 ⟨Nat.le_of_ble_eq_true rfl, Nat.le_of_ble_eq_true rfl⟩) hS (fun q _ h => hFc q h) hFc (fun rr u t H1 locs ht hvm hw hB hz1 hk1 hS => ?_)
    obtain ⟨hP1, hK1, hD1⟩ := hB
    rw [ht] at hP1
    replace hw : r_4 = rr := hw.symm
    subst hw
    obtain ⟨hP, hD⟩ := va_join (wr := []) (w1 := [(o, .inr (7, [.ref o_bytes, .int o_length, .ref o_starts, .ref o_sizes, .ref o_glyphStarts, .int o_units, .int o_glyphs, .int o_ascent, .int o_descent, .int o_gap, .int o_longLoca, .int o_metrics, .int o_codes, .int o_codesSize, .int o_segments, .int o_pairs])), (o_bytes, .inl (cy 1, 4096, .inl o_bytes_f)), (o_starts, .inl (cy 0, 8, .inl o_starts_f)), (o_sizes, .inl (cy 0, 8, .inl o_sizes_f)), (o_glyphStarts, .inl (cy 0, 65, .inl o_glyphStarts_f))]) hP hD [0, 1, 2, 3, 4] [] rfl rfl (by decide) (by decide) hk1 hFc hP1 hD1
    generalize H1 = H at hP hS ⊢
    have hP := hP.sub (ws' := [(o, .inr (7, [.ref o_bytes, .int o_length, .ref o_starts, .ref o_sizes, .ref o_glyphStarts, .int o_units, .int o_glyphs, .int o_ascent, .int o_descent, .int o_gap, .int o_longLoca, .int o_metrics, .int o_codes, .int o_codesSize, .int o_segments, .int o_pairs])), (o_bytes, .inl (cy 1, 4096, .inl o_bytes_f)), (o_starts, .inl (cy 0, 8, .inl o_starts_f)), (o_sizes, .inl (cy 0, 8, .inl o_sizes_f)), (o_glyphStarts, .inl (cy 0, 65, .inl o_glyphStarts_f))]) [0, 1, 2, 3, 4] rfl
    have hD := hD.sub (ws' := [(o, .inr (7, [.ref o_bytes, .int o_length, .ref o_starts, .ref o_sizes, .ref o_glyphStarts, .int o_units, .int o_glyphs, .int o_ascent, .int o_descent, .int o_gap, .int o_longLoca, .int o_metrics, .int o_codes, .int o_codesSize, .int o_segments, .int o_pairs])), (o_bytes, .inl (cy 1, 4096, .inl o_bytes_f)), (o_starts, .inl (cy 0, 8, .inl o_starts_f)), (o_sizes, .inl (cy 0, 8, .inl o_sizes_f)), (o_glyphStarts, .inl (cy 0, 65, .inl o_glyphStarts_f))]) [0, 1, 2, 3, 4] (by decide) rfl
    refine W.widen (k := 0) (n := 0) (by decide) (by decide) ?_
    refine lv_ldc2 hx hb hown (htsG _ mW391) d_Ff_readHead_26 ?_
    refine W.lcmp hx hb d_Ff_readHead_29 ?_
    refine lv_if_eq (tgt := 35) hx hb d_Ff_readHead_30 (by decide) (fun c_5 => ?_) (fun c_5 => ?_)
    · replace h := (if_pos c_5).symm.trans h
      refine lv_aload_n hx hb d_Ff_readHead_35 rfl (lv_at hl 1 rfl) ?_
      refine lv_aload_n hx hb d_Ff_readHead_36 rfl (lv_at hl 1 rfl) ?_
      refine lv_iload_n hx hb d_Ff_readHead_37 rfl (lv_at hl 0 rfl) ?_
      refine lv_bipush (v := (18 : Int32)) hx hb d_Ff_readHead_38 (by decide) ?_
      refine lv_iadd hx hb d_Ff_readHead_40 ?_
      obtain ⟨r_6, hq, h⟩ := Option.bind_eq_some_iff.mp h
      try dsimp only at h
      have hPc := hP.sub (ws' := [(o, .inr (7, [.ref o_bytes, .int o_length, .ref o_starts, .ref o_sizes, .ref o_glyphStarts, .int o_units, .int o_glyphs, .int o_ascent, .int o_descent, .int o_gap, .int o_longLoca, .int o_metrics, .int o_codes, .int o_codesSize, .int o_segments, .int o_pairs])), (o_bytes, .inl (cy 1, 4096, .inl o_bytes_f)), (o_starts, .inl (cy 0, 8, .inl o_starts_f)), (o_sizes, .inl (cy 0, 8, .inl o_sizes_f)), (o_glyphStarts, .inl (cy 0, 65, .inl o_glyphStarts_f))]) [0, 1, 2, 3, 4] rfl
      have hDc := hD.sub (ws' := [(o, .inr (7, [.ref o_bytes, .int o_length, .ref o_starts, .ref o_sizes, .ref o_glyphStarts, .int o_units, .int o_glyphs, .int o_ascent, .int o_descent, .int o_gap, .int o_longLoca, .int o_metrics, .int o_codes, .int o_codesSize, .int o_segments, .int o_pairs])), (o_bytes, .inl (cy 1, 4096, .inl o_bytes_f)), (o_starts, .inl (cy 0, 8, .inl o_starts_f)), (o_sizes, .inl (cy 0, 8, .inl o_sizes_f)), (o_glyphStarts, .inl (cy 0, 65, .inl o_glyphStarts_f))]) [0, 1, 2, 3, 4] (by decide) rfl
      have hFc := va_free (wc := [(o, .inr (7, [.ref o_bytes, .int o_length, .ref o_starts, .ref o_sizes, .ref o_glyphStarts, .int o_units, .int o_glyphs, .int o_ascent, .int o_descent, .int o_gap, .int o_longLoca, .int o_metrics, .int o_codes, .int o_codesSize, .int o_segments, .int o_pairs])), (o_bytes, .inl (cy 1, 4096, .inl o_bytes_f)), (o_starts, .inl (cy 0, 8, .inl o_starts_f)), (o_sizes, .inl (cy 0, 8, .inl o_sizes_f)), (o_glyphStarts, .inl (cy 0, 65, .inl o_glyphStarts_f))]) hD hS hA [0, 1, 2, 3, 4] rfl
      refine va_calli (va_runV (As := [.int ((o_starts_f (2 : Int32).toNatClampNeg) + (18 : Int32))]) (rest := [.ref o]) ⟨hx, hb, hml, hown, htsG⟩ (c_Ff_twoAt l dC dI cy H.size o o_bytes o_starts o_sizes o_glyphStarts o_length o_units o_glyphs o_ascent o_descent o_gap o_longLoca o_metrics o_codes o_codesSize o_segments o_pairs o_bytes_f o_starts_f o_sizes_f o_glyphStarts_f ((o_starts_f (2 : Int32).toNatClampNeg) + (18 : Int32)) r_6 hq) (cwV 1 htsG (gV mW365 mW367 mS_Ff_twoAt mW11 mW368) rfl rfl rfl (by decide +kernel) ⟨Nat.le_of_ble_eq_true rfl, Nat.le_of_ble_eq_true rfl⟩) ⟨fun a U g mk q => by obtain ⟨q0, q1, qP, qK, qD⟩ := q; exact ⟨q0, q1, qP, va_K.moved (u := U) (U := U.calling g mk a) (Vm.Alike.refl U.vm) qK, qD⟩, va_recv hK hPc (ci := 7) (q0 := 0) rfl rfl, fun U hU hW => ⟨rfl, by rw [hU], by rw [hU]; exact hPc, va_K.moved hW.alike hK, hDc.weaken (fun _ _ _ _ => trivial)⟩⟩ rfl rfl hl.1 rfl (lv_room (Nat.le_of_ble_eq_true rfl)) d_Ff_readHead_41 ⟨Nat.le_of_ble_eq_true rfl, Nat.le_of_ble_eq_true rfl⟩) hS (fun q _ h => hFc q h) hFc (fun rr u t H1 locs ht hvm hw hB hz1 hk1 hS => ?_)
      obtain ⟨hP1, hK1, hD1⟩ := hB
      rw [ht] at hP1
      replace hw : r_6 = rr := hw.symm
      subst hw
      obtain ⟨hP, hD⟩ := va_join (wr := []) (w1 := [(o, .inr (7, [.ref o_bytes, .int o_length, .ref o_starts, .ref o_sizes, .ref o_glyphStarts, .int o_units, .int o_glyphs, .int o_ascent, .int o_descent, .int o_gap, .int o_longLoca, .int o_metrics, .int o_codes, .int o_codesSize, .int o_segments, .int o_pairs])), (o_bytes, .inl (cy 1, 4096, .inl o_bytes_f)), (o_starts, .inl (cy 0, 8, .inl o_starts_f)), (o_sizes, .inl (cy 0, 8, .inl o_sizes_f)), (o_glyphStarts, .inl (cy 0, 65, .inl o_glyphStarts_f))]) hP hD [0, 1, 2, 3, 4] [] rfl rfl (by decide) (by decide) hk1 hFc hP1 hD1
      generalize H1 = H at hP hS ⊢
      have hP := hP.sub (ws' := [(o, .inr (7, [.ref o_bytes, .int o_length, .ref o_starts, .ref o_sizes, .ref o_glyphStarts, .int o_units, .int o_glyphs, .int o_ascent, .int o_descent, .int o_gap, .int o_longLoca, .int o_metrics, .int o_codes, .int o_codesSize, .int o_segments, .int o_pairs])), (o_bytes, .inl (cy 1, 4096, .inl o_bytes_f)), (o_starts, .inl (cy 0, 8, .inl o_starts_f)), (o_sizes, .inl (cy 0, 8, .inl o_sizes_f)), (o_glyphStarts, .inl (cy 0, 65, .inl o_glyphStarts_f))]) [0, 1, 2, 3, 4] rfl
      have hD := hD.sub (ws' := [(o, .inr (7, [.ref o_bytes, .int o_length, .ref o_starts, .ref o_sizes, .ref o_glyphStarts, .int o_units, .int o_glyphs, .int o_ascent, .int o_descent, .int o_gap, .int o_longLoca, .int o_metrics, .int o_codes, .int o_codesSize, .int o_segments, .int o_pairs])), (o_bytes, .inl (cy 1, 4096, .inl o_bytes_f)), (o_starts, .inl (cy 0, 8, .inl o_starts_f)), (o_sizes, .inl (cy 0, 8, .inl o_sizes_f)), (o_glyphStarts, .inl (cy 0, 65, .inl o_glyphStarts_f))]) [0, 1, 2, 3, 4] (by decide) rfl
      refine W.widen (k := 0) (n := 0) (by decide) (by decide) ?_
      refine va_put (D := (dC, dI)) (ci := 7) (v := .int r_6) (ty := .int) (C := "GlyphPage$FontFile") (T := F_Ff) (N := 16) hx hb htsG iG_Ff t_Ff t_Ff_ok n_Ff hown hK hP hD hS 0 rfl rfl 5 (by decide) (htsG _ mW307) (fun _ h9 => h9) rfl (by decide +kernel) rfl rfl (Nat.le_of_ble_eq_true rfl) d_Ff_readHead_44 (fun H locs hP hD hS => ?_)
      have hP : va_P (dC, dI) classes [(o, .inr (7, [.ref o_bytes, .int o_length, .ref o_starts, .ref o_sizes, .ref o_glyphStarts, .int r_6, .int o_glyphs, .int o_ascent, .int o_descent, .int o_gap, .int o_longLoca, .int o_metrics, .int o_codes, .int o_codesSize, .int o_segments, .int o_pairs])), (o_bytes, .inl (cy 1, 4096, .inl o_bytes_f)), (o_starts, .inl (cy 0, 8, .inl o_starts_f)), (o_sizes, .inl (cy 0, 8, .inl o_sizes_f)), (o_glyphStarts, .inl (cy 0, 65, .inl o_glyphStarts_f))] H := hP
      have hD : va_D A [(o, .inr (7, [.ref o_bytes, .int o_length, .ref o_starts, .ref o_sizes, .ref o_glyphStarts, .int r_6, .int o_glyphs, .int o_ascent, .int o_descent, .int o_gap, .int o_longLoca, .int o_metrics, .int o_codes, .int o_codesSize, .int o_segments, .int o_pairs])), (o_bytes, .inl (cy 1, 4096, .inl o_bytes_f)), (o_starts, .inl (cy 0, 8, .inl o_starts_f)), (o_sizes, .inl (cy 0, 8, .inl o_sizes_f)), (o_glyphStarts, .inl (cy 0, 65, .inl o_glyphStarts_f))] := hD
      refine lv_aload_n hx hb d_Ff_readHead_47 rfl (lv_at hl 1 rfl) ?_
      refine lv_aload_n hx hb d_Ff_readHead_48 rfl (lv_at hl 1 rfl) ?_
      refine lv_iload_n hx hb d_Ff_readHead_49 rfl (lv_at hl 0 rfl) ?_
      refine lv_bipush (v := (50 : Int32)) hx hb d_Ff_readHead_50 (by decide) ?_
      refine lv_iadd hx hb d_Ff_readHead_52 ?_
      obtain ⟨r_7, hq, h⟩ := Option.bind_eq_some_iff.mp h
      try dsimp only at h
      have hPc := hP.sub (ws' := [(o, .inr (7, [.ref o_bytes, .int o_length, .ref o_starts, .ref o_sizes, .ref o_glyphStarts, .int r_6, .int o_glyphs, .int o_ascent, .int o_descent, .int o_gap, .int o_longLoca, .int o_metrics, .int o_codes, .int o_codesSize, .int o_segments, .int o_pairs])), (o_bytes, .inl (cy 1, 4096, .inl o_bytes_f)), (o_starts, .inl (cy 0, 8, .inl o_starts_f)), (o_sizes, .inl (cy 0, 8, .inl o_sizes_f)), (o_glyphStarts, .inl (cy 0, 65, .inl o_glyphStarts_f))]) [0, 1, 2, 3, 4] rfl
      have hDc := hD.sub (ws' := [(o, .inr (7, [.ref o_bytes, .int o_length, .ref o_starts, .ref o_sizes, .ref o_glyphStarts, .int r_6, .int o_glyphs, .int o_ascent, .int o_descent, .int o_gap, .int o_longLoca, .int o_metrics, .int o_codes, .int o_codesSize, .int o_segments, .int o_pairs])), (o_bytes, .inl (cy 1, 4096, .inl o_bytes_f)), (o_starts, .inl (cy 0, 8, .inl o_starts_f)), (o_sizes, .inl (cy 0, 8, .inl o_sizes_f)), (o_glyphStarts, .inl (cy 0, 65, .inl o_glyphStarts_f))]) [0, 1, 2, 3, 4] (by decide) rfl
      have hFc := va_free (wc := [(o, .inr (7, [.ref o_bytes, .int o_length, .ref o_starts, .ref o_sizes, .ref o_glyphStarts, .int r_6, .int o_glyphs, .int o_ascent, .int o_descent, .int o_gap, .int o_longLoca, .int o_metrics, .int o_codes, .int o_codesSize, .int o_segments, .int o_pairs])), (o_bytes, .inl (cy 1, 4096, .inl o_bytes_f)), (o_starts, .inl (cy 0, 8, .inl o_starts_f)), (o_sizes, .inl (cy 0, 8, .inl o_sizes_f)), (o_glyphStarts, .inl (cy 0, 65, .inl o_glyphStarts_f))]) hD hS hA [0, 1, 2, 3, 4] rfl
      refine va_calli (va_runV (As := [.int ((o_starts_f (2 : Int32).toNatClampNeg) + (50 : Int32))]) (rest := [.ref o]) ⟨hx, hb, hml, hown, htsG⟩ (c_Ff_twoAt l dC dI cy H.size o o_bytes o_starts o_sizes o_glyphStarts o_length r_6 o_glyphs o_ascent o_descent o_gap o_longLoca o_metrics o_codes o_codesSize o_segments o_pairs o_bytes_f o_starts_f o_sizes_f o_glyphStarts_f ((o_starts_f (2 : Int32).toNatClampNeg) + (50 : Int32)) r_7 hq) (cwV 1 htsG (gV mW365 mW367 mS_Ff_twoAt mW11 mW368) rfl rfl rfl (by decide +kernel) ⟨Nat.le_of_ble_eq_true rfl, Nat.le_of_ble_eq_true rfl⟩) ⟨fun a U g mk q => by obtain ⟨q0, q1, qP, qK, qD⟩ := q; exact ⟨q0, q1, qP, va_K.moved (u := U) (U := U.calling g mk a) (Vm.Alike.refl U.vm) qK, qD⟩, va_recv hK hPc (ci := 7) (q0 := 0) rfl rfl, fun U hU hW => ⟨rfl, by rw [hU], by rw [hU]; exact hPc, va_K.moved hW.alike hK, hDc.weaken (fun _ _ _ _ => trivial)⟩⟩ rfl rfl hl.1 rfl (lv_room (Nat.le_of_ble_eq_true rfl)) d_Ff_readHead_53 ⟨Nat.le_of_ble_eq_true rfl, Nat.le_of_ble_eq_true rfl⟩) hS (fun q _ h => hFc q h) hFc (fun rr u t H1 locs ht hvm hw hB hz1 hk1 hS => ?_)
      obtain ⟨hP1, hK1, hD1⟩ := hB
      rw [ht] at hP1
      replace hw : r_7 = rr := hw.symm
      subst hw
      obtain ⟨hP, hD⟩ := va_join (wr := []) (w1 := [(o, .inr (7, [.ref o_bytes, .int o_length, .ref o_starts, .ref o_sizes, .ref o_glyphStarts, .int r_6, .int o_glyphs, .int o_ascent, .int o_descent, .int o_gap, .int o_longLoca, .int o_metrics, .int o_codes, .int o_codesSize, .int o_segments, .int o_pairs])), (o_bytes, .inl (cy 1, 4096, .inl o_bytes_f)), (o_starts, .inl (cy 0, 8, .inl o_starts_f)), (o_sizes, .inl (cy 0, 8, .inl o_sizes_f)), (o_glyphStarts, .inl (cy 0, 65, .inl o_glyphStarts_f))]) hP hD [0, 1, 2, 3, 4] [] rfl rfl (by decide) (by decide) hk1 hFc hP1 hD1
      generalize H1 = H at hP hS ⊢
      have hP := hP.sub (ws' := [(o, .inr (7, [.ref o_bytes, .int o_length, .ref o_starts, .ref o_sizes, .ref o_glyphStarts, .int r_6, .int o_glyphs, .int o_ascent, .int o_descent, .int o_gap, .int o_longLoca, .int o_metrics, .int o_codes, .int o_codesSize, .int o_segments, .int o_pairs])), (o_bytes, .inl (cy 1, 4096, .inl o_bytes_f)), (o_starts, .inl (cy 0, 8, .inl o_starts_f)), (o_sizes, .inl (cy 0, 8, .inl o_sizes_f)), (o_glyphStarts, .inl (cy 0, 65, .inl o_glyphStarts_f))]) [0, 1, 2, 3, 4] rfl
      have hD := hD.sub (ws' := [(o, .inr (7, [.ref o_bytes, .int o_length, .ref o_starts, .ref o_sizes, .ref o_glyphStarts, .int r_6, .int o_glyphs, .int o_ascent, .int o_descent, .int o_gap, .int o_longLoca, .int o_metrics, .int o_codes, .int o_codesSize, .int o_segments, .int o_pairs])), (o_bytes, .inl (cy 1, 4096, .inl o_bytes_f)), (o_starts, .inl (cy 0, 8, .inl o_starts_f)), (o_sizes, .inl (cy 0, 8, .inl o_sizes_f)), (o_glyphStarts, .inl (cy 0, 65, .inl o_glyphStarts_f))]) [0, 1, 2, 3, 4] (by decide) rfl
      refine W.widen (k := 0) (n := 0) (by decide) (by decide) ?_
      refine lv_iconst (v := (1 : Int32)) hx hb d_Ff_readHead_56 (by decide) ?_
      refine lv_icmp_ne (tgt := 64) hx hb d_Ff_readHead_57 (by decide) (fun c_8 => ?_) (fun c_8 => ?_)
      · replace h := (if_neg c_8).symm.trans h
        refine lv_iconst (v := (0 : Int32)) hx hb d_Ff_readHead_64 (by decide) ?_
        exact w_Ff_readHead_65 C0 o o_bytes o_starts o_sizes o_glyphStarts o_length o_glyphs o_ascent o_descent o_gap o_metrics o_codes o_codesSize o_segments o_pairs o_bytes_f o_starts_f o_sizes_f o_glyphStarts_f uu  (o_starts_f (2 : Int32).toNatClampNeg) (0 : Int32) r_6 o_longLoca h hP hD hS (lv_sub hl [1, 0] rfl)
      · replace h := (if_pos c_8).symm.trans h
        refine lv_iconst (v := (1 : Int32)) hx hb d_Ff_readHead_60 (by decide) ?_
        refine lv_goto (tgt := 65) hx hb d_Ff_readHead_61 (by decide) ?_
        exact w_Ff_readHead_65 C0 o o_bytes o_starts o_sizes o_glyphStarts o_length o_glyphs o_ascent o_descent o_gap o_metrics o_codes o_codesSize o_segments o_pairs o_bytes_f o_starts_f o_sizes_f o_glyphStarts_f uu  (o_starts_f (2 : Int32).toNatClampNeg) (1 : Int32) r_6 o_longLoca h hP hD hS (lv_sub hl [1, 0] rfl)
    · replace h := (if_neg c_5).symm.trans h
      refine lv_iconst (v := (0 : Int32)) hx hb d_Ff_readHead_33 (by decide) ?_
      cases h
      exact W.zret (ty := .boolean) hx hb hr rfl (fun t ht hW => ⟨⟨_, (), rfl, rfl, by rw [ht]; exact hP, va_K.moved hW.alike hK, hD⟩, hS.F ht⟩) hS.2.2 d_Ff_readHead_34 hlocks
def P_Ff_readMaxp (o_length : Int32) (o_glyphs : Int32) (o_bytes_f : Nat → Int32) (o_starts_f : Nat → Int32) (o_sizes_f : Nat → Int32)  : Option (Int32 × Int32) :=
  bd (6 : Int32) 8 <| (P_Ff_twoAt o_length o_bytes_f ((o_starts_f (6 : Int32).toNatClampNeg) + (4 : Int32))).bind fun r_2 => bd (6 : Int32) 8 <| if (o_sizes_f (6 : Int32).toNatClampNeg) < (6 : Int32) then (some ((0 : Int32), r_2)) else (if r_2 < (1 : Int32) then (some ((0 : Int32), r_2)) else (if (64 : Int32) < r_2 then (some ((0 : Int32), r_2)) else (some ((1 : Int32), r_2))))
set_option maxHeartbeats 4000000 in
set_option maxRecDepth 100000 in
theorem c_Ff_readMaxp (l : Launch) (dC : Nat → ClassId) (dI : Nat → Nat → Nat) (cy : Nat → ClassId) (sz : Nat) (o : Nat) (o_bytes : Nat) (o_starts : Nat) (o_sizes : Nat) (o_glyphStarts : Nat) (o_length : Int32) (o_units : Int32) (o_glyphs : Int32) (o_ascent : Int32) (o_descent : Int32) (o_gap : Int32) (o_longLoca : Int32) (o_metrics : Int32) (o_codes : Int32) (o_codesSize : Int32) (o_segments : Int32) (o_pairs : Int32) (o_bytes_f : Nat → Int32) (o_starts_f : Nat → Int32) (o_sizes_f : Nat → Int32) (o_glyphStarts_f : Nat → Int32)  (uu : Int32 × Int32) (h : P_Ff_readMaxp o_length o_glyphs o_bytes_f o_starts_f o_sizes_f = some uu) : Met l y_Ff_readMaxp (Cond.code y_Ff_readMaxp b_Ff_readMaxp 1 (some .boolean) :: G) ({ frames := 1, cells := 0, slots := 0, locals := 21 } : Room) (va_Pc [.ref o] (fun U => U.heap.size = sz ∧ va_P (dC, dI) classes [(o, .inr (7, [.ref o_bytes, .int o_length, .ref o_starts, .ref o_sizes, .ref o_glyphStarts, .int o_units, .int o_glyphs, .int o_ascent, .int o_descent, .int o_gap, .int o_longLoca, .int o_metrics, .int o_codes, .int o_codesSize, .int o_segments, .int o_pairs])), (o_bytes, .inl (cy 1, 4096, .inl o_bytes_f)), (o_starts, .inl (cy 0, 8, .inl o_starts_f)), (o_sizes, .inl (cy 0, 8, .inl o_sizes_f)), (o_glyphStarts, .inl (cy 0, 65, .inl o_glyphStarts_f))] U.heap ∧ va_K (dC, dI) classes (TY cy) U ∧ va_D (fun _ => True) [(o, .inr (7, [.ref o_bytes, .int o_length, .ref o_starts, .ref o_sizes, .ref o_glyphStarts, .int o_units, .int o_glyphs, .int o_ascent, .int o_descent, .int o_gap, .int o_longLoca, .int o_metrics, .int o_codes, .int o_codesSize, .int o_segments, .int o_pairs])), (o_bytes, .inl (cy 1, 4096, .inl o_bytes_f)), (o_starts, .inl (cy 0, 8, .inl o_starts_f)), (o_sizes, .inl (cy 0, 8, .inl o_sizes_f)), (o_glyphStarts, .inl (cy 0, 65, .inl o_glyphStarts_f))])) (va_Qi (fun r (_ : Unit) => r = uu.1) (fun _ t => va_P (dC, dI) classes [(o, .inr (7, [.ref o_bytes, .int o_length, .ref o_starts, .ref o_sizes, .ref o_glyphStarts, .int o_units, .int uu.2, .int o_ascent, .int o_descent, .int o_gap, .int o_longLoca, .int o_metrics, .int o_codes, .int o_codesSize, .int o_segments, .int o_pairs])), (o_bytes, .inl (cy 1, 4096, .inl o_bytes_f)), (o_starts, .inl (cy 0, 8, .inl o_starts_f)), (o_sizes, .inl (cy 0, 8, .inl o_sizes_f)), (o_glyphStarts, .inl (cy 0, 65, .inl o_glyphStarts_f))] t.heap ∧ va_K (dC, dI) classes (TY cy) t ∧ va_D (va_A [(o, .inr (7, [.ref o_bytes, .int o_length, .ref o_starts, .ref o_sizes, .ref o_glyphStarts, .int o_units, .int o_glyphs, .int o_ascent, .int o_descent, .int o_gap, .int o_longLoca, .int o_metrics, .int o_codes, .int o_codesSize, .int o_segments, .int o_pairs])), (o_bytes, .inl (cy 1, 4096, .inl o_bytes_f)), (o_starts, .inl (cy 0, 8, .inl o_starts_f)), (o_sizes, .inl (cy 0, 8, .inl o_sizes_f)), (o_glyphStarts, .inl (cy 0, 65, .inl o_glyphStarts_f))] sz) [(o, .inr (7, [.ref o_bytes, .int o_length, .ref o_starts, .ref o_sizes, .ref o_glyphStarts, .int o_units, .int uu.2, .int o_ascent, .int o_descent, .int o_gap, .int o_longLoca, .int o_metrics, .int o_codes, .int o_codesSize, .int o_segments, .int o_pairs])), (o_bytes, .inl (cy 1, 4096, .inl o_bytes_f)), (o_starts, .inl (cy 0, 8, .inl o_starts_f)), (o_sizes, .inl (cy 0, 8, .inl o_sizes_f)), (o_glyphStarts, .inl (cy 0, 65, .inl o_glyphStarts_f))]) (va_A [(o, .inr (7, [.ref o_bytes, .int o_length, .ref o_starts, .ref o_sizes, .ref o_glyphStarts, .int o_units, .int o_glyphs, .int o_ascent, .int o_descent, .int o_gap, .int o_longLoca, .int o_metrics, .int o_codes, .int o_codesSize, .int o_segments, .int o_pairs])), (o_bytes, .inl (cy 1, 4096, .inl o_bytes_f)), (o_starts, .inl (cy 0, 8, .inl o_starts_f)), (o_sizes, .inl (cy 0, 8, .inl o_sizes_f)), (o_glyphStarts, .inl (cy 0, 65, .inl o_glyphStarts_f))] sz)) 0 0 (va_A [(o, .inr (7, [.ref o_bytes, .int o_length, .ref o_starts, .ref o_sizes, .ref o_glyphStarts, .int o_units, .int o_glyphs, .int o_ascent, .int o_descent, .int o_gap, .int o_longLoca, .int o_metrics, .int o_codes, .int o_codesSize, .int o_segments, .int o_pairs])), (o_bytes, .inl (cy 1, 4096, .inl o_bytes_f)), (o_starts, .inl (cy 0, 8, .inl o_starts_f)), (o_sizes, .inl (cy 0, 8, .inl o_sizes_f)), (o_glyphStarts, .inl (cy 0, 65, .inl o_glyphStarts_f))] sz) := by
  refine Met.ofW (cc := b_Ff_readMaxp) (maxL := 1) (ret := (some .boolean)) (by decide) rfl ?_
  intro p e s m args below meth c s₁ B hml hv
  obtain ⟨rfl, hsz, hP, hK, hD0⟩ := hv
  have hx := B.exec
  have hb := B.bytes
  have hr := B.returns
  have hts := atoms_spec (ws := Cond.code y_Ff_readMaxp b_Ff_readMaxp 1 (some .boolean) :: G) B.pre
  have htsG : ∀ w ∈ G, w.before _ s = true := fun w hw => hts w (List.mem_cons_of_mem _ hw)
  have hown : s.vm.findClass "GlyphPage$FontFile" = some m.cls := findClass_of_methodNamed B.named
  have hlocks := B.notSynchronized
  subst hsz
  have hD := hD0.self (sz := s.heap.size)
  generalize hAe : va_A [(o, .inr (7, [.ref o_bytes, .int o_length, .ref o_starts, .ref o_sizes, .ref o_glyphStarts, .int o_units, .int o_glyphs, .int o_ascent, .int o_descent, .int o_gap, .int o_longLoca, .int o_metrics, .int o_codes, .int o_codesSize, .int o_segments, .int o_pairs])), (o_bytes, .inl (cy 1, 4096, .inl o_bytes_f)), (o_starts, .inl (cy 0, 8, .inl o_starts_f)), (o_sizes, .inl (cy 0, 8, .inl o_sizes_f)), (o_glyphStarts, .inl (cy 0, 65, .inl o_glyphStarts_f))] s.heap.size = A at hD ⊢
  have hA : ∀ q : Nat, s.heap.size ≤ q → A q := fun q h => by rw [← hAe]; exact Or.inr h
  have hS : va_S A s.heap s.heap [] := va_S.rf
  have hl := lv_entry ([.ref o]) (n := 1) (Nat.le_of_ble_eq_true rfl)
  rw [lg_entry_eq]
  generalize (lg_sl ([.ref o]) ++ List.replicate (1 - (lg_sl ([.ref o])).length) Slot.unset).toArray = ls at hl ⊢
  have hl : lv_has ls 1 [(0, .ref o)] := hl
  have C0 : Cx p s m _ meth c A dC dI cy b_Ff_readMaxp 1 (some .boolean) "GlyphPage$FontFile" := ⟨hx, hb, hr, hlocks, hml, hown, htsG, hA, hK⟩
  unfold P_Ff_readMaxp at h
  refine lv_aload_n hx hb d_Ff_readMaxp_0 rfl (lv_at hl 0 rfl) ?_
  refine lv_aload_n hx hb d_Ff_readMaxp_1 rfl (lv_at hl 0 rfl) ?_
  refine lv_aload_n hx hb d_Ff_readMaxp_2 rfl (lv_at hl 0 rfl) ?_
  refine va_get (D := (dC, dI)) (ci := 7) (v := .ref o_starts) (C := "GlyphPage$FontFile") (T := F_Ff) (N := 16) hx hb htsG iG_Ff hown hK hP 0 rfl rfl 2 (by decide) (htsG _ mW303) (fun _ h9 => h9) rfl d_Ff_readMaxp_3 ?_
  refine lv_bipush (v := (6 : Int32)) hx hb d_Ff_readMaxp_6 (by decide) ?_
  obtain ⟨hin_1, h⟩ := bd_some h
  refine va_iald hx hb hK hP 2 0 rfl rfl hin_1 d_Ff_readMaxp_8 ?_
  refine lv_iconst (v := (4 : Int32)) hx hb d_Ff_readMaxp_9 (by decide) ?_
  refine lv_iadd hx hb d_Ff_readMaxp_10 ?_
  obtain ⟨r_2, hq, h⟩ := Option.bind_eq_some_iff.mp h
  try dsimp only at h
  have hPc := hP.sub (ws' := [(o, .inr (7, [.ref o_bytes, .int o_length, .ref o_starts, .ref o_sizes, .ref o_glyphStarts, .int o_units, .int o_glyphs, .int o_ascent, .int o_descent, .int o_gap, .int o_longLoca, .int o_metrics, .int o_codes, .int o_codesSize, .int o_segments, .int o_pairs])), (o_bytes, .inl (cy 1, 4096, .inl o_bytes_f)), (o_starts, .inl (cy 0, 8, .inl o_starts_f)), (o_sizes, .inl (cy 0, 8, .inl o_sizes_f)), (o_glyphStarts, .inl (cy 0, 65, .inl o_glyphStarts_f))]) [0, 1, 2, 3, 4] rfl
  have hDc := hD.sub (ws' := [(o, .inr (7, [.ref o_bytes, .int o_length, .ref o_starts, .ref o_sizes, .ref o_glyphStarts, .int o_units, .int o_glyphs, .int o_ascent, .int o_descent, .int o_gap, .int o_longLoca, .int o_metrics, .int o_codes, .int o_codesSize, .int o_segments, .int o_pairs])), (o_bytes, .inl (cy 1, 4096, .inl o_bytes_f)), (o_starts, .inl (cy 0, 8, .inl o_starts_f)), (o_sizes, .inl (cy 0, 8, .inl o_sizes_f)), (o_glyphStarts, .inl (cy 0, 65, .inl o_glyphStarts_f))]) [0, 1, 2, 3, 4] (by decide) rfl
  have hFc := va_free (wc := [(o, .inr (7, [.ref o_bytes, .int o_length, .ref o_starts, .ref o_sizes, .ref o_glyphStarts, .int o_units, .int o_glyphs, .int o_ascent, .int o_descent, .int o_gap, .int o_longLoca, .int o_metrics, .int o_codes, .int o_codesSize, .int o_segments, .int o_pairs])), (o_bytes, .inl (cy 1, 4096, .inl o_bytes_f)), (o_starts, .inl (cy 0, 8, .inl o_starts_f)), (o_sizes, .inl (cy 0, 8, .inl o_sizes_f)), (o_glyphStarts, .inl (cy 0, 65, .inl o_glyphStarts_f))]) hD hS hA [0, 1, 2, 3, 4] rfl
  refine va_calli (va_runV (As := [.int ((o_starts_f (6 : Int32).toNatClampNeg) + (4 : Int32))]) (rest := [.ref o]) ⟨hx, hb, hml, hown, htsG⟩ (c_Ff_twoAt l dC dI cy s.heap.size o o_bytes o_starts o_sizes o_glyphStarts o_length o_units o_glyphs o_ascent o_descent o_gap o_longLoca o_metrics o_codes o_codesSize o_segments o_pairs o_bytes_f o_starts_f o_sizes_f o_glyphStarts_f ((o_starts_f (6 : Int32).toNatClampNeg) + (4 : Int32)) r_2 hq) (cwV 1 htsG (gV mW365 mW367 mS_Ff_twoAt mW11 mW368) rfl rfl rfl (by decide +kernel) ⟨Nat.le_of_ble_eq_true rfl, Nat.le_of_ble_eq_true rfl⟩) ⟨fun a U g mk q => by obtain ⟨q0, q1, qP, qK, qD⟩ := q; exact ⟨q0, q1, qP, va_K.moved (u := U) (U := U.calling g mk a) (Vm.Alike.refl U.vm) qK, qD⟩, va_recv hK hPc (ci := 7) (q0 := 0) rfl rfl, fun U hU hW => ⟨rfl, by rw [hU], by rw [hU]; exact hPc, va_K.moved hW.alike hK, hDc.weaken (fun _ _ _ _ => trivial)⟩⟩ rfl rfl hl.1 rfl (lv_room (Nat.le_of_ble_eq_true rfl)) d_Ff_readMaxp_11 ⟨Nat.le_of_ble_eq_true rfl, Nat.le_of_ble_eq_true rfl⟩) hS (fun q _ h => hFc q h) hFc (fun rr u t H1 locs ht hvm hw hB hz1 hk1 hS => ?_)
  obtain ⟨hP1, hK1, hD1⟩ := hB
  rw [ht] at hP1
  replace hw : r_2 = rr := hw.symm
  subst hw
  obtain ⟨hP, hD⟩ := va_join (wr := []) (w1 := [(o, .inr (7, [.ref o_bytes, .int o_length, .ref o_starts, .ref o_sizes, .ref o_glyphStarts, .int o_units, .int o_glyphs, .int o_ascent, .int o_descent, .int o_gap, .int o_longLoca, .int o_metrics, .int o_codes, .int o_codesSize, .int o_segments, .int o_pairs])), (o_bytes, .inl (cy 1, 4096, .inl o_bytes_f)), (o_starts, .inl (cy 0, 8, .inl o_starts_f)), (o_sizes, .inl (cy 0, 8, .inl o_sizes_f)), (o_glyphStarts, .inl (cy 0, 65, .inl o_glyphStarts_f))]) hP hD [0, 1, 2, 3, 4] [] rfl rfl (by decide) (by decide) hk1 hFc hP1 hD1
  generalize H1 = H at hP hS ⊢
  have hP := hP.sub (ws' := [(o, .inr (7, [.ref o_bytes, .int o_length, .ref o_starts, .ref o_sizes, .ref o_glyphStarts, .int o_units, .int o_glyphs, .int o_ascent, .int o_descent, .int o_gap, .int o_longLoca, .int o_metrics, .int o_codes, .int o_codesSize, .int o_segments, .int o_pairs])), (o_bytes, .inl (cy 1, 4096, .inl o_bytes_f)), (o_starts, .inl (cy 0, 8, .inl o_starts_f)), (o_sizes, .inl (cy 0, 8, .inl o_sizes_f)), (o_glyphStarts, .inl (cy 0, 65, .inl o_glyphStarts_f))]) [0, 1, 2, 3, 4] rfl
  have hD := hD.sub (ws' := [(o, .inr (7, [.ref o_bytes, .int o_length, .ref o_starts, .ref o_sizes, .ref o_glyphStarts, .int o_units, .int o_glyphs, .int o_ascent, .int o_descent, .int o_gap, .int o_longLoca, .int o_metrics, .int o_codes, .int o_codesSize, .int o_segments, .int o_pairs])), (o_bytes, .inl (cy 1, 4096, .inl o_bytes_f)), (o_starts, .inl (cy 0, 8, .inl o_starts_f)), (o_sizes, .inl (cy 0, 8, .inl o_sizes_f)), (o_glyphStarts, .inl (cy 0, 65, .inl o_glyphStarts_f))]) [0, 1, 2, 3, 4] (by decide) rfl
  refine W.widen (k := 0) (n := 0) (by decide) (by decide) ?_
  refine va_put (D := (dC, dI)) (ci := 7) (v := .int r_2) (ty := .int) (C := "GlyphPage$FontFile") (T := F_Ff) (N := 16) hx hb htsG iG_Ff t_Ff t_Ff_ok n_Ff hown hK hP hD hS 0 rfl rfl 6 (by decide) (htsG _ mW309) (fun _ h9 => h9) rfl (by decide +kernel) rfl rfl (Nat.le_of_ble_eq_true rfl) d_Ff_readMaxp_14 (fun H locs hP hD hS => ?_)
  have hP : va_P (dC, dI) classes [(o, .inr (7, [.ref o_bytes, .int o_length, .ref o_starts, .ref o_sizes, .ref o_glyphStarts, .int o_units, .int r_2, .int o_ascent, .int o_descent, .int o_gap, .int o_longLoca, .int o_metrics, .int o_codes, .int o_codesSize, .int o_segments, .int o_pairs])), (o_bytes, .inl (cy 1, 4096, .inl o_bytes_f)), (o_starts, .inl (cy 0, 8, .inl o_starts_f)), (o_sizes, .inl (cy 0, 8, .inl o_sizes_f)), (o_glyphStarts, .inl (cy 0, 65, .inl o_glyphStarts_f))] H := hP
  have hD : va_D A [(o, .inr (7, [.ref o_bytes, .int o_length, .ref o_starts, .ref o_sizes, .ref o_glyphStarts, .int o_units, .int r_2, .int o_ascent, .int o_descent, .int o_gap, .int o_longLoca, .int o_metrics, .int o_codes, .int o_codesSize, .int o_segments, .int o_pairs])), (o_bytes, .inl (cy 1, 4096, .inl o_bytes_f)), (o_starts, .inl (cy 0, 8, .inl o_starts_f)), (o_sizes, .inl (cy 0, 8, .inl o_sizes_f)), (o_glyphStarts, .inl (cy 0, 65, .inl o_glyphStarts_f))] := hD
  refine lv_aload_n hx hb d_Ff_readMaxp_17 rfl (lv_at hl 0 rfl) ?_
  refine va_get (D := (dC, dI)) (ci := 7) (v := .ref o_sizes) (C := "GlyphPage$FontFile") (T := F_Ff) (N := 16) hx hb htsG iG_Ff hown hK hP 0 rfl rfl 3 (by decide) (htsG _ mW304) (fun _ h9 => h9) rfl d_Ff_readMaxp_18 ?_
  refine lv_bipush (v := (6 : Int32)) hx hb d_Ff_readMaxp_21 (by decide) ?_
  obtain ⟨hin_3, h⟩ := bd_some h
  refine va_iald hx hb hK hP 3 0 rfl rfl hin_3 d_Ff_readMaxp_23 ?_
  refine lv_bipush (v := (6 : Int32)) hx hb d_Ff_readMaxp_24 (by decide) ?_
  refine lv_icmp_lt (tgt := 50) hx hb d_Ff_readMaxp_26 (by decide) (fun c_4 => ?_) (fun c_4 => ?_)
  · replace h := (if_pos c_4).symm.trans h
    refine lv_iconst (v := (0 : Int32)) hx hb d_Ff_readMaxp_50 (by decide) ?_
    cases h
    exact W.zret (ty := .boolean) hx hb hr rfl (fun t ht hW => ⟨⟨_, (), rfl, rfl, by rw [ht]; exact hP, va_K.moved hW.alike hK, hD⟩, hS.F ht⟩) hS.2.2 d_Ff_readMaxp_51 hlocks
  · replace h := (if_neg c_4).symm.trans h
    refine lv_aload_n hx hb d_Ff_readMaxp_29 rfl (lv_at hl 0 rfl) ?_
    refine va_get (D := (dC, dI)) (ci := 7) (v := .int r_2) (C := "GlyphPage$FontFile") (T := F_Ff) (N := 16) hx hb htsG iG_Ff hown hK hP 0 rfl rfl 6 (by decide) (htsG _ mW309) (fun _ h9 => h9) rfl d_Ff_readMaxp_30 ?_
    refine lv_iconst (v := (1 : Int32)) hx hb d_Ff_readMaxp_33 (by decide) ?_
    refine lv_icmp_lt (tgt := 50) hx hb d_Ff_readMaxp_34 (by decide) (fun c_5 => ?_) (fun c_5 => ?_)
    · replace h := (if_pos c_5).symm.trans h
      refine lv_iconst (v := (0 : Int32)) hx hb d_Ff_readMaxp_50 (by decide) ?_
      cases h
      exact W.zret (ty := .boolean) hx hb hr rfl (fun t ht hW => ⟨⟨_, (), rfl, rfl, by rw [ht]; exact hP, va_K.moved hW.alike hK, hD⟩, hS.F ht⟩) hS.2.2 d_Ff_readMaxp_51 hlocks
    · replace h := (if_neg c_5).symm.trans h
      refine lv_aload_n hx hb d_Ff_readMaxp_37 rfl (lv_at hl 0 rfl) ?_
      refine va_get (D := (dC, dI)) (ci := 7) (v := .int r_2) (C := "GlyphPage$FontFile") (T := F_Ff) (N := 16) hx hb htsG iG_Ff hown hK hP 0 rfl rfl 6 (by decide) (htsG _ mW309) (fun _ h9 => h9) rfl d_Ff_readMaxp_38 ?_
      refine lv_bipush (v := (64 : Int32)) hx hb d_Ff_readMaxp_41 (by decide) ?_
      refine lv_icmp_gt (tgt := 50) hx hb d_Ff_readMaxp_43 (by decide) (fun c_6 => ?_) (fun c_6 => ?_)
      · replace h := (if_pos c_6).symm.trans h
        refine lv_iconst (v := (0 : Int32)) hx hb d_Ff_readMaxp_50 (by decide) ?_
        cases h
        exact W.zret (ty := .boolean) hx hb hr rfl (fun t ht hW => ⟨⟨_, (), rfl, rfl, by rw [ht]; exact hP, va_K.moved hW.alike hK, hD⟩, hS.F ht⟩) hS.2.2 d_Ff_readMaxp_51 hlocks
      · replace h := (if_neg c_6).symm.trans h
        refine lv_iconst (v := (1 : Int32)) hx hb d_Ff_readMaxp_46 (by decide) ?_
        refine lv_goto (tgt := 51) hx hb d_Ff_readMaxp_47 (by decide) ?_
        cases h
        exact W.zret (ty := .boolean) hx hb hr rfl (fun t ht hW => ⟨⟨_, (), rfl, rfl, by rw [ht]; exact hP, va_K.moved hW.alike hK, hD⟩, hS.F ht⟩) hS.2.2 d_Ff_readMaxp_51 hlocks
def P_Ff_readHhea (o_length : Int32) (o_units : Int32) (o_glyphs : Int32) (o_ascent : Int32) (o_descent : Int32) (o_gap : Int32) (o_metrics : Int32) (o_bytes_f : Nat → Int32) (o_starts_f : Nat → Int32) (o_sizes_f : Nat → Int32)  : Option (Int32 × Int32 × Int32 × Int32 × Int32) :=
  bd (3 : Int32) 8 <| (P_Ff_signedAt o_length o_bytes_f ((o_starts_f (3 : Int32).toNatClampNeg) + (4 : Int32))).bind fun r_2 => (P_Ff_signedAt o_length o_bytes_f ((o_starts_f (3 : Int32).toNatClampNeg) + (6 : Int32))).bind fun r_3 => (P_Ff_signedAt o_length o_bytes_f ((o_starts_f (3 : Int32).toNatClampNeg) + (8 : Int32))).bind fun r_4 => (P_Ff_twoAt o_length o_bytes_f ((o_starts_f (3 : Int32).toNatClampNeg) + (34 : Int32))).bind fun r_5 => bd (3 : Int32) 8 <| if (o_sizes_f (3 : Int32).toNatClampNeg) < (36 : Int32) then (some ((0 : Int32), r_2, r_3, r_4, r_5)) else ((P_Ff_isModest o_units r_2).bind fun r_8 => if r_8 = 0 then (some ((0 : Int32), r_2, r_3, r_4, r_5)) else ((P_Ff_isModest o_units r_3).bind fun r_10 => if r_10 = 0 then (some ((0 : Int32), r_2, r_3, r_4, r_5)) else ((P_Ff_isModest o_units r_4).bind fun r_12 => if r_12 = 0 then (some ((0 : Int32), r_2, r_3, r_4, r_5)) else (if r_5 < (1 : Int32) then (some ((0 : Int32), r_2, r_3, r_4, r_5)) else (if o_glyphs < r_5 then (some ((0 : Int32), r_2, r_3, r_4, r_5)) else (some ((1 : Int32), r_2, r_3, r_4, r_5)))))))
set_option maxHeartbeats 4000000 in
set_option maxRecDepth 100000 in
theorem c_Ff_readHhea (l : Launch) (dC : Nat → ClassId) (dI : Nat → Nat → Nat) (cy : Nat → ClassId) (sz : Nat) (o : Nat) (o_bytes : Nat) (o_starts : Nat) (o_sizes : Nat) (o_glyphStarts : Nat) (o_length : Int32) (o_units : Int32) (o_glyphs : Int32) (o_ascent : Int32) (o_descent : Int32) (o_gap : Int32) (o_longLoca : Int32) (o_metrics : Int32) (o_codes : Int32) (o_codesSize : Int32) (o_segments : Int32) (o_pairs : Int32) (o_bytes_f : Nat → Int32) (o_starts_f : Nat → Int32) (o_sizes_f : Nat → Int32) (o_glyphStarts_f : Nat → Int32)  (uu : Int32 × Int32 × Int32 × Int32 × Int32) (h : P_Ff_readHhea o_length o_units o_glyphs o_ascent o_descent o_gap o_metrics o_bytes_f o_starts_f o_sizes_f = some uu) : Met l y_Ff_readHhea (Cond.code y_Ff_readHhea b_Ff_readHhea 2 (some .boolean) :: G) ({ frames := 2, cells := 0, slots := 0, locals := 42 } : Room) (va_Pc [.ref o] (fun U => U.heap.size = sz ∧ va_P (dC, dI) classes [(o, .inr (7, [.ref o_bytes, .int o_length, .ref o_starts, .ref o_sizes, .ref o_glyphStarts, .int o_units, .int o_glyphs, .int o_ascent, .int o_descent, .int o_gap, .int o_longLoca, .int o_metrics, .int o_codes, .int o_codesSize, .int o_segments, .int o_pairs])), (o_bytes, .inl (cy 1, 4096, .inl o_bytes_f)), (o_starts, .inl (cy 0, 8, .inl o_starts_f)), (o_sizes, .inl (cy 0, 8, .inl o_sizes_f)), (o_glyphStarts, .inl (cy 0, 65, .inl o_glyphStarts_f))] U.heap ∧ va_K (dC, dI) classes (TY cy) U ∧ va_D (fun _ => True) [(o, .inr (7, [.ref o_bytes, .int o_length, .ref o_starts, .ref o_sizes, .ref o_glyphStarts, .int o_units, .int o_glyphs, .int o_ascent, .int o_descent, .int o_gap, .int o_longLoca, .int o_metrics, .int o_codes, .int o_codesSize, .int o_segments, .int o_pairs])), (o_bytes, .inl (cy 1, 4096, .inl o_bytes_f)), (o_starts, .inl (cy 0, 8, .inl o_starts_f)), (o_sizes, .inl (cy 0, 8, .inl o_sizes_f)), (o_glyphStarts, .inl (cy 0, 65, .inl o_glyphStarts_f))])) (va_Qi (fun r (_ : Unit) => r = uu.1) (fun _ t => va_P (dC, dI) classes [(o, .inr (7, [.ref o_bytes, .int o_length, .ref o_starts, .ref o_sizes, .ref o_glyphStarts, .int o_units, .int o_glyphs, .int uu.2.1, .int uu.2.2.1, .int uu.2.2.2.1, .int o_longLoca, .int uu.2.2.2.2, .int o_codes, .int o_codesSize, .int o_segments, .int o_pairs])), (o_bytes, .inl (cy 1, 4096, .inl o_bytes_f)), (o_starts, .inl (cy 0, 8, .inl o_starts_f)), (o_sizes, .inl (cy 0, 8, .inl o_sizes_f)), (o_glyphStarts, .inl (cy 0, 65, .inl o_glyphStarts_f))] t.heap ∧ va_K (dC, dI) classes (TY cy) t ∧ va_D (va_A [(o, .inr (7, [.ref o_bytes, .int o_length, .ref o_starts, .ref o_sizes, .ref o_glyphStarts, .int o_units, .int o_glyphs, .int o_ascent, .int o_descent, .int o_gap, .int o_longLoca, .int o_metrics, .int o_codes, .int o_codesSize, .int o_segments, .int o_pairs])), (o_bytes, .inl (cy 1, 4096, .inl o_bytes_f)), (o_starts, .inl (cy 0, 8, .inl o_starts_f)), (o_sizes, .inl (cy 0, 8, .inl o_sizes_f)), (o_glyphStarts, .inl (cy 0, 65, .inl o_glyphStarts_f))] sz) [(o, .inr (7, [.ref o_bytes, .int o_length, .ref o_starts, .ref o_sizes, .ref o_glyphStarts, .int o_units, .int o_glyphs, .int uu.2.1, .int uu.2.2.1, .int uu.2.2.2.1, .int o_longLoca, .int uu.2.2.2.2, .int o_codes, .int o_codesSize, .int o_segments, .int o_pairs])), (o_bytes, .inl (cy 1, 4096, .inl o_bytes_f)), (o_starts, .inl (cy 0, 8, .inl o_starts_f)), (o_sizes, .inl (cy 0, 8, .inl o_sizes_f)), (o_glyphStarts, .inl (cy 0, 65, .inl o_glyphStarts_f))]) (va_A [(o, .inr (7, [.ref o_bytes, .int o_length, .ref o_starts, .ref o_sizes, .ref o_glyphStarts, .int o_units, .int o_glyphs, .int o_ascent, .int o_descent, .int o_gap, .int o_longLoca, .int o_metrics, .int o_codes, .int o_codesSize, .int o_segments, .int o_pairs])), (o_bytes, .inl (cy 1, 4096, .inl o_bytes_f)), (o_starts, .inl (cy 0, 8, .inl o_starts_f)), (o_sizes, .inl (cy 0, 8, .inl o_sizes_f)), (o_glyphStarts, .inl (cy 0, 65, .inl o_glyphStarts_f))] sz)) 0 0 (va_A [(o, .inr (7, [.ref o_bytes, .int o_length, .ref o_starts, .ref o_sizes, .ref o_glyphStarts, .int o_units, .int o_glyphs, .int o_ascent, .int o_descent, .int o_gap, .int o_longLoca, .int o_metrics, .int o_codes, .int o_codesSize, .int o_segments, .int o_pairs])), (o_bytes, .inl (cy 1, 4096, .inl o_bytes_f)), (o_starts, .inl (cy 0, 8, .inl o_starts_f)), (o_sizes, .inl (cy 0, 8, .inl o_sizes_f)), (o_glyphStarts, .inl (cy 0, 65, .inl o_glyphStarts_f))] sz) := by
  refine Met.ofW (cc := b_Ff_readHhea) (maxL := 2) (ret := (some .boolean)) (by decide) rfl ?_
  intro p e s m args below meth c s₁ B hml hv
  obtain ⟨rfl, hsz, hP, hK, hD0⟩ := hv
  have hx := B.exec
  have hb := B.bytes
  have hr := B.returns
  have hts := atoms_spec (ws := Cond.code y_Ff_readHhea b_Ff_readHhea 2 (some .boolean) :: G) B.pre
  have htsG : ∀ w ∈ G, w.before _ s = true := fun w hw => hts w (List.mem_cons_of_mem _ hw)
  have hown : s.vm.findClass "GlyphPage$FontFile" = some m.cls := findClass_of_methodNamed B.named
  have hlocks := B.notSynchronized
  subst hsz
  have hD := hD0.self (sz := s.heap.size)
  generalize hAe : va_A [(o, .inr (7, [.ref o_bytes, .int o_length, .ref o_starts, .ref o_sizes, .ref o_glyphStarts, .int o_units, .int o_glyphs, .int o_ascent, .int o_descent, .int o_gap, .int o_longLoca, .int o_metrics, .int o_codes, .int o_codesSize, .int o_segments, .int o_pairs])), (o_bytes, .inl (cy 1, 4096, .inl o_bytes_f)), (o_starts, .inl (cy 0, 8, .inl o_starts_f)), (o_sizes, .inl (cy 0, 8, .inl o_sizes_f)), (o_glyphStarts, .inl (cy 0, 65, .inl o_glyphStarts_f))] s.heap.size = A at hD ⊢
  have hA : ∀ q : Nat, s.heap.size ≤ q → A q := fun q h => by rw [← hAe]; exact Or.inr h
  have hS : va_S A s.heap s.heap [] := va_S.rf
  have hl := lv_entry ([.ref o]) (n := 2) (Nat.le_of_ble_eq_true rfl)
  rw [lg_entry_eq]
  generalize (lg_sl ([.ref o]) ++ List.replicate (2 - (lg_sl ([.ref o])).length) Slot.unset).toArray = ls at hl ⊢
  have hl : lv_has ls 2 [(0, .ref o)] := hl
  have C0 : Cx p s m _ meth c A dC dI cy b_Ff_readHhea 2 (some .boolean) "GlyphPage$FontFile" := ⟨hx, hb, hr, hlocks, hml, hown, htsG, hA, hK⟩
  unfold P_Ff_readHhea at h
  refine lv_aload_n hx hb d_Ff_readHhea_0 rfl (lv_at hl 0 rfl) ?_
  refine va_get (D := (dC, dI)) (ci := 7) (v := .ref o_starts) (C := "GlyphPage$FontFile") (T := F_Ff) (N := 16) hx hb htsG iG_Ff hown hK hP 0 rfl rfl 2 (by decide) (htsG _ mW303) (fun _ h9 => h9) rfl d_Ff_readHhea_1 ?_
  refine lv_iconst (v := (3 : Int32)) hx hb d_Ff_readHhea_4 (by decide) ?_
  obtain ⟨hin_1, h⟩ := bd_some h
  refine va_iald hx hb hK hP 2 0 rfl rfl hin_1 d_Ff_readHhea_5 ?_
  refine lv_istore_n (lv' := [(1, .int (o_starts_f (3 : Int32).toNatClampNeg)), (0, .ref o)]) hx hb d_Ff_readHhea_6 rfl hl (by decide) rfl (fun ls hl => ?_)
  refine lv_aload_n hx hb d_Ff_readHhea_7 rfl (lv_at hl 1 rfl) ?_
  refine lv_aload_n hx hb d_Ff_readHhea_8 rfl (lv_at hl 1 rfl) ?_
  refine lv_iload_n hx hb d_Ff_readHhea_9 rfl (lv_at hl 0 rfl) ?_
  refine lv_iconst (v := (4 : Int32)) hx hb d_Ff_readHhea_10 (by decide) ?_
  refine lv_iadd hx hb d_Ff_readHhea_11 ?_
  obtain ⟨r_2, hq, h⟩ := Option.bind_eq_some_iff.mp h
  try dsimp only at h
  have hPc := hP.sub (ws' := [(o, .inr (7, [.ref o_bytes, .int o_length, .ref o_starts, .ref o_sizes, .ref o_glyphStarts, .int o_units, .int o_glyphs, .int o_ascent, .int o_descent, .int o_gap, .int o_longLoca, .int o_metrics, .int o_codes, .int o_codesSize, .int o_segments, .int o_pairs])), (o_bytes, .inl (cy 1, 4096, .inl o_bytes_f)), (o_starts, .inl (cy 0, 8, .inl o_starts_f)), (o_sizes, .inl (cy 0, 8, .inl o_sizes_f)), (o_glyphStarts, .inl (cy 0, 65, .inl o_glyphStarts_f))]) [0, 1, 2, 3, 4] rfl
  have hDc := hD.sub (ws' := [(o, .inr (7, [.ref o_bytes, .int o_length, .ref o_starts, .ref o_sizes, .ref o_glyphStarts, .int o_units, .int o_glyphs, .int o_ascent, .int o_descent, .int o_gap, .int o_longLoca, .int o_metrics, .int o_codes, .int o_codesSize, .int o_segments, .int o_pairs])), (o_bytes, .inl (cy 1, 4096, .inl o_bytes_f)), (o_starts, .inl (cy 0, 8, .inl o_starts_f)), (o_sizes, .inl (cy 0, 8, .inl o_sizes_f)), (o_glyphStarts, .inl (cy 0, 65, .inl o_glyphStarts_f))]) [0, 1, 2, 3, 4] (by decide) rfl
  have hFc := va_free (wc := [(o, .inr (7, [.ref o_bytes, .int o_length, .ref o_starts, .ref o_sizes, .ref o_glyphStarts, .int o_units, .int o_glyphs, .int o_ascent, .int o_descent, .int o_gap, .int o_longLoca, .int o_metrics, .int o_codes, .int o_codesSize, .int o_segments, .int o_pairs])), (o_bytes, .inl (cy 1, 4096, .inl o_bytes_f)), (o_starts, .inl (cy 0, 8, .inl o_starts_f)), (o_sizes, .inl (cy 0, 8, .inl o_sizes_f)), (o_glyphStarts, .inl (cy 0, 65, .inl o_glyphStarts_f))]) hD hS hA [0, 1, 2, 3, 4] rfl
  refine va_calli (va_runV (As := [.int ((o_starts_f (3 : Int32).toNatClampNeg) + (4 : Int32))]) (rest := [.ref o]) ⟨hx, hb, hml, hown, htsG⟩ (c_Ff_signedAt l dC dI cy s.heap.size o o_bytes o_starts o_sizes o_glyphStarts o_length o_units o_glyphs o_ascent o_descent o_gap o_longLoca o_metrics o_codes o_codesSize o_segments o_pairs o_bytes_f o_starts_f o_sizes_f o_glyphStarts_f ((o_starts_f (3 : Int32).toNatClampNeg) + (4 : Int32)) r_2 hq) (cwV 1 htsG (gV mW400 mW402 mS_Ff_signedAt mW11 mW403) rfl rfl rfl (by decide +kernel) ⟨Nat.le_of_ble_eq_true rfl, Nat.le_of_ble_eq_true rfl⟩) ⟨fun a U g mk q => by obtain ⟨q0, q1, qP, qK, qD⟩ := q; exact ⟨q0, q1, qP, va_K.moved (u := U) (U := U.calling g mk a) (Vm.Alike.refl U.vm) qK, qD⟩, va_recv hK hPc (ci := 7) (q0 := 0) rfl rfl, fun U hU hW => ⟨rfl, by rw [hU], by rw [hU]; exact hPc, va_K.moved hW.alike hK, hDc.weaken (fun _ _ _ _ => trivial)⟩⟩ rfl rfl hl.1 rfl (lv_room (Nat.le_of_ble_eq_true rfl)) d_Ff_readHhea_12 ⟨Nat.le_of_ble_eq_true rfl, Nat.le_of_ble_eq_true rfl⟩) hS (fun q _ h => hFc q h) hFc (fun rr u t H1 locs ht hvm hw hB hz1 hk1 hS => ?_)
  obtain ⟨hP1, hK1, hD1⟩ := hB
  rw [ht] at hP1
  replace hw : r_2 = rr := hw.symm
  subst hw
  obtain ⟨hP, hD⟩ := va_join (wr := []) (w1 := [(o, .inr (7, [.ref o_bytes, .int o_length, .ref o_starts, .ref o_sizes, .ref o_glyphStarts, .int o_units, .int o_glyphs, .int o_ascent, .int o_descent, .int o_gap, .int o_longLoca, .int o_metrics, .int o_codes, .int o_codesSize, .int o_segments, .int o_pairs])), (o_bytes, .inl (cy 1, 4096, .inl o_bytes_f)), (o_starts, .inl (cy 0, 8, .inl o_starts_f)), (o_sizes, .inl (cy 0, 8, .inl o_sizes_f)), (o_glyphStarts, .inl (cy 0, 65, .inl o_glyphStarts_f))]) hP hD [0, 1, 2, 3, 4] [] rfl rfl (by decide) (by decide) hk1 hFc hP1 hD1
  generalize H1 = H at hP hS ⊢
  have hP := hP.sub (ws' := [(o, .inr (7, [.ref o_bytes, .int o_length, .ref o_starts, .ref o_sizes, .ref o_glyphStarts, .int o_units, .int o_glyphs, .int o_ascent, .int o_descent, .int o_gap, .int o_longLoca, .int o_metrics, .int o_codes, .int o_codesSize, .int o_segments, .int o_pairs])), (o_bytes, .inl (cy 1, 4096, .inl o_bytes_f)), (o_starts, .inl (cy 0, 8, .inl o_starts_f)), (o_sizes, .inl (cy 0, 8, .inl o_sizes_f)), (o_glyphStarts, .inl (cy 0, 65, .inl o_glyphStarts_f))]) [0, 1, 2, 3, 4] rfl
  have hD := hD.sub (ws' := [(o, .inr (7, [.ref o_bytes, .int o_length, .ref o_starts, .ref o_sizes, .ref o_glyphStarts, .int o_units, .int o_glyphs, .int o_ascent, .int o_descent, .int o_gap, .int o_longLoca, .int o_metrics, .int o_codes, .int o_codesSize, .int o_segments, .int o_pairs])), (o_bytes, .inl (cy 1, 4096, .inl o_bytes_f)), (o_starts, .inl (cy 0, 8, .inl o_starts_f)), (o_sizes, .inl (cy 0, 8, .inl o_sizes_f)), (o_glyphStarts, .inl (cy 0, 65, .inl o_glyphStarts_f))]) [0, 1, 2, 3, 4] (by decide) rfl
  refine W.widen (k := 0) (n := 0) (by decide) (by decide) ?_
  refine va_put (D := (dC, dI)) (ci := 7) (v := .int r_2) (ty := .int) (C := "GlyphPage$FontFile") (T := F_Ff) (N := 16) hx hb htsG iG_Ff t_Ff t_Ff_ok n_Ff hown hK hP hD hS 0 rfl rfl 7 (by decide) (htsG _ mW312) (fun _ h9 => h9) rfl (by decide +kernel) rfl rfl (Nat.le_of_ble_eq_true rfl) d_Ff_readHhea_15 (fun H locs hP hD hS => ?_)
  have hP : va_P (dC, dI) classes [(o, .inr (7, [.ref o_bytes, .int o_length, .ref o_starts, .ref o_sizes, .ref o_glyphStarts, .int o_units, .int o_glyphs, .int r_2, .int o_descent, .int o_gap, .int o_longLoca, .int o_metrics, .int o_codes, .int o_codesSize, .int o_segments, .int o_pairs])), (o_bytes, .inl (cy 1, 4096, .inl o_bytes_f)), (o_starts, .inl (cy 0, 8, .inl o_starts_f)), (o_sizes, .inl (cy 0, 8, .inl o_sizes_f)), (o_glyphStarts, .inl (cy 0, 65, .inl o_glyphStarts_f))] H := hP
  have hD : va_D A [(o, .inr (7, [.ref o_bytes, .int o_length, .ref o_starts, .ref o_sizes, .ref o_glyphStarts, .int o_units, .int o_glyphs, .int r_2, .int o_descent, .int o_gap, .int o_longLoca, .int o_metrics, .int o_codes, .int o_codesSize, .int o_segments, .int o_pairs])), (o_bytes, .inl (cy 1, 4096, .inl o_bytes_f)), (o_starts, .inl (cy 0, 8, .inl o_starts_f)), (o_sizes, .inl (cy 0, 8, .inl o_sizes_f)), (o_glyphStarts, .inl (cy 0, 65, .inl o_glyphStarts_f))] := hD
  refine lv_aload_n hx hb d_Ff_readHhea_18 rfl (lv_at hl 1 rfl) ?_
  refine lv_aload_n hx hb d_Ff_readHhea_19 rfl (lv_at hl 1 rfl) ?_
  refine lv_iload_n hx hb d_Ff_readHhea_20 rfl (lv_at hl 0 rfl) ?_
  refine lv_bipush (v := (6 : Int32)) hx hb d_Ff_readHhea_21 (by decide) ?_
  refine lv_iadd hx hb d_Ff_readHhea_23 ?_
  obtain ⟨r_3, hq, h⟩ := Option.bind_eq_some_iff.mp h
  try dsimp only at h
  have hPc := hP.sub (ws' := [(o, .inr (7, [.ref o_bytes, .int o_length, .ref o_starts, .ref o_sizes, .ref o_glyphStarts, .int o_units, .int o_glyphs, .int r_2, .int o_descent, .int o_gap, .int o_longLoca, .int o_metrics, .int o_codes, .int o_codesSize, .int o_segments, .int o_pairs])), (o_bytes, .inl (cy 1, 4096, .inl o_bytes_f)), (o_starts, .inl (cy 0, 8, .inl o_starts_f)), (o_sizes, .inl (cy 0, 8, .inl o_sizes_f)), (o_glyphStarts, .inl (cy 0, 65, .inl o_glyphStarts_f))]) [0, 1, 2, 3, 4] rfl
  have hDc := hD.sub (ws' := [(o, .inr (7, [.ref o_bytes, .int o_length, .ref o_starts, .ref o_sizes, .ref o_glyphStarts, .int o_units, .int o_glyphs, .int r_2, .int o_descent, .int o_gap, .int o_longLoca, .int o_metrics, .int o_codes, .int o_codesSize, .int o_segments, .int o_pairs])), (o_bytes, .inl (cy 1, 4096, .inl o_bytes_f)), (o_starts, .inl (cy 0, 8, .inl o_starts_f)), (o_sizes, .inl (cy 0, 8, .inl o_sizes_f)), (o_glyphStarts, .inl (cy 0, 65, .inl o_glyphStarts_f))]) [0, 1, 2, 3, 4] (by decide) rfl
  have hFc := va_free (wc := [(o, .inr (7, [.ref o_bytes, .int o_length, .ref o_starts, .ref o_sizes, .ref o_glyphStarts, .int o_units, .int o_glyphs, .int r_2, .int o_descent, .int o_gap, .int o_longLoca, .int o_metrics, .int o_codes, .int o_codesSize, .int o_segments, .int o_pairs])), (o_bytes, .inl (cy 1, 4096, .inl o_bytes_f)), (o_starts, .inl (cy 0, 8, .inl o_starts_f)), (o_sizes, .inl (cy 0, 8, .inl o_sizes_f)), (o_glyphStarts, .inl (cy 0, 65, .inl o_glyphStarts_f))]) hD hS hA [0, 1, 2, 3, 4] rfl
  refine va_calli (va_runV (As := [.int ((o_starts_f (3 : Int32).toNatClampNeg) + (6 : Int32))]) (rest := [.ref o]) ⟨hx, hb, hml, hown, htsG⟩ (c_Ff_signedAt l dC dI cy H.size o o_bytes o_starts o_sizes o_glyphStarts o_length o_units o_glyphs r_2 o_descent o_gap o_longLoca o_metrics o_codes o_codesSize o_segments o_pairs o_bytes_f o_starts_f o_sizes_f o_glyphStarts_f ((o_starts_f (3 : Int32).toNatClampNeg) + (6 : Int32)) r_3 hq) (cwV 1 htsG (gV mW400 mW402 mS_Ff_signedAt mW11 mW403) rfl rfl rfl (by decide +kernel) ⟨Nat.le_of_ble_eq_true rfl, Nat.le_of_ble_eq_true rfl⟩) ⟨fun a U g mk q => by obtain ⟨q0, q1, qP, qK, qD⟩ := q; exact ⟨q0, q1, qP, va_K.moved (u := U) (U := U.calling g mk a) (Vm.Alike.refl U.vm) qK, qD⟩, va_recv hK hPc (ci := 7) (q0 := 0) rfl rfl, fun U hU hW => ⟨rfl, by rw [hU], by rw [hU]; exact hPc, va_K.moved hW.alike hK, hDc.weaken (fun _ _ _ _ => trivial)⟩⟩ rfl rfl hl.1 rfl (lv_room (Nat.le_of_ble_eq_true rfl)) d_Ff_readHhea_24 ⟨Nat.le_of_ble_eq_true rfl, Nat.le_of_ble_eq_true rfl⟩) hS (fun q _ h => hFc q h) hFc (fun rr u t H1 locs ht hvm hw hB hz1 hk1 hS => ?_)
  obtain ⟨hP1, hK1, hD1⟩ := hB
  rw [ht] at hP1
  replace hw : r_3 = rr := hw.symm
  subst hw
  obtain ⟨hP, hD⟩ := va_join (wr := []) (w1 := [(o, .inr (7, [.ref o_bytes, .int o_length, .ref o_starts, .ref o_sizes, .ref o_glyphStarts, .int o_units, .int o_glyphs, .int r_2, .int o_descent, .int o_gap, .int o_longLoca, .int o_metrics, .int o_codes, .int o_codesSize, .int o_segments, .int o_pairs])), (o_bytes, .inl (cy 1, 4096, .inl o_bytes_f)), (o_starts, .inl (cy 0, 8, .inl o_starts_f)), (o_sizes, .inl (cy 0, 8, .inl o_sizes_f)), (o_glyphStarts, .inl (cy 0, 65, .inl o_glyphStarts_f))]) hP hD [0, 1, 2, 3, 4] [] rfl rfl (by decide) (by decide) hk1 hFc hP1 hD1
  generalize H1 = H at hP hS ⊢
  have hP := hP.sub (ws' := [(o, .inr (7, [.ref o_bytes, .int o_length, .ref o_starts, .ref o_sizes, .ref o_glyphStarts, .int o_units, .int o_glyphs, .int r_2, .int o_descent, .int o_gap, .int o_longLoca, .int o_metrics, .int o_codes, .int o_codesSize, .int o_segments, .int o_pairs])), (o_bytes, .inl (cy 1, 4096, .inl o_bytes_f)), (o_starts, .inl (cy 0, 8, .inl o_starts_f)), (o_sizes, .inl (cy 0, 8, .inl o_sizes_f)), (o_glyphStarts, .inl (cy 0, 65, .inl o_glyphStarts_f))]) [0, 1, 2, 3, 4] rfl
  have hD := hD.sub (ws' := [(o, .inr (7, [.ref o_bytes, .int o_length, .ref o_starts, .ref o_sizes, .ref o_glyphStarts, .int o_units, .int o_glyphs, .int r_2, .int o_descent, .int o_gap, .int o_longLoca, .int o_metrics, .int o_codes, .int o_codesSize, .int o_segments, .int o_pairs])), (o_bytes, .inl (cy 1, 4096, .inl o_bytes_f)), (o_starts, .inl (cy 0, 8, .inl o_starts_f)), (o_sizes, .inl (cy 0, 8, .inl o_sizes_f)), (o_glyphStarts, .inl (cy 0, 65, .inl o_glyphStarts_f))]) [0, 1, 2, 3, 4] (by decide) rfl
  refine W.widen (k := 0) (n := 0) (by decide) (by decide) ?_
  refine va_put (D := (dC, dI)) (ci := 7) (v := .int r_3) (ty := .int) (C := "GlyphPage$FontFile") (T := F_Ff) (N := 16) hx hb htsG iG_Ff t_Ff t_Ff_ok n_Ff hown hK hP hD hS 0 rfl rfl 8 (by decide) (htsG _ mW314) (fun _ h9 => h9) rfl (by decide +kernel) rfl rfl (Nat.le_of_ble_eq_true rfl) d_Ff_readHhea_27 (fun H locs hP hD hS => ?_)
  have hP : va_P (dC, dI) classes [(o, .inr (7, [.ref o_bytes, .int o_length, .ref o_starts, .ref o_sizes, .ref o_glyphStarts, .int o_units, .int o_glyphs, .int r_2, .int r_3, .int o_gap, .int o_longLoca, .int o_metrics, .int o_codes, .int o_codesSize, .int o_segments, .int o_pairs])), (o_bytes, .inl (cy 1, 4096, .inl o_bytes_f)), (o_starts, .inl (cy 0, 8, .inl o_starts_f)), (o_sizes, .inl (cy 0, 8, .inl o_sizes_f)), (o_glyphStarts, .inl (cy 0, 65, .inl o_glyphStarts_f))] H := hP
  have hD : va_D A [(o, .inr (7, [.ref o_bytes, .int o_length, .ref o_starts, .ref o_sizes, .ref o_glyphStarts, .int o_units, .int o_glyphs, .int r_2, .int r_3, .int o_gap, .int o_longLoca, .int o_metrics, .int o_codes, .int o_codesSize, .int o_segments, .int o_pairs])), (o_bytes, .inl (cy 1, 4096, .inl o_bytes_f)), (o_starts, .inl (cy 0, 8, .inl o_starts_f)), (o_sizes, .inl (cy 0, 8, .inl o_sizes_f)), (o_glyphStarts, .inl (cy 0, 65, .inl o_glyphStarts_f))] := hD
  refine lv_aload_n hx hb d_Ff_readHhea_30 rfl (lv_at hl 1 rfl) ?_
  refine lv_aload_n hx hb d_Ff_readHhea_31 rfl (lv_at hl 1 rfl) ?_
  refine lv_iload_n hx hb d_Ff_readHhea_32 rfl (lv_at hl 0 rfl) ?_
  refine lv_bipush (v := (8 : Int32)) hx hb d_Ff_readHhea_33 (by decide) ?_
  refine lv_iadd hx hb d_Ff_readHhea_35 ?_
  obtain ⟨r_4, hq, h⟩ := Option.bind_eq_some_iff.mp h
  try dsimp only at h
  have hPc := hP.sub (ws' := [(o, .inr (7, [.ref o_bytes, .int o_length, .ref o_starts, .ref o_sizes, .ref o_glyphStarts, .int o_units, .int o_glyphs, .int r_2, .int r_3, .int o_gap, .int o_longLoca, .int o_metrics, .int o_codes, .int o_codesSize, .int o_segments, .int o_pairs])), (o_bytes, .inl (cy 1, 4096, .inl o_bytes_f)), (o_starts, .inl (cy 0, 8, .inl o_starts_f)), (o_sizes, .inl (cy 0, 8, .inl o_sizes_f)), (o_glyphStarts, .inl (cy 0, 65, .inl o_glyphStarts_f))]) [0, 1, 2, 3, 4] rfl
  have hDc := hD.sub (ws' := [(o, .inr (7, [.ref o_bytes, .int o_length, .ref o_starts, .ref o_sizes, .ref o_glyphStarts, .int o_units, .int o_glyphs, .int r_2, .int r_3, .int o_gap, .int o_longLoca, .int o_metrics, .int o_codes, .int o_codesSize, .int o_segments, .int o_pairs])), (o_bytes, .inl (cy 1, 4096, .inl o_bytes_f)), (o_starts, .inl (cy 0, 8, .inl o_starts_f)), (o_sizes, .inl (cy 0, 8, .inl o_sizes_f)), (o_glyphStarts, .inl (cy 0, 65, .inl o_glyphStarts_f))]) [0, 1, 2, 3, 4] (by decide) rfl
  have hFc := va_free (wc := [(o, .inr (7, [.ref o_bytes, .int o_length, .ref o_starts, .ref o_sizes, .ref o_glyphStarts, .int o_units, .int o_glyphs, .int r_2, .int r_3, .int o_gap, .int o_longLoca, .int o_metrics, .int o_codes, .int o_codesSize, .int o_segments, .int o_pairs])), (o_bytes, .inl (cy 1, 4096, .inl o_bytes_f)), (o_starts, .inl (cy 0, 8, .inl o_starts_f)), (o_sizes, .inl (cy 0, 8, .inl o_sizes_f)), (o_glyphStarts, .inl (cy 0, 65, .inl o_glyphStarts_f))]) hD hS hA [0, 1, 2, 3, 4] rfl
  refine va_calli (va_runV (As := [.int ((o_starts_f (3 : Int32).toNatClampNeg) + (8 : Int32))]) (rest := [.ref o]) ⟨hx, hb, hml, hown, htsG⟩ (c_Ff_signedAt l dC dI cy H.size o o_bytes o_starts o_sizes o_glyphStarts o_length o_units o_glyphs r_2 r_3 o_gap o_longLoca o_metrics o_codes o_codesSize o_segments o_pairs o_bytes_f o_starts_f o_sizes_f o_glyphStarts_f ((o_starts_f (3 : Int32).toNatClampNeg) + (8 : Int32)) r_4 hq) (cwV 1 htsG (gV mW400 mW402 mS_Ff_signedAt mW11 mW403) rfl rfl rfl (by decide +kernel) ⟨Nat.le_of_ble_eq_true rfl, Nat.le_of_ble_eq_true rfl⟩) ⟨fun a U g mk q => by obtain ⟨q0, q1, qP, qK, qD⟩ := q; exact ⟨q0, q1, qP, va_K.moved (u := U) (U := U.calling g mk a) (Vm.Alike.refl U.vm) qK, qD⟩, va_recv hK hPc (ci := 7) (q0 := 0) rfl rfl, fun U hU hW => ⟨rfl, by rw [hU], by rw [hU]; exact hPc, va_K.moved hW.alike hK, hDc.weaken (fun _ _ _ _ => trivial)⟩⟩ rfl rfl hl.1 rfl (lv_room (Nat.le_of_ble_eq_true rfl)) d_Ff_readHhea_36 ⟨Nat.le_of_ble_eq_true rfl, Nat.le_of_ble_eq_true rfl⟩) hS (fun q _ h => hFc q h) hFc (fun rr u t H1 locs ht hvm hw hB hz1 hk1 hS => ?_)
  obtain ⟨hP1, hK1, hD1⟩ := hB
  rw [ht] at hP1
  replace hw : r_4 = rr := hw.symm
  subst hw
  obtain ⟨hP, hD⟩ := va_join (wr := []) (w1 := [(o, .inr (7, [.ref o_bytes, .int o_length, .ref o_starts, .ref o_sizes, .ref o_glyphStarts, .int o_units, .int o_glyphs, .int r_2, .int r_3, .int o_gap, .int o_longLoca, .int o_metrics, .int o_codes, .int o_codesSize, .int o_segments, .int o_pairs])), (o_bytes, .inl (cy 1, 4096, .inl o_bytes_f)), (o_starts, .inl (cy 0, 8, .inl o_starts_f)), (o_sizes, .inl (cy 0, 8, .inl o_sizes_f)), (o_glyphStarts, .inl (cy 0, 65, .inl o_glyphStarts_f))]) hP hD [0, 1, 2, 3, 4] [] rfl rfl (by decide) (by decide) hk1 hFc hP1 hD1
  generalize H1 = H at hP hS ⊢
  have hP := hP.sub (ws' := [(o, .inr (7, [.ref o_bytes, .int o_length, .ref o_starts, .ref o_sizes, .ref o_glyphStarts, .int o_units, .int o_glyphs, .int r_2, .int r_3, .int o_gap, .int o_longLoca, .int o_metrics, .int o_codes, .int o_codesSize, .int o_segments, .int o_pairs])), (o_bytes, .inl (cy 1, 4096, .inl o_bytes_f)), (o_starts, .inl (cy 0, 8, .inl o_starts_f)), (o_sizes, .inl (cy 0, 8, .inl o_sizes_f)), (o_glyphStarts, .inl (cy 0, 65, .inl o_glyphStarts_f))]) [0, 1, 2, 3, 4] rfl
  have hD := hD.sub (ws' := [(o, .inr (7, [.ref o_bytes, .int o_length, .ref o_starts, .ref o_sizes, .ref o_glyphStarts, .int o_units, .int o_glyphs, .int r_2, .int r_3, .int o_gap, .int o_longLoca, .int o_metrics, .int o_codes, .int o_codesSize, .int o_segments, .int o_pairs])), (o_bytes, .inl (cy 1, 4096, .inl o_bytes_f)), (o_starts, .inl (cy 0, 8, .inl o_starts_f)), (o_sizes, .inl (cy 0, 8, .inl o_sizes_f)), (o_glyphStarts, .inl (cy 0, 65, .inl o_glyphStarts_f))]) [0, 1, 2, 3, 4] (by decide) rfl
  refine W.widen (k := 0) (n := 0) (by decide) (by decide) ?_
  refine va_put (D := (dC, dI)) (ci := 7) (v := .int r_4) (ty := .int) (C := "GlyphPage$FontFile") (T := F_Ff) (N := 16) hx hb htsG iG_Ff t_Ff t_Ff_ok n_Ff hown hK hP hD hS 0 rfl rfl 9 (by decide) (htsG _ mW316) (fun _ h9 => h9) rfl (by decide +kernel) rfl rfl (Nat.le_of_ble_eq_true rfl) d_Ff_readHhea_39 (fun H locs hP hD hS => ?_)
  have hP : va_P (dC, dI) classes [(o, .inr (7, [.ref o_bytes, .int o_length, .ref o_starts, .ref o_sizes, .ref o_glyphStarts, .int o_units, .int o_glyphs, .int r_2, .int r_3, .int r_4, .int o_longLoca, .int o_metrics, .int o_codes, .int o_codesSize, .int o_segments, .int o_pairs])), (o_bytes, .inl (cy 1, 4096, .inl o_bytes_f)), (o_starts, .inl (cy 0, 8, .inl o_starts_f)), (o_sizes, .inl (cy 0, 8, .inl o_sizes_f)), (o_glyphStarts, .inl (cy 0, 65, .inl o_glyphStarts_f))] H := hP
  have hD : va_D A [(o, .inr (7, [.ref o_bytes, .int o_length, .ref o_starts, .ref o_sizes, .ref o_glyphStarts, .int o_units, .int o_glyphs, .int r_2, .int r_3, .int r_4, .int o_longLoca, .int o_metrics, .int o_codes, .int o_codesSize, .int o_segments, .int o_pairs])), (o_bytes, .inl (cy 1, 4096, .inl o_bytes_f)), (o_starts, .inl (cy 0, 8, .inl o_starts_f)), (o_sizes, .inl (cy 0, 8, .inl o_sizes_f)), (o_glyphStarts, .inl (cy 0, 65, .inl o_glyphStarts_f))] := hD
  refine lv_aload_n hx hb d_Ff_readHhea_42 rfl (lv_at hl 1 rfl) ?_
  refine lv_aload_n hx hb d_Ff_readHhea_43 rfl (lv_at hl 1 rfl) ?_
  refine lv_iload_n hx hb d_Ff_readHhea_44 rfl (lv_at hl 0 rfl) ?_
  refine lv_bipush (v := (34 : Int32)) hx hb d_Ff_readHhea_45 (by decide) ?_
  refine lv_iadd hx hb d_Ff_readHhea_47 ?_
  obtain ⟨r_5, hq, h⟩ := Option.bind_eq_some_iff.mp h
  try dsimp only at h
  have hPc := hP.sub (ws' := [(o, .inr (7, [.ref o_bytes, .int o_length, .ref o_starts, .ref o_sizes, .ref o_glyphStarts, .int o_units, .int o_glyphs, .int r_2, .int r_3, .int r_4, .int o_longLoca, .int o_metrics, .int o_codes, .int o_codesSize, .int o_segments, .int o_pairs])), (o_bytes, .inl (cy 1, 4096, .inl o_bytes_f)), (o_starts, .inl (cy 0, 8, .inl o_starts_f)), (o_sizes, .inl (cy 0, 8, .inl o_sizes_f)), (o_glyphStarts, .inl (cy 0, 65, .inl o_glyphStarts_f))]) [0, 1, 2, 3, 4] rfl
  have hDc := hD.sub (ws' := [(o, .inr (7, [.ref o_bytes, .int o_length, .ref o_starts, .ref o_sizes, .ref o_glyphStarts, .int o_units, .int o_glyphs, .int r_2, .int r_3, .int r_4, .int o_longLoca, .int o_metrics, .int o_codes, .int o_codesSize, .int o_segments, .int o_pairs])), (o_bytes, .inl (cy 1, 4096, .inl o_bytes_f)), (o_starts, .inl (cy 0, 8, .inl o_starts_f)), (o_sizes, .inl (cy 0, 8, .inl o_sizes_f)), (o_glyphStarts, .inl (cy 0, 65, .inl o_glyphStarts_f))]) [0, 1, 2, 3, 4] (by decide) rfl
  have hFc := va_free (wc := [(o, .inr (7, [.ref o_bytes, .int o_length, .ref o_starts, .ref o_sizes, .ref o_glyphStarts, .int o_units, .int o_glyphs, .int r_2, .int r_3, .int r_4, .int o_longLoca, .int o_metrics, .int o_codes, .int o_codesSize, .int o_segments, .int o_pairs])), (o_bytes, .inl (cy 1, 4096, .inl o_bytes_f)), (o_starts, .inl (cy 0, 8, .inl o_starts_f)), (o_sizes, .inl (cy 0, 8, .inl o_sizes_f)), (o_glyphStarts, .inl (cy 0, 65, .inl o_glyphStarts_f))]) hD hS hA [0, 1, 2, 3, 4] rfl
  refine va_calli (va_runV (As := [.int ((o_starts_f (3 : Int32).toNatClampNeg) + (34 : Int32))]) (rest := [.ref o]) ⟨hx, hb, hml, hown, htsG⟩ (c_Ff_twoAt l dC dI cy H.size o o_bytes o_starts o_sizes o_glyphStarts o_length o_units o_glyphs r_2 r_3 r_4 o_longLoca o_metrics o_codes o_codesSize o_segments o_pairs o_bytes_f o_starts_f o_sizes_f o_glyphStarts_f ((o_starts_f (3 : Int32).toNatClampNeg) + (34 : Int32)) r_5 hq) (cwV 1 htsG (gV mW365 mW367 mS_Ff_twoAt mW11 mW368) rfl rfl rfl (by decide +kernel) ⟨Nat.le_of_ble_eq_true rfl, Nat.le_of_ble_eq_true rfl⟩) ⟨fun a U g mk q => by obtain ⟨q0, q1, qP, qK, qD⟩ := q; exact ⟨q0, q1, qP, va_K.moved (u := U) (U := U.calling g mk a) (Vm.Alike.refl U.vm) qK, qD⟩, va_recv hK hPc (ci := 7) (q0 := 0) rfl rfl, fun U hU hW => ⟨rfl, by rw [hU], by rw [hU]; exact hPc, va_K.moved hW.alike hK, hDc.weaken (fun _ _ _ _ => trivial)⟩⟩ rfl rfl hl.1 rfl (lv_room (Nat.le_of_ble_eq_true rfl)) d_Ff_readHhea_48 ⟨Nat.le_of_ble_eq_true rfl, Nat.le_of_ble_eq_true rfl⟩) hS (fun q _ h => hFc q h) hFc (fun rr u t H1 locs ht hvm hw hB hz1 hk1 hS => ?_)
  obtain ⟨hP1, hK1, hD1⟩ := hB
  rw [ht] at hP1
  replace hw : r_5 = rr := hw.symm
  subst hw
  obtain ⟨hP, hD⟩ := va_join (wr := []) (w1 := [(o, .inr (7, [.ref o_bytes, .int o_length, .ref o_starts, .ref o_sizes, .ref o_glyphStarts, .int o_units, .int o_glyphs, .int r_2, .int r_3, .int r_4, .int o_longLoca, .int o_metrics, .int o_codes, .int o_codesSize, .int o_segments, .int o_pairs])), (o_bytes, .inl (cy 1, 4096, .inl o_bytes_f)), (o_starts, .inl (cy 0, 8, .inl o_starts_f)), (o_sizes, .inl (cy 0, 8, .inl o_sizes_f)), (o_glyphStarts, .inl (cy 0, 65, .inl o_glyphStarts_f))]) hP hD [0, 1, 2, 3, 4] [] rfl rfl (by decide) (by decide) hk1 hFc hP1 hD1
  generalize H1 = H at hP hS ⊢
  have hP := hP.sub (ws' := [(o, .inr (7, [.ref o_bytes, .int o_length, .ref o_starts, .ref o_sizes, .ref o_glyphStarts, .int o_units, .int o_glyphs, .int r_2, .int r_3, .int r_4, .int o_longLoca, .int o_metrics, .int o_codes, .int o_codesSize, .int o_segments, .int o_pairs])), (o_bytes, .inl (cy 1, 4096, .inl o_bytes_f)), (o_starts, .inl (cy 0, 8, .inl o_starts_f)), (o_sizes, .inl (cy 0, 8, .inl o_sizes_f)), (o_glyphStarts, .inl (cy 0, 65, .inl o_glyphStarts_f))]) [0, 1, 2, 3, 4] rfl
  have hD := hD.sub (ws' := [(o, .inr (7, [.ref o_bytes, .int o_length, .ref o_starts, .ref o_sizes, .ref o_glyphStarts, .int o_units, .int o_glyphs, .int r_2, .int r_3, .int r_4, .int o_longLoca, .int o_metrics, .int o_codes, .int o_codesSize, .int o_segments, .int o_pairs])), (o_bytes, .inl (cy 1, 4096, .inl o_bytes_f)), (o_starts, .inl (cy 0, 8, .inl o_starts_f)), (o_sizes, .inl (cy 0, 8, .inl o_sizes_f)), (o_glyphStarts, .inl (cy 0, 65, .inl o_glyphStarts_f))]) [0, 1, 2, 3, 4] (by decide) rfl
  refine W.widen (k := 0) (n := 0) (by decide) (by decide) ?_
  refine va_put (D := (dC, dI)) (ci := 7) (v := .int r_5) (ty := .int) (C := "GlyphPage$FontFile") (T := F_Ff) (N := 16) hx hb htsG iG_Ff t_Ff t_Ff_ok n_Ff hown hK hP hD hS 0 rfl rfl 11 (by decide) (htsG _ mW319) (fun _ h9 => h9) rfl (by decide +kernel) rfl rfl (Nat.le_of_ble_eq_true rfl) d_Ff_readHhea_51 (fun H locs hP hD hS => ?_)
  have hP : va_P (dC, dI) classes [(o, .inr (7, [.ref o_bytes, .int o_length, .ref o_starts, .ref o_sizes, .ref o_glyphStarts, .int o_units, .int o_glyphs, .int r_2, .int r_3, .int r_4, .int o_longLoca, .int r_5, .int o_codes, .int o_codesSize, .int o_segments, .int o_pairs])), (o_bytes, .inl (cy 1, 4096, .inl o_bytes_f)), (o_starts, .inl (cy 0, 8, .inl o_starts_f)), (o_sizes, .inl (cy 0, 8, .inl o_sizes_f)), (o_glyphStarts, .inl (cy 0, 65, .inl o_glyphStarts_f))] H := hP
  have hD : va_D A [(o, .inr (7, [.ref o_bytes, .int o_length, .ref o_starts, .ref o_sizes, .ref o_glyphStarts, .int o_units, .int o_glyphs, .int r_2, .int r_3, .int r_4, .int o_longLoca, .int r_5, .int o_codes, .int o_codesSize, .int o_segments, .int o_pairs])), (o_bytes, .inl (cy 1, 4096, .inl o_bytes_f)), (o_starts, .inl (cy 0, 8, .inl o_starts_f)), (o_sizes, .inl (cy 0, 8, .inl o_sizes_f)), (o_glyphStarts, .inl (cy 0, 65, .inl o_glyphStarts_f))] := hD
  refine lv_aload_n hx hb d_Ff_readHhea_54 rfl (lv_at hl 1 rfl) ?_
  refine va_get (D := (dC, dI)) (ci := 7) (v := .ref o_sizes) (C := "GlyphPage$FontFile") (T := F_Ff) (N := 16) hx hb htsG iG_Ff hown hK hP 0 rfl rfl 3 (by decide) (htsG _ mW304) (fun _ h9 => h9) rfl d_Ff_readHhea_55 ?_
  refine lv_iconst (v := (3 : Int32)) hx hb d_Ff_readHhea_58 (by decide) ?_
  obtain ⟨hin_6, h⟩ := bd_some h
  refine va_iald hx hb hK hP 3 0 rfl rfl hin_6 d_Ff_readHhea_59 ?_
  refine lv_bipush (v := (36 : Int32)) hx hb d_Ff_readHhea_60 (by decide) ?_
  refine lv_icmp_lt (tgt := 121) hx hb d_Ff_readHhea_62 (by decide) (fun c_7 => ?_) (fun c_7 => ?_)
  · replace h := (if_pos c_7).symm.trans h
    refine lv_iconst (v := (0 : Int32)) hx hb d_Ff_readHhea_121 (by decide) ?_
    cases h
    exact W.zret (ty := .boolean) hx hb hr rfl (fun t ht hW => ⟨⟨_, (), rfl, rfl, by rw [ht]; exact hP, va_K.moved hW.alike hK, hD⟩, hS.F ht⟩) hS.2.2 d_Ff_readHhea_122 hlocks
  · replace h := (if_neg c_7).symm.trans h
    refine lv_aload_n hx hb d_Ff_readHhea_65 rfl (lv_at hl 1 rfl) ?_
    refine lv_aload_n hx hb d_Ff_readHhea_66 rfl (lv_at hl 1 rfl) ?_
    refine va_get (D := (dC, dI)) (ci := 7) (v := .int r_2) (C := "GlyphPage$FontFile") (T := F_Ff) (N := 16) hx hb htsG iG_Ff hown hK hP 0 rfl rfl 7 (by decide) (htsG _ mW312) (fun _ h9 => h9) rfl d_Ff_readHhea_67 ?_
    obtain ⟨r_8, hq, h⟩ := Option.bind_eq_some_iff.mp h
    try dsimp only at h
    have hPc := hP.sub (ws' := [(o, .inr (7, [.ref o_bytes, .int o_length, .ref o_starts, .ref o_sizes, .ref o_glyphStarts, .int o_units, .int o_glyphs, .int r_2, .int r_3, .int r_4, .int o_longLoca, .int r_5, .int o_codes, .int o_codesSize, .int o_segments, .int o_pairs]))]) [0] rfl
    have hDc := hD.sub (ws' := [(o, .inr (7, [.ref o_bytes, .int o_length, .ref o_starts, .ref o_sizes, .ref o_glyphStarts, .int o_units, .int o_glyphs, .int r_2, .int r_3, .int r_4, .int o_longLoca, .int r_5, .int o_codes, .int o_codesSize, .int o_segments, .int o_pairs]))]) [0] (by decide) rfl
    have hFc := va_free (wc := [(o, .inr (7, [.ref o_bytes, .int o_length, .ref o_starts, .ref o_sizes, .ref o_glyphStarts, .int o_units, .int o_glyphs, .int r_2, .int r_3, .int r_4, .int o_longLoca, .int r_5, .int o_codes, .int o_codesSize, .int o_segments, .int o_pairs]))]) hD hS hA [0] rfl
    refine va_calli (va_runV (As := [.int r_2]) (rest := []) ⟨hx, hb, hml, hown, htsG⟩ (c_Ff_isModest l dC dI cy H.size o o_bytes o_starts o_sizes o_glyphStarts o_length o_units o_glyphs r_2 r_3 r_4 o_longLoca r_5 o_codes o_codesSize o_segments o_pairs r_2 r_8 hq) (cwV 1 htsG (gV mW404 mW406 mS_Ff_isModest mW11 mW407) rfl rfl rfl (by decide +kernel) ⟨Nat.le_of_ble_eq_true rfl, Nat.le_of_ble_eq_true rfl⟩) ⟨fun a U g mk q => by obtain ⟨q0, q1, qP, qK, qD⟩ := q; exact ⟨q0, q1, qP, va_K.moved (u := U) (U := U.calling g mk a) (Vm.Alike.refl U.vm) qK, qD⟩, va_recv hK hPc (ci := 7) (q0 := 0) rfl rfl, fun U hU hW => ⟨rfl, by rw [hU], by rw [hU]; exact hPc, va_K.moved hW.alike hK, hDc.weaken (fun _ _ _ _ => trivial)⟩⟩ rfl rfl hl.1 rfl (lv_room (Nat.le_of_ble_eq_true rfl)) d_Ff_readHhea_70 ⟨Nat.le_of_ble_eq_true rfl, Nat.le_of_ble_eq_true rfl⟩) hS (fun q _ h => hFc q h) hFc (fun rr u t H1 locs ht hvm hw hB hz1 hk1 hS => ?_)
    obtain ⟨hP1, hK1, hD1⟩ := hB
    rw [ht] at hP1
    replace hw : r_8 = rr := hw.symm
    subst hw
    obtain ⟨hP, hD⟩ := va_join (wr := [(o_bytes, .inl (cy 1, 4096, .inl o_bytes_f)), (o_starts, .inl (cy 0, 8, .inl o_starts_f)), (o_sizes, .inl (cy 0, 8, .inl o_sizes_f)), (o_glyphStarts, .inl (cy 0, 65, .inl o_glyphStarts_f))]) (w1 := [(o, .inr (7, [.ref o_bytes, .int o_length, .ref o_starts, .ref o_sizes, .ref o_glyphStarts, .int o_units, .int o_glyphs, .int r_2, .int r_3, .int r_4, .int o_longLoca, .int r_5, .int o_codes, .int o_codesSize, .int o_segments, .int o_pairs]))]) hP hD [0] [1, 2, 3, 4] rfl rfl (by decide) (by decide) hk1 hFc hP1 hD1
    generalize H1 = H at hP hS ⊢
    have hP := hP.sub (ws' := [(o, .inr (7, [.ref o_bytes, .int o_length, .ref o_starts, .ref o_sizes, .ref o_glyphStarts, .int o_units, .int o_glyphs, .int r_2, .int r_3, .int r_4, .int o_longLoca, .int r_5, .int o_codes, .int o_codesSize, .int o_segments, .int o_pairs])), (o_bytes, .inl (cy 1, 4096, .inl o_bytes_f)), (o_starts, .inl (cy 0, 8, .inl o_starts_f)), (o_sizes, .inl (cy 0, 8, .inl o_sizes_f)), (o_glyphStarts, .inl (cy 0, 65, .inl o_glyphStarts_f))]) [4, 0, 1, 2, 3] rfl
    have hD := hD.sub (ws' := [(o, .inr (7, [.ref o_bytes, .int o_length, .ref o_starts, .ref o_sizes, .ref o_glyphStarts, .int o_units, .int o_glyphs, .int r_2, .int r_3, .int r_4, .int o_longLoca, .int r_5, .int o_codes, .int o_codesSize, .int o_segments, .int o_pairs])), (o_bytes, .inl (cy 1, 4096, .inl o_bytes_f)), (o_starts, .inl (cy 0, 8, .inl o_starts_f)), (o_sizes, .inl (cy 0, 8, .inl o_sizes_f)), (o_glyphStarts, .inl (cy 0, 65, .inl o_glyphStarts_f))]) [4, 0, 1, 2, 3] (by decide) rfl
    refine W.widen (k := 0) (n := 0) (by decide) (by decide) ?_
    refine lv_if_eq (tgt := 121) hx hb d_Ff_readHhea_73 (by decide) (fun c_9 => ?_) (fun c_9 => ?_)
    · replace h := (if_pos c_9).symm.trans h
      refine lv_iconst (v := (0 : Int32)) hx hb d_Ff_readHhea_121 (by decide) ?_
      cases h
      exact W.zret (ty := .boolean) hx hb hr rfl (fun t ht hW => ⟨⟨_, (), rfl, rfl, by rw [ht]; exact hP, va_K.moved hW.alike hK, hD⟩, hS.F ht⟩) hS.2.2 d_Ff_readHhea_122 hlocks
    · replace h := (if_neg c_9).symm.trans h
      refine lv_aload_n hx hb d_Ff_readHhea_76 rfl (lv_at hl 1 rfl) ?_
      refine lv_aload_n hx hb d_Ff_readHhea_77 rfl (lv_at hl 1 rfl) ?_
      refine va_get (D := (dC, dI)) (ci := 7) (v := .int r_3) (C := "GlyphPage$FontFile") (T := F_Ff) (N := 16) hx hb htsG iG_Ff hown hK hP 0 rfl rfl 8 (by decide) (htsG _ mW314) (fun _ h9 => h9) rfl d_Ff_readHhea_78 ?_
      obtain ⟨r_10, hq, h⟩ := Option.bind_eq_some_iff.mp h
      try dsimp only at h
      have hPc := hP.sub (ws' := [(o, .inr (7, [.ref o_bytes, .int o_length, .ref o_starts, .ref o_sizes, .ref o_glyphStarts, .int o_units, .int o_glyphs, .int r_2, .int r_3, .int r_4, .int o_longLoca, .int r_5, .int o_codes, .int o_codesSize, .int o_segments, .int o_pairs]))]) [0] rfl
      have hDc := hD.sub (ws' := [(o, .inr (7, [.ref o_bytes, .int o_length, .ref o_starts, .ref o_sizes, .ref o_glyphStarts, .int o_units, .int o_glyphs, .int r_2, .int r_3, .int r_4, .int o_longLoca, .int r_5, .int o_codes, .int o_codesSize, .int o_segments, .int o_pairs]))]) [0] (by decide) rfl
      have hFc := va_free (wc := [(o, .inr (7, [.ref o_bytes, .int o_length, .ref o_starts, .ref o_sizes, .ref o_glyphStarts, .int o_units, .int o_glyphs, .int r_2, .int r_3, .int r_4, .int o_longLoca, .int r_5, .int o_codes, .int o_codesSize, .int o_segments, .int o_pairs]))]) hD hS hA [0] rfl
      refine va_calli (va_runV (As := [.int r_3]) (rest := []) ⟨hx, hb, hml, hown, htsG⟩ (c_Ff_isModest l dC dI cy H.size o o_bytes o_starts o_sizes o_glyphStarts o_length o_units o_glyphs r_2 r_3 r_4 o_longLoca r_5 o_codes o_codesSize o_segments o_pairs r_3 r_10 hq) (cwV 1 htsG (gV mW404 mW406 mS_Ff_isModest mW11 mW407) rfl rfl rfl (by decide +kernel) ⟨Nat.le_of_ble_eq_true rfl, Nat.le_of_ble_eq_true rfl⟩) ⟨fun a U g mk q => by obtain ⟨q0, q1, qP, qK, qD⟩ := q; exact ⟨q0, q1, qP, va_K.moved (u := U) (U := U.calling g mk a) (Vm.Alike.refl U.vm) qK, qD⟩, va_recv hK hPc (ci := 7) (q0 := 0) rfl rfl, fun U hU hW => ⟨rfl, by rw [hU], by rw [hU]; exact hPc, va_K.moved hW.alike hK, hDc.weaken (fun _ _ _ _ => trivial)⟩⟩ rfl rfl hl.1 rfl (lv_room (Nat.le_of_ble_eq_true rfl)) d_Ff_readHhea_81 ⟨Nat.le_of_ble_eq_true rfl, Nat.le_of_ble_eq_true rfl⟩) hS (fun q _ h => hFc q h) hFc (fun rr u t H1 locs ht hvm hw hB hz1 hk1 hS => ?_)
      obtain ⟨hP1, hK1, hD1⟩ := hB
      rw [ht] at hP1
      replace hw : r_10 = rr := hw.symm
      subst hw
      obtain ⟨hP, hD⟩ := va_join (wr := [(o_bytes, .inl (cy 1, 4096, .inl o_bytes_f)), (o_starts, .inl (cy 0, 8, .inl o_starts_f)), (o_sizes, .inl (cy 0, 8, .inl o_sizes_f)), (o_glyphStarts, .inl (cy 0, 65, .inl o_glyphStarts_f))]) (w1 := [(o, .inr (7, [.ref o_bytes, .int o_length, .ref o_starts, .ref o_sizes, .ref o_glyphStarts, .int o_units, .int o_glyphs, .int r_2, .int r_3, .int r_4, .int o_longLoca, .int r_5, .int o_codes, .int o_codesSize, .int o_segments, .int o_pairs]))]) hP hD [0] [1, 2, 3, 4] rfl rfl (by decide) (by decide) hk1 hFc hP1 hD1
      generalize H1 = H at hP hS ⊢
      have hP := hP.sub (ws' := [(o, .inr (7, [.ref o_bytes, .int o_length, .ref o_starts, .ref o_sizes, .ref o_glyphStarts, .int o_units, .int o_glyphs, .int r_2, .int r_3, .int r_4, .int o_longLoca, .int r_5, .int o_codes, .int o_codesSize, .int o_segments, .int o_pairs])), (o_bytes, .inl (cy 1, 4096, .inl o_bytes_f)), (o_starts, .inl (cy 0, 8, .inl o_starts_f)), (o_sizes, .inl (cy 0, 8, .inl o_sizes_f)), (o_glyphStarts, .inl (cy 0, 65, .inl o_glyphStarts_f))]) [4, 0, 1, 2, 3] rfl
      have hD := hD.sub (ws' := [(o, .inr (7, [.ref o_bytes, .int o_length, .ref o_starts, .ref o_sizes, .ref o_glyphStarts, .int o_units, .int o_glyphs, .int r_2, .int r_3, .int r_4, .int o_longLoca, .int r_5, .int o_codes, .int o_codesSize, .int o_segments, .int o_pairs])), (o_bytes, .inl (cy 1, 4096, .inl o_bytes_f)), (o_starts, .inl (cy 0, 8, .inl o_starts_f)), (o_sizes, .inl (cy 0, 8, .inl o_sizes_f)), (o_glyphStarts, .inl (cy 0, 65, .inl o_glyphStarts_f))]) [4, 0, 1, 2, 3] (by decide) rfl
      refine W.widen (k := 0) (n := 0) (by decide) (by decide) ?_
      refine lv_if_eq (tgt := 121) hx hb d_Ff_readHhea_84 (by decide) (fun c_11 => ?_) (fun c_11 => ?_)
      · replace h := (if_pos c_11).symm.trans h
        refine lv_iconst (v := (0 : Int32)) hx hb d_Ff_readHhea_121 (by decide) ?_
        cases h
        exact W.zret (ty := .boolean) hx hb hr rfl (fun t ht hW => ⟨⟨_, (), rfl, rfl, by rw [ht]; exact hP, va_K.moved hW.alike hK, hD⟩, hS.F ht⟩) hS.2.2 d_Ff_readHhea_122 hlocks
      · replace h := (if_neg c_11).symm.trans h
        refine lv_aload_n hx hb d_Ff_readHhea_87 rfl (lv_at hl 1 rfl) ?_
        refine lv_aload_n hx hb d_Ff_readHhea_88 rfl (lv_at hl 1 rfl) ?_
        refine va_get (D := (dC, dI)) (ci := 7) (v := .int r_4) (C := "GlyphPage$FontFile") (T := F_Ff) (N := 16) hx hb htsG iG_Ff hown hK hP 0 rfl rfl 9 (by decide) (htsG _ mW316) (fun _ h9 => h9) rfl d_Ff_readHhea_89 ?_
        obtain ⟨r_12, hq, h⟩ := Option.bind_eq_some_iff.mp h
        try dsimp only at h
        have hPc := hP.sub (ws' := [(o, .inr (7, [.ref o_bytes, .int o_length, .ref o_starts, .ref o_sizes, .ref o_glyphStarts, .int o_units, .int o_glyphs, .int r_2, .int r_3, .int r_4, .int o_longLoca, .int r_5, .int o_codes, .int o_codesSize, .int o_segments, .int o_pairs]))]) [0] rfl
        have hDc := hD.sub (ws' := [(o, .inr (7, [.ref o_bytes, .int o_length, .ref o_starts, .ref o_sizes, .ref o_glyphStarts, .int o_units, .int o_glyphs, .int r_2, .int r_3, .int r_4, .int o_longLoca, .int r_5, .int o_codes, .int o_codesSize, .int o_segments, .int o_pairs]))]) [0] (by decide) rfl
        have hFc := va_free (wc := [(o, .inr (7, [.ref o_bytes, .int o_length, .ref o_starts, .ref o_sizes, .ref o_glyphStarts, .int o_units, .int o_glyphs, .int r_2, .int r_3, .int r_4, .int o_longLoca, .int r_5, .int o_codes, .int o_codesSize, .int o_segments, .int o_pairs]))]) hD hS hA [0] rfl
        refine va_calli (va_runV (As := [.int r_4]) (rest := []) ⟨hx, hb, hml, hown, htsG⟩ (c_Ff_isModest l dC dI cy H.size o o_bytes o_starts o_sizes o_glyphStarts o_length o_units o_glyphs r_2 r_3 r_4 o_longLoca r_5 o_codes o_codesSize o_segments o_pairs r_4 r_12 hq) (cwV 1 htsG (gV mW404 mW406 mS_Ff_isModest mW11 mW407) rfl rfl rfl (by decide +kernel) ⟨Nat.le_of_ble_eq_true rfl, Nat.le_of_ble_eq_true rfl⟩) ⟨fun a U g mk q => by obtain ⟨q0, q1, qP, qK, qD⟩ := q; exact ⟨q0, q1, qP, va_K.moved (u := U) (U := U.calling g mk a) (Vm.Alike.refl U.vm) qK, qD⟩, va_recv hK hPc (ci := 7) (q0 := 0) rfl rfl, fun U hU hW => ⟨rfl, by rw [hU], by rw [hU]; exact hPc, va_K.moved hW.alike hK, hDc.weaken (fun _ _ _ _ => trivial)⟩⟩ rfl rfl hl.1 rfl (lv_room (Nat.le_of_ble_eq_true rfl)) d_Ff_readHhea_92 ⟨Nat.le_of_ble_eq_true rfl, Nat.le_of_ble_eq_true rfl⟩) hS (fun q _ h => hFc q h) hFc (fun rr u t H1 locs ht hvm hw hB hz1 hk1 hS => ?_)
        obtain ⟨hP1, hK1, hD1⟩ := hB
        rw [ht] at hP1
        replace hw : r_12 = rr := hw.symm
        subst hw
        obtain ⟨hP, hD⟩ := va_join (wr := [(o_bytes, .inl (cy 1, 4096, .inl o_bytes_f)), (o_starts, .inl (cy 0, 8, .inl o_starts_f)), (o_sizes, .inl (cy 0, 8, .inl o_sizes_f)), (o_glyphStarts, .inl (cy 0, 65, .inl o_glyphStarts_f))]) (w1 := [(o, .inr (7, [.ref o_bytes, .int o_length, .ref o_starts, .ref o_sizes, .ref o_glyphStarts, .int o_units, .int o_glyphs, .int r_2, .int r_3, .int r_4, .int o_longLoca, .int r_5, .int o_codes, .int o_codesSize, .int o_segments, .int o_pairs]))]) hP hD [0] [1, 2, 3, 4] rfl rfl (by decide) (by decide) hk1 hFc hP1 hD1
        generalize H1 = H at hP hS ⊢
        have hP := hP.sub (ws' := [(o, .inr (7, [.ref o_bytes, .int o_length, .ref o_starts, .ref o_sizes, .ref o_glyphStarts, .int o_units, .int o_glyphs, .int r_2, .int r_3, .int r_4, .int o_longLoca, .int r_5, .int o_codes, .int o_codesSize, .int o_segments, .int o_pairs])), (o_bytes, .inl (cy 1, 4096, .inl o_bytes_f)), (o_starts, .inl (cy 0, 8, .inl o_starts_f)), (o_sizes, .inl (cy 0, 8, .inl o_sizes_f)), (o_glyphStarts, .inl (cy 0, 65, .inl o_glyphStarts_f))]) [4, 0, 1, 2, 3] rfl
        have hD := hD.sub (ws' := [(o, .inr (7, [.ref o_bytes, .int o_length, .ref o_starts, .ref o_sizes, .ref o_glyphStarts, .int o_units, .int o_glyphs, .int r_2, .int r_3, .int r_4, .int o_longLoca, .int r_5, .int o_codes, .int o_codesSize, .int o_segments, .int o_pairs])), (o_bytes, .inl (cy 1, 4096, .inl o_bytes_f)), (o_starts, .inl (cy 0, 8, .inl o_starts_f)), (o_sizes, .inl (cy 0, 8, .inl o_sizes_f)), (o_glyphStarts, .inl (cy 0, 65, .inl o_glyphStarts_f))]) [4, 0, 1, 2, 3] (by decide) rfl
        refine W.widen (k := 0) (n := 0) (by decide) (by decide) ?_
        refine lv_if_eq (tgt := 121) hx hb d_Ff_readHhea_95 (by decide) (fun c_13 => ?_) (fun c_13 => ?_)
        · replace h := (if_pos c_13).symm.trans h
          refine lv_iconst (v := (0 : Int32)) hx hb d_Ff_readHhea_121 (by decide) ?_
          cases h
          exact W.zret (ty := .boolean) hx hb hr rfl (fun t ht hW => ⟨⟨_, (), rfl, rfl, by rw [ht]; exact hP, va_K.moved hW.alike hK, hD⟩, hS.F ht⟩) hS.2.2 d_Ff_readHhea_122 hlocks
        · replace h := (if_neg c_13).symm.trans h
          refine lv_aload_n hx hb d_Ff_readHhea_98 rfl (lv_at hl 1 rfl) ?_
          refine va_get (D := (dC, dI)) (ci := 7) (v := .int r_5) (C := "GlyphPage$FontFile") (T := F_Ff) (N := 16) hx hb htsG iG_Ff hown hK hP 0 rfl rfl 11 (by decide) (htsG _ mW319) (fun _ h9 => h9) rfl d_Ff_readHhea_99 ?_
          refine lv_iconst (v := (1 : Int32)) hx hb d_Ff_readHhea_102 (by decide) ?_
          refine lv_icmp_lt (tgt := 121) hx hb d_Ff_readHhea_103 (by decide) (fun c_14 => ?_) (fun c_14 => ?_)
          · replace h := (if_pos c_14).symm.trans h
            refine lv_iconst (v := (0 : Int32)) hx hb d_Ff_readHhea_121 (by decide) ?_
            cases h
            exact W.zret (ty := .boolean) hx hb hr rfl (fun t ht hW => ⟨⟨_, (), rfl, rfl, by rw [ht]; exact hP, va_K.moved hW.alike hK, hD⟩, hS.F ht⟩) hS.2.2 d_Ff_readHhea_122 hlocks
          · replace h := (if_neg c_14).symm.trans h
            refine lv_aload_n hx hb d_Ff_readHhea_106 rfl (lv_at hl 1 rfl) ?_
            refine va_get (D := (dC, dI)) (ci := 7) (v := .int r_5) (C := "GlyphPage$FontFile") (T := F_Ff) (N := 16) hx hb htsG iG_Ff hown hK hP 0 rfl rfl 11 (by decide) (htsG _ mW319) (fun _ h9 => h9) rfl d_Ff_readHhea_107 ?_
            refine lv_aload_n hx hb d_Ff_readHhea_110 rfl (lv_at hl 1 rfl) ?_
            refine va_get (D := (dC, dI)) (ci := 7) (v := .int o_glyphs) (C := "GlyphPage$FontFile") (T := F_Ff) (N := 16) hx hb htsG iG_Ff hown hK hP 0 rfl rfl 6 (by decide) (htsG _ mW309) (fun _ h9 => h9) rfl d_Ff_readHhea_111 ?_
            refine lv_icmp_gt (tgt := 121) hx hb d_Ff_readHhea_114 (by decide) (fun c_15 => ?_) (fun c_15 => ?_)
            · replace h := (if_pos c_15).symm.trans h
              refine lv_iconst (v := (0 : Int32)) hx hb d_Ff_readHhea_121 (by decide) ?_
              cases h
              exact W.zret (ty := .boolean) hx hb hr rfl (fun t ht hW => ⟨⟨_, (), rfl, rfl, by rw [ht]; exact hP, va_K.moved hW.alike hK, hD⟩, hS.F ht⟩) hS.2.2 d_Ff_readHhea_122 hlocks
            · replace h := (if_neg c_15).symm.trans h
              refine lv_iconst (v := (1 : Int32)) hx hb d_Ff_readHhea_117 (by decide) ?_
              refine lv_goto (tgt := 122) hx hb d_Ff_readHhea_118 (by decide) ?_
              cases h
              exact W.zret (ty := .boolean) hx hb hr rfl (fun t ht hW => ⟨⟨_, (), rfl, rfl, by rw [ht]; exact hP, va_K.moved hW.alike hK, hD⟩, hS.F ht⟩) hS.2.2 d_Ff_readHhea_122 hlocks
def P_Ff_hmtxIsSound_31b (o_length : Int32) (o_units : Int32) (o_glyphs : Int32) (o_metrics : Int32) (o_bytes_f : Nat → Int32) (o_starts_f : Nat → Int32) (o_sizes_f : Nat → Int32)  (z31 : Int32 → Option (Int32)) (x1 : Int32) : Option (Int32) :=
  if o_metrics ≤ x1 then (some (1 : Int32)) else ((P_Ff_advanceOf o_length o_metrics o_bytes_f o_starts_f x1).bind fun r_2 => (P_Ff_isModest o_units r_2).bind fun r_3 => if r_3 = 0 then (some (0 : Int32)) else (z31 (x1 + (1 : Int32))))
def L_Ff_hmtxIsSound_31 (o_length : Int32) (o_units : Int32) (o_glyphs : Int32) (o_metrics : Int32) (o_bytes_f : Nat → Int32) (o_starts_f : Nat → Int32) (o_sizes_f : Nat → Int32)  : (Int32 → Option (Int32)) → Int32 → Option (Int32) :=
  fun z => fun x1 => P_Ff_hmtxIsSound_31b o_length o_units o_glyphs o_metrics o_bytes_f o_starts_f o_sizes_f z x1
def P_Ff_hmtxIsSound_31 (o_length : Int32) (o_units : Int32) (o_glyphs : Int32) (o_metrics : Int32) (o_bytes_f : Nat → Int32) (o_starts_f : Nat → Int32) (o_sizes_f : Nat → Int32)  (x1 : Int32) : Option (Int32) :=
  lp (L_Ff_hmtxIsSound_31 o_length o_units o_glyphs o_metrics o_bytes_f o_starts_f o_sizes_f) fuel x1
theorem e_Ff_hmtxIsSound_31 (o_length : Int32) (o_units : Int32) (o_glyphs : Int32) (o_metrics : Int32) (o_bytes_f : Nat → Int32) (o_starts_f : Nat → Int32) (o_sizes_f : Nat → Int32)  (n : Nat) (x1 : Int32) : lp (L_Ff_hmtxIsSound_31 o_length o_units o_glyphs o_metrics o_bytes_f o_starts_f o_sizes_f) (n + 1) x1 = P_Ff_hmtxIsSound_31b o_length o_units o_glyphs o_metrics o_bytes_f o_starts_f o_sizes_f (lp (L_Ff_hmtxIsSound_31 o_length o_units o_glyphs o_metrics o_bytes_f o_starts_f o_sizes_f) n) x1 := rfl
set_option maxHeartbeats 4000000 in
set_option maxRecDepth 100000 in
theorem w_Ff_hmtxIsSound_31b (C0 : Cx p s m args meth c A dC dI cy b_Ff_hmtxIsSound 2 (some .boolean) "GlyphPage$FontFile") (o : Nat) (o_bytes : Nat) (o_starts : Nat) (o_sizes : Nat) (o_glyphStarts : Nat) (o_length : Int32) (o_units : Int32) (o_glyphs : Int32) (o_ascent : Int32) (o_descent : Int32) (o_gap : Int32) (o_longLoca : Int32) (o_metrics : Int32) (o_codes : Int32) (o_codesSize : Int32) (o_segments : Int32) (o_pairs : Int32) (o_bytes_f : Nat → Int32) (o_starts_f : Nat → Int32) (o_sizes_f : Nat → Int32) (o_glyphStarts_f : Nat → Int32) (uu : Int32)  (z31 : Int32 → Option (Int32)) (hz31 : ∀ (x1 : Int32) (H : Heap) (locs : List Loc) (ls : Array Slot), z31 x1 = some uu → va_P (dC, dI) classes [(o, .inr (7, [.ref o_bytes, .int o_length, .ref o_starts, .ref o_sizes, .ref o_glyphStarts, .int o_units, .int o_glyphs, .int o_ascent, .int o_descent, .int o_gap, .int o_longLoca, .int o_metrics, .int o_codes, .int o_codesSize, .int o_segments, .int o_pairs])), (o_bytes, .inl (cy 1, 4096, .inl o_bytes_f)), (o_starts, .inl (cy 0, 8, .inl o_starts_f)), (o_sizes, .inl (cy 0, 8, .inl o_sizes_f)), (o_glyphStarts, .inl (cy 0, 65, .inl o_glyphStarts_f))] H → va_D A [(o, .inr (7, [.ref o_bytes, .int o_length, .ref o_starts, .ref o_sizes, .ref o_glyphStarts, .int o_units, .int o_glyphs, .int o_ascent, .int o_descent, .int o_gap, .int o_longLoca, .int o_metrics, .int o_codes, .int o_codesSize, .int o_segments, .int o_pairs])), (o_bytes, .inl (cy 1, 4096, .inl o_bytes_f)), (o_starts, .inl (cy 0, 8, .inl o_starts_f)), (o_sizes, .inl (cy 0, 8, .inl o_sizes_f)), (o_glyphStarts, .inl (cy 0, 65, .inl o_glyphStarts_f))] → va_S A s.heap H locs → lv_has ls 2 [(0, .ref o), (1, .int x1)] → W p l e ({ frames := 2, cells := 0, slots := 0, locals := 42 } : Room) s m args below meth c H locs 0 0 (MQ below (va_Qi (fun r (_ : Unit) => r = uu) (fun _ t => va_P (dC, dI) classes [(o, .inr (7, [.ref o_bytes, .int o_length, .ref o_starts, .ref o_sizes, .ref o_glyphStarts, .int o_units, .int o_glyphs, .int o_ascent, .int o_descent, .int o_gap, .int o_longLoca, .int o_metrics, .int o_codes, .int o_codesSize, .int o_segments, .int o_pairs])), (o_bytes, .inl (cy 1, 4096, .inl o_bytes_f)), (o_starts, .inl (cy 0, 8, .inl o_starts_f)), (o_sizes, .inl (cy 0, 8, .inl o_sizes_f)), (o_glyphStarts, .inl (cy 0, 65, .inl o_glyphStarts_f))] t.heap ∧ va_K (dC, dI) classes (TY cy) t ∧ va_D A [(o, .inr (7, [.ref o_bytes, .int o_length, .ref o_starts, .ref o_sizes, .ref o_glyphStarts, .int o_units, .int o_glyphs, .int o_ascent, .int o_descent, .int o_gap, .int o_longLoca, .int o_metrics, .int o_codes, .int o_codesSize, .int o_segments, .int o_pairs])), (o_bytes, .inl (cy 1, 4096, .inl o_bytes_f)), (o_starts, .inl (cy 0, 8, .inl o_starts_f)), (o_sizes, .inl (cy 0, 8, .inl o_sizes_f)), (o_glyphStarts, .inl (cy 0, 65, .inl o_glyphStarts_f))]) A) args s 0 0 A) (F0 m 31 ls [])) (x1 : Int32) {H : Heap} {locs : List Loc} {ls : Array Slot} (h : P_Ff_hmtxIsSound_31b o_length o_units o_glyphs o_metrics o_bytes_f o_starts_f o_sizes_f z31 x1 = some uu) : va_P (dC, dI) classes [(o, .inr (7, [.ref o_bytes, .int o_length, .ref o_starts, .ref o_sizes, .ref o_glyphStarts, .int o_units, .int o_glyphs, .int o_ascent, .int o_descent, .int o_gap, .int o_longLoca, .int o_metrics, .int o_codes, .int o_codesSize, .int o_segments, .int o_pairs])), (o_bytes, .inl (cy 1, 4096, .inl o_bytes_f)), (o_starts, .inl (cy 0, 8, .inl o_starts_f)), (o_sizes, .inl (cy 0, 8, .inl o_sizes_f)), (o_glyphStarts, .inl (cy 0, 65, .inl o_glyphStarts_f))] H → va_D A [(o, .inr (7, [.ref o_bytes, .int o_length, .ref o_starts, .ref o_sizes, .ref o_glyphStarts, .int o_units, .int o_glyphs, .int o_ascent, .int o_descent, .int o_gap, .int o_longLoca, .int o_metrics, .int o_codes, .int o_codesSize, .int o_segments, .int o_pairs])), (o_bytes, .inl (cy 1, 4096, .inl o_bytes_f)), (o_starts, .inl (cy 0, 8, .inl o_starts_f)), (o_sizes, .inl (cy 0, 8, .inl o_sizes_f)), (o_glyphStarts, .inl (cy 0, 65, .inl o_glyphStarts_f))] → va_S A s.heap H locs → lv_has ls 2 [(0, .ref o), (1, .int x1)] → W p l e ({ frames := 2, cells := 0, slots := 0, locals := 42 } : Room) s m args below meth c H locs 0 0 (MQ below (va_Qi (fun r (_ : Unit) => r = uu) (fun _ t => va_P (dC, dI) classes [(o, .inr (7, [.ref o_bytes, .int o_length, .ref o_starts, .ref o_sizes, .ref o_glyphStarts, .int o_units, .int o_glyphs, .int o_ascent, .int o_descent, .int o_gap, .int o_longLoca, .int o_metrics, .int o_codes, .int o_codesSize, .int o_segments, .int o_pairs])), (o_bytes, .inl (cy 1, 4096, .inl o_bytes_f)), (o_starts, .inl (cy 0, 8, .inl o_starts_f)), (o_sizes, .inl (cy 0, 8, .inl o_sizes_f)), (o_glyphStarts, .inl (cy 0, 65, .inl o_glyphStarts_f))] t.heap ∧ va_K (dC, dI) classes (TY cy) t ∧ va_D A [(o, .inr (7, [.ref o_bytes, .int o_length, .ref o_starts, .ref o_sizes, .ref o_glyphStarts, .int o_units, .int o_glyphs, .int o_ascent, .int o_descent, .int o_gap, .int o_longLoca, .int o_metrics, .int o_codes, .int o_codesSize, .int o_segments, .int o_pairs])), (o_bytes, .inl (cy 1, 4096, .inl o_bytes_f)), (o_starts, .inl (cy 0, 8, .inl o_starts_f)), (o_sizes, .inl (cy 0, 8, .inl o_sizes_f)), (o_glyphStarts, .inl (cy 0, 65, .inl o_glyphStarts_f))]) A) args s 0 0 A) (F0 m 31 ls []) := by
  intro hP hD hS hl
  obtain ⟨hx, hb, hr, hlocks, hml, hown, htsG, hA, hK⟩ := id C0
  unfold P_Ff_hmtxIsSound_31b at h
  refine lv_iload_n hx hb d_Ff_hmtxIsSound_31 rfl (lv_at hl 1 rfl) ?_
  refine lv_aload_n hx hb d_Ff_hmtxIsSound_32 rfl (lv_at hl 0 rfl) ?_
  refine va_get (D := (dC, dI)) (ci := 7) (v := .int o_metrics) (C := "GlyphPage$FontFile") (T := F_Ff) (N := 16) hx hb htsG iG_Ff hown hK hP 0 rfl rfl 11 (by decide) (htsG _ mW319) (fun _ h9 => h9) rfl d_Ff_hmtxIsSound_33 ?_
  refine lv_icmp_ge (tgt := 59) hx hb d_Ff_hmtxIsSound_36 (by decide) (fun c_1 => ?_) (fun c_1 => ?_)
  · replace h := (if_pos c_1).symm.trans h
    refine lv_iconst (v := (1 : Int32)) hx hb d_Ff_hmtxIsSound_59 (by decide) ?_
    cases h
    exact W.zret (ty := .boolean) hx hb hr rfl (fun t ht hW => ⟨⟨_, (), rfl, rfl, by rw [ht]; exact hP, va_K.moved hW.alike hK, hD⟩, hS.F ht⟩) hS.2.2 d_Ff_hmtxIsSound_60 hlocks
  · replace h := (if_neg c_1).symm.trans h
    refine lv_aload_n hx hb d_Ff_hmtxIsSound_39 rfl (lv_at hl 0 rfl) ?_
    refine lv_aload_n hx hb d_Ff_hmtxIsSound_40 rfl (lv_at hl 0 rfl) ?_
    refine lv_iload_n hx hb d_Ff_hmtxIsSound_41 rfl (lv_at hl 1 rfl) ?_
    obtain ⟨r_2, hq, h⟩ := Option.bind_eq_some_iff.mp h
    try dsimp only at h
    have hPc := hP.sub (ws' := [(o, .inr (7, [.ref o_bytes, .int o_length, .ref o_starts, .ref o_sizes, .ref o_glyphStarts, .int o_units, .int o_glyphs, .int o_ascent, .int o_descent, .int o_gap, .int o_longLoca, .int o_metrics, .int o_codes, .int o_codesSize, .int o_segments, .int o_pairs])), (o_bytes, .inl (cy 1, 4096, .inl o_bytes_f)), (o_starts, .inl (cy 0, 8, .inl o_starts_f)), (o_sizes, .inl (cy 0, 8, .inl o_sizes_f)), (o_glyphStarts, .inl (cy 0, 65, .inl o_glyphStarts_f))]) [0, 1, 2, 3, 4] rfl
    have hDc := hD.sub (ws' := [(o, .inr (7, [.ref o_bytes, .int o_length, .ref o_starts, .ref o_sizes, .ref o_glyphStarts, .int o_units, .int o_glyphs, .int o_ascent, .int o_descent, .int o_gap, .int o_longLoca, .int o_metrics, .int o_codes, .int o_codesSize, .int o_segments, .int o_pairs])), (o_bytes, .inl (cy 1, 4096, .inl o_bytes_f)), (o_starts, .inl (cy 0, 8, .inl o_starts_f)), (o_sizes, .inl (cy 0, 8, .inl o_sizes_f)), (o_glyphStarts, .inl (cy 0, 65, .inl o_glyphStarts_f))]) [0, 1, 2, 3, 4] (by decide) rfl
    have hFc := va_free (wc := [(o, .inr (7, [.ref o_bytes, .int o_length, .ref o_starts, .ref o_sizes, .ref o_glyphStarts, .int o_units, .int o_glyphs, .int o_ascent, .int o_descent, .int o_gap, .int o_longLoca, .int o_metrics, .int o_codes, .int o_codesSize, .int o_segments, .int o_pairs])), (o_bytes, .inl (cy 1, 4096, .inl o_bytes_f)), (o_starts, .inl (cy 0, 8, .inl o_starts_f)), (o_sizes, .inl (cy 0, 8, .inl o_sizes_f)), (o_glyphStarts, .inl (cy 0, 65, .inl o_glyphStarts_f))]) hD hS hA [0, 1, 2, 3, 4] rfl
    refine va_calli (va_runV (As := [.int x1]) (rest := [.ref o]) ⟨hx, hb, hml, hown, htsG⟩ (c_Ff_advanceOf l dC dI cy H.size o o_bytes o_starts o_sizes o_glyphStarts o_length o_units o_glyphs o_ascent o_descent o_gap o_longLoca o_metrics o_codes o_codesSize o_segments o_pairs o_bytes_f o_starts_f o_sizes_f o_glyphStarts_f x1 r_2 hq) (cwV 1 htsG (gV mW412 mW413 mW414 mW11 mW415) rfl rfl rfl (by decide +kernel) ⟨Nat.le_of_ble_eq_true rfl, Nat.le_of_ble_eq_true rfl⟩) ⟨fun a U g mk q => by obtain ⟨q0, q1, qP, qK, qD⟩ := q; exact ⟨q0, q1, qP, va_K.moved (u := U) (U := U.calling g mk a) (Vm.Alike.refl U.vm) qK, qD⟩, va_recv hK hPc (ci := 7) (q0 := 0) rfl rfl, fun U hU hW => ⟨rfl, by rw [hU], by rw [hU]; exact hPc, va_K.moved hW.alike hK, hDc.weaken (fun _ _ _ _ => trivial)⟩⟩ rfl rfl hl.1 rfl (lv_room (Nat.le_of_ble_eq_true rfl)) d_Ff_hmtxIsSound_42 ⟨Nat.le_of_ble_eq_true rfl, Nat.le_of_ble_eq_true rfl⟩) hS (fun q _ h => hFc q h) hFc (fun rr u t H1 locs ht hvm hw hB hz1 hk1 hS => ?_)
    obtain ⟨hP1, hK1, hD1⟩ := hB
    rw [ht] at hP1
    replace hw : r_2 = rr := hw.symm
    subst hw
    obtain ⟨hP, hD⟩ := va_join (wr := []) (w1 := [(o, .inr (7, [.ref o_bytes, .int o_length, .ref o_starts, .ref o_sizes, .ref o_glyphStarts, .int o_units, .int o_glyphs, .int o_ascent, .int o_descent, .int o_gap, .int o_longLoca, .int o_metrics, .int o_codes, .int o_codesSize, .int o_segments, .int o_pairs])), (o_bytes, .inl (cy 1, 4096, .inl o_bytes_f)), (o_starts, .inl (cy 0, 8, .inl o_starts_f)), (o_sizes, .inl (cy 0, 8, .inl o_sizes_f)), (o_glyphStarts, .inl (cy 0, 65, .inl o_glyphStarts_f))]) hP hD [0, 1, 2, 3, 4] [] rfl rfl (by decide) (by decide) hk1 hFc hP1 hD1
    generalize H1 = H at hP hS ⊢
    have hP := hP.sub (ws' := [(o, .inr (7, [.ref o_bytes, .int o_length, .ref o_starts, .ref o_sizes, .ref o_glyphStarts, .int o_units, .int o_glyphs, .int o_ascent, .int o_descent, .int o_gap, .int o_longLoca, .int o_metrics, .int o_codes, .int o_codesSize, .int o_segments, .int o_pairs])), (o_bytes, .inl (cy 1, 4096, .inl o_bytes_f)), (o_starts, .inl (cy 0, 8, .inl o_starts_f)), (o_sizes, .inl (cy 0, 8, .inl o_sizes_f)), (o_glyphStarts, .inl (cy 0, 65, .inl o_glyphStarts_f))]) [0, 1, 2, 3, 4] rfl
    have hD := hD.sub (ws' := [(o, .inr (7, [.ref o_bytes, .int o_length, .ref o_starts, .ref o_sizes, .ref o_glyphStarts, .int o_units, .int o_glyphs, .int o_ascent, .int o_descent, .int o_gap, .int o_longLoca, .int o_metrics, .int o_codes, .int o_codesSize, .int o_segments, .int o_pairs])), (o_bytes, .inl (cy 1, 4096, .inl o_bytes_f)), (o_starts, .inl (cy 0, 8, .inl o_starts_f)), (o_sizes, .inl (cy 0, 8, .inl o_sizes_f)), (o_glyphStarts, .inl (cy 0, 65, .inl o_glyphStarts_f))]) [0, 1, 2, 3, 4] (by decide) rfl
    refine W.widen (k := 0) (n := 0) (by decide) (by decide) ?_
    obtain ⟨r_3, hq, h⟩ := Option.bind_eq_some_iff.mp h
    try dsimp only at h
    have hPc := hP.sub (ws' := [(o, .inr (7, [.ref o_bytes, .int o_length, .ref o_starts, .ref o_sizes, .ref o_glyphStarts, .int o_units, .int o_glyphs, .int o_ascent, .int o_descent, .int o_gap, .int o_longLoca, .int o_metrics, .int o_codes, .int o_codesSize, .int o_segments, .int o_pairs]))]) [0] rfl
    have hDc := hD.sub (ws' := [(o, .inr (7, [.ref o_bytes, .int o_length, .ref o_starts, .ref o_sizes, .ref o_glyphStarts, .int o_units, .int o_glyphs, .int o_ascent, .int o_descent, .int o_gap, .int o_longLoca, .int o_metrics, .int o_codes, .int o_codesSize, .int o_segments, .int o_pairs]))]) [0] (by decide) rfl
    have hFc := va_free (wc := [(o, .inr (7, [.ref o_bytes, .int o_length, .ref o_starts, .ref o_sizes, .ref o_glyphStarts, .int o_units, .int o_glyphs, .int o_ascent, .int o_descent, .int o_gap, .int o_longLoca, .int o_metrics, .int o_codes, .int o_codesSize, .int o_segments, .int o_pairs]))]) hD hS hA [0] rfl
    refine va_calli (va_runV (As := [.int r_2]) (rest := []) ⟨hx, hb, hml, hown, htsG⟩ (c_Ff_isModest l dC dI cy H.size o o_bytes o_starts o_sizes o_glyphStarts o_length o_units o_glyphs o_ascent o_descent o_gap o_longLoca o_metrics o_codes o_codesSize o_segments o_pairs r_2 r_3 hq) (cwV 1 htsG (gV mW404 mW406 mS_Ff_isModest mW11 mW407) rfl rfl rfl (by decide +kernel) ⟨Nat.le_of_ble_eq_true rfl, Nat.le_of_ble_eq_true rfl⟩) ⟨fun a U g mk q => by obtain ⟨q0, q1, qP, qK, qD⟩ := q; exact ⟨q0, q1, qP, va_K.moved (u := U) (U := U.calling g mk a) (Vm.Alike.refl U.vm) qK, qD⟩, va_recv hK hPc (ci := 7) (q0 := 0) rfl rfl, fun U hU hW => ⟨rfl, by rw [hU], by rw [hU]; exact hPc, va_K.moved hW.alike hK, hDc.weaken (fun _ _ _ _ => trivial)⟩⟩ rfl rfl hl.1 rfl (lv_room (Nat.le_of_ble_eq_true rfl)) d_Ff_hmtxIsSound_45 ⟨Nat.le_of_ble_eq_true rfl, Nat.le_of_ble_eq_true rfl⟩) hS (fun q _ h => hFc q h) hFc (fun rr u t H1 locs ht hvm hw hB hz1 hk1 hS => ?_)
    obtain ⟨hP1, hK1, hD1⟩ := hB
    rw [ht] at hP1
    replace hw : r_3 = rr := hw.symm
    subst hw
    obtain ⟨hP, hD⟩ := va_join (wr := [(o_bytes, .inl (cy 1, 4096, .inl o_bytes_f)), (o_starts, .inl (cy 0, 8, .inl o_starts_f)), (o_sizes, .inl (cy 0, 8, .inl o_sizes_f)), (o_glyphStarts, .inl (cy 0, 65, .inl o_glyphStarts_f))]) (w1 := [(o, .inr (7, [.ref o_bytes, .int o_length, .ref o_starts, .ref o_sizes, .ref o_glyphStarts, .int o_units, .int o_glyphs, .int o_ascent, .int o_descent, .int o_gap, .int o_longLoca, .int o_metrics, .int o_codes, .int o_codesSize, .int o_segments, .int o_pairs]))]) hP hD [0] [1, 2, 3, 4] rfl rfl (by decide) (by decide) hk1 hFc hP1 hD1
    generalize H1 = H at hP hS ⊢
    have hP := hP.sub (ws' := [(o, .inr (7, [.ref o_bytes, .int o_length, .ref o_starts, .ref o_sizes, .ref o_glyphStarts, .int o_units, .int o_glyphs, .int o_ascent, .int o_descent, .int o_gap, .int o_longLoca, .int o_metrics, .int o_codes, .int o_codesSize, .int o_segments, .int o_pairs])), (o_bytes, .inl (cy 1, 4096, .inl o_bytes_f)), (o_starts, .inl (cy 0, 8, .inl o_starts_f)), (o_sizes, .inl (cy 0, 8, .inl o_sizes_f)), (o_glyphStarts, .inl (cy 0, 65, .inl o_glyphStarts_f))]) [4, 0, 1, 2, 3] rfl
    have hD := hD.sub (ws' := [(o, .inr (7, [.ref o_bytes, .int o_length, .ref o_starts, .ref o_sizes, .ref o_glyphStarts, .int o_units, .int o_glyphs, .int o_ascent, .int o_descent, .int o_gap, .int o_longLoca, .int o_metrics, .int o_codes, .int o_codesSize, .int o_segments, .int o_pairs])), (o_bytes, .inl (cy 1, 4096, .inl o_bytes_f)), (o_starts, .inl (cy 0, 8, .inl o_starts_f)), (o_sizes, .inl (cy 0, 8, .inl o_sizes_f)), (o_glyphStarts, .inl (cy 0, 65, .inl o_glyphStarts_f))]) [4, 0, 1, 2, 3] (by decide) rfl
    refine W.widen (k := 0) (n := 0) (by decide) (by decide) ?_
    refine lv_if_ne (tgt := 53) hx hb d_Ff_hmtxIsSound_48 (by decide) (fun c_4 => ?_) (fun c_4 => ?_)
    · replace h := (if_neg c_4).symm.trans h
      refine lv_iinc (v := (x1 + (1 : Int32))) (lv' := [(1, .int (x1 + (1 : Int32))), (0, .ref o)]) hx hb d_Ff_hmtxIsSound_53 hl (k := 1) rfl rfl (by decide) rfl (fun ls hl => ?_)
      refine lv_goto (tgt := 31) hx hb d_Ff_hmtxIsSound_56 (by decide) ?_
      exact hz31 (x1 + (1 : Int32)) _ _ _ h hP hD hS (lv_sub hl [1, 0] rfl)
    · replace h := (if_pos c_4).symm.trans h
      refine lv_iconst (v := (0 : Int32)) hx hb d_Ff_hmtxIsSound_51 (by decide) ?_
      cases h
      exact W.zret (ty := .boolean) hx hb hr rfl (fun t ht hW => ⟨⟨_, (), rfl, rfl, by rw [ht]; exact hP, va_K.moved hW.alike hK, hD⟩, hS.F ht⟩) hS.2.2 d_Ff_hmtxIsSound_52 hlocks
theorem w_Ff_hmtxIsSound_31 (C0 : Cx p s m args meth c A dC dI cy b_Ff_hmtxIsSound 2 (some .boolean) "GlyphPage$FontFile") (o : Nat) (o_bytes : Nat) (o_starts : Nat) (o_sizes : Nat) (o_glyphStarts : Nat) (o_length : Int32) (o_units : Int32) (o_glyphs : Int32) (o_ascent : Int32) (o_descent : Int32) (o_gap : Int32) (o_longLoca : Int32) (o_metrics : Int32) (o_codes : Int32) (o_codesSize : Int32) (o_segments : Int32) (o_pairs : Int32) (o_bytes_f : Nat → Int32) (o_starts_f : Nat → Int32) (o_sizes_f : Nat → Int32) (o_glyphStarts_f : Nat → Int32) (uu : Int32)  (x1 : Int32) {H : Heap} {locs : List Loc} {ls : Array Slot} (h : P_Ff_hmtxIsSound_31 o_length o_units o_glyphs o_metrics o_bytes_f o_starts_f o_sizes_f x1 = some uu) : va_P (dC, dI) classes [(o, .inr (7, [.ref o_bytes, .int o_length, .ref o_starts, .ref o_sizes, .ref o_glyphStarts, .int o_units, .int o_glyphs, .int o_ascent, .int o_descent, .int o_gap, .int o_longLoca, .int o_metrics, .int o_codes, .int o_codesSize, .int o_segments, .int o_pairs])), (o_bytes, .inl (cy 1, 4096, .inl o_bytes_f)), (o_starts, .inl (cy 0, 8, .inl o_starts_f)), (o_sizes, .inl (cy 0, 8, .inl o_sizes_f)), (o_glyphStarts, .inl (cy 0, 65, .inl o_glyphStarts_f))] H → va_D A [(o, .inr (7, [.ref o_bytes, .int o_length, .ref o_starts, .ref o_sizes, .ref o_glyphStarts, .int o_units, .int o_glyphs, .int o_ascent, .int o_descent, .int o_gap, .int o_longLoca, .int o_metrics, .int o_codes, .int o_codesSize, .int o_segments, .int o_pairs])), (o_bytes, .inl (cy 1, 4096, .inl o_bytes_f)), (o_starts, .inl (cy 0, 8, .inl o_starts_f)), (o_sizes, .inl (cy 0, 8, .inl o_sizes_f)), (o_glyphStarts, .inl (cy 0, 65, .inl o_glyphStarts_f))] → va_S A s.heap H locs → lv_has ls 2 [(0, .ref o), (1, .int x1)] → W p l e ({ frames := 2, cells := 0, slots := 0, locals := 42 } : Room) s m args below meth c H locs 0 0 (MQ below (va_Qi (fun r (_ : Unit) => r = uu) (fun _ t => va_P (dC, dI) classes [(o, .inr (7, [.ref o_bytes, .int o_length, .ref o_starts, .ref o_sizes, .ref o_glyphStarts, .int o_units, .int o_glyphs, .int o_ascent, .int o_descent, .int o_gap, .int o_longLoca, .int o_metrics, .int o_codes, .int o_codesSize, .int o_segments, .int o_pairs])), (o_bytes, .inl (cy 1, 4096, .inl o_bytes_f)), (o_starts, .inl (cy 0, 8, .inl o_starts_f)), (o_sizes, .inl (cy 0, 8, .inl o_sizes_f)), (o_glyphStarts, .inl (cy 0, 65, .inl o_glyphStarts_f))] t.heap ∧ va_K (dC, dI) classes (TY cy) t ∧ va_D A [(o, .inr (7, [.ref o_bytes, .int o_length, .ref o_starts, .ref o_sizes, .ref o_glyphStarts, .int o_units, .int o_glyphs, .int o_ascent, .int o_descent, .int o_gap, .int o_longLoca, .int o_metrics, .int o_codes, .int o_codesSize, .int o_segments, .int o_pairs])), (o_bytes, .inl (cy 1, 4096, .inl o_bytes_f)), (o_starts, .inl (cy 0, 8, .inl o_starts_f)), (o_sizes, .inl (cy 0, 8, .inl o_sizes_f)), (o_glyphStarts, .inl (cy 0, 65, .inl o_glyphStarts_f))]) A) args s 0 0 A) (F0 m 31 ls []) := by
  have key : ∀ (n : Nat) (x1 : Int32) (H : Heap) (locs : List Loc) (ls : Array Slot), lp (L_Ff_hmtxIsSound_31 o_length o_units o_glyphs o_metrics o_bytes_f o_starts_f o_sizes_f) n x1 = some uu → va_P (dC, dI) classes [(o, .inr (7, [.ref o_bytes, .int o_length, .ref o_starts, .ref o_sizes, .ref o_glyphStarts, .int o_units, .int o_glyphs, .int o_ascent, .int o_descent, .int o_gap, .int o_longLoca, .int o_metrics, .int o_codes, .int o_codesSize, .int o_segments, .int o_pairs])), (o_bytes, .inl (cy 1, 4096, .inl o_bytes_f)), (o_starts, .inl (cy 0, 8, .inl o_starts_f)), (o_sizes, .inl (cy 0, 8, .inl o_sizes_f)), (o_glyphStarts, .inl (cy 0, 65, .inl o_glyphStarts_f))] H → va_D A [(o, .inr (7, [.ref o_bytes, .int o_length, .ref o_starts, .ref o_sizes, .ref o_glyphStarts, .int o_units, .int o_glyphs, .int o_ascent, .int o_descent, .int o_gap, .int o_longLoca, .int o_metrics, .int o_codes, .int o_codesSize, .int o_segments, .int o_pairs])), (o_bytes, .inl (cy 1, 4096, .inl o_bytes_f)), (o_starts, .inl (cy 0, 8, .inl o_starts_f)), (o_sizes, .inl (cy 0, 8, .inl o_sizes_f)), (o_glyphStarts, .inl (cy 0, 65, .inl o_glyphStarts_f))] → va_S A s.heap H locs → lv_has ls 2 [(0, .ref o), (1, .int x1)] → W p l e ({ frames := 2, cells := 0, slots := 0, locals := 42 } : Room) s m args below meth c H locs 0 0 (MQ below (va_Qi (fun r (_ : Unit) => r = uu) (fun _ t => va_P (dC, dI) classes [(o, .inr (7, [.ref o_bytes, .int o_length, .ref o_starts, .ref o_sizes, .ref o_glyphStarts, .int o_units, .int o_glyphs, .int o_ascent, .int o_descent, .int o_gap, .int o_longLoca, .int o_metrics, .int o_codes, .int o_codesSize, .int o_segments, .int o_pairs])), (o_bytes, .inl (cy 1, 4096, .inl o_bytes_f)), (o_starts, .inl (cy 0, 8, .inl o_starts_f)), (o_sizes, .inl (cy 0, 8, .inl o_sizes_f)), (o_glyphStarts, .inl (cy 0, 65, .inl o_glyphStarts_f))] t.heap ∧ va_K (dC, dI) classes (TY cy) t ∧ va_D A [(o, .inr (7, [.ref o_bytes, .int o_length, .ref o_starts, .ref o_sizes, .ref o_glyphStarts, .int o_units, .int o_glyphs, .int o_ascent, .int o_descent, .int o_gap, .int o_longLoca, .int o_metrics, .int o_codes, .int o_codesSize, .int o_segments, .int o_pairs])), (o_bytes, .inl (cy 1, 4096, .inl o_bytes_f)), (o_starts, .inl (cy 0, 8, .inl o_starts_f)), (o_sizes, .inl (cy 0, 8, .inl o_sizes_f)), (o_glyphStarts, .inl (cy 0, 65, .inl o_glyphStarts_f))]) A) args s 0 0 A) (F0 m 31 ls []) := by
    intro n
    induction n with
    | zero => intro x1 H locs ls h; cases h
    | succ n ih => intro x1 H locs ls h; exact w_Ff_hmtxIsSound_31b C0 o o_bytes o_starts o_sizes o_glyphStarts o_length o_units o_glyphs o_ascent o_descent o_gap o_longLoca o_metrics o_codes o_codesSize o_segments o_pairs o_bytes_f o_starts_f o_sizes_f o_glyphStarts_f uu  (lp (L_Ff_hmtxIsSound_31 o_length o_units o_glyphs o_metrics o_bytes_f o_starts_f o_sizes_f) n) ih x1 ((e_Ff_hmtxIsSound_31 o_length o_units o_glyphs o_metrics o_bytes_f o_starts_f o_sizes_f n x1).symm.trans h)
  exact key fuel x1 H locs ls h
def P_Ff_hmtxIsSound (o_length : Int32) (o_units : Int32) (o_glyphs : Int32) (o_metrics : Int32) (o_bytes_f : Nat → Int32) (o_starts_f : Nat → Int32) (o_sizes_f : Nat → Int32)  : Option (Int32) :=
  bd (4 : Int32) 8 <| if (((4 : Int32) * o_metrics) + ((2 : Int32) * (o_glyphs - o_metrics))) ≤ (o_sizes_f (4 : Int32).toNatClampNeg) then (P_Ff_hmtxIsSound_31 o_length o_units o_glyphs o_metrics o_bytes_f o_starts_f o_sizes_f (0 : Int32)) else (some (0 : Int32))
set_option maxHeartbeats 4000000 in
set_option maxRecDepth 100000 in
theorem c_Ff_hmtxIsSound (l : Launch) (dC : Nat → ClassId) (dI : Nat → Nat → Nat) (cy : Nat → ClassId) (sz : Nat) (o : Nat) (o_bytes : Nat) (o_starts : Nat) (o_sizes : Nat) (o_glyphStarts : Nat) (o_length : Int32) (o_units : Int32) (o_glyphs : Int32) (o_ascent : Int32) (o_descent : Int32) (o_gap : Int32) (o_longLoca : Int32) (o_metrics : Int32) (o_codes : Int32) (o_codesSize : Int32) (o_segments : Int32) (o_pairs : Int32) (o_bytes_f : Nat → Int32) (o_starts_f : Nat → Int32) (o_sizes_f : Nat → Int32) (o_glyphStarts_f : Nat → Int32)  (uu : Int32) (h : P_Ff_hmtxIsSound o_length o_units o_glyphs o_metrics o_bytes_f o_starts_f o_sizes_f = some uu) : Met l y_Ff_hmtxIsSound (Cond.code y_Ff_hmtxIsSound b_Ff_hmtxIsSound 2 (some .boolean) :: G) ({ frames := 2, cells := 0, slots := 0, locals := 42 } : Room) (va_Pc [.ref o] (fun U => U.heap.size = sz ∧ va_P (dC, dI) classes [(o, .inr (7, [.ref o_bytes, .int o_length, .ref o_starts, .ref o_sizes, .ref o_glyphStarts, .int o_units, .int o_glyphs, .int o_ascent, .int o_descent, .int o_gap, .int o_longLoca, .int o_metrics, .int o_codes, .int o_codesSize, .int o_segments, .int o_pairs])), (o_bytes, .inl (cy 1, 4096, .inl o_bytes_f)), (o_starts, .inl (cy 0, 8, .inl o_starts_f)), (o_sizes, .inl (cy 0, 8, .inl o_sizes_f)), (o_glyphStarts, .inl (cy 0, 65, .inl o_glyphStarts_f))] U.heap ∧ va_K (dC, dI) classes (TY cy) U ∧ va_D (fun _ => True) [(o, .inr (7, [.ref o_bytes, .int o_length, .ref o_starts, .ref o_sizes, .ref o_glyphStarts, .int o_units, .int o_glyphs, .int o_ascent, .int o_descent, .int o_gap, .int o_longLoca, .int o_metrics, .int o_codes, .int o_codesSize, .int o_segments, .int o_pairs])), (o_bytes, .inl (cy 1, 4096, .inl o_bytes_f)), (o_starts, .inl (cy 0, 8, .inl o_starts_f)), (o_sizes, .inl (cy 0, 8, .inl o_sizes_f)), (o_glyphStarts, .inl (cy 0, 65, .inl o_glyphStarts_f))])) (va_Qi (fun r (_ : Unit) => r = uu) (fun _ t => va_P (dC, dI) classes [(o, .inr (7, [.ref o_bytes, .int o_length, .ref o_starts, .ref o_sizes, .ref o_glyphStarts, .int o_units, .int o_glyphs, .int o_ascent, .int o_descent, .int o_gap, .int o_longLoca, .int o_metrics, .int o_codes, .int o_codesSize, .int o_segments, .int o_pairs])), (o_bytes, .inl (cy 1, 4096, .inl o_bytes_f)), (o_starts, .inl (cy 0, 8, .inl o_starts_f)), (o_sizes, .inl (cy 0, 8, .inl o_sizes_f)), (o_glyphStarts, .inl (cy 0, 65, .inl o_glyphStarts_f))] t.heap ∧ va_K (dC, dI) classes (TY cy) t ∧ va_D (va_A [(o, .inr (7, [.ref o_bytes, .int o_length, .ref o_starts, .ref o_sizes, .ref o_glyphStarts, .int o_units, .int o_glyphs, .int o_ascent, .int o_descent, .int o_gap, .int o_longLoca, .int o_metrics, .int o_codes, .int o_codesSize, .int o_segments, .int o_pairs])), (o_bytes, .inl (cy 1, 4096, .inl o_bytes_f)), (o_starts, .inl (cy 0, 8, .inl o_starts_f)), (o_sizes, .inl (cy 0, 8, .inl o_sizes_f)), (o_glyphStarts, .inl (cy 0, 65, .inl o_glyphStarts_f))] sz) [(o, .inr (7, [.ref o_bytes, .int o_length, .ref o_starts, .ref o_sizes, .ref o_glyphStarts, .int o_units, .int o_glyphs, .int o_ascent, .int o_descent, .int o_gap, .int o_longLoca, .int o_metrics, .int o_codes, .int o_codesSize, .int o_segments, .int o_pairs])), (o_bytes, .inl (cy 1, 4096, .inl o_bytes_f)), (o_starts, .inl (cy 0, 8, .inl o_starts_f)), (o_sizes, .inl (cy 0, 8, .inl o_sizes_f)), (o_glyphStarts, .inl (cy 0, 65, .inl o_glyphStarts_f))]) (va_A [(o, .inr (7, [.ref o_bytes, .int o_length, .ref o_starts, .ref o_sizes, .ref o_glyphStarts, .int o_units, .int o_glyphs, .int o_ascent, .int o_descent, .int o_gap, .int o_longLoca, .int o_metrics, .int o_codes, .int o_codesSize, .int o_segments, .int o_pairs])), (o_bytes, .inl (cy 1, 4096, .inl o_bytes_f)), (o_starts, .inl (cy 0, 8, .inl o_starts_f)), (o_sizes, .inl (cy 0, 8, .inl o_sizes_f)), (o_glyphStarts, .inl (cy 0, 65, .inl o_glyphStarts_f))] sz)) 0 0 (va_A [(o, .inr (7, [.ref o_bytes, .int o_length, .ref o_starts, .ref o_sizes, .ref o_glyphStarts, .int o_units, .int o_glyphs, .int o_ascent, .int o_descent, .int o_gap, .int o_longLoca, .int o_metrics, .int o_codes, .int o_codesSize, .int o_segments, .int o_pairs])), (o_bytes, .inl (cy 1, 4096, .inl o_bytes_f)), (o_starts, .inl (cy 0, 8, .inl o_starts_f)), (o_sizes, .inl (cy 0, 8, .inl o_sizes_f)), (o_glyphStarts, .inl (cy 0, 65, .inl o_glyphStarts_f))] sz) := by
  refine Met.ofW (cc := b_Ff_hmtxIsSound) (maxL := 2) (ret := (some .boolean)) (by decide) rfl ?_
  intro p e s m args below meth c s₁ B hml hv
  obtain ⟨rfl, hsz, hP, hK, hD0⟩ := hv
  have hx := B.exec
  have hb := B.bytes
  have hr := B.returns
  have hts := atoms_spec (ws := Cond.code y_Ff_hmtxIsSound b_Ff_hmtxIsSound 2 (some .boolean) :: G) B.pre
  have htsG : ∀ w ∈ G, w.before _ s = true := fun w hw => hts w (List.mem_cons_of_mem _ hw)
  have hown : s.vm.findClass "GlyphPage$FontFile" = some m.cls := findClass_of_methodNamed B.named
  have hlocks := B.notSynchronized
  subst hsz
  have hD := hD0.self (sz := s.heap.size)
  generalize hAe : va_A [(o, .inr (7, [.ref o_bytes, .int o_length, .ref o_starts, .ref o_sizes, .ref o_glyphStarts, .int o_units, .int o_glyphs, .int o_ascent, .int o_descent, .int o_gap, .int o_longLoca, .int o_metrics, .int o_codes, .int o_codesSize, .int o_segments, .int o_pairs])), (o_bytes, .inl (cy 1, 4096, .inl o_bytes_f)), (o_starts, .inl (cy 0, 8, .inl o_starts_f)), (o_sizes, .inl (cy 0, 8, .inl o_sizes_f)), (o_glyphStarts, .inl (cy 0, 65, .inl o_glyphStarts_f))] s.heap.size = A at hD ⊢
  have hA : ∀ q : Nat, s.heap.size ≤ q → A q := fun q h => by rw [← hAe]; exact Or.inr h
  have hS : va_S A s.heap s.heap [] := va_S.rf
  have hl := lv_entry ([.ref o]) (n := 2) (Nat.le_of_ble_eq_true rfl)
  rw [lg_entry_eq]
  generalize (lg_sl ([.ref o]) ++ List.replicate (2 - (lg_sl ([.ref o])).length) Slot.unset).toArray = ls at hl ⊢
  have hl : lv_has ls 2 [(0, .ref o)] := hl
  have C0 : Cx p s m _ meth c A dC dI cy b_Ff_hmtxIsSound 2 (some .boolean) "GlyphPage$FontFile" := ⟨hx, hb, hr, hlocks, hml, hown, htsG, hA, hK⟩
  unfold P_Ff_hmtxIsSound at h
  refine lv_aload_n hx hb d_Ff_hmtxIsSound_0 rfl (lv_at hl 0 rfl) ?_
  refine va_get (D := (dC, dI)) (ci := 7) (v := .ref o_sizes) (C := "GlyphPage$FontFile") (T := F_Ff) (N := 16) hx hb htsG iG_Ff hown hK hP 0 rfl rfl 3 (by decide) (htsG _ mW304) (fun _ h9 => h9) rfl d_Ff_hmtxIsSound_1 ?_
  refine lv_iconst (v := (4 : Int32)) hx hb d_Ff_hmtxIsSound_4 (by decide) ?_
  obtain ⟨hin_1, h⟩ := bd_some h
  refine va_iald hx hb hK hP 3 0 rfl rfl hin_1 d_Ff_hmtxIsSound_5 ?_
  refine lv_iconst (v := (4 : Int32)) hx hb d_Ff_hmtxIsSound_6 (by decide) ?_
  refine lv_aload_n hx hb d_Ff_hmtxIsSound_7 rfl (lv_at hl 0 rfl) ?_
  refine va_get (D := (dC, dI)) (ci := 7) (v := .int o_metrics) (C := "GlyphPage$FontFile") (T := F_Ff) (N := 16) hx hb htsG iG_Ff hown hK hP 0 rfl rfl 11 (by decide) (htsG _ mW319) (fun _ h9 => h9) rfl d_Ff_hmtxIsSound_8 ?_
  refine lv_imul hx hb d_Ff_hmtxIsSound_11 ?_
  refine lv_iconst (v := (2 : Int32)) hx hb d_Ff_hmtxIsSound_12 (by decide) ?_
  refine lv_aload_n hx hb d_Ff_hmtxIsSound_13 rfl (lv_at hl 0 rfl) ?_
  refine va_get (D := (dC, dI)) (ci := 7) (v := .int o_glyphs) (C := "GlyphPage$FontFile") (T := F_Ff) (N := 16) hx hb htsG iG_Ff hown hK hP 0 rfl rfl 6 (by decide) (htsG _ mW309) (fun _ h9 => h9) rfl d_Ff_hmtxIsSound_14 ?_
  refine lv_aload_n hx hb d_Ff_hmtxIsSound_17 rfl (lv_at hl 0 rfl) ?_
  refine va_get (D := (dC, dI)) (ci := 7) (v := .int o_metrics) (C := "GlyphPage$FontFile") (T := F_Ff) (N := 16) hx hb htsG iG_Ff hown hK hP 0 rfl rfl 11 (by decide) (htsG _ mW319) (fun _ h9 => h9) rfl d_Ff_hmtxIsSound_18 ?_
  refine lv_isub hx hb d_Ff_hmtxIsSound_21 ?_
  refine lv_imul hx hb d_Ff_hmtxIsSound_22 ?_
  refine lv_iadd hx hb d_Ff_hmtxIsSound_23 ?_
  refine lv_icmp_ge (tgt := 29) hx hb d_Ff_hmtxIsSound_24 (by decide) (fun c_2 => ?_) (fun c_2 => ?_)
  · replace h := (if_pos c_2).symm.trans h
    refine lv_iconst (v := (0 : Int32)) hx hb d_Ff_hmtxIsSound_29 (by decide) ?_
    refine lv_istore_n (lv' := [(1, .int (0 : Int32)), (0, .ref o)]) hx hb d_Ff_hmtxIsSound_30 rfl hl (by decide) rfl (fun ls hl => ?_)
    exact w_Ff_hmtxIsSound_31 C0 o o_bytes o_starts o_sizes o_glyphStarts o_length o_units o_glyphs o_ascent o_descent o_gap o_longLoca o_metrics o_codes o_codesSize o_segments o_pairs o_bytes_f o_starts_f o_sizes_f o_glyphStarts_f uu  (0 : Int32) h hP hD hS (lv_sub hl [1, 0] rfl)
  · replace h := (if_neg c_2).symm.trans h
    refine lv_iconst (v := (0 : Int32)) hx hb d_Ff_hmtxIsSound_27 (by decide) ?_
    cases h
    exact W.zret (ty := .boolean) hx hb hr rfl (fun t ht hW => ⟨⟨_, (), rfl, rfl, by rw [ht]; exact hP, va_K.moved hW.alike hK, hD⟩, hS.F ht⟩) hS.2.2 d_Ff_hmtxIsSound_28 hlocks
def P_Ff_locaIsSound_34b (o_length : Int32) (o_glyphs : Int32) (o_longLoca : Int32) (o_bytes_f : Nat → Int32) (o_starts_f : Nat → Int32) (o_sizes_f : Nat → Int32)  (z34 : Int64 × Int32 × (Nat → Int32) → Option (Int32 × (Nat → Int32))) (x1 : Int64) (x3 : Int32) (o_glyphStarts_f : Nat → Int32) : Option (Int32 × (Nat → Int32)) :=
  if o_glyphs < x3 then (bd (1 : Int32) 8 <| if 0 < (lg_cmp x1 ((o_sizes_f (1 : Int32).toNatClampNeg).toInt64)) then (some ((0 : Int32), o_glyphStarts_f)) else (some ((1 : Int32), o_glyphStarts_f))) else ((P_Ff_locaAt o_length o_longLoca o_bytes_f o_starts_f x3).bind fun r_4 => if 0 ≤ (lg_cmp r_4 x1) then (bd (1 : Int32) 8 <| bd x3 65 <| z34 (r_4, (x3 + (1 : Int32)), (upd o_glyphStarts_f x3.toNatClampNeg ((o_starts_f (1 : Int32).toNatClampNeg) + (r_4.toInt32))))) else (some ((0 : Int32), o_glyphStarts_f)))
def L_Ff_locaIsSound_34 (o_length : Int32) (o_glyphs : Int32) (o_longLoca : Int32) (o_bytes_f : Nat → Int32) (o_starts_f : Nat → Int32) (o_sizes_f : Nat → Int32)  : (Int64 × Int32 × (Nat → Int32) → Option (Int32 × (Nat → Int32))) → (Int64 × Int32 × (Nat → Int32)) → Option (Int32 × (Nat → Int32)) :=
  fun z => unp fun x1 => unp fun x3 o_glyphStarts_f => P_Ff_locaIsSound_34b o_length o_glyphs o_longLoca o_bytes_f o_starts_f o_sizes_f z x1 x3 o_glyphStarts_f
def P_Ff_locaIsSound_34 (o_length : Int32) (o_glyphs : Int32) (o_longLoca : Int32) (o_bytes_f : Nat → Int32) (o_starts_f : Nat → Int32) (o_sizes_f : Nat → Int32)  (x1 : Int64) (x3 : Int32) (o_glyphStarts_f : Nat → Int32) : Option (Int32 × (Nat → Int32)) :=
  lp (L_Ff_locaIsSound_34 o_length o_glyphs o_longLoca o_bytes_f o_starts_f o_sizes_f) fuel (x1, x3, o_glyphStarts_f)
theorem e_Ff_locaIsSound_34 (o_length : Int32) (o_glyphs : Int32) (o_longLoca : Int32) (o_bytes_f : Nat → Int32) (o_starts_f : Nat → Int32) (o_sizes_f : Nat → Int32)  (n : Nat) (x1 : Int64) (x3 : Int32) (o_glyphStarts_f : Nat → Int32) : lp (L_Ff_locaIsSound_34 o_length o_glyphs o_longLoca o_bytes_f o_starts_f o_sizes_f) (n + 1) (x1, x3, o_glyphStarts_f) = P_Ff_locaIsSound_34b o_length o_glyphs o_longLoca o_bytes_f o_starts_f o_sizes_f (lp (L_Ff_locaIsSound_34 o_length o_glyphs o_longLoca o_bytes_f o_starts_f o_sizes_f) n) x1 x3 o_glyphStarts_f := rfl
set_option maxHeartbeats 4000000 in
set_option maxRecDepth 100000 in
theorem w_Ff_locaIsSound_34b (C0 : Cx p s m args meth c A dC dI cy b_Ff_locaIsSound 6 (some .boolean) "GlyphPage$FontFile") (o : Nat) (o_bytes : Nat) (o_starts : Nat) (o_sizes : Nat) (o_glyphStarts : Nat) (o_length : Int32) (o_units : Int32) (o_glyphs : Int32) (o_ascent : Int32) (o_descent : Int32) (o_gap : Int32) (o_longLoca : Int32) (o_metrics : Int32) (o_codes : Int32) (o_codesSize : Int32) (o_segments : Int32) (o_pairs : Int32) (o_bytes_f : Nat → Int32) (o_starts_f : Nat → Int32) (o_sizes_f : Nat → Int32) (uu : Int32 × (Nat → Int32))  (z34 : Int64 × Int32 × (Nat → Int32) → Option (Int32 × (Nat → Int32))) (hz34 : ∀ (x1 : Int64) (x3 : Int32) (o_glyphStarts_f : Nat → Int32) (H : Heap) (locs : List Loc) (ls : Array Slot), z34 (x1, x3, o_glyphStarts_f) = some uu → va_P (dC, dI) classes [(o, .inr (7, [.ref o_bytes, .int o_length, .ref o_starts, .ref o_sizes, .ref o_glyphStarts, .int o_units, .int o_glyphs, .int o_ascent, .int o_descent, .int o_gap, .int o_longLoca, .int o_metrics, .int o_codes, .int o_codesSize, .int o_segments, .int o_pairs])), (o_bytes, .inl (cy 1, 4096, .inl o_bytes_f)), (o_starts, .inl (cy 0, 8, .inl o_starts_f)), (o_sizes, .inl (cy 0, 8, .inl o_sizes_f)), (o_glyphStarts, .inl (cy 0, 65, .inl o_glyphStarts_f))] H → va_D A [(o, .inr (7, [.ref o_bytes, .int o_length, .ref o_starts, .ref o_sizes, .ref o_glyphStarts, .int o_units, .int o_glyphs, .int o_ascent, .int o_descent, .int o_gap, .int o_longLoca, .int o_metrics, .int o_codes, .int o_codesSize, .int o_segments, .int o_pairs])), (o_bytes, .inl (cy 1, 4096, .inl o_bytes_f)), (o_starts, .inl (cy 0, 8, .inl o_starts_f)), (o_sizes, .inl (cy 0, 8, .inl o_sizes_f)), (o_glyphStarts, .inl (cy 0, 65, .inl o_glyphStarts_f))] → va_S A s.heap H locs → lv_has ls 6 [(0, .ref o), (1, .long x1), (3, .int x3)] → W p l e ({ frames := 3, cells := 0, slots := 0, locals := 64 } : Room) s m args below meth c H locs 0 0 (MQ below (va_Qi (fun r (_ : Unit) => r = uu.1) (fun _ t => va_P (dC, dI) classes [(o, .inr (7, [.ref o_bytes, .int o_length, .ref o_starts, .ref o_sizes, .ref o_glyphStarts, .int o_units, .int o_glyphs, .int o_ascent, .int o_descent, .int o_gap, .int o_longLoca, .int o_metrics, .int o_codes, .int o_codesSize, .int o_segments, .int o_pairs])), (o_bytes, .inl (cy 1, 4096, .inl o_bytes_f)), (o_starts, .inl (cy 0, 8, .inl o_starts_f)), (o_sizes, .inl (cy 0, 8, .inl o_sizes_f)), (o_glyphStarts, .inl (cy 0, 65, .inl uu.2))] t.heap ∧ va_K (dC, dI) classes (TY cy) t ∧ va_D A [(o, .inr (7, [.ref o_bytes, .int o_length, .ref o_starts, .ref o_sizes, .ref o_glyphStarts, .int o_units, .int o_glyphs, .int o_ascent, .int o_descent, .int o_gap, .int o_longLoca, .int o_metrics, .int o_codes, .int o_codesSize, .int o_segments, .int o_pairs])), (o_bytes, .inl (cy 1, 4096, .inl o_bytes_f)), (o_starts, .inl (cy 0, 8, .inl o_starts_f)), (o_sizes, .inl (cy 0, 8, .inl o_sizes_f)), (o_glyphStarts, .inl (cy 0, 65, .inl uu.2))]) A) args s 0 0 A) (F0 m 34 ls [])) (x1 : Int64) (x3 : Int32) (o_glyphStarts_f : Nat → Int32) {H : Heap} {locs : List Loc} {ls : Array Slot} (h : P_Ff_locaIsSound_34b o_length o_glyphs o_longLoca o_bytes_f o_starts_f o_sizes_f z34 x1 x3 o_glyphStarts_f = some uu) : va_P (dC, dI) classes [(o, .inr (7, [.ref o_bytes, .int o_length, .ref o_starts, .ref o_sizes, .ref o_glyphStarts, .int o_units, .int o_glyphs, .int o_ascent, .int o_descent, .int o_gap, .int o_longLoca, .int o_metrics, .int o_codes, .int o_codesSize, .int o_segments, .int o_pairs])), (o_bytes, .inl (cy 1, 4096, .inl o_bytes_f)), (o_starts, .inl (cy 0, 8, .inl o_starts_f)), (o_sizes, .inl (cy 0, 8, .inl o_sizes_f)), (o_glyphStarts, .inl (cy 0, 65, .inl o_glyphStarts_f))] H → va_D A [(o, .inr (7, [.ref o_bytes, .int o_length, .ref o_starts, .ref o_sizes, .ref o_glyphStarts, .int o_units, .int o_glyphs, .int o_ascent, .int o_descent, .int o_gap, .int o_longLoca, .int o_metrics, .int o_codes, .int o_codesSize, .int o_segments, .int o_pairs])), (o_bytes, .inl (cy 1, 4096, .inl o_bytes_f)), (o_starts, .inl (cy 0, 8, .inl o_starts_f)), (o_sizes, .inl (cy 0, 8, .inl o_sizes_f)), (o_glyphStarts, .inl (cy 0, 65, .inl o_glyphStarts_f))] → va_S A s.heap H locs → lv_has ls 6 [(0, .ref o), (1, .long x1), (3, .int x3)] → W p l e ({ frames := 3, cells := 0, slots := 0, locals := 64 } : Room) s m args below meth c H locs 0 0 (MQ below (va_Qi (fun r (_ : Unit) => r = uu.1) (fun _ t => va_P (dC, dI) classes [(o, .inr (7, [.ref o_bytes, .int o_length, .ref o_starts, .ref o_sizes, .ref o_glyphStarts, .int o_units, .int o_glyphs, .int o_ascent, .int o_descent, .int o_gap, .int o_longLoca, .int o_metrics, .int o_codes, .int o_codesSize, .int o_segments, .int o_pairs])), (o_bytes, .inl (cy 1, 4096, .inl o_bytes_f)), (o_starts, .inl (cy 0, 8, .inl o_starts_f)), (o_sizes, .inl (cy 0, 8, .inl o_sizes_f)), (o_glyphStarts, .inl (cy 0, 65, .inl uu.2))] t.heap ∧ va_K (dC, dI) classes (TY cy) t ∧ va_D A [(o, .inr (7, [.ref o_bytes, .int o_length, .ref o_starts, .ref o_sizes, .ref o_glyphStarts, .int o_units, .int o_glyphs, .int o_ascent, .int o_descent, .int o_gap, .int o_longLoca, .int o_metrics, .int o_codes, .int o_codesSize, .int o_segments, .int o_pairs])), (o_bytes, .inl (cy 1, 4096, .inl o_bytes_f)), (o_starts, .inl (cy 0, 8, .inl o_starts_f)), (o_sizes, .inl (cy 0, 8, .inl o_sizes_f)), (o_glyphStarts, .inl (cy 0, 65, .inl uu.2))]) A) args s 0 0 A) (F0 m 34 ls []) := by
  intro hP hD hS hl
  obtain ⟨hx, hb, hr, hlocks, hml, hown, htsG, hA, hK⟩ := id C0
  unfold P_Ff_locaIsSound_34b at h
  refine lv_iload_n hx hb d_Ff_locaIsSound_34 rfl (lv_at hl 2 rfl) ?_
  refine lv_aload_n hx hb d_Ff_locaIsSound_35 rfl (lv_at hl 0 rfl) ?_
  refine va_get (D := (dC, dI)) (ci := 7) (v := .int o_glyphs) (C := "GlyphPage$FontFile") (T := F_Ff) (N := 16) hx hb htsG iG_Ff hown hK hP 0 rfl rfl 6 (by decide) (htsG _ mW309) (fun _ h9 => h9) rfl d_Ff_locaIsSound_36 ?_
  refine lv_icmp_gt (tgt := 83) hx hb d_Ff_locaIsSound_39 (by decide) (fun c_1 => ?_) (fun c_1 => ?_)
  · replace h := (if_pos c_1).symm.trans h
    refine lv_lload_n hx hb d_Ff_locaIsSound_83 rfl (lv_at hl 1 rfl) ?_
    refine lv_aload_n hx hb d_Ff_locaIsSound_84 rfl (lv_at hl 0 rfl) ?_
    refine va_get (D := (dC, dI)) (ci := 7) (v := .ref o_sizes) (C := "GlyphPage$FontFile") (T := F_Ff) (N := 16) hx hb htsG iG_Ff hown hK hP 0 rfl rfl 3 (by decide) (htsG _ mW304) (fun _ h9 => h9) rfl d_Ff_locaIsSound_85 ?_
    refine lv_iconst (v := (1 : Int32)) hx hb d_Ff_locaIsSound_88 (by decide) ?_
    obtain ⟨hin_2, h⟩ := bd_some h
    refine va_iald hx hb hK hP 3 0 rfl rfl hin_2 d_Ff_locaIsSound_89 ?_
    refine lv_i2l hx hb d_Ff_locaIsSound_90 rfl ?_
    refine W.lcmp hx hb d_Ff_locaIsSound_91 ?_
    refine lv_if_gt (tgt := 99) hx hb d_Ff_locaIsSound_92 (by decide) (fun c_3 => ?_) (fun c_3 => ?_)
    · replace h := (if_pos c_3).symm.trans h
      refine lv_iconst (v := (0 : Int32)) hx hb d_Ff_locaIsSound_99 (by decide) ?_
      cases h
      exact W.zret (ty := .boolean) hx hb hr rfl (fun t ht hW => ⟨⟨_, (), rfl, rfl, by rw [ht]; exact hP, va_K.moved hW.alike hK, hD⟩, hS.F ht⟩) hS.2.2 d_Ff_locaIsSound_100 hlocks
    · replace h := (if_neg c_3).symm.trans h
      refine lv_iconst (v := (1 : Int32)) hx hb d_Ff_locaIsSound_95 (by decide) ?_
      refine lv_goto (tgt := 100) hx hb d_Ff_locaIsSound_96 (by decide) ?_
      cases h
      exact W.zret (ty := .boolean) hx hb hr rfl (fun t ht hW => ⟨⟨_, (), rfl, rfl, by rw [ht]; exact hP, va_K.moved hW.alike hK, hD⟩, hS.F ht⟩) hS.2.2 d_Ff_locaIsSound_100 hlocks
  · replace h := (if_neg c_1).symm.trans h
    refine lv_aload_n hx hb d_Ff_locaIsSound_42 rfl (lv_at hl 0 rfl) ?_
    refine lv_iload_n hx hb d_Ff_locaIsSound_43 rfl (lv_at hl 2 rfl) ?_
    obtain ⟨r_4, hq, h⟩ := Option.bind_eq_some_iff.mp h
    try dsimp only at h
    have hPc := hP.sub (ws' := [(o, .inr (7, [.ref o_bytes, .int o_length, .ref o_starts, .ref o_sizes, .ref o_glyphStarts, .int o_units, .int o_glyphs, .int o_ascent, .int o_descent, .int o_gap, .int o_longLoca, .int o_metrics, .int o_codes, .int o_codesSize, .int o_segments, .int o_pairs])), (o_bytes, .inl (cy 1, 4096, .inl o_bytes_f)), (o_starts, .inl (cy 0, 8, .inl o_starts_f)), (o_sizes, .inl (cy 0, 8, .inl o_sizes_f)), (o_glyphStarts, .inl (cy 0, 65, .inl o_glyphStarts_f))]) [0, 1, 2, 3, 4] rfl
    have hDc := hD.sub (ws' := [(o, .inr (7, [.ref o_bytes, .int o_length, .ref o_starts, .ref o_sizes, .ref o_glyphStarts, .int o_units, .int o_glyphs, .int o_ascent, .int o_descent, .int o_gap, .int o_longLoca, .int o_metrics, .int o_codes, .int o_codesSize, .int o_segments, .int o_pairs])), (o_bytes, .inl (cy 1, 4096, .inl o_bytes_f)), (o_starts, .inl (cy 0, 8, .inl o_starts_f)), (o_sizes, .inl (cy 0, 8, .inl o_sizes_f)), (o_glyphStarts, .inl (cy 0, 65, .inl o_glyphStarts_f))]) [0, 1, 2, 3, 4] (by decide) rfl
    have hFc := va_free (wc := [(o, .inr (7, [.ref o_bytes, .int o_length, .ref o_starts, .ref o_sizes, .ref o_glyphStarts, .int o_units, .int o_glyphs, .int o_ascent, .int o_descent, .int o_gap, .int o_longLoca, .int o_metrics, .int o_codes, .int o_codesSize, .int o_segments, .int o_pairs])), (o_bytes, .inl (cy 1, 4096, .inl o_bytes_f)), (o_starts, .inl (cy 0, 8, .inl o_starts_f)), (o_sizes, .inl (cy 0, 8, .inl o_sizes_f)), (o_glyphStarts, .inl (cy 0, 65, .inl o_glyphStarts_f))]) hD hS hA [0, 1, 2, 3, 4] rfl
    refine va_calll (va_runV (As := [.int x3]) (rest := []) ⟨hx, hb, hml, hown, htsG⟩ (c_Ff_locaAt l dC dI cy H.size o o_bytes o_starts o_sizes o_glyphStarts o_length o_units o_glyphs o_ascent o_descent o_gap o_longLoca o_metrics o_codes o_codesSize o_segments o_pairs o_bytes_f o_starts_f o_sizes_f o_glyphStarts_f x3 r_4 hq) (cwV 1 htsG (gV mW421 mW423 mS_Ff_locaAt mW11 mW424) rfl rfl rfl (by decide +kernel) ⟨Nat.le_of_ble_eq_true rfl, Nat.le_of_ble_eq_true rfl⟩) ⟨fun a U g mk q => by obtain ⟨q0, q1, qP, qK, qD⟩ := q; exact ⟨q0, q1, qP, va_K.moved (u := U) (U := U.calling g mk a) (Vm.Alike.refl U.vm) qK, qD⟩, va_recv hK hPc (ci := 7) (q0 := 0) rfl rfl, fun U hU hW => ⟨rfl, by rw [hU], by rw [hU]; exact hPc, va_K.moved hW.alike hK, hDc.weaken (fun _ _ _ _ => trivial)⟩⟩ rfl rfl hl.1 rfl (lv_room (Nat.le_of_ble_eq_true rfl)) d_Ff_locaIsSound_44 ⟨Nat.le_of_ble_eq_true rfl, Nat.le_of_ble_eq_true rfl⟩) hS (fun q _ h => hFc q h) hFc (fun rr u t H1 locs ht hvm hw hB hz1 hk1 hS => ?_)
    obtain ⟨hP1, hK1, hD1⟩ := hB
    rw [ht] at hP1
    replace hw : r_4 = rr := hw.symm
    subst hw
    obtain ⟨hP, hD⟩ := va_join (wr := []) (w1 := [(o, .inr (7, [.ref o_bytes, .int o_length, .ref o_starts, .ref o_sizes, .ref o_glyphStarts, .int o_units, .int o_glyphs, .int o_ascent, .int o_descent, .int o_gap, .int o_longLoca, .int o_metrics, .int o_codes, .int o_codesSize, .int o_segments, .int o_pairs])), (o_bytes, .inl (cy 1, 4096, .inl o_bytes_f)), (o_starts, .inl (cy 0, 8, .inl o_starts_f)), (o_sizes, .inl (cy 0, 8, .inl o_sizes_f)), (o_glyphStarts, .inl (cy 0, 65, .inl o_glyphStarts_f))]) hP hD [0, 1, 2, 3, 4] [] rfl rfl (by decide) (by decide) hk1 hFc hP1 hD1
    generalize H1 = H at hP hS ⊢
    have hP := hP.sub (ws' := [(o, .inr (7, [.ref o_bytes, .int o_length, .ref o_starts, .ref o_sizes, .ref o_glyphStarts, .int o_units, .int o_glyphs, .int o_ascent, .int o_descent, .int o_gap, .int o_longLoca, .int o_metrics, .int o_codes, .int o_codesSize, .int o_segments, .int o_pairs])), (o_bytes, .inl (cy 1, 4096, .inl o_bytes_f)), (o_starts, .inl (cy 0, 8, .inl o_starts_f)), (o_sizes, .inl (cy 0, 8, .inl o_sizes_f)), (o_glyphStarts, .inl (cy 0, 65, .inl o_glyphStarts_f))]) [0, 1, 2, 3, 4] rfl
    have hD := hD.sub (ws' := [(o, .inr (7, [.ref o_bytes, .int o_length, .ref o_starts, .ref o_sizes, .ref o_glyphStarts, .int o_units, .int o_glyphs, .int o_ascent, .int o_descent, .int o_gap, .int o_longLoca, .int o_metrics, .int o_codes, .int o_codesSize, .int o_segments, .int o_pairs])), (o_bytes, .inl (cy 1, 4096, .inl o_bytes_f)), (o_starts, .inl (cy 0, 8, .inl o_starts_f)), (o_sizes, .inl (cy 0, 8, .inl o_sizes_f)), (o_glyphStarts, .inl (cy 0, 65, .inl o_glyphStarts_f))]) [0, 1, 2, 3, 4] (by decide) rfl
    refine W.widen (k := 0) (n := 0) (by decide) (by decide) ?_
    refine lv_lstore (lv' := [(4, .long r_4), (0, .ref o), (1, .long x1), (3, .int x3)]) hx hb d_Ff_locaIsSound_47 hl (by decide) rfl (fun ls hl => ?_)
    refine lv_lload hx hb d_Ff_locaIsSound_49 (lv_at hl 0 rfl) ?_
    refine lv_lload_n hx hb d_Ff_locaIsSound_51 rfl (lv_at hl 2 rfl) ?_
    refine W.lcmp hx hb d_Ff_locaIsSound_52 ?_
    refine lv_if_ge (tgt := 58) hx hb d_Ff_locaIsSound_53 (by decide) (fun c_5 => ?_) (fun c_5 => ?_)
    · replace h := (if_pos c_5).symm.trans h
      refine lv_lload hx hb d_Ff_locaIsSound_58 (lv_at hl 0 rfl) ?_
      refine lv_lstore_n (lv' := [(1, .long r_4), (4, .long r_4), (0, .ref o), (3, .int x3)]) hx hb d_Ff_locaIsSound_60 rfl hl (by decide) rfl (fun ls hl => ?_)
      refine lv_aload_n hx hb d_Ff_locaIsSound_61 rfl (lv_at hl 2 rfl) ?_
      refine va_get (D := (dC, dI)) (ci := 7) (v := .ref o_glyphStarts) (C := "GlyphPage$FontFile") (T := F_Ff) (N := 16) hx hb htsG iG_Ff hown hK hP 0 rfl rfl 4 (by decide) (htsG _ mW305) (fun _ h9 => h9) rfl d_Ff_locaIsSound_62 ?_
      refine lv_iload_n hx hb d_Ff_locaIsSound_65 rfl (lv_at hl 3 rfl) ?_
      refine lv_aload_n hx hb d_Ff_locaIsSound_66 rfl (lv_at hl 2 rfl) ?_
      refine va_get (D := (dC, dI)) (ci := 7) (v := .ref o_starts) (C := "GlyphPage$FontFile") (T := F_Ff) (N := 16) hx hb htsG iG_Ff hown hK hP 0 rfl rfl 2 (by decide) (htsG _ mW303) (fun _ h9 => h9) rfl d_Ff_locaIsSound_67 ?_
      refine lv_iconst (v := (1 : Int32)) hx hb d_Ff_locaIsSound_70 (by decide) ?_
      obtain ⟨hin_6, h⟩ := bd_some h
      refine va_iald hx hb hK hP 2 0 rfl rfl hin_6 d_Ff_locaIsSound_71 ?_
      refine lv_lload hx hb d_Ff_locaIsSound_72 (lv_at hl 1 rfl) ?_
      refine lv_l2i hx hb d_Ff_locaIsSound_74 rfl ?_
      refine lv_iadd hx hb d_Ff_locaIsSound_75 ?_
      obtain ⟨hin_7, h⟩ := bd_some h
      refine va_iast hx hb hK hP hD hS 4 0 rfl rfl hin_7 d_Ff_locaIsSound_76 (fun H locs hP hD hS => ?_)
      have hP : va_P (dC, dI) classes [(o, .inr (7, [.ref o_bytes, .int o_length, .ref o_starts, .ref o_sizes, .ref o_glyphStarts, .int o_units, .int o_glyphs, .int o_ascent, .int o_descent, .int o_gap, .int o_longLoca, .int o_metrics, .int o_codes, .int o_codesSize, .int o_segments, .int o_pairs])), (o_bytes, .inl (cy 1, 4096, .inl o_bytes_f)), (o_starts, .inl (cy 0, 8, .inl o_starts_f)), (o_sizes, .inl (cy 0, 8, .inl o_sizes_f)), (o_glyphStarts, .inl (cy 0, 65, .inl (upd o_glyphStarts_f x3.toNatClampNeg ((o_starts_f (1 : Int32).toNatClampNeg) + (r_4.toInt32)))))] H := hP
      have hD : va_D A [(o, .inr (7, [.ref o_bytes, .int o_length, .ref o_starts, .ref o_sizes, .ref o_glyphStarts, .int o_units, .int o_glyphs, .int o_ascent, .int o_descent, .int o_gap, .int o_longLoca, .int o_metrics, .int o_codes, .int o_codesSize, .int o_segments, .int o_pairs])), (o_bytes, .inl (cy 1, 4096, .inl o_bytes_f)), (o_starts, .inl (cy 0, 8, .inl o_starts_f)), (o_sizes, .inl (cy 0, 8, .inl o_sizes_f)), (o_glyphStarts, .inl (cy 0, 65, .inl (upd o_glyphStarts_f x3.toNatClampNeg ((o_starts_f (1 : Int32).toNatClampNeg) + (r_4.toInt32)))))] := hD
      refine lv_iinc (v := (x3 + (1 : Int32))) (lv' := [(3, .int (x3 + (1 : Int32))), (1, .long r_4), (4, .long r_4), (0, .ref o)]) hx hb d_Ff_locaIsSound_77 hl (k := 3) rfl rfl (by decide) rfl (fun ls hl => ?_)
      refine lv_goto (tgt := 34) hx hb d_Ff_locaIsSound_80 (by decide) ?_
      exact hz34 r_4 (x3 + (1 : Int32)) (upd o_glyphStarts_f x3.toNatClampNeg ((o_starts_f (1 : Int32).toNatClampNeg) + (r_4.toInt32))) _ _ _ h hP hD hS (lv_sub hl [3, 1, 0] rfl)
    · replace h := (if_neg c_5).symm.trans h
      refine lv_iconst (v := (0 : Int32)) hx hb d_Ff_locaIsSound_56 (by decide) ?_
      cases h
      exact W.zret (ty := .boolean) hx hb hr rfl (fun t ht hW => ⟨⟨_, (), rfl, rfl, by rw [ht]; exact hP, va_K.moved hW.alike hK, hD⟩, hS.F ht⟩) hS.2.2 d_Ff_locaIsSound_57 hlocks
theorem w_Ff_locaIsSound_34 (C0 : Cx p s m args meth c A dC dI cy b_Ff_locaIsSound 6 (some .boolean) "GlyphPage$FontFile") (o : Nat) (o_bytes : Nat) (o_starts : Nat) (o_sizes : Nat) (o_glyphStarts : Nat) (o_length : Int32) (o_units : Int32) (o_glyphs : Int32) (o_ascent : Int32) (o_descent : Int32) (o_gap : Int32) (o_longLoca : Int32) (o_metrics : Int32) (o_codes : Int32) (o_codesSize : Int32) (o_segments : Int32) (o_pairs : Int32) (o_bytes_f : Nat → Int32) (o_starts_f : Nat → Int32) (o_sizes_f : Nat → Int32) (uu : Int32 × (Nat → Int32))  (x1 : Int64) (x3 : Int32) (o_glyphStarts_f : Nat → Int32) {H : Heap} {locs : List Loc} {ls : Array Slot} (h : P_Ff_locaIsSound_34 o_length o_glyphs o_longLoca o_bytes_f o_starts_f o_sizes_f x1 x3 o_glyphStarts_f = some uu) : va_P (dC, dI) classes [(o, .inr (7, [.ref o_bytes, .int o_length, .ref o_starts, .ref o_sizes, .ref o_glyphStarts, .int o_units, .int o_glyphs, .int o_ascent, .int o_descent, .int o_gap, .int o_longLoca, .int o_metrics, .int o_codes, .int o_codesSize, .int o_segments, .int o_pairs])), (o_bytes, .inl (cy 1, 4096, .inl o_bytes_f)), (o_starts, .inl (cy 0, 8, .inl o_starts_f)), (o_sizes, .inl (cy 0, 8, .inl o_sizes_f)), (o_glyphStarts, .inl (cy 0, 65, .inl o_glyphStarts_f))] H → va_D A [(o, .inr (7, [.ref o_bytes, .int o_length, .ref o_starts, .ref o_sizes, .ref o_glyphStarts, .int o_units, .int o_glyphs, .int o_ascent, .int o_descent, .int o_gap, .int o_longLoca, .int o_metrics, .int o_codes, .int o_codesSize, .int o_segments, .int o_pairs])), (o_bytes, .inl (cy 1, 4096, .inl o_bytes_f)), (o_starts, .inl (cy 0, 8, .inl o_starts_f)), (o_sizes, .inl (cy 0, 8, .inl o_sizes_f)), (o_glyphStarts, .inl (cy 0, 65, .inl o_glyphStarts_f))] → va_S A s.heap H locs → lv_has ls 6 [(0, .ref o), (1, .long x1), (3, .int x3)] → W p l e ({ frames := 3, cells := 0, slots := 0, locals := 64 } : Room) s m args below meth c H locs 0 0 (MQ below (va_Qi (fun r (_ : Unit) => r = uu.1) (fun _ t => va_P (dC, dI) classes [(o, .inr (7, [.ref o_bytes, .int o_length, .ref o_starts, .ref o_sizes, .ref o_glyphStarts, .int o_units, .int o_glyphs, .int o_ascent, .int o_descent, .int o_gap, .int o_longLoca, .int o_metrics, .int o_codes, .int o_codesSize, .int o_segments, .int o_pairs])), (o_bytes, .inl (cy 1, 4096, .inl o_bytes_f)), (o_starts, .inl (cy 0, 8, .inl o_starts_f)), (o_sizes, .inl (cy 0, 8, .inl o_sizes_f)), (o_glyphStarts, .inl (cy 0, 65, .inl uu.2))] t.heap ∧ va_K (dC, dI) classes (TY cy) t ∧ va_D A [(o, .inr (7, [.ref o_bytes, .int o_length, .ref o_starts, .ref o_sizes, .ref o_glyphStarts, .int o_units, .int o_glyphs, .int o_ascent, .int o_descent, .int o_gap, .int o_longLoca, .int o_metrics, .int o_codes, .int o_codesSize, .int o_segments, .int o_pairs])), (o_bytes, .inl (cy 1, 4096, .inl o_bytes_f)), (o_starts, .inl (cy 0, 8, .inl o_starts_f)), (o_sizes, .inl (cy 0, 8, .inl o_sizes_f)), (o_glyphStarts, .inl (cy 0, 65, .inl uu.2))]) A) args s 0 0 A) (F0 m 34 ls []) := by
  have key : ∀ (n : Nat) (x1 : Int64) (x3 : Int32) (o_glyphStarts_f : Nat → Int32) (H : Heap) (locs : List Loc) (ls : Array Slot), lp (L_Ff_locaIsSound_34 o_length o_glyphs o_longLoca o_bytes_f o_starts_f o_sizes_f) n (x1, x3, o_glyphStarts_f) = some uu → va_P (dC, dI) classes [(o, .inr (7, [.ref o_bytes, .int o_length, .ref o_starts, .ref o_sizes, .ref o_glyphStarts, .int o_units, .int o_glyphs, .int o_ascent, .int o_descent, .int o_gap, .int o_longLoca, .int o_metrics, .int o_codes, .int o_codesSize, .int o_segments, .int o_pairs])), (o_bytes, .inl (cy 1, 4096, .inl o_bytes_f)), (o_starts, .inl (cy 0, 8, .inl o_starts_f)), (o_sizes, .inl (cy 0, 8, .inl o_sizes_f)), (o_glyphStarts, .inl (cy 0, 65, .inl o_glyphStarts_f))] H → va_D A [(o, .inr (7, [.ref o_bytes, .int o_length, .ref o_starts, .ref o_sizes, .ref o_glyphStarts, .int o_units, .int o_glyphs, .int o_ascent, .int o_descent, .int o_gap, .int o_longLoca, .int o_metrics, .int o_codes, .int o_codesSize, .int o_segments, .int o_pairs])), (o_bytes, .inl (cy 1, 4096, .inl o_bytes_f)), (o_starts, .inl (cy 0, 8, .inl o_starts_f)), (o_sizes, .inl (cy 0, 8, .inl o_sizes_f)), (o_glyphStarts, .inl (cy 0, 65, .inl o_glyphStarts_f))] → va_S A s.heap H locs → lv_has ls 6 [(0, .ref o), (1, .long x1), (3, .int x3)] → W p l e ({ frames := 3, cells := 0, slots := 0, locals := 64 } : Room) s m args below meth c H locs 0 0 (MQ below (va_Qi (fun r (_ : Unit) => r = uu.1) (fun _ t => va_P (dC, dI) classes [(o, .inr (7, [.ref o_bytes, .int o_length, .ref o_starts, .ref o_sizes, .ref o_glyphStarts, .int o_units, .int o_glyphs, .int o_ascent, .int o_descent, .int o_gap, .int o_longLoca, .int o_metrics, .int o_codes, .int o_codesSize, .int o_segments, .int o_pairs])), (o_bytes, .inl (cy 1, 4096, .inl o_bytes_f)), (o_starts, .inl (cy 0, 8, .inl o_starts_f)), (o_sizes, .inl (cy 0, 8, .inl o_sizes_f)), (o_glyphStarts, .inl (cy 0, 65, .inl uu.2))] t.heap ∧ va_K (dC, dI) classes (TY cy) t ∧ va_D A [(o, .inr (7, [.ref o_bytes, .int o_length, .ref o_starts, .ref o_sizes, .ref o_glyphStarts, .int o_units, .int o_glyphs, .int o_ascent, .int o_descent, .int o_gap, .int o_longLoca, .int o_metrics, .int o_codes, .int o_codesSize, .int o_segments, .int o_pairs])), (o_bytes, .inl (cy 1, 4096, .inl o_bytes_f)), (o_starts, .inl (cy 0, 8, .inl o_starts_f)), (o_sizes, .inl (cy 0, 8, .inl o_sizes_f)), (o_glyphStarts, .inl (cy 0, 65, .inl uu.2))]) A) args s 0 0 A) (F0 m 34 ls []) := by
    intro n
    induction n with
    | zero => intro x1 x3 o_glyphStarts_f H locs ls h; cases h
    | succ n ih => intro x1 x3 o_glyphStarts_f H locs ls h; exact w_Ff_locaIsSound_34b C0 o o_bytes o_starts o_sizes o_glyphStarts o_length o_units o_glyphs o_ascent o_descent o_gap o_longLoca o_metrics o_codes o_codesSize o_segments o_pairs o_bytes_f o_starts_f o_sizes_f uu  (lp (L_Ff_locaIsSound_34 o_length o_glyphs o_longLoca o_bytes_f o_starts_f o_sizes_f) n) ih x1 x3 o_glyphStarts_f ((e_Ff_locaIsSound_34 o_length o_glyphs o_longLoca o_bytes_f o_starts_f o_sizes_f n x1 x3 o_glyphStarts_f).symm.trans h)
  exact key fuel x1 x3 o_glyphStarts_f H locs ls h
def P_Ff_locaIsSound_24 (o_length : Int32) (o_glyphs : Int32) (o_longLoca : Int32) (o_bytes_f : Nat → Int32) (o_starts_f : Nat → Int32) (o_sizes_f : Nat → Int32)  (k0 : Int32) (k1 : Int32) (k2 : Int32) (o_glyphStarts_f : Nat → Int32) : Option (Int32 × (Nat → Int32)) :=
  if (k1 * k0) ≤ k2 then (P_Ff_locaIsSound_34 o_length o_glyphs o_longLoca o_bytes_f o_starts_f o_sizes_f (0 : Int64) (0 : Int32) o_glyphStarts_f) else (some ((0 : Int32), o_glyphStarts_f))
set_option maxHeartbeats 4000000 in
set_option maxRecDepth 100000 in
theorem w_Ff_locaIsSound_24 (C0 : Cx p s m args meth c A dC dI cy b_Ff_locaIsSound 6 (some .boolean) "GlyphPage$FontFile") (o : Nat) (o_bytes : Nat) (o_starts : Nat) (o_sizes : Nat) (o_glyphStarts : Nat) (o_length : Int32) (o_units : Int32) (o_glyphs : Int32) (o_ascent : Int32) (o_descent : Int32) (o_gap : Int32) (o_longLoca : Int32) (o_metrics : Int32) (o_codes : Int32) (o_codesSize : Int32) (o_segments : Int32) (o_pairs : Int32) (o_bytes_f : Nat → Int32) (o_starts_f : Nat → Int32) (o_sizes_f : Nat → Int32) (uu : Int32 × (Nat → Int32))  (k0 : Int32) (k1 : Int32) (k2 : Int32) (o_glyphStarts_f : Nat → Int32) {H : Heap} {locs : List Loc} {ls : Array Slot} (h : P_Ff_locaIsSound_24 o_length o_glyphs o_longLoca o_bytes_f o_starts_f o_sizes_f k0 k1 k2 o_glyphStarts_f = some uu) : va_P (dC, dI) classes [(o, .inr (7, [.ref o_bytes, .int o_length, .ref o_starts, .ref o_sizes, .ref o_glyphStarts, .int o_units, .int o_glyphs, .int o_ascent, .int o_descent, .int o_gap, .int o_longLoca, .int o_metrics, .int o_codes, .int o_codesSize, .int o_segments, .int o_pairs])), (o_bytes, .inl (cy 1, 4096, .inl o_bytes_f)), (o_starts, .inl (cy 0, 8, .inl o_starts_f)), (o_sizes, .inl (cy 0, 8, .inl o_sizes_f)), (o_glyphStarts, .inl (cy 0, 65, .inl o_glyphStarts_f))] H → va_D A [(o, .inr (7, [.ref o_bytes, .int o_length, .ref o_starts, .ref o_sizes, .ref o_glyphStarts, .int o_units, .int o_glyphs, .int o_ascent, .int o_descent, .int o_gap, .int o_longLoca, .int o_metrics, .int o_codes, .int o_codesSize, .int o_segments, .int o_pairs])), (o_bytes, .inl (cy 1, 4096, .inl o_bytes_f)), (o_starts, .inl (cy 0, 8, .inl o_starts_f)), (o_sizes, .inl (cy 0, 8, .inl o_sizes_f)), (o_glyphStarts, .inl (cy 0, 65, .inl o_glyphStarts_f))] → va_S A s.heap H locs → lv_has ls 6 [(0, .ref o)] → W p l e ({ frames := 3, cells := 0, slots := 0, locals := 64 } : Room) s m args below meth c H locs 0 0 (MQ below (va_Qi (fun r (_ : Unit) => r = uu.1) (fun _ t => va_P (dC, dI) classes [(o, .inr (7, [.ref o_bytes, .int o_length, .ref o_starts, .ref o_sizes, .ref o_glyphStarts, .int o_units, .int o_glyphs, .int o_ascent, .int o_descent, .int o_gap, .int o_longLoca, .int o_metrics, .int o_codes, .int o_codesSize, .int o_segments, .int o_pairs])), (o_bytes, .inl (cy 1, 4096, .inl o_bytes_f)), (o_starts, .inl (cy 0, 8, .inl o_starts_f)), (o_sizes, .inl (cy 0, 8, .inl o_sizes_f)), (o_glyphStarts, .inl (cy 0, 65, .inl uu.2))] t.heap ∧ va_K (dC, dI) classes (TY cy) t ∧ va_D A [(o, .inr (7, [.ref o_bytes, .int o_length, .ref o_starts, .ref o_sizes, .ref o_glyphStarts, .int o_units, .int o_glyphs, .int o_ascent, .int o_descent, .int o_gap, .int o_longLoca, .int o_metrics, .int o_codes, .int o_codesSize, .int o_segments, .int o_pairs])), (o_bytes, .inl (cy 1, 4096, .inl o_bytes_f)), (o_starts, .inl (cy 0, 8, .inl o_starts_f)), (o_sizes, .inl (cy 0, 8, .inl o_sizes_f)), (o_glyphStarts, .inl (cy 0, 65, .inl uu.2))]) A) args s 0 0 A) (F0 m 24 ls [.int k0, .int k1, .int k2]) := by
  intro hP hD hS hl
  obtain ⟨hx, hb, hr, hlocks, hml, hown, htsG, hA, hK⟩ := id C0
  unfold P_Ff_locaIsSound_24 at h
  refine lv_imul hx hb d_Ff_locaIsSound_24 ?_
  refine lv_icmp_ge (tgt := 30) hx hb d_Ff_locaIsSound_25 (by decide) (fun c_1 => ?_) (fun c_1 => ?_)
  · replace h := (if_pos c_1).symm.trans h
    refine lv_lconst (v := (0 : Int64)) hx hb d_Ff_locaIsSound_30 (by decide) ?_
    refine lv_lstore_n (lv' := [(1, .long (0 : Int64)), (0, .ref o)]) hx hb d_Ff_locaIsSound_31 rfl hl (by decide) rfl (fun ls hl => ?_)
    refine lv_iconst (v := (0 : Int32)) hx hb d_Ff_locaIsSound_32 (by decide) ?_
    refine lv_istore_n (lv' := [(3, .int (0 : Int32)), (1, .long (0 : Int64)), (0, .ref o)]) hx hb d_Ff_locaIsSound_33 rfl hl (by decide) rfl (fun ls hl => ?_)
    exact w_Ff_locaIsSound_34 C0 o o_bytes o_starts o_sizes o_glyphStarts o_length o_units o_glyphs o_ascent o_descent o_gap o_longLoca o_metrics o_codes o_codesSize o_segments o_pairs o_bytes_f o_starts_f o_sizes_f uu  (0 : Int64) (0 : Int32) o_glyphStarts_f h hP hD hS (lv_sub hl [2, 1, 0] rfl)
  · replace h := (if_neg c_1).symm.trans h
    refine lv_iconst (v := (0 : Int32)) hx hb d_Ff_locaIsSound_28 (by decide) ?_
    cases h
    exact W.zret (ty := .boolean) hx hb hr rfl (fun t ht hW => ⟨⟨_, (), rfl, rfl, by rw [ht]; exact hP, va_K.moved hW.alike hK, hD⟩, hS.F ht⟩) hS.2.2 d_Ff_locaIsSound_29 hlocks
def P_Ff_locaIsSound (o_length : Int32) (o_glyphs : Int32) (o_longLoca : Int32) (o_bytes_f : Nat → Int32) (o_starts_f : Nat → Int32) (o_sizes_f : Nat → Int32) (o_glyphStarts_f : Nat → Int32)  : Option (Int32 × (Nat → Int32)) :=
  bd (5 : Int32) 8 <| if o_longLoca = 0 then (P_Ff_locaIsSound_24 o_length o_glyphs o_longLoca o_bytes_f o_starts_f o_sizes_f (2 : Int32) (o_glyphs + (1 : Int32)) (o_sizes_f (5 : Int32).toNatClampNeg) o_glyphStarts_f) else (P_Ff_locaIsSound_24 o_length o_glyphs o_longLoca o_bytes_f o_starts_f o_sizes_f (4 : Int32) (o_glyphs + (1 : Int32)) (o_sizes_f (5 : Int32).toNatClampNeg) o_glyphStarts_f)
set_option maxHeartbeats 4000000 in
set_option maxRecDepth 100000 in
theorem c_Ff_locaIsSound (l : Launch) (dC : Nat → ClassId) (dI : Nat → Nat → Nat) (cy : Nat → ClassId) (sz : Nat) (o : Nat) (o_bytes : Nat) (o_starts : Nat) (o_sizes : Nat) (o_glyphStarts : Nat) (o_length : Int32) (o_units : Int32) (o_glyphs : Int32) (o_ascent : Int32) (o_descent : Int32) (o_gap : Int32) (o_longLoca : Int32) (o_metrics : Int32) (o_codes : Int32) (o_codesSize : Int32) (o_segments : Int32) (o_pairs : Int32) (o_bytes_f : Nat → Int32) (o_starts_f : Nat → Int32) (o_sizes_f : Nat → Int32) (o_glyphStarts_f : Nat → Int32)  (uu : Int32 × (Nat → Int32)) (h : P_Ff_locaIsSound o_length o_glyphs o_longLoca o_bytes_f o_starts_f o_sizes_f o_glyphStarts_f = some uu) : Met l y_Ff_locaIsSound (Cond.code y_Ff_locaIsSound b_Ff_locaIsSound 6 (some .boolean) :: G) ({ frames := 3, cells := 0, slots := 0, locals := 64 } : Room) (va_Pc [.ref o] (fun U => U.heap.size = sz ∧ va_P (dC, dI) classes [(o, .inr (7, [.ref o_bytes, .int o_length, .ref o_starts, .ref o_sizes, .ref o_glyphStarts, .int o_units, .int o_glyphs, .int o_ascent, .int o_descent, .int o_gap, .int o_longLoca, .int o_metrics, .int o_codes, .int o_codesSize, .int o_segments, .int o_pairs])), (o_bytes, .inl (cy 1, 4096, .inl o_bytes_f)), (o_starts, .inl (cy 0, 8, .inl o_starts_f)), (o_sizes, .inl (cy 0, 8, .inl o_sizes_f)), (o_glyphStarts, .inl (cy 0, 65, .inl o_glyphStarts_f))] U.heap ∧ va_K (dC, dI) classes (TY cy) U ∧ va_D (fun _ => True) [(o, .inr (7, [.ref o_bytes, .int o_length, .ref o_starts, .ref o_sizes, .ref o_glyphStarts, .int o_units, .int o_glyphs, .int o_ascent, .int o_descent, .int o_gap, .int o_longLoca, .int o_metrics, .int o_codes, .int o_codesSize, .int o_segments, .int o_pairs])), (o_bytes, .inl (cy 1, 4096, .inl o_bytes_f)), (o_starts, .inl (cy 0, 8, .inl o_starts_f)), (o_sizes, .inl (cy 0, 8, .inl o_sizes_f)), (o_glyphStarts, .inl (cy 0, 65, .inl o_glyphStarts_f))])) (va_Qi (fun r (_ : Unit) => r = uu.1) (fun _ t => va_P (dC, dI) classes [(o, .inr (7, [.ref o_bytes, .int o_length, .ref o_starts, .ref o_sizes, .ref o_glyphStarts, .int o_units, .int o_glyphs, .int o_ascent, .int o_descent, .int o_gap, .int o_longLoca, .int o_metrics, .int o_codes, .int o_codesSize, .int o_segments, .int o_pairs])), (o_bytes, .inl (cy 1, 4096, .inl o_bytes_f)), (o_starts, .inl (cy 0, 8, .inl o_starts_f)), (o_sizes, .inl (cy 0, 8, .inl o_sizes_f)), (o_glyphStarts, .inl (cy 0, 65, .inl uu.2))] t.heap ∧ va_K (dC, dI) classes (TY cy) t ∧ va_D (va_A [(o, .inr (7, [.ref o_bytes, .int o_length, .ref o_starts, .ref o_sizes, .ref o_glyphStarts, .int o_units, .int o_glyphs, .int o_ascent, .int o_descent, .int o_gap, .int o_longLoca, .int o_metrics, .int o_codes, .int o_codesSize, .int o_segments, .int o_pairs])), (o_bytes, .inl (cy 1, 4096, .inl o_bytes_f)), (o_starts, .inl (cy 0, 8, .inl o_starts_f)), (o_sizes, .inl (cy 0, 8, .inl o_sizes_f)), (o_glyphStarts, .inl (cy 0, 65, .inl o_glyphStarts_f))] sz) [(o, .inr (7, [.ref o_bytes, .int o_length, .ref o_starts, .ref o_sizes, .ref o_glyphStarts, .int o_units, .int o_glyphs, .int o_ascent, .int o_descent, .int o_gap, .int o_longLoca, .int o_metrics, .int o_codes, .int o_codesSize, .int o_segments, .int o_pairs])), (o_bytes, .inl (cy 1, 4096, .inl o_bytes_f)), (o_starts, .inl (cy 0, 8, .inl o_starts_f)), (o_sizes, .inl (cy 0, 8, .inl o_sizes_f)), (o_glyphStarts, .inl (cy 0, 65, .inl uu.2))]) (va_A [(o, .inr (7, [.ref o_bytes, .int o_length, .ref o_starts, .ref o_sizes, .ref o_glyphStarts, .int o_units, .int o_glyphs, .int o_ascent, .int o_descent, .int o_gap, .int o_longLoca, .int o_metrics, .int o_codes, .int o_codesSize, .int o_segments, .int o_pairs])), (o_bytes, .inl (cy 1, 4096, .inl o_bytes_f)), (o_starts, .inl (cy 0, 8, .inl o_starts_f)), (o_sizes, .inl (cy 0, 8, .inl o_sizes_f)), (o_glyphStarts, .inl (cy 0, 65, .inl o_glyphStarts_f))] sz)) 0 0 (va_A [(o, .inr (7, [.ref o_bytes, .int o_length, .ref o_starts, .ref o_sizes, .ref o_glyphStarts, .int o_units, .int o_glyphs, .int o_ascent, .int o_descent, .int o_gap, .int o_longLoca, .int o_metrics, .int o_codes, .int o_codesSize, .int o_segments, .int o_pairs])), (o_bytes, .inl (cy 1, 4096, .inl o_bytes_f)), (o_starts, .inl (cy 0, 8, .inl o_starts_f)), (o_sizes, .inl (cy 0, 8, .inl o_sizes_f)), (o_glyphStarts, .inl (cy 0, 65, .inl o_glyphStarts_f))] sz) := by
  refine Met.ofW (cc := b_Ff_locaIsSound) (maxL := 6) (ret := (some .boolean)) (by decide) rfl ?_
  intro p e s m args below meth c s₁ B hml hv
  obtain ⟨rfl, hsz, hP, hK, hD0⟩ := hv
  have hx := B.exec
  have hb := B.bytes
  have hr := B.returns
  have hts := atoms_spec (ws := Cond.code y_Ff_locaIsSound b_Ff_locaIsSound 6 (some .boolean) :: G) B.pre
  have htsG : ∀ w ∈ G, w.before _ s = true := fun w hw => hts w (List.mem_cons_of_mem _ hw)
  have hown : s.vm.findClass "GlyphPage$FontFile" = some m.cls := findClass_of_methodNamed B.named
  have hlocks := B.notSynchronized
  subst hsz
  have hD := hD0.self (sz := s.heap.size)
  generalize hAe : va_A [(o, .inr (7, [.ref o_bytes, .int o_length, .ref o_starts, .ref o_sizes, .ref o_glyphStarts, .int o_units, .int o_glyphs, .int o_ascent, .int o_descent, .int o_gap, .int o_longLoca, .int o_metrics, .int o_codes, .int o_codesSize, .int o_segments, .int o_pairs])), (o_bytes, .inl (cy 1, 4096, .inl o_bytes_f)), (o_starts, .inl (cy 0, 8, .inl o_starts_f)), (o_sizes, .inl (cy 0, 8, .inl o_sizes_f)), (o_glyphStarts, .inl (cy 0, 65, .inl o_glyphStarts_f))] s.heap.size = A at hD ⊢
  have hA : ∀ q : Nat, s.heap.size ≤ q → A q := fun q h => by rw [← hAe]; exact Or.inr h
  have hS : va_S A s.heap s.heap [] := va_S.rf
  have hl := lv_entry ([.ref o]) (n := 6) (Nat.le_of_ble_eq_true rfl)
  rw [lg_entry_eq]
  generalize (lg_sl ([.ref o]) ++ List.replicate (6 - (lg_sl ([.ref o])).length) Slot.unset).toArray = ls at hl ⊢
  have hl : lv_has ls 6 [(0, .ref o)] := hl
  have C0 : Cx p s m _ meth c A dC dI cy b_Ff_locaIsSound 6 (some .boolean) "GlyphPage$FontFile" := ⟨hx, hb, hr, hlocks, hml, hown, htsG, hA, hK⟩
  unfold P_Ff_locaIsSound at h
  refine lv_aload_n hx hb d_Ff_locaIsSound_0 rfl (lv_at hl 0 rfl) ?_
  refine va_get (D := (dC, dI)) (ci := 7) (v := .ref o_sizes) (C := "GlyphPage$FontFile") (T := F_Ff) (N := 16) hx hb htsG iG_Ff hown hK hP 0 rfl rfl 3 (by decide) (htsG _ mW304) (fun _ h9 => h9) rfl d_Ff_locaIsSound_1 ?_
  refine lv_iconst (v := (5 : Int32)) hx hb d_Ff_locaIsSound_4 (by decide) ?_
  obtain ⟨hin_1, h⟩ := bd_some h
  refine va_iald hx hb hK hP 3 0 rfl rfl hin_1 d_Ff_locaIsSound_5 ?_
  refine lv_aload_n hx hb d_Ff_locaIsSound_6 rfl (lv_at hl 0 rfl) ?_
  refine va_get (D := (dC, dI)) (ci := 7) (v := .int o_glyphs) (C := "GlyphPage$FontFile") (T := F_Ff) (N := 16) hx hb htsG iG_Ff hown hK hP 0 rfl rfl 6 (by decide) (htsG _ mW309) (fun _ h9 => h9) rfl d_Ff_locaIsSound_7 ?_
  refine lv_iconst (v := (1 : Int32)) hx hb d_Ff_locaIsSound_10 (by decide) ?_
  refine lv_iadd hx hb d_Ff_locaIsSound_11 ?_
  refine lv_aload_n hx hb d_Ff_locaIsSound_12 rfl (lv_at hl 0 rfl) ?_
  refine va_get (D := (dC, dI)) (ci := 7) (v := .int o_longLoca) (C := "GlyphPage$FontFile") (T := F_Ff) (N := 16) hx hb htsG iG_Ff hown hK hP 0 rfl rfl 10 (by decide) (htsG _ mW318) (fun _ h9 => h9) rfl d_Ff_locaIsSound_13 ?_
  refine lv_if_eq (tgt := 23) hx hb d_Ff_locaIsSound_16 (by decide) (fun c_2 => ?_) (fun c_2 => ?_)
  · replace h := (if_pos c_2).symm.trans h
    refine lv_iconst (v := (2 : Int32)) hx hb d_Ff_locaIsSound_23 (by decide) ?_
    exact w_Ff_locaIsSound_24 C0 o o_bytes o_starts o_sizes o_glyphStarts o_length o_units o_glyphs o_ascent o_descent o_gap o_longLoca o_metrics o_codes o_codesSize o_segments o_pairs o_bytes_f o_starts_f o_sizes_f uu  (2 : Int32) (o_glyphs + (1 : Int32)) (o_sizes_f (5 : Int32).toNatClampNeg) o_glyphStarts_f h hP hD hS (lv_sub hl [0] rfl)
  · replace h := (if_neg c_2).symm.trans h
    refine lv_iconst (v := (4 : Int32)) hx hb d_Ff_locaIsSound_19 (by decide) ?_
    refine lv_goto (tgt := 24) hx hb d_Ff_locaIsSound_20 (by decide) ?_
    exact w_Ff_locaIsSound_24 C0 o o_bytes o_starts o_sizes o_glyphStarts o_length o_units o_glyphs o_ascent o_descent o_gap o_longLoca o_metrics o_codes o_codesSize o_segments o_pairs o_bytes_f o_starts_f o_sizes_f uu  (4 : Int32) (o_glyphs + (1 : Int32)) (o_sizes_f (5 : Int32).toNatClampNeg) o_glyphStarts_f h hP hD hS (lv_sub hl [0] rfl)
def P_Ff_readCodes (o_length : Int32) (o_codes : Int32) (o_codesSize : Int32) (o_segments : Int32) (o_bytes_f : Nat → Int32) (o_starts_f : Nat → Int32) (o_sizes_f : Nat → Int32) (a1 : Int64) : Option (Int32 × Int32 × Int32 × Int32) :=
  bd (0 : Int32) 8 <| if (lg_cmp (a1 + (8 : Int64)) ((o_sizes_f (0 : Int32).toNatClampNeg).toInt64)) ≤ 0 then (bd (0 : Int32) 8 <| (P_Ff_twoAt o_length o_bytes_f (((o_starts_f (0 : Int32).toNatClampNeg) + (a1.toInt32)) + (2 : Int32))).bind fun r_4 => (P_Ff_twoAt o_length o_bytes_f (((o_starts_f (0 : Int32).toNatClampNeg) + (a1.toInt32)) + (6 : Int32))).bind fun r_5 => (P_Ff_twoAt o_length o_bytes_f ((o_starts_f (0 : Int32).toNatClampNeg) + (a1.toInt32))).bind fun r_6 => if r_6 = (4 : Int32) then (bd (0 : Int32) 8 <| if 0 < (lg_cmp (a1 + (r_4.toInt64)) ((o_sizes_f (0 : Int32).toNatClampNeg).toInt64)) then (some ((0 : Int32), ((o_starts_f (0 : Int32).toNatClampNeg) + (a1.toInt32)), r_4, (r_5 / (2 : Int32)))) else (if (r_5 - r_5 / (2 : Int32) * (2 : Int32)) = 0 then (if (r_5 / (2 : Int32)) < (1 : Int32) then (some ((0 : Int32), ((o_starts_f (0 : Int32).toNatClampNeg) + (a1.toInt32)), r_4, (r_5 / (2 : Int32)))) else (if r_4 < ((16 : Int32) + ((8 : Int32) * (r_5 / (2 : Int32)))) then (some ((0 : Int32), ((o_starts_f (0 : Int32).toNatClampNeg) + (a1.toInt32)), r_4, (r_5 / (2 : Int32)))) else (some ((1 : Int32), ((o_starts_f (0 : Int32).toNatClampNeg) + (a1.toInt32)), r_4, (r_5 / (2 : Int32)))))) else (some ((0 : Int32), ((o_starts_f (0 : Int32).toNatClampNeg) + (a1.toInt32)), r_4, (r_5 / (2 : Int32)))))) else (some ((0 : Int32), ((o_starts_f (0 : Int32).toNatClampNeg) + (a1.toInt32)), r_4, (r_5 / (2 : Int32))))) else (some ((0 : Int32), o_codes, o_codesSize, o_segments))
set_option maxHeartbeats 4000000 in
set_option maxRecDepth 100000 in
theorem c_Ff_readCodes (l : Launch) (dC : Nat → ClassId) (dI : Nat → Nat → Nat) (cy : Nat → ClassId) (sz : Nat) (o : Nat) (o_bytes : Nat) (o_starts : Nat) (o_sizes : Nat) (o_glyphStarts : Nat) (o_length : Int32) (o_units : Int32) (o_glyphs : Int32) (o_ascent : Int32) (o_descent : Int32) (o_gap : Int32) (o_longLoca : Int32) (o_metrics : Int32) (o_codes : Int32) (o_codesSize : Int32) (o_segments : Int32) (o_pairs : Int32) (o_bytes_f : Nat → Int32) (o_starts_f : Nat → Int32) (o_sizes_f : Nat → Int32) (o_glyphStarts_f : Nat → Int32) (a1 : Int64) (uu : Int32 × Int32 × Int32 × Int32) (h : P_Ff_readCodes o_length o_codes o_codesSize o_segments o_bytes_f o_starts_f o_sizes_f a1 = some uu) : Met l y_Ff_readCodes (Cond.code y_Ff_readCodes b_Ff_readCodes 4 (some .boolean) :: G) ({ frames := 1, cells := 0, slots := 0, locals := 21 } : Room) (va_Pc [.ref o, .long a1] (fun U => U.heap.size = sz ∧ va_P (dC, dI) classes [(o, .inr (7, [.ref o_bytes, .int o_length, .ref o_starts, .ref o_sizes, .ref o_glyphStarts, .int o_units, .int o_glyphs, .int o_ascent, .int o_descent, .int o_gap, .int o_longLoca, .int o_metrics, .int o_codes, .int o_codesSize, .int o_segments, .int o_pairs])), (o_bytes, .inl (cy 1, 4096, .inl o_bytes_f)), (o_starts, .inl (cy 0, 8, .inl o_starts_f)), (o_sizes, .inl (cy 0, 8, .inl o_sizes_f)), (o_glyphStarts, .inl (cy 0, 65, .inl o_glyphStarts_f))] U.heap ∧ va_K (dC, dI) classes (TY cy) U ∧ va_D (fun _ => True) [(o, .inr (7, [.ref o_bytes, .int o_length, .ref o_starts, .ref o_sizes, .ref o_glyphStarts, .int o_units, .int o_glyphs, .int o_ascent, .int o_descent, .int o_gap, .int o_longLoca, .int o_metrics, .int o_codes, .int o_codesSize, .int o_segments, .int o_pairs])), (o_bytes, .inl (cy 1, 4096, .inl o_bytes_f)), (o_starts, .inl (cy 0, 8, .inl o_starts_f)), (o_sizes, .inl (cy 0, 8, .inl o_sizes_f)), (o_glyphStarts, .inl (cy 0, 65, .inl o_glyphStarts_f))])) (va_Qi (fun r (_ : Unit) => r = uu.1) (fun _ t => va_P (dC, dI) classes [(o, .inr (7, [.ref o_bytes, .int o_length, .ref o_starts, .ref o_sizes, .ref o_glyphStarts, .int o_units, .int o_glyphs, .int o_ascent, .int o_descent, .int o_gap, .int o_longLoca, .int o_metrics, .int uu.2.1, .int uu.2.2.1, .int uu.2.2.2, .int o_pairs])), (o_bytes, .inl (cy 1, 4096, .inl o_bytes_f)), (o_starts, .inl (cy 0, 8, .inl o_starts_f)), (o_sizes, .inl (cy 0, 8, .inl o_sizes_f)), (o_glyphStarts, .inl (cy 0, 65, .inl o_glyphStarts_f))] t.heap ∧ va_K (dC, dI) classes (TY cy) t ∧ va_D (va_A [(o, .inr (7, [.ref o_bytes, .int o_length, .ref o_starts, .ref o_sizes, .ref o_glyphStarts, .int o_units, .int o_glyphs, .int o_ascent, .int o_descent, .int o_gap, .int o_longLoca, .int o_metrics, .int o_codes, .int o_codesSize, .int o_segments, .int o_pairs])), (o_bytes, .inl (cy 1, 4096, .inl o_bytes_f)), (o_starts, .inl (cy 0, 8, .inl o_starts_f)), (o_sizes, .inl (cy 0, 8, .inl o_sizes_f)), (o_glyphStarts, .inl (cy 0, 65, .inl o_glyphStarts_f))] sz) [(o, .inr (7, [.ref o_bytes, .int o_length, .ref o_starts, .ref o_sizes, .ref o_glyphStarts, .int o_units, .int o_glyphs, .int o_ascent, .int o_descent, .int o_gap, .int o_longLoca, .int o_metrics, .int uu.2.1, .int uu.2.2.1, .int uu.2.2.2, .int o_pairs])), (o_bytes, .inl (cy 1, 4096, .inl o_bytes_f)), (o_starts, .inl (cy 0, 8, .inl o_starts_f)), (o_sizes, .inl (cy 0, 8, .inl o_sizes_f)), (o_glyphStarts, .inl (cy 0, 65, .inl o_glyphStarts_f))]) (va_A [(o, .inr (7, [.ref o_bytes, .int o_length, .ref o_starts, .ref o_sizes, .ref o_glyphStarts, .int o_units, .int o_glyphs, .int o_ascent, .int o_descent, .int o_gap, .int o_longLoca, .int o_metrics, .int o_codes, .int o_codesSize, .int o_segments, .int o_pairs])), (o_bytes, .inl (cy 1, 4096, .inl o_bytes_f)), (o_starts, .inl (cy 0, 8, .inl o_starts_f)), (o_sizes, .inl (cy 0, 8, .inl o_sizes_f)), (o_glyphStarts, .inl (cy 0, 65, .inl o_glyphStarts_f))] sz)) 0 0 (va_A [(o, .inr (7, [.ref o_bytes, .int o_length, .ref o_starts, .ref o_sizes, .ref o_glyphStarts, .int o_units, .int o_glyphs, .int o_ascent, .int o_descent, .int o_gap, .int o_longLoca, .int o_metrics, .int o_codes, .int o_codesSize, .int o_segments, .int o_pairs])), (o_bytes, .inl (cy 1, 4096, .inl o_bytes_f)), (o_starts, .inl (cy 0, 8, .inl o_starts_f)), (o_sizes, .inl (cy 0, 8, .inl o_sizes_f)), (o_glyphStarts, .inl (cy 0, 65, .inl o_glyphStarts_f))] sz) := by
  refine Met.ofW (cc := b_Ff_readCodes) (maxL := 4) (ret := (some .boolean)) (by decide) rfl ?_
  intro p e s m args below meth c s₁ B hml hv
  obtain ⟨rfl, hsz, hP, hK, hD0⟩ := hv
  have hx := B.exec
  have hb := B.bytes
  have hr := B.returns
  have hts := atoms_spec (ws := Cond.code y_Ff_readCodes b_Ff_readCodes 4 (some .boolean) :: G) B.pre
  have htsG : ∀ w ∈ G, w.before _ s = true := fun w hw => hts w (List.mem_cons_of_mem _ hw)
  have hown : s.vm.findClass "GlyphPage$FontFile" = some m.cls := findClass_of_methodNamed B.named
  have hlocks := B.notSynchronized
  subst hsz
  have hD := hD0.self (sz := s.heap.size)
  generalize hAe : va_A [(o, .inr (7, [.ref o_bytes, .int o_length, .ref o_starts, .ref o_sizes, .ref o_glyphStarts, .int o_units, .int o_glyphs, .int o_ascent, .int o_descent, .int o_gap, .int o_longLoca, .int o_metrics, .int o_codes, .int o_codesSize, .int o_segments, .int o_pairs])), (o_bytes, .inl (cy 1, 4096, .inl o_bytes_f)), (o_starts, .inl (cy 0, 8, .inl o_starts_f)), (o_sizes, .inl (cy 0, 8, .inl o_sizes_f)), (o_glyphStarts, .inl (cy 0, 65, .inl o_glyphStarts_f))] s.heap.size = A at hD ⊢
  have hA : ∀ q : Nat, s.heap.size ≤ q → A q := fun q h => by rw [← hAe]; exact Or.inr h
  have hS : va_S A s.heap s.heap [] := va_S.rf
  have hl := lv_entry ([.ref o, .long a1]) (n := 4) (Nat.le_of_ble_eq_true rfl)
  rw [lg_entry_eq]
  generalize (lg_sl ([.ref o, .long a1]) ++ List.replicate (4 - (lg_sl ([.ref o, .long a1])).length) Slot.unset).toArray = ls at hl ⊢
  have hl : lv_has ls 4 [(0, .ref o), (1, .long a1)] := hl
  have C0 : Cx p s m _ meth c A dC dI cy b_Ff_readCodes 4 (some .boolean) "GlyphPage$FontFile" := ⟨hx, hb, hr, hlocks, hml, hown, htsG, hA, hK⟩
  unfold P_Ff_readCodes at h
  refine lv_lload_n hx hb d_Ff_readCodes_0 rfl (lv_at hl 1 rfl) ?_
  refine lv_ldc2 hx hb hown (htsG _ mW434) d_Ff_readCodes_1 ?_
  refine lv_ladd hx hb d_Ff_readCodes_4 ?_
  refine lv_aload_n hx hb d_Ff_readCodes_5 rfl (lv_at hl 0 rfl) ?_
  refine va_get (D := (dC, dI)) (ci := 7) (v := .ref o_sizes) (C := "GlyphPage$FontFile") (T := F_Ff) (N := 16) hx hb htsG iG_Ff hown hK hP 0 rfl rfl 3 (by decide) (htsG _ mW304) (fun _ h9 => h9) rfl d_Ff_readCodes_6 ?_
  refine lv_iconst (v := (0 : Int32)) hx hb d_Ff_readCodes_9 (by decide) ?_
  obtain ⟨hin_1, h⟩ := bd_some h
  refine va_iald hx hb hK hP 3 0 rfl rfl hin_1 d_Ff_readCodes_10 ?_
  refine lv_i2l hx hb d_Ff_readCodes_11 rfl ?_
  refine W.lcmp hx hb d_Ff_readCodes_12 ?_
  refine lv_if_le (tgt := 18) hx hb d_Ff_readCodes_13 (by decide) (fun c_2 => ?_) (fun c_2 => ?_)
  · replace h := (if_pos c_2).symm.trans h
    refine lv_aload_n hx hb d_Ff_readCodes_18 rfl (lv_at hl 0 rfl) ?_
    refine lv_aload_n hx hb d_Ff_readCodes_19 rfl (lv_at hl 0 rfl) ?_
    refine va_get (D := (dC, dI)) (ci := 7) (v := .ref o_starts) (C := "GlyphPage$FontFile") (T := F_Ff) (N := 16) hx hb htsG iG_Ff hown hK hP 0 rfl rfl 2 (by decide) (htsG _ mW303) (fun _ h9 => h9) rfl d_Ff_readCodes_20 ?_
    refine lv_iconst (v := (0 : Int32)) hx hb d_Ff_readCodes_23 (by decide) ?_
    obtain ⟨hin_3, h⟩ := bd_some h
    refine va_iald hx hb hK hP 2 0 rfl rfl hin_3 d_Ff_readCodes_24 ?_
    refine lv_lload_n hx hb d_Ff_readCodes_25 rfl (lv_at hl 1 rfl) ?_
    refine lv_l2i hx hb d_Ff_readCodes_26 rfl ?_
    refine lv_iadd hx hb d_Ff_readCodes_27 ?_
    refine va_put (D := (dC, dI)) (ci := 7) (v := .int ((o_starts_f (0 : Int32).toNatClampNeg) + (a1.toInt32))) (ty := .int) (C := "GlyphPage$FontFile") (T := F_Ff) (N := 16) hx hb htsG iG_Ff t_Ff t_Ff_ok n_Ff hown hK hP hD hS 0 rfl rfl 12 (by decide) (htsG _ mW320) (fun _ h9 => h9) rfl (by decide +kernel) rfl rfl (Nat.le_of_ble_eq_true rfl) d_Ff_readCodes_28 (fun H locs hP hD hS => ?_)
    have hP : va_P (dC, dI) classes [(o, .inr (7, [.ref o_bytes, .int o_length, .ref o_starts, .ref o_sizes, .ref o_glyphStarts, .int o_units, .int o_glyphs, .int o_ascent, .int o_descent, .int o_gap, .int o_longLoca, .int o_metrics, .int ((o_starts_f (0 : Int32).toNatClampNeg) + (a1.toInt32)), .int o_codesSize, .int o_segments, .int o_pairs])), (o_bytes, .inl (cy 1, 4096, .inl o_bytes_f)), (o_starts, .inl (cy 0, 8, .inl o_starts_f)), (o_sizes, .inl (cy 0, 8, .inl o_sizes_f)), (o_glyphStarts, .inl (cy 0, 65, .inl o_glyphStarts_f))] H := hP
    have hD : va_D A [(o, .inr (7, [.ref o_bytes, .int o_length, .ref o_starts, .ref o_sizes, .ref o_glyphStarts, .int o_units, .int o_glyphs, .int o_ascent, .int o_descent, .int o_gap, .int o_longLoca, .int o_metrics, .int ((o_starts_f (0 : Int32).toNatClampNeg) + (a1.toInt32)), .int o_codesSize, .int o_segments, .int o_pairs])), (o_bytes, .inl (cy 1, 4096, .inl o_bytes_f)), (o_starts, .inl (cy 0, 8, .inl o_starts_f)), (o_sizes, .inl (cy 0, 8, .inl o_sizes_f)), (o_glyphStarts, .inl (cy 0, 65, .inl o_glyphStarts_f))] := hD
    refine lv_aload_n hx hb d_Ff_readCodes_31 rfl (lv_at hl 0 rfl) ?_
    refine lv_aload_n hx hb d_Ff_readCodes_32 rfl (lv_at hl 0 rfl) ?_
    refine lv_aload_n hx hb d_Ff_readCodes_33 rfl (lv_at hl 0 rfl) ?_
    refine va_get (D := (dC, dI)) (ci := 7) (v := .int ((o_starts_f (0 : Int32).toNatClampNeg) + (a1.toInt32))) (C := "GlyphPage$FontFile") (T := F_Ff) (N := 16) hx hb htsG iG_Ff hown hK hP 0 rfl rfl 12 (by decide) (htsG _ mW320) (fun _ h9 => h9) rfl d_Ff_readCodes_34 ?_
    refine lv_iconst (v := (2 : Int32)) hx hb d_Ff_readCodes_37 (by decide) ?_
    refine lv_iadd hx hb d_Ff_readCodes_38 ?_
    obtain ⟨r_4, hq, h⟩ := Option.bind_eq_some_iff.mp h
    try dsimp only at h
    have hPc := hP.sub (ws' := [(o, .inr (7, [.ref o_bytes, .int o_length, .ref o_starts, .ref o_sizes, .ref o_glyphStarts, .int o_units, .int o_glyphs, .int o_ascent, .int o_descent, .int o_gap, .int o_longLoca, .int o_metrics, .int ((o_starts_f (0 : Int32).toNatClampNeg) + (a1.toInt32)), .int o_codesSize, .int o_segments, .int o_pairs])), (o_bytes, .inl (cy 1, 4096, .inl o_bytes_f)), (o_starts, .inl (cy 0, 8, .inl o_starts_f)), (o_sizes, .inl (cy 0, 8, .inl o_sizes_f)), (o_glyphStarts, .inl (cy 0, 65, .inl o_glyphStarts_f))]) [0, 1, 2, 3, 4] rfl
    have hDc := hD.sub (ws' := [(o, .inr (7, [.ref o_bytes, .int o_length, .ref o_starts, .ref o_sizes, .ref o_glyphStarts, .int o_units, .int o_glyphs, .int o_ascent, .int o_descent, .int o_gap, .int o_longLoca, .int o_metrics, .int ((o_starts_f (0 : Int32).toNatClampNeg) + (a1.toInt32)), .int o_codesSize, .int o_segments, .int o_pairs])), (o_bytes, .inl (cy 1, 4096, .inl o_bytes_f)), (o_starts, .inl (cy 0, 8, .inl o_starts_f)), (o_sizes, .inl (cy 0, 8, .inl o_sizes_f)), (o_glyphStarts, .inl (cy 0, 65, .inl o_glyphStarts_f))]) [0, 1, 2, 3, 4] (by decide) rfl
    have hFc := va_free (wc := [(o, .inr (7, [.ref o_bytes, .int o_length, .ref o_starts, .ref o_sizes, .ref o_glyphStarts, .int o_units, .int o_glyphs, .int o_ascent, .int o_descent, .int o_gap, .int o_longLoca, .int o_metrics, .int ((o_starts_f (0 : Int32).toNatClampNeg) + (a1.toInt32)), .int o_codesSize, .int o_segments, .int o_pairs])), (o_bytes, .inl (cy 1, 4096, .inl o_bytes_f)), (o_starts, .inl (cy 0, 8, .inl o_starts_f)), (o_sizes, .inl (cy 0, 8, .inl o_sizes_f)), (o_glyphStarts, .inl (cy 0, 65, .inl o_glyphStarts_f))]) hD hS hA [0, 1, 2, 3, 4] rfl
    refine va_calli (va_runV (As := [.int (((o_starts_f (0 : Int32).toNatClampNeg) + (a1.toInt32)) + (2 : Int32))]) (rest := [.ref o]) ⟨hx, hb, hml, hown, htsG⟩ (c_Ff_twoAt l dC dI cy H.size o o_bytes o_starts o_sizes o_glyphStarts o_length o_units o_glyphs o_ascent o_descent o_gap o_longLoca o_metrics ((o_starts_f (0 : Int32).toNatClampNeg) + (a1.toInt32)) o_codesSize o_segments o_pairs o_bytes_f o_starts_f o_sizes_f o_glyphStarts_f (((o_starts_f (0 : Int32).toNatClampNeg) + (a1.toInt32)) + (2 : Int32)) r_4 hq) (cwV 1 htsG (gV mW365 mW367 mS_Ff_twoAt mW11 mW368) rfl rfl rfl (by decide +kernel) ⟨Nat.le_of_ble_eq_true rfl, Nat.le_of_ble_eq_true rfl⟩) ⟨fun a U g mk q => by obtain ⟨q0, q1, qP, qK, qD⟩ := q; exact ⟨q0, q1, qP, va_K.moved (u := U) (U := U.calling g mk a) (Vm.Alike.refl U.vm) qK, qD⟩, va_recv hK hPc (ci := 7) (q0 := 0) rfl rfl, fun U hU hW => ⟨rfl, by rw [hU], by rw [hU]; exact hPc, va_K.moved hW.alike hK, hDc.weaken (fun _ _ _ _ => trivial)⟩⟩ rfl rfl hl.1 rfl (lv_room (Nat.le_of_ble_eq_true rfl)) d_Ff_readCodes_39 ⟨Nat.le_of_ble_eq_true rfl, Nat.le_of_ble_eq_true rfl⟩) hS (fun q _ h => hFc q h) hFc (fun rr u t H1 locs ht hvm hw hB hz1 hk1 hS => ?_)
    obtain ⟨hP1, hK1, hD1⟩ := hB
    rw [ht] at hP1
    replace hw : r_4 = rr := hw.symm
    subst hw
    obtain ⟨hP, hD⟩ := va_join (wr := []) (w1 := [(o, .inr (7, [.ref o_bytes, .int o_length, .ref o_starts, .ref o_sizes, .ref o_glyphStarts, .int o_units, .int o_glyphs, .int o_ascent, .int o_descent, .int o_gap, .int o_longLoca, .int o_metrics, .int ((o_starts_f (0 : Int32).toNatClampNeg) + (a1.toInt32)), .int o_codesSize, .int o_segments, .int o_pairs])), (o_bytes, .inl (cy 1, 4096, .inl o_bytes_f)), (o_starts, .inl (cy 0, 8, .inl o_starts_f)), (o_sizes, .inl (cy 0, 8, .inl o_sizes_f)), (o_glyphStarts, .inl (cy 0, 65, .inl o_glyphStarts_f))]) hP hD [0, 1, 2, 3, 4] [] rfl rfl (by decide) (by decide) hk1 hFc hP1 hD1
    generalize H1 = H at hP hS ⊢
    have hP := hP.sub (ws' := [(o, .inr (7, [.ref o_bytes, .int o_length, .ref o_starts, .ref o_sizes, .ref o_glyphStarts, .int o_units, .int o_glyphs, .int o_ascent, .int o_descent, .int o_gap, .int o_longLoca, .int o_metrics, .int ((o_starts_f (0 : Int32).toNatClampNeg) + (a1.toInt32)), .int o_codesSize, .int o_segments, .int o_pairs])), (o_bytes, .inl (cy 1, 4096, .inl o_bytes_f)), (o_starts, .inl (cy 0, 8, .inl o_starts_f)), (o_sizes, .inl (cy 0, 8, .inl o_sizes_f)), (o_glyphStarts, .inl (cy 0, 65, .inl o_glyphStarts_f))]) [0, 1, 2, 3, 4] rfl
    have hD := hD.sub (ws' := [(o, .inr (7, [.ref o_bytes, .int o_length, .ref o_starts, .ref o_sizes, .ref o_glyphStarts, .int o_units, .int o_glyphs, .int o_ascent, .int o_descent, .int o_gap, .int o_longLoca, .int o_metrics, .int ((o_starts_f (0 : Int32).toNatClampNeg) + (a1.toInt32)), .int o_codesSize, .int o_segments, .int o_pairs])), (o_bytes, .inl (cy 1, 4096, .inl o_bytes_f)), (o_starts, .inl (cy 0, 8, .inl o_starts_f)), (o_sizes, .inl (cy 0, 8, .inl o_sizes_f)), (o_glyphStarts, .inl (cy 0, 65, .inl o_glyphStarts_f))]) [0, 1, 2, 3, 4] (by decide) rfl
    refine W.widen (k := 0) (n := 0) (by decide) (by decide) ?_
    refine va_put (D := (dC, dI)) (ci := 7) (v := .int r_4) (ty := .int) (C := "GlyphPage$FontFile") (T := F_Ff) (N := 16) hx hb htsG iG_Ff t_Ff t_Ff_ok n_Ff hown hK hP hD hS 0 rfl rfl 13 (by decide) (htsG _ mW321) (fun _ h9 => h9) rfl (by decide +kernel) rfl rfl (Nat.le_of_ble_eq_true rfl) d_Ff_readCodes_42 (fun H locs hP hD hS => ?_)
    have hP : va_P (dC, dI) classes [(o, .inr (7, [.ref o_bytes, .int o_length, .ref o_starts, .ref o_sizes, .ref o_glyphStarts, .int o_units, .int o_glyphs, .int o_ascent, .int o_descent, .int o_gap, .int o_longLoca, .int o_metrics, .int ((o_starts_f (0 : Int32).toNatClampNeg) + (a1.toInt32)), .int r_4, .int o_segments, .int o_pairs])), (o_bytes, .inl (cy 1, 4096, .inl o_bytes_f)), (o_starts, .inl (cy 0, 8, .inl o_starts_f)), (o_sizes, .inl (cy 0, 8, .inl o_sizes_f)), (o_glyphStarts, .inl (cy 0, 65, .inl o_glyphStarts_f))] H := hP
    have hD : va_D A [(o, .inr (7, [.ref o_bytes, .int o_length, .ref o_starts, .ref o_sizes, .ref o_glyphStarts, .int o_units, .int o_glyphs, .int o_ascent, .int o_descent, .int o_gap, .int o_longLoca, .int o_metrics, .int ((o_starts_f (0 : Int32).toNatClampNeg) + (a1.toInt32)), .int r_4, .int o_segments, .int o_pairs])), (o_bytes, .inl (cy 1, 4096, .inl o_bytes_f)), (o_starts, .inl (cy 0, 8, .inl o_starts_f)), (o_sizes, .inl (cy 0, 8, .inl o_sizes_f)), (o_glyphStarts, .inl (cy 0, 65, .inl o_glyphStarts_f))] := hD
    refine lv_aload_n hx hb d_Ff_readCodes_45 rfl (lv_at hl 0 rfl) ?_
    refine lv_aload_n hx hb d_Ff_readCodes_46 rfl (lv_at hl 0 rfl) ?_
    refine va_get (D := (dC, dI)) (ci := 7) (v := .int ((o_starts_f (0 : Int32).toNatClampNeg) + (a1.toInt32))) (C := "GlyphPage$FontFile") (T := F_Ff) (N := 16) hx hb htsG iG_Ff hown hK hP 0 rfl rfl 12 (by decide) (htsG _ mW320) (fun _ h9 => h9) rfl d_Ff_readCodes_47 ?_
    refine lv_bipush (v := (6 : Int32)) hx hb d_Ff_readCodes_50 (by decide) ?_
    refine lv_iadd hx hb d_Ff_readCodes_52 ?_
    obtain ⟨r_5, hq, h⟩ := Option.bind_eq_some_iff.mp h
    try dsimp only at h
    have hPc := hP.sub (ws' := [(o, .inr (7, [.ref o_bytes, .int o_length, .ref o_starts, .ref o_sizes, .ref o_glyphStarts, .int o_units, .int o_glyphs, .int o_ascent, .int o_descent, .int o_gap, .int o_longLoca, .int o_metrics, .int ((o_starts_f (0 : Int32).toNatClampNeg) + (a1.toInt32)), .int r_4, .int o_segments, .int o_pairs])), (o_bytes, .inl (cy 1, 4096, .inl o_bytes_f)), (o_starts, .inl (cy 0, 8, .inl o_starts_f)), (o_sizes, .inl (cy 0, 8, .inl o_sizes_f)), (o_glyphStarts, .inl (cy 0, 65, .inl o_glyphStarts_f))]) [0, 1, 2, 3, 4] rfl
    have hDc := hD.sub (ws' := [(o, .inr (7, [.ref o_bytes, .int o_length, .ref o_starts, .ref o_sizes, .ref o_glyphStarts, .int o_units, .int o_glyphs, .int o_ascent, .int o_descent, .int o_gap, .int o_longLoca, .int o_metrics, .int ((o_starts_f (0 : Int32).toNatClampNeg) + (a1.toInt32)), .int r_4, .int o_segments, .int o_pairs])), (o_bytes, .inl (cy 1, 4096, .inl o_bytes_f)), (o_starts, .inl (cy 0, 8, .inl o_starts_f)), (o_sizes, .inl (cy 0, 8, .inl o_sizes_f)), (o_glyphStarts, .inl (cy 0, 65, .inl o_glyphStarts_f))]) [0, 1, 2, 3, 4] (by decide) rfl
    have hFc := va_free (wc := [(o, .inr (7, [.ref o_bytes, .int o_length, .ref o_starts, .ref o_sizes, .ref o_glyphStarts, .int o_units, .int o_glyphs, .int o_ascent, .int o_descent, .int o_gap, .int o_longLoca, .int o_metrics, .int ((o_starts_f (0 : Int32).toNatClampNeg) + (a1.toInt32)), .int r_4, .int o_segments, .int o_pairs])), (o_bytes, .inl (cy 1, 4096, .inl o_bytes_f)), (o_starts, .inl (cy 0, 8, .inl o_starts_f)), (o_sizes, .inl (cy 0, 8, .inl o_sizes_f)), (o_glyphStarts, .inl (cy 0, 65, .inl o_glyphStarts_f))]) hD hS hA [0, 1, 2, 3, 4] rfl
    refine va_calli (va_runV (As := [.int (((o_starts_f (0 : Int32).toNatClampNeg) + (a1.toInt32)) + (6 : Int32))]) (rest := []) ⟨hx, hb, hml, hown, htsG⟩ (c_Ff_twoAt l dC dI cy H.size o o_bytes o_starts o_sizes o_glyphStarts o_length o_units o_glyphs o_ascent o_descent o_gap o_longLoca o_metrics ((o_starts_f (0 : Int32).toNatClampNeg) + (a1.toInt32)) r_4 o_segments o_pairs o_bytes_f o_starts_f o_sizes_f o_glyphStarts_f (((o_starts_f (0 : Int32).toNatClampNeg) + (a1.toInt32)) + (6 : Int32)) r_5 hq) (cwV 1 htsG (gV mW365 mW367 mS_Ff_twoAt mW11 mW368) rfl rfl rfl (by decide +kernel) ⟨Nat.le_of_ble_eq_true rfl, Nat.le_of_ble_eq_true rfl⟩) ⟨fun a U g mk q => by obtain ⟨q0, q1, qP, qK, qD⟩ := q; exact ⟨q0, q1, qP, va_K.moved (u := U) (U := U.calling g mk a) (Vm.Alike.refl U.vm) qK, qD⟩, va_recv hK hPc (ci := 7) (q0 := 0) rfl rfl, fun U hU hW => ⟨rfl, by rw [hU], by rw [hU]; exact hPc, va_K.moved hW.alike hK, hDc.weaken (fun _ _ _ _ => trivial)⟩⟩ rfl rfl hl.1 rfl (lv_room (Nat.le_of_ble_eq_true rfl)) d_Ff_readCodes_53 ⟨Nat.le_of_ble_eq_true rfl, Nat.le_of_ble_eq_true rfl⟩) hS (fun q _ h => hFc q h) hFc (fun rr u t H1 locs ht hvm hw hB hz1 hk1 hS => ?_)
    obtain ⟨hP1, hK1, hD1⟩ := hB
    rw [ht] at hP1
    replace hw : r_5 = rr := hw.symm
    subst hw
    obtain ⟨hP, hD⟩ := va_join (wr := []) (w1 := [(o, .inr (7, [.ref o_bytes, .int o_length, .ref o_starts, .ref o_sizes, .ref o_glyphStarts, .int o_units, .int o_glyphs, .int o_ascent, .int o_descent, .int o_gap, .int o_longLoca, .int o_metrics, .int ((o_starts_f (0 : Int32).toNatClampNeg) + (a1.toInt32)), .int r_4, .int o_segments, .int o_pairs])), (o_bytes, .inl (cy 1, 4096, .inl o_bytes_f)), (o_starts, .inl (cy 0, 8, .inl o_starts_f)), (o_sizes, .inl (cy 0, 8, .inl o_sizes_f)), (o_glyphStarts, .inl (cy 0, 65, .inl o_glyphStarts_f))]) hP hD [0, 1, 2, 3, 4] [] rfl rfl (by decide) (by decide) hk1 hFc hP1 hD1
    generalize H1 = H at hP hS ⊢
    have hP := hP.sub (ws' := [(o, .inr (7, [.ref o_bytes, .int o_length, .ref o_starts, .ref o_sizes, .ref o_glyphStarts, .int o_units, .int o_glyphs, .int o_ascent, .int o_descent, .int o_gap, .int o_longLoca, .int o_metrics, .int ((o_starts_f (0 : Int32).toNatClampNeg) + (a1.toInt32)), .int r_4, .int o_segments, .int o_pairs])), (o_bytes, .inl (cy 1, 4096, .inl o_bytes_f)), (o_starts, .inl (cy 0, 8, .inl o_starts_f)), (o_sizes, .inl (cy 0, 8, .inl o_sizes_f)), (o_glyphStarts, .inl (cy 0, 65, .inl o_glyphStarts_f))]) [0, 1, 2, 3, 4] rfl
    have hD := hD.sub (ws' := [(o, .inr (7, [.ref o_bytes, .int o_length, .ref o_starts, .ref o_sizes, .ref o_glyphStarts, .int o_units, .int o_glyphs, .int o_ascent, .int o_descent, .int o_gap, .int o_longLoca, .int o_metrics, .int ((o_starts_f (0 : Int32).toNatClampNeg) + (a1.toInt32)), .int r_4, .int o_segments, .int o_pairs])), (o_bytes, .inl (cy 1, 4096, .inl o_bytes_f)), (o_starts, .inl (cy 0, 8, .inl o_starts_f)), (o_sizes, .inl (cy 0, 8, .inl o_sizes_f)), (o_glyphStarts, .inl (cy 0, 65, .inl o_glyphStarts_f))]) [0, 1, 2, 3, 4] (by decide) rfl
    refine W.widen (k := 0) (n := 0) (by decide) (by decide) ?_
    refine lv_istore_n (lv' := [(3, .int r_5), (0, .ref o), (1, .long a1)]) hx hb d_Ff_readCodes_56 rfl hl (by decide) rfl (fun ls hl => ?_)
    refine lv_aload_n hx hb d_Ff_readCodes_57 rfl (lv_at hl 1 rfl) ?_
    refine lv_iload_n hx hb d_Ff_readCodes_58 rfl (lv_at hl 0 rfl) ?_
    refine lv_iconst (v := (2 : Int32)) hx hb d_Ff_readCodes_59 (by decide) ?_
    refine lv_idiv hx hb d_Ff_readCodes_60 (by decide) ?_
    refine va_put (D := (dC, dI)) (ci := 7) (v := .int (r_5 / (2 : Int32))) (ty := .int) (C := "GlyphPage$FontFile") (T := F_Ff) (N := 16) hx hb htsG iG_Ff t_Ff t_Ff_ok n_Ff hown hK hP hD hS 0 rfl rfl 14 (by decide) (htsG _ mW322) (fun _ h9 => h9) rfl (by decide +kernel) rfl rfl (Nat.le_of_ble_eq_true rfl) d_Ff_readCodes_61 (fun H locs hP hD hS => ?_)
    have hP : va_P (dC, dI) classes [(o, .inr (7, [.ref o_bytes, .int o_length, .ref o_starts, .ref o_sizes, .ref o_glyphStarts, .int o_units, .int o_glyphs, .int o_ascent, .int o_descent, .int o_gap, .int o_longLoca, .int o_metrics, .int ((o_starts_f (0 : Int32).toNatClampNeg) + (a1.toInt32)), .int r_4, .int (r_5 / (2 : Int32)), .int o_pairs])), (o_bytes, .inl (cy 1, 4096, .inl o_bytes_f)), (o_starts, .inl (cy 0, 8, .inl o_starts_f)), (o_sizes, .inl (cy 0, 8, .inl o_sizes_f)), (o_glyphStarts, .inl (cy 0, 65, .inl o_glyphStarts_f))] H := hP
    have hD : va_D A [(o, .inr (7, [.ref o_bytes, .int o_length, .ref o_starts, .ref o_sizes, .ref o_glyphStarts, .int o_units, .int o_glyphs, .int o_ascent, .int o_descent, .int o_gap, .int o_longLoca, .int o_metrics, .int ((o_starts_f (0 : Int32).toNatClampNeg) + (a1.toInt32)), .int r_4, .int (r_5 / (2 : Int32)), .int o_pairs])), (o_bytes, .inl (cy 1, 4096, .inl o_bytes_f)), (o_starts, .inl (cy 0, 8, .inl o_starts_f)), (o_sizes, .inl (cy 0, 8, .inl o_sizes_f)), (o_glyphStarts, .inl (cy 0, 65, .inl o_glyphStarts_f))] := hD
    refine lv_aload_n hx hb d_Ff_readCodes_64 rfl (lv_at hl 1 rfl) ?_
    refine lv_aload_n hx hb d_Ff_readCodes_65 rfl (lv_at hl 1 rfl) ?_
    refine va_get (D := (dC, dI)) (ci := 7) (v := .int ((o_starts_f (0 : Int32).toNatClampNeg) + (a1.toInt32))) (C := "GlyphPage$FontFile") (T := F_Ff) (N := 16) hx hb htsG iG_Ff hown hK hP 0 rfl rfl 12 (by decide) (htsG _ mW320) (fun _ h9 => h9) rfl d_Ff_readCodes_66 ?_
    obtain ⟨r_6, hq, h⟩ := Option.bind_eq_some_iff.mp h
    try dsimp only at h
    have hPc := hP.sub (ws' := [(o, .inr (7, [.ref o_bytes, .int o_length, .ref o_starts, .ref o_sizes, .ref o_glyphStarts, .int o_units, .int o_glyphs, .int o_ascent, .int o_descent, .int o_gap, .int o_longLoca, .int o_metrics, .int ((o_starts_f (0 : Int32).toNatClampNeg) + (a1.toInt32)), .int r_4, .int (r_5 / (2 : Int32)), .int o_pairs])), (o_bytes, .inl (cy 1, 4096, .inl o_bytes_f)), (o_starts, .inl (cy 0, 8, .inl o_starts_f)), (o_sizes, .inl (cy 0, 8, .inl o_sizes_f)), (o_glyphStarts, .inl (cy 0, 65, .inl o_glyphStarts_f))]) [0, 1, 2, 3, 4] rfl
    have hDc := hD.sub (ws' := [(o, .inr (7, [.ref o_bytes, .int o_length, .ref o_starts, .ref o_sizes, .ref o_glyphStarts, .int o_units, .int o_glyphs, .int o_ascent, .int o_descent, .int o_gap, .int o_longLoca, .int o_metrics, .int ((o_starts_f (0 : Int32).toNatClampNeg) + (a1.toInt32)), .int r_4, .int (r_5 / (2 : Int32)), .int o_pairs])), (o_bytes, .inl (cy 1, 4096, .inl o_bytes_f)), (o_starts, .inl (cy 0, 8, .inl o_starts_f)), (o_sizes, .inl (cy 0, 8, .inl o_sizes_f)), (o_glyphStarts, .inl (cy 0, 65, .inl o_glyphStarts_f))]) [0, 1, 2, 3, 4] (by decide) rfl
    have hFc := va_free (wc := [(o, .inr (7, [.ref o_bytes, .int o_length, .ref o_starts, .ref o_sizes, .ref o_glyphStarts, .int o_units, .int o_glyphs, .int o_ascent, .int o_descent, .int o_gap, .int o_longLoca, .int o_metrics, .int ((o_starts_f (0 : Int32).toNatClampNeg) + (a1.toInt32)), .int r_4, .int (r_5 / (2 : Int32)), .int o_pairs])), (o_bytes, .inl (cy 1, 4096, .inl o_bytes_f)), (o_starts, .inl (cy 0, 8, .inl o_starts_f)), (o_sizes, .inl (cy 0, 8, .inl o_sizes_f)), (o_glyphStarts, .inl (cy 0, 65, .inl o_glyphStarts_f))]) hD hS hA [0, 1, 2, 3, 4] rfl
    refine va_calli (va_runV (As := [.int ((o_starts_f (0 : Int32).toNatClampNeg) + (a1.toInt32))]) (rest := []) ⟨hx, hb, hml, hown, htsG⟩ (c_Ff_twoAt l dC dI cy H.size o o_bytes o_starts o_sizes o_glyphStarts o_length o_units o_glyphs o_ascent o_descent o_gap o_longLoca o_metrics ((o_starts_f (0 : Int32).toNatClampNeg) + (a1.toInt32)) r_4 (r_5 / (2 : Int32)) o_pairs o_bytes_f o_starts_f o_sizes_f o_glyphStarts_f ((o_starts_f (0 : Int32).toNatClampNeg) + (a1.toInt32)) r_6 hq) (cwV 1 htsG (gV mW365 mW367 mS_Ff_twoAt mW11 mW368) rfl rfl rfl (by decide +kernel) ⟨Nat.le_of_ble_eq_true rfl, Nat.le_of_ble_eq_true rfl⟩) ⟨fun a U g mk q => by obtain ⟨q0, q1, qP, qK, qD⟩ := q; exact ⟨q0, q1, qP, va_K.moved (u := U) (U := U.calling g mk a) (Vm.Alike.refl U.vm) qK, qD⟩, va_recv hK hPc (ci := 7) (q0 := 0) rfl rfl, fun U hU hW => ⟨rfl, by rw [hU], by rw [hU]; exact hPc, va_K.moved hW.alike hK, hDc.weaken (fun _ _ _ _ => trivial)⟩⟩ rfl rfl hl.1 rfl (lv_room (Nat.le_of_ble_eq_true rfl)) d_Ff_readCodes_69 ⟨Nat.le_of_ble_eq_true rfl, Nat.le_of_ble_eq_true rfl⟩) hS (fun q _ h => hFc q h) hFc (fun rr u t H1 locs ht hvm hw hB hz1 hk1 hS => ?_)
    obtain ⟨hP1, hK1, hD1⟩ := hB
    rw [ht] at hP1
    replace hw : r_6 = rr := hw.symm
    subst hw
    obtain ⟨hP, hD⟩ := va_join (wr := []) (w1 := [(o, .inr (7, [.ref o_bytes, .int o_length, .ref o_starts, .ref o_sizes, .ref o_glyphStarts, .int o_units, .int o_glyphs, .int o_ascent, .int o_descent, .int o_gap, .int o_longLoca, .int o_metrics, .int ((o_starts_f (0 : Int32).toNatClampNeg) + (a1.toInt32)), .int r_4, .int (r_5 / (2 : Int32)), .int o_pairs])), (o_bytes, .inl (cy 1, 4096, .inl o_bytes_f)), (o_starts, .inl (cy 0, 8, .inl o_starts_f)), (o_sizes, .inl (cy 0, 8, .inl o_sizes_f)), (o_glyphStarts, .inl (cy 0, 65, .inl o_glyphStarts_f))]) hP hD [0, 1, 2, 3, 4] [] rfl rfl (by decide) (by decide) hk1 hFc hP1 hD1
    generalize H1 = H at hP hS ⊢
    have hP := hP.sub (ws' := [(o, .inr (7, [.ref o_bytes, .int o_length, .ref o_starts, .ref o_sizes, .ref o_glyphStarts, .int o_units, .int o_glyphs, .int o_ascent, .int o_descent, .int o_gap, .int o_longLoca, .int o_metrics, .int ((o_starts_f (0 : Int32).toNatClampNeg) + (a1.toInt32)), .int r_4, .int (r_5 / (2 : Int32)), .int o_pairs])), (o_bytes, .inl (cy 1, 4096, .inl o_bytes_f)), (o_starts, .inl (cy 0, 8, .inl o_starts_f)), (o_sizes, .inl (cy 0, 8, .inl o_sizes_f)), (o_glyphStarts, .inl (cy 0, 65, .inl o_glyphStarts_f))]) [0, 1, 2, 3, 4] rfl
    have hD := hD.sub (ws' := [(o, .inr (7, [.ref o_bytes, .int o_length, .ref o_starts, .ref o_sizes, .ref o_glyphStarts, .int o_units, .int o_glyphs, .int o_ascent, .int o_descent, .int o_gap, .int o_longLoca, .int o_metrics, .int ((o_starts_f (0 : Int32).toNatClampNeg) + (a1.toInt32)), .int r_4, .int (r_5 / (2 : Int32)), .int o_pairs])), (o_bytes, .inl (cy 1, 4096, .inl o_bytes_f)), (o_starts, .inl (cy 0, 8, .inl o_starts_f)), (o_sizes, .inl (cy 0, 8, .inl o_sizes_f)), (o_glyphStarts, .inl (cy 0, 65, .inl o_glyphStarts_f))]) [0, 1, 2, 3, 4] (by decide) rfl
    refine W.widen (k := 0) (n := 0) (by decide) (by decide) ?_
    refine lv_iconst (v := (4 : Int32)) hx hb d_Ff_readCodes_72 (by decide) ?_
    refine lv_icmp_ne (tgt := 129) hx hb d_Ff_readCodes_73 (by decide) (fun c_7 => ?_) (fun c_7 => ?_)
    · replace h := (if_neg c_7).symm.trans h
      refine lv_iconst (v := (0 : Int32)) hx hb d_Ff_readCodes_129 (by decide) ?_
      cases h
      exact W.zret (ty := .boolean) hx hb hr rfl (fun t ht hW => ⟨⟨_, (), rfl, rfl, by rw [ht]; exact hP, va_K.moved hW.alike hK, hD⟩, hS.F ht⟩) hS.2.2 d_Ff_readCodes_130 hlocks
    · replace h := (if_pos c_7).symm.trans h
      refine lv_lload_n hx hb d_Ff_readCodes_76 rfl (lv_at hl 2 rfl) ?_
      refine lv_aload_n hx hb d_Ff_readCodes_77 rfl (lv_at hl 1 rfl) ?_
      refine va_get (D := (dC, dI)) (ci := 7) (v := .int r_4) (C := "GlyphPage$FontFile") (T := F_Ff) (N := 16) hx hb htsG iG_Ff hown hK hP 0 rfl rfl 13 (by decide) (htsG _ mW321) (fun _ h9 => h9) rfl d_Ff_readCodes_78 ?_
      refine lv_i2l hx hb d_Ff_readCodes_81 rfl ?_
      refine lv_ladd hx hb d_Ff_readCodes_82 ?_
      refine lv_aload_n hx hb d_Ff_readCodes_83 rfl (lv_at hl 1 rfl) ?_
      refine va_get (D := (dC, dI)) (ci := 7) (v := .ref o_sizes) (C := "GlyphPage$FontFile") (T := F_Ff) (N := 16) hx hb htsG iG_Ff hown hK hP 0 rfl rfl 3 (by decide) (htsG _ mW304) (fun _ h9 => h9) rfl d_Ff_readCodes_84 ?_
      refine lv_iconst (v := (0 : Int32)) hx hb d_Ff_readCodes_87 (by decide) ?_
      obtain ⟨hin_8, h⟩ := bd_some h
      refine va_iald hx hb hK hP 3 0 rfl rfl hin_8 d_Ff_readCodes_88 ?_
      refine lv_i2l hx hb d_Ff_readCodes_89 rfl ?_
      refine W.lcmp hx hb d_Ff_readCodes_90 ?_
      refine lv_if_gt (tgt := 129) hx hb d_Ff_readCodes_91 (by decide) (fun c_9 => ?_) (fun c_9 => ?_)
      · replace h := (if_pos c_9).symm.trans h
        refine lv_iconst (v := (0 : Int32)) hx hb d_Ff_readCodes_129 (by decide) ?_
        cases h
        exact W.zret (ty := .boolean) hx hb hr rfl (fun t ht hW => ⟨⟨_, (), rfl, rfl, by rw [ht]; exact hP, va_K.moved hW.alike hK, hD⟩, hS.F ht⟩) hS.2.2 d_Ff_readCodes_130 hlocks
      · replace h := (if_neg c_9).symm.trans h
        refine lv_iload_n hx hb d_Ff_readCodes_94 rfl (lv_at hl 0 rfl) ?_
        refine lv_iconst (v := (2 : Int32)) hx hb d_Ff_readCodes_95 (by decide) ?_
        refine lv_irem hx hb d_Ff_readCodes_96 (by decide) ?_
        refine lv_if_ne (tgt := 129) hx hb d_Ff_readCodes_97 (by decide) (fun c_10 => ?_) (fun c_10 => ?_)
        · replace h := (if_neg c_10).symm.trans h
          refine lv_iconst (v := (0 : Int32)) hx hb d_Ff_readCodes_129 (by decide) ?_
          cases h
          exact W.zret (ty := .boolean) hx hb hr rfl (fun t ht hW => ⟨⟨_, (), rfl, rfl, by rw [ht]; exact hP, va_K.moved hW.alike hK, hD⟩, hS.F ht⟩) hS.2.2 d_Ff_readCodes_130 hlocks
        · replace h := (if_pos c_10).symm.trans h
          refine lv_aload_n hx hb d_Ff_readCodes_100 rfl (lv_at hl 1 rfl) ?_
          refine va_get (D := (dC, dI)) (ci := 7) (v := .int (r_5 / (2 : Int32))) (C := "GlyphPage$FontFile") (T := F_Ff) (N := 16) hx hb htsG iG_Ff hown hK hP 0 rfl rfl 14 (by decide) (htsG _ mW322) (fun _ h9 => h9) rfl d_Ff_readCodes_101 ?_
          refine lv_iconst (v := (1 : Int32)) hx hb d_Ff_readCodes_104 (by decide) ?_
          refine lv_icmp_lt (tgt := 129) hx hb d_Ff_readCodes_105 (by decide) (fun c_11 => ?_) (fun c_11 => ?_)
          · replace h := (if_pos c_11).symm.trans h
            refine lv_iconst (v := (0 : Int32)) hx hb d_Ff_readCodes_129 (by decide) ?_
            cases h
            exact W.zret (ty := .boolean) hx hb hr rfl (fun t ht hW => ⟨⟨_, (), rfl, rfl, by rw [ht]; exact hP, va_K.moved hW.alike hK, hD⟩, hS.F ht⟩) hS.2.2 d_Ff_readCodes_130 hlocks
          · replace h := (if_neg c_11).symm.trans h
            refine lv_bipush (v := (16 : Int32)) hx hb d_Ff_readCodes_108 (by decide) ?_
            refine lv_bipush (v := (8 : Int32)) hx hb d_Ff_readCodes_110 (by decide) ?_
            refine lv_aload_n hx hb d_Ff_readCodes_112 rfl (lv_at hl 1 rfl) ?_
            refine va_get (D := (dC, dI)) (ci := 7) (v := .int (r_5 / (2 : Int32))) (C := "GlyphPage$FontFile") (T := F_Ff) (N := 16) hx hb htsG iG_Ff hown hK hP 0 rfl rfl 14 (by decide) (htsG _ mW322) (fun _ h9 => h9) rfl d_Ff_readCodes_113 ?_
            refine lv_imul hx hb d_Ff_readCodes_116 ?_
            refine lv_iadd hx hb d_Ff_readCodes_117 ?_
            refine lv_aload_n hx hb d_Ff_readCodes_118 rfl (lv_at hl 1 rfl) ?_
            refine va_get (D := (dC, dI)) (ci := 7) (v := .int r_4) (C := "GlyphPage$FontFile") (T := F_Ff) (N := 16) hx hb htsG iG_Ff hown hK hP 0 rfl rfl 13 (by decide) (htsG _ mW321) (fun _ h9 => h9) rfl d_Ff_readCodes_119 ?_
            refine lv_icmp_gt (tgt := 129) hx hb d_Ff_readCodes_122 (by decide) (fun c_12 => ?_) (fun c_12 => ?_)
            · replace h := (if_pos c_12).symm.trans h
              refine lv_iconst (v := (0 : Int32)) hx hb d_Ff_readCodes_129 (by decide) ?_
              cases h
              exact W.zret (ty := .boolean) hx hb hr rfl (fun t ht hW => ⟨⟨_, (), rfl, rfl, by rw [ht]; exact hP, va_K.moved hW.alike hK, hD⟩, hS.F ht⟩) hS.2.2 d_Ff_readCodes_130 hlocks
            · replace h := (if_neg c_12).symm.trans h
              refine lv_iconst (v := (1 : Int32)) hx hb d_Ff_readCodes_125 (by decide) ?_
              refine lv_goto (tgt := 130) hx hb d_Ff_readCodes_126 (by decide) ?_
              cases h
              exact W.zret (ty := .boolean) hx hb hr rfl (fun t ht hW => ⟨⟨_, (), rfl, rfl, by rw [ht]; exact hP, va_K.moved hW.alike hK, hD⟩, hS.F ht⟩) hS.2.2 d_Ff_readCodes_130 hlocks
  · replace h := (if_neg c_2).symm.trans h
    refine lv_iconst (v := (0 : Int32)) hx hb d_Ff_readCodes_16 (by decide) ?_
    cases h
    exact W.zret (ty := .boolean) hx hb hr rfl (fun t ht hW => ⟨⟨_, (), rfl, rfl, by rw [ht]; exact hP, va_K.moved hW.alike hK, hD⟩, hS.F ht⟩) hS.2.2 d_Ff_readCodes_17 hlocks
def P_Ff_readCmap_94 (o_length : Int32) (o_bytes_f : Nat → Int32) (o_starts_f : Nat → Int32) (o_sizes_f : Nat → Int32) (z44 : Int32 × Int32 × Int32 × Int32 × Int32 × Int32 → Option (Int32 × Int32 × Int32 × Int32)) (x1 : Int32) (x2 : Int32) (x3 : Int32) (o_codes : Int32) (o_codesSize : Int32) (o_segments : Int32) : Option (Int32 × Int32 × Int32 × Int32) :=
  z44 (x1, x2, (x3 + (1 : Int32)), o_codes, o_codesSize, o_segments)
set_option maxHeartbeats 4000000 in
set_option maxRecDepth 100000 in
theorem w_Ff_readCmap_94 (C0 : Cx p s m args meth c A dC dI cy b_Ff_readCmap 5 (some .boolean) "GlyphPage$FontFile") (o : Nat) (o_bytes : Nat) (o_starts : Nat) (o_sizes : Nat) (o_glyphStarts : Nat) (o_length : Int32) (o_units : Int32) (o_glyphs : Int32) (o_ascent : Int32) (o_descent : Int32) (o_gap : Int32) (o_longLoca : Int32) (o_metrics : Int32) (o_pairs : Int32) (o_bytes_f : Nat → Int32) (o_starts_f : Nat → Int32) (o_sizes_f : Nat → Int32) (o_glyphStarts_f : Nat → Int32) (uu : Int32 × Int32 × Int32 × Int32) (z44 : Int32 × Int32 × Int32 × Int32 × Int32 × Int32 → Option (Int32 × Int32 × Int32 × Int32)) (hz44 : ∀ (x1 : Int32) (x2 : Int32) (x3 : Int32) (o_codes : Int32) (o_codesSize : Int32) (o_segments : Int32) (H : Heap) (locs : List Loc) (ls : Array Slot), z44 (x1, x2, x3, o_codes, o_codesSize, o_segments) = some uu → va_P (dC, dI) classes [(o, .inr (7, [.ref o_bytes, .int o_length, .ref o_starts, .ref o_sizes, .ref o_glyphStarts, .int o_units, .int o_glyphs, .int o_ascent, .int o_descent, .int o_gap, .int o_longLoca, .int o_metrics, .int o_codes, .int o_codesSize, .int o_segments, .int o_pairs])), (o_bytes, .inl (cy 1, 4096, .inl o_bytes_f)), (o_starts, .inl (cy 0, 8, .inl o_starts_f)), (o_sizes, .inl (cy 0, 8, .inl o_sizes_f)), (o_glyphStarts, .inl (cy 0, 65, .inl o_glyphStarts_f))] H → va_D A [(o, .inr (7, [.ref o_bytes, .int o_length, .ref o_starts, .ref o_sizes, .ref o_glyphStarts, .int o_units, .int o_glyphs, .int o_ascent, .int o_descent, .int o_gap, .int o_longLoca, .int o_metrics, .int o_codes, .int o_codesSize, .int o_segments, .int o_pairs])), (o_bytes, .inl (cy 1, 4096, .inl o_bytes_f)), (o_starts, .inl (cy 0, 8, .inl o_starts_f)), (o_sizes, .inl (cy 0, 8, .inl o_sizes_f)), (o_glyphStarts, .inl (cy 0, 65, .inl o_glyphStarts_f))] → va_S A s.heap H locs → lv_has ls 5 [(0, .ref o), (1, .int x1), (2, .int x2), (3, .int x3)] → W p l e ({ frames := 2, cells := 0, slots := 0, locals := 44 } : Room) s m args below meth c H locs 0 0 (MQ below (va_Qi (fun r (_ : Unit) => r = uu.1) (fun _ t => va_P (dC, dI) classes [(o, .inr (7, [.ref o_bytes, .int o_length, .ref o_starts, .ref o_sizes, .ref o_glyphStarts, .int o_units, .int o_glyphs, .int o_ascent, .int o_descent, .int o_gap, .int o_longLoca, .int o_metrics, .int uu.2.1, .int uu.2.2.1, .int uu.2.2.2, .int o_pairs])), (o_bytes, .inl (cy 1, 4096, .inl o_bytes_f)), (o_starts, .inl (cy 0, 8, .inl o_starts_f)), (o_sizes, .inl (cy 0, 8, .inl o_sizes_f)), (o_glyphStarts, .inl (cy 0, 65, .inl o_glyphStarts_f))] t.heap ∧ va_K (dC, dI) classes (TY cy) t ∧ va_D A [(o, .inr (7, [.ref o_bytes, .int o_length, .ref o_starts, .ref o_sizes, .ref o_glyphStarts, .int o_units, .int o_glyphs, .int o_ascent, .int o_descent, .int o_gap, .int o_longLoca, .int o_metrics, .int uu.2.1, .int uu.2.2.1, .int uu.2.2.2, .int o_pairs])), (o_bytes, .inl (cy 1, 4096, .inl o_bytes_f)), (o_starts, .inl (cy 0, 8, .inl o_starts_f)), (o_sizes, .inl (cy 0, 8, .inl o_sizes_f)), (o_glyphStarts, .inl (cy 0, 65, .inl o_glyphStarts_f))]) A) args s 0 0 A) (F0 m 44 ls [])) (x1 : Int32) (x2 : Int32) (x3 : Int32) (o_codes : Int32) (o_codesSize : Int32) (o_segments : Int32) {H : Heap} {locs : List Loc} {ls : Array Slot} (h : P_Ff_readCmap_94 o_length o_bytes_f o_starts_f o_sizes_f z44 x1 x2 x3 o_codes o_codesSize o_segments = some uu) : va_P (dC, dI) classes [(o, .inr (7, [.ref o_bytes, .int o_length, .ref o_starts, .ref o_sizes, .ref o_glyphStarts, .int o_units, .int o_glyphs, .int o_ascent, .int o_descent, .int o_gap, .int o_longLoca, .int o_metrics, .int o_codes, .int o_codesSize, .int o_segments, .int o_pairs])), (o_bytes, .inl (cy 1, 4096, .inl o_bytes_f)), (o_starts, .inl (cy 0, 8, .inl o_starts_f)), (o_sizes, .inl (cy 0, 8, .inl o_sizes_f)), (o_glyphStarts, .inl (cy 0, 65, .inl o_glyphStarts_f))] H → va_D A [(o, .inr (7, [.ref o_bytes, .int o_length, .ref o_starts, .ref o_sizes, .ref o_glyphStarts, .int o_units, .int o_glyphs, .int o_ascent, .int o_descent, .int o_gap, .int o_longLoca, .int o_metrics, .int o_codes, .int o_codesSize, .int o_segments, .int o_pairs])), (o_bytes, .inl (cy 1, 4096, .inl o_bytes_f)), (o_starts, .inl (cy 0, 8, .inl o_starts_f)), (o_sizes, .inl (cy 0, 8, .inl o_sizes_f)), (o_glyphStarts, .inl (cy 0, 65, .inl o_glyphStarts_f))] → va_S A s.heap H locs → lv_has ls 5 [(0, .ref o), (1, .int x1), (2, .int x2), (3, .int x3)] → W p l e ({ frames := 2, cells := 0, slots := 0, locals := 44 } : Room) s m args below meth c H locs 0 0 (MQ below (va_Qi (fun r (_ : Unit) => r = uu.1) (fun _ t => va_P (dC, dI) classes [(o, .inr (7, [.ref o_bytes, .int o_length, .ref o_starts, .ref o_sizes, .ref o_glyphStarts, .int o_units, .int o_glyphs, .int o_ascent, .int o_descent, .int o_gap, .int o_longLoca, .int o_metrics, .int uu.2.1, .int uu.2.2.1, .int uu.2.2.2, .int o_pairs])), (o_bytes, .inl (cy 1, 4096, .inl o_bytes_f)), (o_starts, .inl (cy 0, 8, .inl o_starts_f)), (o_sizes, .inl (cy 0, 8, .inl o_sizes_f)), (o_glyphStarts, .inl (cy 0, 65, .inl o_glyphStarts_f))] t.heap ∧ va_K (dC, dI) classes (TY cy) t ∧ va_D A [(o, .inr (7, [.ref o_bytes, .int o_length, .ref o_starts, .ref o_sizes, .ref o_glyphStarts, .int o_units, .int o_glyphs, .int o_ascent, .int o_descent, .int o_gap, .int o_longLoca, .int o_metrics, .int uu.2.1, .int uu.2.2.1, .int uu.2.2.2, .int o_pairs])), (o_bytes, .inl (cy 1, 4096, .inl o_bytes_f)), (o_starts, .inl (cy 0, 8, .inl o_starts_f)), (o_sizes, .inl (cy 0, 8, .inl o_sizes_f)), (o_glyphStarts, .inl (cy 0, 65, .inl o_glyphStarts_f))]) A) args s 0 0 A) (F0 m 94 ls []) := by
  intro hP hD hS hl
  obtain ⟨hx, hb, hr, hlocks, hml, hown, htsG, hA, hK⟩ := id C0
  unfold P_Ff_readCmap_94 at h
  refine lv_iinc (v := (x3 + (1 : Int32))) (lv' := [(3, .int (x3 + (1 : Int32))), (0, .ref o), (1, .int x1), (2, .int x2)]) hx hb d_Ff_readCmap_94 hl (k := 3) rfl rfl (by decide) rfl (fun ls hl => ?_)
  refine lv_goto (tgt := 44) hx hb d_Ff_readCmap_97 (by decide) ?_
  exact hz44 x1 x2 (x3 + (1 : Int32)) o_codes o_codesSize o_segments _ _ _ h hP hD hS (lv_sub hl [1, 2, 3, 0] rfl)
def P_Ff_readCmap_44b (o_length : Int32) (o_bytes_f : Nat → Int32) (o_starts_f : Nat → Int32) (o_sizes_f : Nat → Int32)  (z44 : Int32 × Int32 × Int32 × Int32 × Int32 × Int32 → Option (Int32 × Int32 × Int32 × Int32)) (x1 : Int32) (x2 : Int32) (x3 : Int32) (o_codes : Int32) (o_codesSize : Int32) (o_segments : Int32) : Option (Int32 × Int32 × Int32 × Int32) :=
  if x2 ≤ x3 then (some ((0 : Int32), o_codes, o_codesSize, o_segments)) else ((P_Ff_twoAt o_length o_bytes_f ((x1 + (4 : Int32)) + ((8 : Int32) * x3))).bind fun r_2 => if r_2 = (3 : Int32) then ((P_Ff_twoAt o_length o_bytes_f (((x1 + (4 : Int32)) + ((8 : Int32) * x3)) + (2 : Int32))).bind fun r_4 => if r_4 = (1 : Int32) then ((P_Ff_fourAt o_length o_bytes_f (((x1 + (4 : Int32)) + ((8 : Int32) * x3)) + (4 : Int32))).bind fun r_6 => (P_Ff_readCodes o_length o_codes o_codesSize o_segments o_bytes_f o_starts_f o_sizes_f r_6).bind <| unp fun r_7 => unp fun n_8 => unp fun n_9 n_10 => zb r_7 <| some (r_7, n_8, n_9, n_10)) else (P_Ff_readCmap_94 o_length o_bytes_f o_starts_f o_sizes_f z44 x1 x2 x3 o_codes o_codesSize o_segments)) else (P_Ff_readCmap_94 o_length o_bytes_f o_starts_f o_sizes_f z44 x1 x2 x3 o_codes o_codesSize o_segments))
def L_Ff_readCmap_44 (o_length : Int32) (o_bytes_f : Nat → Int32) (o_starts_f : Nat → Int32) (o_sizes_f : Nat → Int32)  : (Int32 × Int32 × Int32 × Int32 × Int32 × Int32 → Option (Int32 × Int32 × Int32 × Int32)) → (Int32 × Int32 × Int32 × Int32 × Int32 × Int32) → Option (Int32 × Int32 × Int32 × Int32) :=
  fun z => unp fun x1 => unp fun x2 => unp fun x3 => unp fun o_codes => unp fun o_codesSize o_segments => P_Ff_readCmap_44b o_length o_bytes_f o_starts_f o_sizes_f z x1 x2 x3 o_codes o_codesSize o_segments
def P_Ff_readCmap_44 (o_length : Int32) (o_bytes_f : Nat → Int32) (o_starts_f : Nat → Int32) (o_sizes_f : Nat → Int32)  (x1 : Int32) (x2 : Int32) (x3 : Int32) (o_codes : Int32) (o_codesSize : Int32) (o_segments : Int32) : Option (Int32 × Int32 × Int32 × Int32) :=
  lp (L_Ff_readCmap_44 o_length o_bytes_f o_starts_f o_sizes_f) fuel (x1, x2, x3, o_codes, o_codesSize, o_segments)
theorem e_Ff_readCmap_44 (o_length : Int32) (o_bytes_f : Nat → Int32) (o_starts_f : Nat → Int32) (o_sizes_f : Nat → Int32)  (n : Nat) (x1 : Int32) (x2 : Int32) (x3 : Int32) (o_codes : Int32) (o_codesSize : Int32) (o_segments : Int32) : lp (L_Ff_readCmap_44 o_length o_bytes_f o_starts_f o_sizes_f) (n + 1) (x1, x2, x3, o_codes, o_codesSize, o_segments) = P_Ff_readCmap_44b o_length o_bytes_f o_starts_f o_sizes_f (lp (L_Ff_readCmap_44 o_length o_bytes_f o_starts_f o_sizes_f) n) x1 x2 x3 o_codes o_codesSize o_segments := rfl
set_option maxHeartbeats 4000000 in
set_option maxRecDepth 100000 in
theorem w_Ff_readCmap_44b (C0 : Cx p s m args meth c A dC dI cy b_Ff_readCmap 5 (some .boolean) "GlyphPage$FontFile") (o : Nat) (o_bytes : Nat) (o_starts : Nat) (o_sizes : Nat) (o_glyphStarts : Nat) (o_length : Int32) (o_units : Int32) (o_glyphs : Int32) (o_ascent : Int32) (o_descent : Int32) (o_gap : Int32) (o_longLoca : Int32) (o_metrics : Int32) (o_pairs : Int32) (o_bytes_f : Nat → Int32) (o_starts_f : Nat → Int32) (o_sizes_f : Nat → Int32) (o_glyphStarts_f : Nat → Int32) (uu : Int32 × Int32 × Int32 × Int32)  (z44 : Int32 × Int32 × Int32 × Int32 × Int32 × Int32 → Option (Int32 × Int32 × Int32 × Int32)) (hz44 : ∀ (x1 : Int32) (x2 : Int32) (x3 : Int32) (o_codes : Int32) (o_codesSize : Int32) (o_segments : Int32) (H : Heap) (locs : List Loc) (ls : Array Slot), z44 (x1, x2, x3, o_codes, o_codesSize, o_segments) = some uu → va_P (dC, dI) classes [(o, .inr (7, [.ref o_bytes, .int o_length, .ref o_starts, .ref o_sizes, .ref o_glyphStarts, .int o_units, .int o_glyphs, .int o_ascent, .int o_descent, .int o_gap, .int o_longLoca, .int o_metrics, .int o_codes, .int o_codesSize, .int o_segments, .int o_pairs])), (o_bytes, .inl (cy 1, 4096, .inl o_bytes_f)), (o_starts, .inl (cy 0, 8, .inl o_starts_f)), (o_sizes, .inl (cy 0, 8, .inl o_sizes_f)), (o_glyphStarts, .inl (cy 0, 65, .inl o_glyphStarts_f))] H → va_D A [(o, .inr (7, [.ref o_bytes, .int o_length, .ref o_starts, .ref o_sizes, .ref o_glyphStarts, .int o_units, .int o_glyphs, .int o_ascent, .int o_descent, .int o_gap, .int o_longLoca, .int o_metrics, .int o_codes, .int o_codesSize, .int o_segments, .int o_pairs])), (o_bytes, .inl (cy 1, 4096, .inl o_bytes_f)), (o_starts, .inl (cy 0, 8, .inl o_starts_f)), (o_sizes, .inl (cy 0, 8, .inl o_sizes_f)), (o_glyphStarts, .inl (cy 0, 65, .inl o_glyphStarts_f))] → va_S A s.heap H locs → lv_has ls 5 [(0, .ref o), (1, .int x1), (2, .int x2), (3, .int x3)] → W p l e ({ frames := 2, cells := 0, slots := 0, locals := 44 } : Room) s m args below meth c H locs 0 0 (MQ below (va_Qi (fun r (_ : Unit) => r = uu.1) (fun _ t => va_P (dC, dI) classes [(o, .inr (7, [.ref o_bytes, .int o_length, .ref o_starts, .ref o_sizes, .ref o_glyphStarts, .int o_units, .int o_glyphs, .int o_ascent, .int o_descent, .int o_gap, .int o_longLoca, .int o_metrics, .int uu.2.1, .int uu.2.2.1, .int uu.2.2.2, .int o_pairs])), (o_bytes, .inl (cy 1, 4096, .inl o_bytes_f)), (o_starts, .inl (cy 0, 8, .inl o_starts_f)), (o_sizes, .inl (cy 0, 8, .inl o_sizes_f)), (o_glyphStarts, .inl (cy 0, 65, .inl o_glyphStarts_f))] t.heap ∧ va_K (dC, dI) classes (TY cy) t ∧ va_D A [(o, .inr (7, [.ref o_bytes, .int o_length, .ref o_starts, .ref o_sizes, .ref o_glyphStarts, .int o_units, .int o_glyphs, .int o_ascent, .int o_descent, .int o_gap, .int o_longLoca, .int o_metrics, .int uu.2.1, .int uu.2.2.1, .int uu.2.2.2, .int o_pairs])), (o_bytes, .inl (cy 1, 4096, .inl o_bytes_f)), (o_starts, .inl (cy 0, 8, .inl o_starts_f)), (o_sizes, .inl (cy 0, 8, .inl o_sizes_f)), (o_glyphStarts, .inl (cy 0, 65, .inl o_glyphStarts_f))]) A) args s 0 0 A) (F0 m 44 ls [])) (x1 : Int32) (x2 : Int32) (x3 : Int32) (o_codes : Int32) (o_codesSize : Int32) (o_segments : Int32) {H : Heap} {locs : List Loc} {ls : Array Slot} (h : P_Ff_readCmap_44b o_length o_bytes_f o_starts_f o_sizes_f z44 x1 x2 x3 o_codes o_codesSize o_segments = some uu) : va_P (dC, dI) classes [(o, .inr (7, [.ref o_bytes, .int o_length, .ref o_starts, .ref o_sizes, .ref o_glyphStarts, .int o_units, .int o_glyphs, .int o_ascent, .int o_descent, .int o_gap, .int o_longLoca, .int o_metrics, .int o_codes, .int o_codesSize, .int o_segments, .int o_pairs])), (o_bytes, .inl (cy 1, 4096, .inl o_bytes_f)), (o_starts, .inl (cy 0, 8, .inl o_starts_f)), (o_sizes, .inl (cy 0, 8, .inl o_sizes_f)), (o_glyphStarts, .inl (cy 0, 65, .inl o_glyphStarts_f))] H → va_D A [(o, .inr (7, [.ref o_bytes, .int o_length, .ref o_starts, .ref o_sizes, .ref o_glyphStarts, .int o_units, .int o_glyphs, .int o_ascent, .int o_descent, .int o_gap, .int o_longLoca, .int o_metrics, .int o_codes, .int o_codesSize, .int o_segments, .int o_pairs])), (o_bytes, .inl (cy 1, 4096, .inl o_bytes_f)), (o_starts, .inl (cy 0, 8, .inl o_starts_f)), (o_sizes, .inl (cy 0, 8, .inl o_sizes_f)), (o_glyphStarts, .inl (cy 0, 65, .inl o_glyphStarts_f))] → va_S A s.heap H locs → lv_has ls 5 [(0, .ref o), (1, .int x1), (2, .int x2), (3, .int x3)] → W p l e ({ frames := 2, cells := 0, slots := 0, locals := 44 } : Room) s m args below meth c H locs 0 0 (MQ below (va_Qi (fun r (_ : Unit) => r = uu.1) (fun _ t => va_P (dC, dI) classes [(o, .inr (7, [.ref o_bytes, .int o_length, .ref o_starts, .ref o_sizes, .ref o_glyphStarts, .int o_units, .int o_glyphs, .int o_ascent, .int o_descent, .int o_gap, .int o_longLoca, .int o_metrics, .int uu.2.1, .int uu.2.2.1, .int uu.2.2.2, .int o_pairs])), (o_bytes, .inl (cy 1, 4096, .inl o_bytes_f)), (o_starts, .inl (cy 0, 8, .inl o_starts_f)), (o_sizes, .inl (cy 0, 8, .inl o_sizes_f)), (o_glyphStarts, .inl (cy 0, 65, .inl o_glyphStarts_f))] t.heap ∧ va_K (dC, dI) classes (TY cy) t ∧ va_D A [(o, .inr (7, [.ref o_bytes, .int o_length, .ref o_starts, .ref o_sizes, .ref o_glyphStarts, .int o_units, .int o_glyphs, .int o_ascent, .int o_descent, .int o_gap, .int o_longLoca, .int o_metrics, .int uu.2.1, .int uu.2.2.1, .int uu.2.2.2, .int o_pairs])), (o_bytes, .inl (cy 1, 4096, .inl o_bytes_f)), (o_starts, .inl (cy 0, 8, .inl o_starts_f)), (o_sizes, .inl (cy 0, 8, .inl o_sizes_f)), (o_glyphStarts, .inl (cy 0, 65, .inl o_glyphStarts_f))]) A) args s 0 0 A) (F0 m 44 ls []) := by
  intro hP hD hS hl
  obtain ⟨hx, hb, hr, hlocks, hml, hown, htsG, hA, hK⟩ := id C0
  unfold P_Ff_readCmap_44b at h
  refine lv_iload_n hx hb d_Ff_readCmap_44 rfl (lv_at hl 3 rfl) ?_
  refine lv_iload_n hx hb d_Ff_readCmap_45 rfl (lv_at hl 2 rfl) ?_
  refine lv_icmp_ge (tgt := 100) hx hb d_Ff_readCmap_46 (by decide) (fun c_1 => ?_) (fun c_1 => ?_)
  · replace h := (if_pos c_1).symm.trans h
    refine lv_iconst (v := (0 : Int32)) hx hb d_Ff_readCmap_100 (by decide) ?_
    cases h
    exact W.zret (ty := .boolean) hx hb hr rfl (fun t ht hW => ⟨⟨_, (), rfl, rfl, by rw [ht]; exact hP, va_K.moved hW.alike hK, hD⟩, hS.F ht⟩) hS.2.2 d_Ff_readCmap_101 hlocks
  · replace h := (if_neg c_1).symm.trans h
    refine lv_iload_n hx hb d_Ff_readCmap_49 rfl (lv_at hl 1 rfl) ?_
    refine lv_iconst (v := (4 : Int32)) hx hb d_Ff_readCmap_50 (by decide) ?_
    refine lv_iadd hx hb d_Ff_readCmap_51 ?_
    refine lv_bipush (v := (8 : Int32)) hx hb d_Ff_readCmap_52 (by decide) ?_
    refine lv_iload_n hx hb d_Ff_readCmap_54 rfl (lv_at hl 3 rfl) ?_
    refine lv_imul hx hb d_Ff_readCmap_55 ?_
    refine lv_iadd hx hb d_Ff_readCmap_56 ?_
    refine lv_istore (lv' := [(4, .int ((x1 + (4 : Int32)) + ((8 : Int32) * x3))), (0, .ref o), (1, .int x1), (2, .int x2), (3, .int x3)]) hx hb d_Ff_readCmap_57 hl (by decide) rfl (fun ls hl => ?_)
    refine lv_aload_n hx hb d_Ff_readCmap_59 rfl (lv_at hl 1 rfl) ?_
    refine lv_iload hx hb d_Ff_readCmap_60 (lv_at hl 0 rfl) ?_
    obtain ⟨r_2, hq, h⟩ := Option.bind_eq_some_iff.mp h
    try dsimp only at h
    have hPc := hP.sub (ws' := [(o, .inr (7, [.ref o_bytes, .int o_length, .ref o_starts, .ref o_sizes, .ref o_glyphStarts, .int o_units, .int o_glyphs, .int o_ascent, .int o_descent, .int o_gap, .int o_longLoca, .int o_metrics, .int o_codes, .int o_codesSize, .int o_segments, .int o_pairs])), (o_bytes, .inl (cy 1, 4096, .inl o_bytes_f)), (o_starts, .inl (cy 0, 8, .inl o_starts_f)), (o_sizes, .inl (cy 0, 8, .inl o_sizes_f)), (o_glyphStarts, .inl (cy 0, 65, .inl o_glyphStarts_f))]) [0, 1, 2, 3, 4] rfl
    have hDc := hD.sub (ws' := [(o, .inr (7, [.ref o_bytes, .int o_length, .ref o_starts, .ref o_sizes, .ref o_glyphStarts, .int o_units, .int o_glyphs, .int o_ascent, .int o_descent, .int o_gap, .int o_longLoca, .int o_metrics, .int o_codes, .int o_codesSize, .int o_segments, .int o_pairs])), (o_bytes, .inl (cy 1, 4096, .inl o_bytes_f)), (o_starts, .inl (cy 0, 8, .inl o_starts_f)), (o_sizes, .inl (cy 0, 8, .inl o_sizes_f)), (o_glyphStarts, .inl (cy 0, 65, .inl o_glyphStarts_f))]) [0, 1, 2, 3, 4] (by decide) rfl
    have hFc := va_free (wc := [(o, .inr (7, [.ref o_bytes, .int o_length, .ref o_starts, .ref o_sizes, .ref o_glyphStarts, .int o_units, .int o_glyphs, .int o_ascent, .int o_descent, .int o_gap, .int o_longLoca, .int o_metrics, .int o_codes, .int o_codesSize, .int o_segments, .int o_pairs])), (o_bytes, .inl (cy 1, 4096, .inl o_bytes_f)), (o_starts, .inl (cy 0, 8, .inl o_starts_f)), (o_sizes, .inl (cy 0, 8, .inl o_sizes_f)), (o_glyphStarts, .inl (cy 0, 65, .inl o_glyphStarts_f))]) hD hS hA [0, 1, 2, 3, 4] rfl
    refine va_calli (va_runV (As := [.int ((x1 + (4 : Int32)) + ((8 : Int32) * x3))]) (rest := []) ⟨hx, hb, hml, hown, htsG⟩ (c_Ff_twoAt l dC dI cy H.size o o_bytes o_starts o_sizes o_glyphStarts o_length o_units o_glyphs o_ascent o_descent o_gap o_longLoca o_metrics o_codes o_codesSize o_segments o_pairs o_bytes_f o_starts_f o_sizes_f o_glyphStarts_f ((x1 + (4 : Int32)) + ((8 : Int32) * x3)) r_2 hq) (cwV 1 htsG (gV mW365 mW367 mS_Ff_twoAt mW11 mW368) rfl rfl rfl (by decide +kernel) ⟨Nat.le_of_ble_eq_true rfl, Nat.le_of_ble_eq_true rfl⟩) ⟨fun a U g mk q => by obtain ⟨q0, q1, qP, qK, qD⟩ := q; exact ⟨q0, q1, qP, va_K.moved (u := U) (U := U.calling g mk a) (Vm.Alike.refl U.vm) qK, qD⟩, va_recv hK hPc (ci := 7) (q0 := 0) rfl rfl, fun U hU hW => ⟨rfl, by rw [hU], by rw [hU]; exact hPc, va_K.moved hW.alike hK, hDc.weaken (fun _ _ _ _ => trivial)⟩⟩ rfl rfl hl.1 rfl (lv_room (Nat.le_of_ble_eq_true rfl)) d_Ff_readCmap_62 ⟨Nat.le_of_ble_eq_true rfl, Nat.le_of_ble_eq_true rfl⟩) hS (fun q _ h => hFc q h) hFc (fun rr u t H1 locs ht hvm hw hB hz1 hk1 hS => ?_)
    obtain ⟨hP1, hK1, hD1⟩ := hB
    rw [ht] at hP1
    replace hw : r_2 = rr := hw.symm
    subst hw
    obtain ⟨hP, hD⟩ := va_join (wr := []) (w1 := [(o, .inr (7, [.ref o_bytes, .int o_length, .ref o_starts, .ref o_sizes, .ref o_glyphStarts, .int o_units, .int o_glyphs, .int o_ascent, .int o_descent, .int o_gap, .int o_longLoca, .int o_metrics, .int o_codes, .int o_codesSize, .int o_segments, .int o_pairs])), (o_bytes, .inl (cy 1, 4096, .inl o_bytes_f)), (o_starts, .inl (cy 0, 8, .inl o_starts_f)), (o_sizes, .inl (cy 0, 8, .inl o_sizes_f)), (o_glyphStarts, .inl (cy 0, 65, .inl o_glyphStarts_f))]) hP hD [0, 1, 2, 3, 4] [] rfl rfl (by decide) (by decide) hk1 hFc hP1 hD1
    generalize H1 = H at hP hS ⊢
    have hP := hP.sub (ws' := [(o, .inr (7, [.ref o_bytes, .int o_length, .ref o_starts, .ref o_sizes, .ref o_glyphStarts, .int o_units, .int o_glyphs, .int o_ascent, .int o_descent, .int o_gap, .int o_longLoca, .int o_metrics, .int o_codes, .int o_codesSize, .int o_segments, .int o_pairs])), (o_bytes, .inl (cy 1, 4096, .inl o_bytes_f)), (o_starts, .inl (cy 0, 8, .inl o_starts_f)), (o_sizes, .inl (cy 0, 8, .inl o_sizes_f)), (o_glyphStarts, .inl (cy 0, 65, .inl o_glyphStarts_f))]) [0, 1, 2, 3, 4] rfl
    have hD := hD.sub (ws' := [(o, .inr (7, [.ref o_bytes, .int o_length, .ref o_starts, .ref o_sizes, .ref o_glyphStarts, .int o_units, .int o_glyphs, .int o_ascent, .int o_descent, .int o_gap, .int o_longLoca, .int o_metrics, .int o_codes, .int o_codesSize, .int o_segments, .int o_pairs])), (o_bytes, .inl (cy 1, 4096, .inl o_bytes_f)), (o_starts, .inl (cy 0, 8, .inl o_starts_f)), (o_sizes, .inl (cy 0, 8, .inl o_sizes_f)), (o_glyphStarts, .inl (cy 0, 65, .inl o_glyphStarts_f))]) [0, 1, 2, 3, 4] (by decide) rfl
    refine W.widen (k := 0) (n := 0) (by decide) (by decide) ?_
    refine lv_iconst (v := (3 : Int32)) hx hb d_Ff_readCmap_65 (by decide) ?_
    refine lv_icmp_ne (tgt := 94) hx hb d_Ff_readCmap_66 (by decide) (fun c_3 => ?_) (fun c_3 => ?_)
    · replace h := (if_neg c_3).symm.trans h
      exact w_Ff_readCmap_94 C0 o o_bytes o_starts o_sizes o_glyphStarts o_length o_units o_glyphs o_ascent o_descent o_gap o_longLoca o_metrics o_pairs o_bytes_f o_starts_f o_sizes_f o_glyphStarts_f uu z44 hz44 x1 x2 x3 o_codes o_codesSize o_segments h hP hD hS (lv_sub hl [1, 2, 3, 4] rfl)
    · replace h := (if_pos c_3).symm.trans h
      refine lv_aload_n hx hb d_Ff_readCmap_69 rfl (lv_at hl 1 rfl) ?_
      refine lv_iload hx hb d_Ff_readCmap_70 (lv_at hl 0 rfl) ?_
      refine lv_iconst (v := (2 : Int32)) hx hb d_Ff_readCmap_72 (by decide) ?_
      refine lv_iadd hx hb d_Ff_readCmap_73 ?_
      obtain ⟨r_4, hq, h⟩ := Option.bind_eq_some_iff.mp h
      try dsimp only at h
      have hPc := hP.sub (ws' := [(o, .inr (7, [.ref o_bytes, .int o_length, .ref o_starts, .ref o_sizes, .ref o_glyphStarts, .int o_units, .int o_glyphs, .int o_ascent, .int o_descent, .int o_gap, .int o_longLoca, .int o_metrics, .int o_codes, .int o_codesSize, .int o_segments, .int o_pairs])), (o_bytes, .inl (cy 1, 4096, .inl o_bytes_f)), (o_starts, .inl (cy 0, 8, .inl o_starts_f)), (o_sizes, .inl (cy 0, 8, .inl o_sizes_f)), (o_glyphStarts, .inl (cy 0, 65, .inl o_glyphStarts_f))]) [0, 1, 2, 3, 4] rfl
      have hDc := hD.sub (ws' := [(o, .inr (7, [.ref o_bytes, .int o_length, .ref o_starts, .ref o_sizes, .ref o_glyphStarts, .int o_units, .int o_glyphs, .int o_ascent, .int o_descent, .int o_gap, .int o_longLoca, .int o_metrics, .int o_codes, .int o_codesSize, .int o_segments, .int o_pairs])), (o_bytes, .inl (cy 1, 4096, .inl o_bytes_f)), (o_starts, .inl (cy 0, 8, .inl o_starts_f)), (o_sizes, .inl (cy 0, 8, .inl o_sizes_f)), (o_glyphStarts, .inl (cy 0, 65, .inl o_glyphStarts_f))]) [0, 1, 2, 3, 4] (by decide) rfl
      have hFc := va_free (wc := [(o, .inr (7, [.ref o_bytes, .int o_length, .ref o_starts, .ref o_sizes, .ref o_glyphStarts, .int o_units, .int o_glyphs, .int o_ascent, .int o_descent, .int o_gap, .int o_longLoca, .int o_metrics, .int o_codes, .int o_codesSize, .int o_segments, .int o_pairs])), (o_bytes, .inl (cy 1, 4096, .inl o_bytes_f)), (o_starts, .inl (cy 0, 8, .inl o_starts_f)), (o_sizes, .inl (cy 0, 8, .inl o_sizes_f)), (o_glyphStarts, .inl (cy 0, 65, .inl o_glyphStarts_f))]) hD hS hA [0, 1, 2, 3, 4] rfl
      refine va_calli (va_runV (As := [.int (((x1 + (4 : Int32)) + ((8 : Int32) * x3)) + (2 : Int32))]) (rest := []) ⟨hx, hb, hml, hown, htsG⟩ (c_Ff_twoAt l dC dI cy H.size o o_bytes o_starts o_sizes o_glyphStarts o_length o_units o_glyphs o_ascent o_descent o_gap o_longLoca o_metrics o_codes o_codesSize o_segments o_pairs o_bytes_f o_starts_f o_sizes_f o_glyphStarts_f (((x1 + (4 : Int32)) + ((8 : Int32) * x3)) + (2 : Int32)) r_4 hq) (cwV 1 htsG (gV mW365 mW367 mS_Ff_twoAt mW11 mW368) rfl rfl rfl (by decide +kernel) ⟨Nat.le_of_ble_eq_true rfl, Nat.le_of_ble_eq_true rfl⟩) ⟨fun a U g mk q => by obtain ⟨q0, q1, qP, qK, qD⟩ := q; exact ⟨q0, q1, qP, va_K.moved (u := U) (U := U.calling g mk a) (Vm.Alike.refl U.vm) qK, qD⟩, va_recv hK hPc (ci := 7) (q0 := 0) rfl rfl, fun U hU hW => ⟨rfl, by rw [hU], by rw [hU]; exact hPc, va_K.moved hW.alike hK, hDc.weaken (fun _ _ _ _ => trivial)⟩⟩ rfl rfl hl.1 rfl (lv_room (Nat.le_of_ble_eq_true rfl)) d_Ff_readCmap_74 ⟨Nat.le_of_ble_eq_true rfl, Nat.le_of_ble_eq_true rfl⟩) hS (fun q _ h => hFc q h) hFc (fun rr u t H1 locs ht hvm hw hB hz1 hk1 hS => ?_)
      obtain ⟨hP1, hK1, hD1⟩ := hB
      rw [ht] at hP1
      replace hw : r_4 = rr := hw.symm
      subst hw
      obtain ⟨hP, hD⟩ := va_join (wr := []) (w1 := [(o, .inr (7, [.ref o_bytes, .int o_length, .ref o_starts, .ref o_sizes, .ref o_glyphStarts, .int o_units, .int o_glyphs, .int o_ascent, .int o_descent, .int o_gap, .int o_longLoca, .int o_metrics, .int o_codes, .int o_codesSize, .int o_segments, .int o_pairs])), (o_bytes, .inl (cy 1, 4096, .inl o_bytes_f)), (o_starts, .inl (cy 0, 8, .inl o_starts_f)), (o_sizes, .inl (cy 0, 8, .inl o_sizes_f)), (o_glyphStarts, .inl (cy 0, 65, .inl o_glyphStarts_f))]) hP hD [0, 1, 2, 3, 4] [] rfl rfl (by decide) (by decide) hk1 hFc hP1 hD1
      generalize H1 = H at hP hS ⊢
      have hP := hP.sub (ws' := [(o, .inr (7, [.ref o_bytes, .int o_length, .ref o_starts, .ref o_sizes, .ref o_glyphStarts, .int o_units, .int o_glyphs, .int o_ascent, .int o_descent, .int o_gap, .int o_longLoca, .int o_metrics, .int o_codes, .int o_codesSize, .int o_segments, .int o_pairs])), (o_bytes, .inl (cy 1, 4096, .inl o_bytes_f)), (o_starts, .inl (cy 0, 8, .inl o_starts_f)), (o_sizes, .inl (cy 0, 8, .inl o_sizes_f)), (o_glyphStarts, .inl (cy 0, 65, .inl o_glyphStarts_f))]) [0, 1, 2, 3, 4] rfl
      have hD := hD.sub (ws' := [(o, .inr (7, [.ref o_bytes, .int o_length, .ref o_starts, .ref o_sizes, .ref o_glyphStarts, .int o_units, .int o_glyphs, .int o_ascent, .int o_descent, .int o_gap, .int o_longLoca, .int o_metrics, .int o_codes, .int o_codesSize, .int o_segments, .int o_pairs])), (o_bytes, .inl (cy 1, 4096, .inl o_bytes_f)), (o_starts, .inl (cy 0, 8, .inl o_starts_f)), (o_sizes, .inl (cy 0, 8, .inl o_sizes_f)), (o_glyphStarts, .inl (cy 0, 65, .inl o_glyphStarts_f))]) [0, 1, 2, 3, 4] (by decide) rfl
      refine W.widen (k := 0) (n := 0) (by decide) (by decide) ?_
      refine lv_iconst (v := (1 : Int32)) hx hb d_Ff_readCmap_77 (by decide) ?_
      refine lv_icmp_ne (tgt := 94) hx hb d_Ff_readCmap_78 (by decide) (fun c_5 => ?_) (fun c_5 => ?_)
      · replace h := (if_neg c_5).symm.trans h
        exact w_Ff_readCmap_94 C0 o o_bytes o_starts o_sizes o_glyphStarts o_length o_units o_glyphs o_ascent o_descent o_gap o_longLoca o_metrics o_pairs o_bytes_f o_starts_f o_sizes_f o_glyphStarts_f uu z44 hz44 x1 x2 x3 o_codes o_codesSize o_segments h hP hD hS (lv_sub hl [1, 2, 3, 4] rfl)
      · replace h := (if_pos c_5).symm.trans h
        refine lv_aload_n hx hb d_Ff_readCmap_81 rfl (lv_at hl 1 rfl) ?_
        refine lv_aload_n hx hb d_Ff_readCmap_82 rfl (lv_at hl 1 rfl) ?_
        refine lv_iload hx hb d_Ff_readCmap_83 (lv_at hl 0 rfl) ?_
        refine lv_iconst (v := (4 : Int32)) hx hb d_Ff_readCmap_85 (by decide) ?_
        refine lv_iadd hx hb d_Ff_readCmap_86 ?_
        obtain ⟨r_6, hq, h⟩ := Option.bind_eq_some_iff.mp h
        try dsimp only at h
        have hPc := hP.sub (ws' := [(o, .inr (7, [.ref o_bytes, .int o_length, .ref o_starts, .ref o_sizes, .ref o_glyphStarts, .int o_units, .int o_glyphs, .int o_ascent, .int o_descent, .int o_gap, .int o_longLoca, .int o_metrics, .int o_codes, .int o_codesSize, .int o_segments, .int o_pairs])), (o_bytes, .inl (cy 1, 4096, .inl o_bytes_f)), (o_starts, .inl (cy 0, 8, .inl o_starts_f)), (o_sizes, .inl (cy 0, 8, .inl o_sizes_f)), (o_glyphStarts, .inl (cy 0, 65, .inl o_glyphStarts_f))]) [0, 1, 2, 3, 4] rfl
        have hDc := hD.sub (ws' := [(o, .inr (7, [.ref o_bytes, .int o_length, .ref o_starts, .ref o_sizes, .ref o_glyphStarts, .int o_units, .int o_glyphs, .int o_ascent, .int o_descent, .int o_gap, .int o_longLoca, .int o_metrics, .int o_codes, .int o_codesSize, .int o_segments, .int o_pairs])), (o_bytes, .inl (cy 1, 4096, .inl o_bytes_f)), (o_starts, .inl (cy 0, 8, .inl o_starts_f)), (o_sizes, .inl (cy 0, 8, .inl o_sizes_f)), (o_glyphStarts, .inl (cy 0, 65, .inl o_glyphStarts_f))]) [0, 1, 2, 3, 4] (by decide) rfl
        have hFc := va_free (wc := [(o, .inr (7, [.ref o_bytes, .int o_length, .ref o_starts, .ref o_sizes, .ref o_glyphStarts, .int o_units, .int o_glyphs, .int o_ascent, .int o_descent, .int o_gap, .int o_longLoca, .int o_metrics, .int o_codes, .int o_codesSize, .int o_segments, .int o_pairs])), (o_bytes, .inl (cy 1, 4096, .inl o_bytes_f)), (o_starts, .inl (cy 0, 8, .inl o_starts_f)), (o_sizes, .inl (cy 0, 8, .inl o_sizes_f)), (o_glyphStarts, .inl (cy 0, 65, .inl o_glyphStarts_f))]) hD hS hA [0, 1, 2, 3, 4] rfl
        refine va_calll (va_runV (As := [.int (((x1 + (4 : Int32)) + ((8 : Int32) * x3)) + (4 : Int32))]) (rest := [.ref o]) ⟨hx, hb, hml, hown, htsG⟩ (c_Ff_fourAt l dC dI cy H.size o o_bytes o_starts o_sizes o_glyphStarts o_length o_units o_glyphs o_ascent o_descent o_gap o_longLoca o_metrics o_codes o_codesSize o_segments o_pairs o_bytes_f o_starts_f o_sizes_f o_glyphStarts_f (((x1 + (4 : Int32)) + ((8 : Int32) * x3)) + (4 : Int32)) r_6 hq) (cwV 1 htsG (gV mW369 mW371 mS_Ff_fourAt mW11 mW372) rfl rfl rfl (by decide +kernel) ⟨Nat.le_of_ble_eq_true rfl, Nat.le_of_ble_eq_true rfl⟩) ⟨fun a U g mk q => by obtain ⟨q0, q1, qP, qK, qD⟩ := q; exact ⟨q0, q1, qP, va_K.moved (u := U) (U := U.calling g mk a) (Vm.Alike.refl U.vm) qK, qD⟩, va_recv hK hPc (ci := 7) (q0 := 0) rfl rfl, fun U hU hW => ⟨rfl, by rw [hU], by rw [hU]; exact hPc, va_K.moved hW.alike hK, hDc.weaken (fun _ _ _ _ => trivial)⟩⟩ rfl rfl hl.1 rfl (lv_room (Nat.le_of_ble_eq_true rfl)) d_Ff_readCmap_87 ⟨Nat.le_of_ble_eq_true rfl, Nat.le_of_ble_eq_true rfl⟩) hS (fun q _ h => hFc q h) hFc (fun rr u t H1 locs ht hvm hw hB hz1 hk1 hS => ?_)
        obtain ⟨hP1, hK1, hD1⟩ := hB
        rw [ht] at hP1
        replace hw : r_6 = rr := hw.symm
        subst hw
        obtain ⟨hP, hD⟩ := va_join (wr := []) (w1 := [(o, .inr (7, [.ref o_bytes, .int o_length, .ref o_starts, .ref o_sizes, .ref o_glyphStarts, .int o_units, .int o_glyphs, .int o_ascent, .int o_descent, .int o_gap, .int o_longLoca, .int o_metrics, .int o_codes, .int o_codesSize, .int o_segments, .int o_pairs])), (o_bytes, .inl (cy 1, 4096, .inl o_bytes_f)), (o_starts, .inl (cy 0, 8, .inl o_starts_f)), (o_sizes, .inl (cy 0, 8, .inl o_sizes_f)), (o_glyphStarts, .inl (cy 0, 65, .inl o_glyphStarts_f))]) hP hD [0, 1, 2, 3, 4] [] rfl rfl (by decide) (by decide) hk1 hFc hP1 hD1
        generalize H1 = H at hP hS ⊢
        have hP := hP.sub (ws' := [(o, .inr (7, [.ref o_bytes, .int o_length, .ref o_starts, .ref o_sizes, .ref o_glyphStarts, .int o_units, .int o_glyphs, .int o_ascent, .int o_descent, .int o_gap, .int o_longLoca, .int o_metrics, .int o_codes, .int o_codesSize, .int o_segments, .int o_pairs])), (o_bytes, .inl (cy 1, 4096, .inl o_bytes_f)), (o_starts, .inl (cy 0, 8, .inl o_starts_f)), (o_sizes, .inl (cy 0, 8, .inl o_sizes_f)), (o_glyphStarts, .inl (cy 0, 65, .inl o_glyphStarts_f))]) [0, 1, 2, 3, 4] rfl
        have hD := hD.sub (ws' := [(o, .inr (7, [.ref o_bytes, .int o_length, .ref o_starts, .ref o_sizes, .ref o_glyphStarts, .int o_units, .int o_glyphs, .int o_ascent, .int o_descent, .int o_gap, .int o_longLoca, .int o_metrics, .int o_codes, .int o_codesSize, .int o_segments, .int o_pairs])), (o_bytes, .inl (cy 1, 4096, .inl o_bytes_f)), (o_starts, .inl (cy 0, 8, .inl o_starts_f)), (o_sizes, .inl (cy 0, 8, .inl o_sizes_f)), (o_glyphStarts, .inl (cy 0, 65, .inl o_glyphStarts_f))]) [0, 1, 2, 3, 4] (by decide) rfl
        refine W.widen (k := 0) (n := 0) (by decide) (by decide) ?_
        obtain ⟨⟨r_7, n_8, n_9, n_10⟩, hq, h⟩ := Option.bind_eq_some_iff.mp h
        dsimp only [unp] at h
        have hPc := hP.sub (ws' := [(o, .inr (7, [.ref o_bytes, .int o_length, .ref o_starts, .ref o_sizes, .ref o_glyphStarts, .int o_units, .int o_glyphs, .int o_ascent, .int o_descent, .int o_gap, .int o_longLoca, .int o_metrics, .int o_codes, .int o_codesSize, .int o_segments, .int o_pairs])), (o_bytes, .inl (cy 1, 4096, .inl o_bytes_f)), (o_starts, .inl (cy 0, 8, .inl o_starts_f)), (o_sizes, .inl (cy 0, 8, .inl o_sizes_f)), (o_glyphStarts, .inl (cy 0, 65, .inl o_glyphStarts_f))]) [0, 1, 2, 3, 4] rfl
        have hDc := hD.sub (ws' := [(o, .inr (7, [.ref o_bytes, .int o_length, .ref o_starts, .ref o_sizes, .ref o_glyphStarts, .int o_units, .int o_glyphs, .int o_ascent, .int o_descent, .int o_gap, .int o_longLoca, .int o_metrics, .int o_codes, .int o_codesSize, .int o_segments, .int o_pairs])), (o_bytes, .inl (cy 1, 4096, .inl o_bytes_f)), (o_starts, .inl (cy 0, 8, .inl o_starts_f)), (o_sizes, .inl (cy 0, 8, .inl o_sizes_f)), (o_glyphStarts, .inl (cy 0, 65, .inl o_glyphStarts_f))]) [0, 1, 2, 3, 4] (by decide) rfl
        have hFc := va_free (wc := [(o, .inr (7, [.ref o_bytes, .int o_length, .ref o_starts, .ref o_sizes, .ref o_glyphStarts, .int o_units, .int o_glyphs, .int o_ascent, .int o_descent, .int o_gap, .int o_longLoca, .int o_metrics, .int o_codes, .int o_codesSize, .int o_segments, .int o_pairs])), (o_bytes, .inl (cy 1, 4096, .inl o_bytes_f)), (o_starts, .inl (cy 0, 8, .inl o_starts_f)), (o_sizes, .inl (cy 0, 8, .inl o_sizes_f)), (o_glyphStarts, .inl (cy 0, 65, .inl o_glyphStarts_f))]) hD hS hA [0, 1, 2, 3, 4] rfl
        refine va_calli (va_runV (As := [.long r_6]) (rest := []) ⟨hx, hb, hml, hown, htsG⟩ (c_Ff_readCodes l dC dI cy H.size o o_bytes o_starts o_sizes o_glyphStarts o_length o_units o_glyphs o_ascent o_descent o_gap o_longLoca o_metrics o_codes o_codesSize o_segments o_pairs o_bytes_f o_starts_f o_sizes_f o_glyphStarts_f r_6 (r_7, n_8, n_9, n_10) hq) (cwV 1 htsG (gV mW430 mW432 mS_Ff_readCodes mW11 mW433) rfl rfl rfl (by decide +kernel) ⟨Nat.le_of_ble_eq_true rfl, Nat.le_of_ble_eq_true rfl⟩) ⟨fun a U g mk q => by obtain ⟨q0, q1, qP, qK, qD⟩ := q; exact ⟨q0, q1, qP, va_K.moved (u := U) (U := U.calling g mk a) (Vm.Alike.refl U.vm) qK, qD⟩, va_recv hK hPc (ci := 7) (q0 := 0) rfl rfl, fun U hU hW => ⟨rfl, by rw [hU], by rw [hU]; exact hPc, va_K.moved hW.alike hK, hDc.weaken (fun _ _ _ _ => trivial)⟩⟩ rfl rfl hl.1 rfl (lv_room (Nat.le_of_ble_eq_true rfl)) d_Ff_readCmap_90 ⟨Nat.le_of_ble_eq_true rfl, Nat.le_of_ble_eq_true rfl⟩) hS (fun q _ h => hFc q h) hFc (fun rr u t H1 locs ht hvm hw hB hz1 hk1 hS => ?_)
        obtain ⟨hP1, hK1, hD1⟩ := hB
        rw [ht] at hP1
        replace hw : r_7 = rr := hw.symm
        subst hw
        obtain ⟨hP, hD⟩ := va_join (wr := []) (w1 := [(o, .inr (7, [.ref o_bytes, .int o_length, .ref o_starts, .ref o_sizes, .ref o_glyphStarts, .int o_units, .int o_glyphs, .int o_ascent, .int o_descent, .int o_gap, .int o_longLoca, .int o_metrics, .int n_8, .int n_9, .int n_10, .int o_pairs])), (o_bytes, .inl (cy 1, 4096, .inl o_bytes_f)), (o_starts, .inl (cy 0, 8, .inl o_starts_f)), (o_sizes, .inl (cy 0, 8, .inl o_sizes_f)), (o_glyphStarts, .inl (cy 0, 65, .inl o_glyphStarts_f))]) hP hD [0, 1, 2, 3, 4] [] rfl rfl (by decide) (by decide) hk1 hFc hP1 hD1
        generalize H1 = H at hP hS ⊢
        have hP := hP.sub (ws' := [(o, .inr (7, [.ref o_bytes, .int o_length, .ref o_starts, .ref o_sizes, .ref o_glyphStarts, .int o_units, .int o_glyphs, .int o_ascent, .int o_descent, .int o_gap, .int o_longLoca, .int o_metrics, .int n_8, .int n_9, .int n_10, .int o_pairs])), (o_bytes, .inl (cy 1, 4096, .inl o_bytes_f)), (o_starts, .inl (cy 0, 8, .inl o_starts_f)), (o_sizes, .inl (cy 0, 8, .inl o_sizes_f)), (o_glyphStarts, .inl (cy 0, 65, .inl o_glyphStarts_f))]) [0, 1, 2, 3, 4] rfl
        have hD := hD.sub (ws' := [(o, .inr (7, [.ref o_bytes, .int o_length, .ref o_starts, .ref o_sizes, .ref o_glyphStarts, .int o_units, .int o_glyphs, .int o_ascent, .int o_descent, .int o_gap, .int o_longLoca, .int o_metrics, .int n_8, .int n_9, .int n_10, .int o_pairs])), (o_bytes, .inl (cy 1, 4096, .inl o_bytes_f)), (o_starts, .inl (cy 0, 8, .inl o_starts_f)), (o_sizes, .inl (cy 0, 8, .inl o_sizes_f)), (o_glyphStarts, .inl (cy 0, 65, .inl o_glyphStarts_f))]) [0, 1, 2, 3, 4] (by decide) rfl
        refine W.widen (k := 0) (n := 0) (by decide) (by decide) ?_
        obtain ⟨hz_11, h⟩ := zb_some h
        cases h
        exact W.zret (ty := .boolean) hx hb hr hz_11.1 (fun t ht hW => ⟨⟨_, (), rfl, rfl, by rw [ht]; exact hP, va_K.moved hW.alike hK, hD⟩, hS.F ht⟩) hS.2.2 d_Ff_readCmap_93 hlocks
theorem w_Ff_readCmap_44 (C0 : Cx p s m args meth c A dC dI cy b_Ff_readCmap 5 (some .boolean) "GlyphPage$FontFile") (o : Nat) (o_bytes : Nat) (o_starts : Nat) (o_sizes : Nat) (o_glyphStarts : Nat) (o_length : Int32) (o_units : Int32) (o_glyphs : Int32) (o_ascent : Int32) (o_descent : Int32) (o_gap : Int32) (o_longLoca : Int32) (o_metrics : Int32) (o_pairs : Int32) (o_bytes_f : Nat → Int32) (o_starts_f : Nat → Int32) (o_sizes_f : Nat → Int32) (o_glyphStarts_f : Nat → Int32) (uu : Int32 × Int32 × Int32 × Int32)  (x1 : Int32) (x2 : Int32) (x3 : Int32) (o_codes : Int32) (o_codesSize : Int32) (o_segments : Int32) {H : Heap} {locs : List Loc} {ls : Array Slot} (h : P_Ff_readCmap_44 o_length o_bytes_f o_starts_f o_sizes_f x1 x2 x3 o_codes o_codesSize o_segments = some uu) : va_P (dC, dI) classes [(o, .inr (7, [.ref o_bytes, .int o_length, .ref o_starts, .ref o_sizes, .ref o_glyphStarts, .int o_units, .int o_glyphs, .int o_ascent, .int o_descent, .int o_gap, .int o_longLoca, .int o_metrics, .int o_codes, .int o_codesSize, .int o_segments, .int o_pairs])), (o_bytes, .inl (cy 1, 4096, .inl o_bytes_f)), (o_starts, .inl (cy 0, 8, .inl o_starts_f)), (o_sizes, .inl (cy 0, 8, .inl o_sizes_f)), (o_glyphStarts, .inl (cy 0, 65, .inl o_glyphStarts_f))] H → va_D A [(o, .inr (7, [.ref o_bytes, .int o_length, .ref o_starts, .ref o_sizes, .ref o_glyphStarts, .int o_units, .int o_glyphs, .int o_ascent, .int o_descent, .int o_gap, .int o_longLoca, .int o_metrics, .int o_codes, .int o_codesSize, .int o_segments, .int o_pairs])), (o_bytes, .inl (cy 1, 4096, .inl o_bytes_f)), (o_starts, .inl (cy 0, 8, .inl o_starts_f)), (o_sizes, .inl (cy 0, 8, .inl o_sizes_f)), (o_glyphStarts, .inl (cy 0, 65, .inl o_glyphStarts_f))] → va_S A s.heap H locs → lv_has ls 5 [(0, .ref o), (1, .int x1), (2, .int x2), (3, .int x3)] → W p l e ({ frames := 2, cells := 0, slots := 0, locals := 44 } : Room) s m args below meth c H locs 0 0 (MQ below (va_Qi (fun r (_ : Unit) => r = uu.1) (fun _ t => va_P (dC, dI) classes [(o, .inr (7, [.ref o_bytes, .int o_length, .ref o_starts, .ref o_sizes, .ref o_glyphStarts, .int o_units, .int o_glyphs, .int o_ascent, .int o_descent, .int o_gap, .int o_longLoca, .int o_metrics, .int uu.2.1, .int uu.2.2.1, .int uu.2.2.2, .int o_pairs])), (o_bytes, .inl (cy 1, 4096, .inl o_bytes_f)), (o_starts, .inl (cy 0, 8, .inl o_starts_f)), (o_sizes, .inl (cy 0, 8, .inl o_sizes_f)), (o_glyphStarts, .inl (cy 0, 65, .inl o_glyphStarts_f))] t.heap ∧ va_K (dC, dI) classes (TY cy) t ∧ va_D A [(o, .inr (7, [.ref o_bytes, .int o_length, .ref o_starts, .ref o_sizes, .ref o_glyphStarts, .int o_units, .int o_glyphs, .int o_ascent, .int o_descent, .int o_gap, .int o_longLoca, .int o_metrics, .int uu.2.1, .int uu.2.2.1, .int uu.2.2.2, .int o_pairs])), (o_bytes, .inl (cy 1, 4096, .inl o_bytes_f)), (o_starts, .inl (cy 0, 8, .inl o_starts_f)), (o_sizes, .inl (cy 0, 8, .inl o_sizes_f)), (o_glyphStarts, .inl (cy 0, 65, .inl o_glyphStarts_f))]) A) args s 0 0 A) (F0 m 44 ls []) := by
  have key : ∀ (n : Nat) (x1 : Int32) (x2 : Int32) (x3 : Int32) (o_codes : Int32) (o_codesSize : Int32) (o_segments : Int32) (H : Heap) (locs : List Loc) (ls : Array Slot), lp (L_Ff_readCmap_44 o_length o_bytes_f o_starts_f o_sizes_f) n (x1, x2, x3, o_codes, o_codesSize, o_segments) = some uu → va_P (dC, dI) classes [(o, .inr (7, [.ref o_bytes, .int o_length, .ref o_starts, .ref o_sizes, .ref o_glyphStarts, .int o_units, .int o_glyphs, .int o_ascent, .int o_descent, .int o_gap, .int o_longLoca, .int o_metrics, .int o_codes, .int o_codesSize, .int o_segments, .int o_pairs])), (o_bytes, .inl (cy 1, 4096, .inl o_bytes_f)), (o_starts, .inl (cy 0, 8, .inl o_starts_f)), (o_sizes, .inl (cy 0, 8, .inl o_sizes_f)), (o_glyphStarts, .inl (cy 0, 65, .inl o_glyphStarts_f))] H → va_D A [(o, .inr (7, [.ref o_bytes, .int o_length, .ref o_starts, .ref o_sizes, .ref o_glyphStarts, .int o_units, .int o_glyphs, .int o_ascent, .int o_descent, .int o_gap, .int o_longLoca, .int o_metrics, .int o_codes, .int o_codesSize, .int o_segments, .int o_pairs])), (o_bytes, .inl (cy 1, 4096, .inl o_bytes_f)), (o_starts, .inl (cy 0, 8, .inl o_starts_f)), (o_sizes, .inl (cy 0, 8, .inl o_sizes_f)), (o_glyphStarts, .inl (cy 0, 65, .inl o_glyphStarts_f))] → va_S A s.heap H locs → lv_has ls 5 [(0, .ref o), (1, .int x1), (2, .int x2), (3, .int x3)] → W p l e ({ frames := 2, cells := 0, slots := 0, locals := 44 } : Room) s m args below meth c H locs 0 0 (MQ below (va_Qi (fun r (_ : Unit) => r = uu.1) (fun _ t => va_P (dC, dI) classes [(o, .inr (7, [.ref o_bytes, .int o_length, .ref o_starts, .ref o_sizes, .ref o_glyphStarts, .int o_units, .int o_glyphs, .int o_ascent, .int o_descent, .int o_gap, .int o_longLoca, .int o_metrics, .int uu.2.1, .int uu.2.2.1, .int uu.2.2.2, .int o_pairs])), (o_bytes, .inl (cy 1, 4096, .inl o_bytes_f)), (o_starts, .inl (cy 0, 8, .inl o_starts_f)), (o_sizes, .inl (cy 0, 8, .inl o_sizes_f)), (o_glyphStarts, .inl (cy 0, 65, .inl o_glyphStarts_f))] t.heap ∧ va_K (dC, dI) classes (TY cy) t ∧ va_D A [(o, .inr (7, [.ref o_bytes, .int o_length, .ref o_starts, .ref o_sizes, .ref o_glyphStarts, .int o_units, .int o_glyphs, .int o_ascent, .int o_descent, .int o_gap, .int o_longLoca, .int o_metrics, .int uu.2.1, .int uu.2.2.1, .int uu.2.2.2, .int o_pairs])), (o_bytes, .inl (cy 1, 4096, .inl o_bytes_f)), (o_starts, .inl (cy 0, 8, .inl o_starts_f)), (o_sizes, .inl (cy 0, 8, .inl o_sizes_f)), (o_glyphStarts, .inl (cy 0, 65, .inl o_glyphStarts_f))]) A) args s 0 0 A) (F0 m 44 ls []) := by
    intro n
    induction n with
    | zero => intro x1 x2 x3 o_codes o_codesSize o_segments H locs ls h; cases h
    | succ n ih => intro x1 x2 x3 o_codes o_codesSize o_segments H locs ls h; exact w_Ff_readCmap_44b C0 o o_bytes o_starts o_sizes o_glyphStarts o_length o_units o_glyphs o_ascent o_descent o_gap o_longLoca o_metrics o_pairs o_bytes_f o_starts_f o_sizes_f o_glyphStarts_f uu  (lp (L_Ff_readCmap_44 o_length o_bytes_f o_starts_f o_sizes_f) n) ih x1 x2 x3 o_codes o_codesSize o_segments ((e_Ff_readCmap_44 o_length o_bytes_f o_starts_f o_sizes_f n x1 x2 x3 o_codes o_codesSize o_segments).symm.trans h)
  exact key fuel x1 x2 x3 o_codes o_codesSize o_segments H locs ls h
def P_Ff_readCmap (o_length : Int32) (o_codes : Int32) (o_codesSize : Int32) (o_segments : Int32) (o_bytes_f : Nat → Int32) (o_starts_f : Nat → Int32) (o_sizes_f : Nat → Int32)  : Option (Int32 × Int32 × Int32 × Int32) :=
  bd (0 : Int32) 8 <| (P_Ff_twoAt o_length o_bytes_f ((o_starts_f (0 : Int32).toNatClampNeg) + (2 : Int32))).bind fun r_2 => bd (0 : Int32) 8 <| if (o_sizes_f (0 : Int32).toNatClampNeg) < (4 : Int32) then (some ((0 : Int32), o_codes, o_codesSize, o_segments)) else (bd (0 : Int32) 8 <| if ((4 : Int32) + ((8 : Int32) * r_2)) ≤ (o_sizes_f (0 : Int32).toNatClampNeg) then (P_Ff_readCmap_44 o_length o_bytes_f o_starts_f o_sizes_f (o_starts_f (0 : Int32).toNatClampNeg) r_2 (0 : Int32) o_codes o_codesSize o_segments) else (some ((0 : Int32), o_codes, o_codesSize, o_segments)))
set_option maxHeartbeats 4000000 in
set_option maxRecDepth 100000 in
theorem c_Ff_readCmap (l : Launch) (dC : Nat → ClassId) (dI : Nat → Nat → Nat) (cy : Nat → ClassId) (sz : Nat) (o : Nat) (o_bytes : Nat) (o_starts : Nat) (o_sizes : Nat) (o_glyphStarts : Nat) (o_length : Int32) (o_units : Int32) (o_glyphs : Int32) (o_ascent : Int32) (o_descent : Int32) (o_gap : Int32) (o_longLoca : Int32) (o_metrics : Int32) (o_codes : Int32) (o_codesSize : Int32) (o_segments : Int32) (o_pairs : Int32) (o_bytes_f : Nat → Int32) (o_starts_f : Nat → Int32) (o_sizes_f : Nat → Int32) (o_glyphStarts_f : Nat → Int32)  (uu : Int32 × Int32 × Int32 × Int32) (h : P_Ff_readCmap o_length o_codes o_codesSize o_segments o_bytes_f o_starts_f o_sizes_f = some uu) : Met l y_Ff_readCmap (Cond.code y_Ff_readCmap b_Ff_readCmap 5 (some .boolean) :: G) ({ frames := 2, cells := 0, slots := 0, locals := 44 } : Room) (va_Pc [.ref o] (fun U => U.heap.size = sz ∧ va_P (dC, dI) classes [(o, .inr (7, [.ref o_bytes, .int o_length, .ref o_starts, .ref o_sizes, .ref o_glyphStarts, .int o_units, .int o_glyphs, .int o_ascent, .int o_descent, .int o_gap, .int o_longLoca, .int o_metrics, .int o_codes, .int o_codesSize, .int o_segments, .int o_pairs])), (o_bytes, .inl (cy 1, 4096, .inl o_bytes_f)), (o_starts, .inl (cy 0, 8, .inl o_starts_f)), (o_sizes, .inl (cy 0, 8, .inl o_sizes_f)), (o_glyphStarts, .inl (cy 0, 65, .inl o_glyphStarts_f))] U.heap ∧ va_K (dC, dI) classes (TY cy) U ∧ va_D (fun _ => True) [(o, .inr (7, [.ref o_bytes, .int o_length, .ref o_starts, .ref o_sizes, .ref o_glyphStarts, .int o_units, .int o_glyphs, .int o_ascent, .int o_descent, .int o_gap, .int o_longLoca, .int o_metrics, .int o_codes, .int o_codesSize, .int o_segments, .int o_pairs])), (o_bytes, .inl (cy 1, 4096, .inl o_bytes_f)), (o_starts, .inl (cy 0, 8, .inl o_starts_f)), (o_sizes, .inl (cy 0, 8, .inl o_sizes_f)), (o_glyphStarts, .inl (cy 0, 65, .inl o_glyphStarts_f))])) (va_Qi (fun r (_ : Unit) => r = uu.1) (fun _ t => va_P (dC, dI) classes [(o, .inr (7, [.ref o_bytes, .int o_length, .ref o_starts, .ref o_sizes, .ref o_glyphStarts, .int o_units, .int o_glyphs, .int o_ascent, .int o_descent, .int o_gap, .int o_longLoca, .int o_metrics, .int uu.2.1, .int uu.2.2.1, .int uu.2.2.2, .int o_pairs])), (o_bytes, .inl (cy 1, 4096, .inl o_bytes_f)), (o_starts, .inl (cy 0, 8, .inl o_starts_f)), (o_sizes, .inl (cy 0, 8, .inl o_sizes_f)), (o_glyphStarts, .inl (cy 0, 65, .inl o_glyphStarts_f))] t.heap ∧ va_K (dC, dI) classes (TY cy) t ∧ va_D (va_A [(o, .inr (7, [.ref o_bytes, .int o_length, .ref o_starts, .ref o_sizes, .ref o_glyphStarts, .int o_units, .int o_glyphs, .int o_ascent, .int o_descent, .int o_gap, .int o_longLoca, .int o_metrics, .int o_codes, .int o_codesSize, .int o_segments, .int o_pairs])), (o_bytes, .inl (cy 1, 4096, .inl o_bytes_f)), (o_starts, .inl (cy 0, 8, .inl o_starts_f)), (o_sizes, .inl (cy 0, 8, .inl o_sizes_f)), (o_glyphStarts, .inl (cy 0, 65, .inl o_glyphStarts_f))] sz) [(o, .inr (7, [.ref o_bytes, .int o_length, .ref o_starts, .ref o_sizes, .ref o_glyphStarts, .int o_units, .int o_glyphs, .int o_ascent, .int o_descent, .int o_gap, .int o_longLoca, .int o_metrics, .int uu.2.1, .int uu.2.2.1, .int uu.2.2.2, .int o_pairs])), (o_bytes, .inl (cy 1, 4096, .inl o_bytes_f)), (o_starts, .inl (cy 0, 8, .inl o_starts_f)), (o_sizes, .inl (cy 0, 8, .inl o_sizes_f)), (o_glyphStarts, .inl (cy 0, 65, .inl o_glyphStarts_f))]) (va_A [(o, .inr (7, [.ref o_bytes, .int o_length, .ref o_starts, .ref o_sizes, .ref o_glyphStarts, .int o_units, .int o_glyphs, .int o_ascent, .int o_descent, .int o_gap, .int o_longLoca, .int o_metrics, .int o_codes, .int o_codesSize, .int o_segments, .int o_pairs])), (o_bytes, .inl (cy 1, 4096, .inl o_bytes_f)), (o_starts, .inl (cy 0, 8, .inl o_starts_f)), (o_sizes, .inl (cy 0, 8, .inl o_sizes_f)), (o_glyphStarts, .inl (cy 0, 65, .inl o_glyphStarts_f))] sz)) 0 0 (va_A [(o, .inr (7, [.ref o_bytes, .int o_length, .ref o_starts, .ref o_sizes, .ref o_glyphStarts, .int o_units, .int o_glyphs, .int o_ascent, .int o_descent, .int o_gap, .int o_longLoca, .int o_metrics, .int o_codes, .int o_codesSize, .int o_segments, .int o_pairs])), (o_bytes, .inl (cy 1, 4096, .inl o_bytes_f)), (o_starts, .inl (cy 0, 8, .inl o_starts_f)), (o_sizes, .inl (cy 0, 8, .inl o_sizes_f)), (o_glyphStarts, .inl (cy 0, 65, .inl o_glyphStarts_f))] sz) := by
  refine Met.ofW (cc := b_Ff_readCmap) (maxL := 5) (ret := (some .boolean)) (by decide) rfl ?_
  intro p e s m args below meth c s₁ B hml hv
  obtain ⟨rfl, hsz, hP, hK, hD0⟩ := hv
  have hx := B.exec
  have hb := B.bytes
  have hr := B.returns
  have hts := atoms_spec (ws := Cond.code y_Ff_readCmap b_Ff_readCmap 5 (some .boolean) :: G) B.pre
  have htsG : ∀ w ∈ G, w.before _ s = true := fun w hw => hts w (List.mem_cons_of_mem _ hw)
  have hown : s.vm.findClass "GlyphPage$FontFile" = some m.cls := findClass_of_methodNamed B.named
  have hlocks := B.notSynchronized
  subst hsz
  have hD := hD0.self (sz := s.heap.size)
  generalize hAe : va_A [(o, .inr (7, [.ref o_bytes, .int o_length, .ref o_starts, .ref o_sizes, .ref o_glyphStarts, .int o_units, .int o_glyphs, .int o_ascent, .int o_descent, .int o_gap, .int o_longLoca, .int o_metrics, .int o_codes, .int o_codesSize, .int o_segments, .int o_pairs])), (o_bytes, .inl (cy 1, 4096, .inl o_bytes_f)), (o_starts, .inl (cy 0, 8, .inl o_starts_f)), (o_sizes, .inl (cy 0, 8, .inl o_sizes_f)), (o_glyphStarts, .inl (cy 0, 65, .inl o_glyphStarts_f))] s.heap.size = A at hD ⊢
  have hA : ∀ q : Nat, s.heap.size ≤ q → A q := fun q h => by rw [← hAe]; exact Or.inr h
  have hS : va_S A s.heap s.heap [] := va_S.rf
  have hl := lv_entry ([.ref o]) (n := 5) (Nat.le_of_ble_eq_true rfl)
  rw [lg_entry_eq]
  generalize (lg_sl ([.ref o]) ++ List.replicate (5 - (lg_sl ([.ref o])).length) Slot.unset).toArray = ls at hl ⊢
  have hl : lv_has ls 5 [(0, .ref o)] := hl
  have C0 : Cx p s m _ meth c A dC dI cy b_Ff_readCmap 5 (some .boolean) "GlyphPage$FontFile" := ⟨hx, hb, hr, hlocks, hml, hown, htsG, hA, hK⟩
  unfold P_Ff_readCmap at h
  refine lv_aload_n hx hb d_Ff_readCmap_0 rfl (lv_at hl 0 rfl) ?_
  refine va_get (D := (dC, dI)) (ci := 7) (v := .ref o_starts) (C := "GlyphPage$FontFile") (T := F_Ff) (N := 16) hx hb htsG iG_Ff hown hK hP 0 rfl rfl 2 (by decide) (htsG _ mW303) (fun _ h9 => h9) rfl d_Ff_readCmap_1 ?_
  refine lv_iconst (v := (0 : Int32)) hx hb d_Ff_readCmap_4 (by decide) ?_
  obtain ⟨hin_1, h⟩ := bd_some h
  refine va_iald hx hb hK hP 2 0 rfl rfl hin_1 d_Ff_readCmap_5 ?_
  refine lv_istore_n (lv' := [(1, .int (o_starts_f (0 : Int32).toNatClampNeg)), (0, .ref o)]) hx hb d_Ff_readCmap_6 rfl hl (by decide) rfl (fun ls hl => ?_)
  refine lv_aload_n hx hb d_Ff_readCmap_7 rfl (lv_at hl 1 rfl) ?_
  refine lv_iload_n hx hb d_Ff_readCmap_8 rfl (lv_at hl 0 rfl) ?_
  refine lv_iconst (v := (2 : Int32)) hx hb d_Ff_readCmap_9 (by decide) ?_
  refine lv_iadd hx hb d_Ff_readCmap_10 ?_
  obtain ⟨r_2, hq, h⟩ := Option.bind_eq_some_iff.mp h
  try dsimp only at h
  have hPc := hP.sub (ws' := [(o, .inr (7, [.ref o_bytes, .int o_length, .ref o_starts, .ref o_sizes, .ref o_glyphStarts, .int o_units, .int o_glyphs, .int o_ascent, .int o_descent, .int o_gap, .int o_longLoca, .int o_metrics, .int o_codes, .int o_codesSize, .int o_segments, .int o_pairs])), (o_bytes, .inl (cy 1, 4096, .inl o_bytes_f)), (o_starts, .inl (cy 0, 8, .inl o_starts_f)), (o_sizes, .inl (cy 0, 8, .inl o_sizes_f)), (o_glyphStarts, .inl (cy 0, 65, .inl o_glyphStarts_f))]) [0, 1, 2, 3, 4] rfl
  have hDc := hD.sub (ws' := [(o, .inr (7, [.ref o_bytes, .int o_length, .ref o_starts, .ref o_sizes, .ref o_glyphStarts, .int o_units, .int o_glyphs, .int o_ascent, .int o_descent, .int o_gap, .int o_longLoca, .int o_metrics, .int o_codes, .int o_codesSize, .int o_segments, .int o_pairs])), (o_bytes, .inl (cy 1, 4096, .inl o_bytes_f)), (o_starts, .inl (cy 0, 8, .inl o_starts_f)), (o_sizes, .inl (cy 0, 8, .inl o_sizes_f)), (o_glyphStarts, .inl (cy 0, 65, .inl o_glyphStarts_f))]) [0, 1, 2, 3, 4] (by decide) rfl
  have hFc := va_free (wc := [(o, .inr (7, [.ref o_bytes, .int o_length, .ref o_starts, .ref o_sizes, .ref o_glyphStarts, .int o_units, .int o_glyphs, .int o_ascent, .int o_descent, .int o_gap, .int o_longLoca, .int o_metrics, .int o_codes, .int o_codesSize, .int o_segments, .int o_pairs])), (o_bytes, .inl (cy 1, 4096, .inl o_bytes_f)), (o_starts, .inl (cy 0, 8, .inl o_starts_f)), (o_sizes, .inl (cy 0, 8, .inl o_sizes_f)), (o_glyphStarts, .inl (cy 0, 65, .inl o_glyphStarts_f))]) hD hS hA [0, 1, 2, 3, 4] rfl
  refine va_calli (va_runV (As := [.int ((o_starts_f (0 : Int32).toNatClampNeg) + (2 : Int32))]) (rest := []) ⟨hx, hb, hml, hown, htsG⟩ (c_Ff_twoAt l dC dI cy s.heap.size o o_bytes o_starts o_sizes o_glyphStarts o_length o_units o_glyphs o_ascent o_descent o_gap o_longLoca o_metrics o_codes o_codesSize o_segments o_pairs o_bytes_f o_starts_f o_sizes_f o_glyphStarts_f ((o_starts_f (0 : Int32).toNatClampNeg) + (2 : Int32)) r_2 hq) (cwV 1 htsG (gV mW365 mW367 mS_Ff_twoAt mW11 mW368) rfl rfl rfl (by decide +kernel) ⟨Nat.le_of_ble_eq_true rfl, Nat.le_of_ble_eq_true rfl⟩) ⟨fun a U g mk q => by obtain ⟨q0, q1, qP, qK, qD⟩ := q; exact ⟨q0, q1, qP, va_K.moved (u := U) (U := U.calling g mk a) (Vm.Alike.refl U.vm) qK, qD⟩, va_recv hK hPc (ci := 7) (q0 := 0) rfl rfl, fun U hU hW => ⟨rfl, by rw [hU], by rw [hU]; exact hPc, va_K.moved hW.alike hK, hDc.weaken (fun _ _ _ _ => trivial)⟩⟩ rfl rfl hl.1 rfl (lv_room (Nat.le_of_ble_eq_true rfl)) d_Ff_readCmap_11 ⟨Nat.le_of_ble_eq_true rfl, Nat.le_of_ble_eq_true rfl⟩) hS (fun q _ h => hFc q h) hFc (fun rr u t H1 locs ht hvm hw hB hz1 hk1 hS => ?_)
  obtain ⟨hP1, hK1, hD1⟩ := hB
  rw [ht] at hP1
  replace hw : r_2 = rr := hw.symm
  subst hw
  obtain ⟨hP, hD⟩ := va_join (wr := []) (w1 := [(o, .inr (7, [.ref o_bytes, .int o_length, .ref o_starts, .ref o_sizes, .ref o_glyphStarts, .int o_units, .int o_glyphs, .int o_ascent, .int o_descent, .int o_gap, .int o_longLoca, .int o_metrics, .int o_codes, .int o_codesSize, .int o_segments, .int o_pairs])), (o_bytes, .inl (cy 1, 4096, .inl o_bytes_f)), (o_starts, .inl (cy 0, 8, .inl o_starts_f)), (o_sizes, .inl (cy 0, 8, .inl o_sizes_f)), (o_glyphStarts, .inl (cy 0, 65, .inl o_glyphStarts_f))]) hP hD [0, 1, 2, 3, 4] [] rfl rfl (by decide) (by decide) hk1 hFc hP1 hD1
  generalize H1 = H at hP hS ⊢
  have hP := hP.sub (ws' := [(o, .inr (7, [.ref o_bytes, .int o_length, .ref o_starts, .ref o_sizes, .ref o_glyphStarts, .int o_units, .int o_glyphs, .int o_ascent, .int o_descent, .int o_gap, .int o_longLoca, .int o_metrics, .int o_codes, .int o_codesSize, .int o_segments, .int o_pairs])), (o_bytes, .inl (cy 1, 4096, .inl o_bytes_f)), (o_starts, .inl (cy 0, 8, .inl o_starts_f)), (o_sizes, .inl (cy 0, 8, .inl o_sizes_f)), (o_glyphStarts, .inl (cy 0, 65, .inl o_glyphStarts_f))]) [0, 1, 2, 3, 4] rfl
  have hD := hD.sub (ws' := [(o, .inr (7, [.ref o_bytes, .int o_length, .ref o_starts, .ref o_sizes, .ref o_glyphStarts, .int o_units, .int o_glyphs, .int o_ascent, .int o_descent, .int o_gap, .int o_longLoca, .int o_metrics, .int o_codes, .int o_codesSize, .int o_segments, .int o_pairs])), (o_bytes, .inl (cy 1, 4096, .inl o_bytes_f)), (o_starts, .inl (cy 0, 8, .inl o_starts_f)), (o_sizes, .inl (cy 0, 8, .inl o_sizes_f)), (o_glyphStarts, .inl (cy 0, 65, .inl o_glyphStarts_f))]) [0, 1, 2, 3, 4] (by decide) rfl
  refine W.widen (k := 0) (n := 0) (by decide) (by decide) ?_
  refine lv_istore_n (lv' := [(2, .int r_2), (1, .int (o_starts_f (0 : Int32).toNatClampNeg)), (0, .ref o)]) hx hb d_Ff_readCmap_14 rfl hl (by decide) rfl (fun ls hl => ?_)
  refine lv_aload_n hx hb d_Ff_readCmap_15 rfl (lv_at hl 2 rfl) ?_
  refine va_get (D := (dC, dI)) (ci := 7) (v := .ref o_sizes) (C := "GlyphPage$FontFile") (T := F_Ff) (N := 16) hx hb htsG iG_Ff hown hK hP 0 rfl rfl 3 (by decide) (htsG _ mW304) (fun _ h9 => h9) rfl d_Ff_readCmap_16 ?_
  refine lv_iconst (v := (0 : Int32)) hx hb d_Ff_readCmap_19 (by decide) ?_
  obtain ⟨hin_3, h⟩ := bd_some h
  refine va_iald hx hb hK hP 3 0 rfl rfl hin_3 d_Ff_readCmap_20 ?_
  refine lv_iconst (v := (4 : Int32)) hx hb d_Ff_readCmap_21 (by decide) ?_
  refine lv_icmp_lt (tgt := 40) hx hb d_Ff_readCmap_22 (by decide) (fun c_4 => ?_) (fun c_4 => ?_)
  · replace h := (if_pos c_4).symm.trans h
    refine lv_iconst (v := (0 : Int32)) hx hb d_Ff_readCmap_40 (by decide) ?_
    cases h
    exact W.zret (ty := .boolean) hx hb hr rfl (fun t ht hW => ⟨⟨_, (), rfl, rfl, by rw [ht]; exact hP, va_K.moved hW.alike hK, hD⟩, hS.F ht⟩) hS.2.2 d_Ff_readCmap_41 hlocks
  · replace h := (if_neg c_4).symm.trans h
    refine lv_iconst (v := (4 : Int32)) hx hb d_Ff_readCmap_25 (by decide) ?_
    refine lv_bipush (v := (8 : Int32)) hx hb d_Ff_readCmap_26 (by decide) ?_
    refine lv_iload_n hx hb d_Ff_readCmap_28 rfl (lv_at hl 0 rfl) ?_
    refine lv_imul hx hb d_Ff_readCmap_29 ?_
    refine lv_iadd hx hb d_Ff_readCmap_30 ?_
    refine lv_aload_n hx hb d_Ff_readCmap_31 rfl (lv_at hl 2 rfl) ?_
    refine va_get (D := (dC, dI)) (ci := 7) (v := .ref o_sizes) (C := "GlyphPage$FontFile") (T := F_Ff) (N := 16) hx hb htsG iG_Ff hown hK hP 0 rfl rfl 3 (by decide) (htsG _ mW304) (fun _ h9 => h9) rfl d_Ff_readCmap_32 ?_
    refine lv_iconst (v := (0 : Int32)) hx hb d_Ff_readCmap_35 (by decide) ?_
    obtain ⟨hin_5, h⟩ := bd_some h
    refine va_iald hx hb hK hP 3 0 rfl rfl hin_5 d_Ff_readCmap_36 ?_
    refine lv_icmp_le (tgt := 42) hx hb d_Ff_readCmap_37 (by decide) (fun c_6 => ?_) (fun c_6 => ?_)
    · replace h := (if_pos c_6).symm.trans h
      refine lv_iconst (v := (0 : Int32)) hx hb d_Ff_readCmap_42 (by decide) ?_
      refine lv_istore_n (lv' := [(3, .int (0 : Int32)), (2, .int r_2), (1, .int (o_starts_f (0 : Int32).toNatClampNeg)), (0, .ref o)]) hx hb d_Ff_readCmap_43 rfl hl (by decide) rfl (fun ls hl => ?_)
      exact w_Ff_readCmap_44 C0 o o_bytes o_starts o_sizes o_glyphStarts o_length o_units o_glyphs o_ascent o_descent o_gap o_longLoca o_metrics o_pairs o_bytes_f o_starts_f o_sizes_f o_glyphStarts_f uu  (o_starts_f (0 : Int32).toNatClampNeg) r_2 (0 : Int32) o_codes o_codesSize o_segments h hP hD hS (lv_sub hl [3, 2, 1, 0] rfl)
    · replace h := (if_neg c_6).symm.trans h
      refine lv_iconst (v := (0 : Int32)) hx hb d_Ff_readCmap_40 (by decide) ?_
      cases h
      exact W.zret (ty := .boolean) hx hb hr rfl (fun t ht hW => ⟨⟨_, (), rfl, rfl, by rw [ht]; exact hP, va_K.moved hW.alike hK, hD⟩, hS.F ht⟩) hS.2.2 d_Ff_readCmap_41 hlocks
def P_Ff_glyphInSegment_135 (o_length : Int32) (o_codes : Int32) (o_codesSize : Int32) (o_segments : Int32) (o_bytes_f : Nat → Int32)  (x4 : Int32) (k0 : Int32) : Option (Int32) :=
  if k0 = 0 then (some (0 : Int32)) else (some ((k0 + x4) &&& (65535 : Int32)))
set_option maxHeartbeats 4000000 in
set_option maxRecDepth 100000 in
theorem w_Ff_glyphInSegment_135 (C0 : Cx p s m args meth c A dC dI cy b_Ff_glyphInSegment 9 (some .int) "GlyphPage$FontFile") (o : Nat) (o_bytes : Nat) (o_starts : Nat) (o_sizes : Nat) (o_glyphStarts : Nat) (o_length : Int32) (o_units : Int32) (o_glyphs : Int32) (o_ascent : Int32) (o_descent : Int32) (o_gap : Int32) (o_longLoca : Int32) (o_metrics : Int32) (o_codes : Int32) (o_codesSize : Int32) (o_segments : Int32) (o_pairs : Int32) (o_bytes_f : Nat → Int32) (o_starts_f : Nat → Int32) (o_sizes_f : Nat → Int32) (o_glyphStarts_f : Nat → Int32) (a1 : Int32) (a2 : Int32) (uu : Int32)  (x4 : Int32) (k0 : Int32) {H : Heap} {locs : List Loc} {ls : Array Slot} (h : P_Ff_glyphInSegment_135 o_length o_codes o_codesSize o_segments o_bytes_f x4 k0 = some uu) : va_P (dC, dI) classes [(o, .inr (7, [.ref o_bytes, .int o_length, .ref o_starts, .ref o_sizes, .ref o_glyphStarts, .int o_units, .int o_glyphs, .int o_ascent, .int o_descent, .int o_gap, .int o_longLoca, .int o_metrics, .int o_codes, .int o_codesSize, .int o_segments, .int o_pairs])), (o_bytes, .inl (cy 1, 4096, .inl o_bytes_f)), (o_starts, .inl (cy 0, 8, .inl o_starts_f)), (o_sizes, .inl (cy 0, 8, .inl o_sizes_f)), (o_glyphStarts, .inl (cy 0, 65, .inl o_glyphStarts_f))] H → va_D A [(o, .inr (7, [.ref o_bytes, .int o_length, .ref o_starts, .ref o_sizes, .ref o_glyphStarts, .int o_units, .int o_glyphs, .int o_ascent, .int o_descent, .int o_gap, .int o_longLoca, .int o_metrics, .int o_codes, .int o_codesSize, .int o_segments, .int o_pairs])), (o_bytes, .inl (cy 1, 4096, .inl o_bytes_f)), (o_starts, .inl (cy 0, 8, .inl o_starts_f)), (o_sizes, .inl (cy 0, 8, .inl o_sizes_f)), (o_glyphStarts, .inl (cy 0, 65, .inl o_glyphStarts_f))] → va_S A s.heap H locs → lv_has ls 9 [(4, .int x4)] → W p l e ({ frames := 1, cells := 0, slots := 0, locals := 21 } : Room) s m args below meth c H locs 0 0 (MQ below (va_Qi (fun r (_ : Unit) => r = uu) (fun _ t => va_P (dC, dI) classes [(o, .inr (7, [.ref o_bytes, .int o_length, .ref o_starts, .ref o_sizes, .ref o_glyphStarts, .int o_units, .int o_glyphs, .int o_ascent, .int o_descent, .int o_gap, .int o_longLoca, .int o_metrics, .int o_codes, .int o_codesSize, .int o_segments, .int o_pairs])), (o_bytes, .inl (cy 1, 4096, .inl o_bytes_f)), (o_starts, .inl (cy 0, 8, .inl o_starts_f)), (o_sizes, .inl (cy 0, 8, .inl o_sizes_f)), (o_glyphStarts, .inl (cy 0, 65, .inl o_glyphStarts_f))] t.heap ∧ va_K (dC, dI) classes (TY cy) t ∧ va_D A [(o, .inr (7, [.ref o_bytes, .int o_length, .ref o_starts, .ref o_sizes, .ref o_glyphStarts, .int o_units, .int o_glyphs, .int o_ascent, .int o_descent, .int o_gap, .int o_longLoca, .int o_metrics, .int o_codes, .int o_codesSize, .int o_segments, .int o_pairs])), (o_bytes, .inl (cy 1, 4096, .inl o_bytes_f)), (o_starts, .inl (cy 0, 8, .inl o_starts_f)), (o_sizes, .inl (cy 0, 8, .inl o_sizes_f)), (o_glyphStarts, .inl (cy 0, 65, .inl o_glyphStarts_f))]) A) args s 0 0 A) (F0 m 135 ls [.int k0]) := by
  intro hP hD hS hl
  obtain ⟨hx, hb, hr, hlocks, hml, hown, htsG, hA, hK⟩ := id C0
  unfold P_Ff_glyphInSegment_135 at h
  refine lv_istore (lv' := [(8, .int k0), (4, .int x4)]) hx hb d_Ff_glyphInSegment_135 hl (by decide) rfl (fun ls hl => ?_)
  refine lv_iload hx hb d_Ff_glyphInSegment_137 (lv_at hl 0 rfl) ?_
  refine lv_if_ne (tgt := 146) hx hb d_Ff_glyphInSegment_139 (by decide) (fun c_1 => ?_) (fun c_1 => ?_)
  · replace h := (if_neg c_1).symm.trans h
    refine lv_iload hx hb d_Ff_glyphInSegment_146 (lv_at hl 0 rfl) ?_
    refine lv_iload hx hb d_Ff_glyphInSegment_148 (lv_at hl 1 rfl) ?_
    refine lv_iadd hx hb d_Ff_glyphInSegment_150 ?_
    refine lv_ldc hx hb hown (htsG _ mW533) d_Ff_glyphInSegment_151 ?_
    refine lv_iand hx hb d_Ff_glyphInSegment_153 ?_
    cases h
    exact W.iret hx hb hr (fun t ht hW => ⟨⟨_, (), rfl, rfl, by rw [ht]; exact hP, va_K.moved hW.alike hK, hD⟩, hS.F ht⟩) hS.2.2 d_Ff_glyphInSegment_154 hlocks
  · replace h := (if_pos c_1).symm.trans h
    refine lv_iconst (v := (0 : Int32)) hx hb d_Ff_glyphInSegment_142 (by decide) ?_
    refine lv_goto (tgt := 154) hx hb d_Ff_glyphInSegment_143 (by decide) ?_
    cases h
    exact W.iret hx hb hr (fun t ht hW => ⟨⟨_, (), rfl, rfl, by rw [ht]; exact hP, va_K.moved hW.alike hK, hD⟩, hS.F ht⟩) hS.2.2 d_Ff_glyphInSegment_154 hlocks
def P_Ff_glyphInSegment_109 (o_length : Int32) (o_codes : Int32) (o_codesSize : Int32) (o_segments : Int32) (o_bytes_f : Nat → Int32)  (x4 : Int32) (x7 : Int32) : Option (Int32) :=
  if o_codesSize < (x7 + (2 : Int32)) then (P_Ff_glyphInSegment_135 o_length o_codes o_codesSize o_segments o_bytes_f x4 (0 : Int32)) else ((P_Ff_twoAt o_length o_bytes_f (o_codes + x7)).bind fun r_2 => P_Ff_glyphInSegment_135 o_length o_codes o_codesSize o_segments o_bytes_f x4 r_2)
set_option maxHeartbeats 4000000 in
set_option maxRecDepth 100000 in
theorem w_Ff_glyphInSegment_109 (C0 : Cx p s m args meth c A dC dI cy b_Ff_glyphInSegment 9 (some .int) "GlyphPage$FontFile") (o : Nat) (o_bytes : Nat) (o_starts : Nat) (o_sizes : Nat) (o_glyphStarts : Nat) (o_length : Int32) (o_units : Int32) (o_glyphs : Int32) (o_ascent : Int32) (o_descent : Int32) (o_gap : Int32) (o_longLoca : Int32) (o_metrics : Int32) (o_codes : Int32) (o_codesSize : Int32) (o_segments : Int32) (o_pairs : Int32) (o_bytes_f : Nat → Int32) (o_starts_f : Nat → Int32) (o_sizes_f : Nat → Int32) (o_glyphStarts_f : Nat → Int32) (a1 : Int32) (a2 : Int32) (uu : Int32)  (x4 : Int32) (x7 : Int32) {H : Heap} {locs : List Loc} {ls : Array Slot} (h : P_Ff_glyphInSegment_109 o_length o_codes o_codesSize o_segments o_bytes_f x4 x7 = some uu) : va_P (dC, dI) classes [(o, .inr (7, [.ref o_bytes, .int o_length, .ref o_starts, .ref o_sizes, .ref o_glyphStarts, .int o_units, .int o_glyphs, .int o_ascent, .int o_descent, .int o_gap, .int o_longLoca, .int o_metrics, .int o_codes, .int o_codesSize, .int o_segments, .int o_pairs])), (o_bytes, .inl (cy 1, 4096, .inl o_bytes_f)), (o_starts, .inl (cy 0, 8, .inl o_starts_f)), (o_sizes, .inl (cy 0, 8, .inl o_sizes_f)), (o_glyphStarts, .inl (cy 0, 65, .inl o_glyphStarts_f))] H → va_D A [(o, .inr (7, [.ref o_bytes, .int o_length, .ref o_starts, .ref o_sizes, .ref o_glyphStarts, .int o_units, .int o_glyphs, .int o_ascent, .int o_descent, .int o_gap, .int o_longLoca, .int o_metrics, .int o_codes, .int o_codesSize, .int o_segments, .int o_pairs])), (o_bytes, .inl (cy 1, 4096, .inl o_bytes_f)), (o_starts, .inl (cy 0, 8, .inl o_starts_f)), (o_sizes, .inl (cy 0, 8, .inl o_sizes_f)), (o_glyphStarts, .inl (cy 0, 65, .inl o_glyphStarts_f))] → va_S A s.heap H locs → lv_has ls 9 [(0, .ref o), (4, .int x4), (7, .int x7)] → W p l e ({ frames := 1, cells := 0, slots := 0, locals := 21 } : Room) s m args below meth c H locs 0 0 (MQ below (va_Qi (fun r (_ : Unit) => r = uu) (fun _ t => va_P (dC, dI) classes [(o, .inr (7, [.ref o_bytes, .int o_length, .ref o_starts, .ref o_sizes, .ref o_glyphStarts, .int o_units, .int o_glyphs, .int o_ascent, .int o_descent, .int o_gap, .int o_longLoca, .int o_metrics, .int o_codes, .int o_codesSize, .int o_segments, .int o_pairs])), (o_bytes, .inl (cy 1, 4096, .inl o_bytes_f)), (o_starts, .inl (cy 0, 8, .inl o_starts_f)), (o_sizes, .inl (cy 0, 8, .inl o_sizes_f)), (o_glyphStarts, .inl (cy 0, 65, .inl o_glyphStarts_f))] t.heap ∧ va_K (dC, dI) classes (TY cy) t ∧ va_D A [(o, .inr (7, [.ref o_bytes, .int o_length, .ref o_starts, .ref o_sizes, .ref o_glyphStarts, .int o_units, .int o_glyphs, .int o_ascent, .int o_descent, .int o_gap, .int o_longLoca, .int o_metrics, .int o_codes, .int o_codesSize, .int o_segments, .int o_pairs])), (o_bytes, .inl (cy 1, 4096, .inl o_bytes_f)), (o_starts, .inl (cy 0, 8, .inl o_starts_f)), (o_sizes, .inl (cy 0, 8, .inl o_sizes_f)), (o_glyphStarts, .inl (cy 0, 65, .inl o_glyphStarts_f))]) A) args s 0 0 A) (F0 m 109 ls []) := by
  intro hP hD hS hl
  obtain ⟨hx, hb, hr, hlocks, hml, hown, htsG, hA, hK⟩ := id C0
  unfold P_Ff_glyphInSegment_109 at h
  refine lv_iload hx hb d_Ff_glyphInSegment_109 (lv_at hl 2 rfl) ?_
  refine lv_iconst (v := (2 : Int32)) hx hb d_Ff_glyphInSegment_111 (by decide) ?_
  refine lv_iadd hx hb d_Ff_glyphInSegment_112 ?_
  refine lv_aload_n hx hb d_Ff_glyphInSegment_113 rfl (lv_at hl 0 rfl) ?_
  refine va_get (D := (dC, dI)) (ci := 7) (v := .int o_codesSize) (C := "GlyphPage$FontFile") (T := F_Ff) (N := 16) hx hb htsG iG_Ff hown hK hP 0 rfl rfl 13 (by decide) (htsG _ mW321) (fun _ h9 => h9) rfl d_Ff_glyphInSegment_114 ?_
  refine lv_icmp_gt (tgt := 134) hx hb d_Ff_glyphInSegment_117 (by decide) (fun c_1 => ?_) (fun c_1 => ?_)
  · replace h := (if_pos c_1).symm.trans h
    refine lv_iconst (v := (0 : Int32)) hx hb d_Ff_glyphInSegment_134 (by decide) ?_
    exact w_Ff_glyphInSegment_135 C0 o o_bytes o_starts o_sizes o_glyphStarts o_length o_units o_glyphs o_ascent o_descent o_gap o_longLoca o_metrics o_codes o_codesSize o_segments o_pairs o_bytes_f o_starts_f o_sizes_f o_glyphStarts_f a1 a2 uu  x4 (0 : Int32) h hP hD hS (lv_sub hl [1] rfl)
  · replace h := (if_neg c_1).symm.trans h
    refine lv_aload_n hx hb d_Ff_glyphInSegment_120 rfl (lv_at hl 0 rfl) ?_
    refine lv_aload_n hx hb d_Ff_glyphInSegment_121 rfl (lv_at hl 0 rfl) ?_
    refine va_get (D := (dC, dI)) (ci := 7) (v := .int o_codes) (C := "GlyphPage$FontFile") (T := F_Ff) (N := 16) hx hb htsG iG_Ff hown hK hP 0 rfl rfl 12 (by decide) (htsG _ mW320) (fun _ h9 => h9) rfl d_Ff_glyphInSegment_122 ?_
    refine lv_iload hx hb d_Ff_glyphInSegment_125 (lv_at hl 2 rfl) ?_
    refine lv_iadd hx hb d_Ff_glyphInSegment_127 ?_
    obtain ⟨r_2, hq, h⟩ := Option.bind_eq_some_iff.mp h
    try dsimp only at h
    have hPc := hP.sub (ws' := [(o, .inr (7, [.ref o_bytes, .int o_length, .ref o_starts, .ref o_sizes, .ref o_glyphStarts, .int o_units, .int o_glyphs, .int o_ascent, .int o_descent, .int o_gap, .int o_longLoca, .int o_metrics, .int o_codes, .int o_codesSize, .int o_segments, .int o_pairs])), (o_bytes, .inl (cy 1, 4096, .inl o_bytes_f)), (o_starts, .inl (cy 0, 8, .inl o_starts_f)), (o_sizes, .inl (cy 0, 8, .inl o_sizes_f)), (o_glyphStarts, .inl (cy 0, 65, .inl o_glyphStarts_f))]) [0, 1, 2, 3, 4] rfl
    have hDc := hD.sub (ws' := [(o, .inr (7, [.ref o_bytes, .int o_length, .ref o_starts, .ref o_sizes, .ref o_glyphStarts, .int o_units, .int o_glyphs, .int o_ascent, .int o_descent, .int o_gap, .int o_longLoca, .int o_metrics, .int o_codes, .int o_codesSize, .int o_segments, .int o_pairs])), (o_bytes, .inl (cy 1, 4096, .inl o_bytes_f)), (o_starts, .inl (cy 0, 8, .inl o_starts_f)), (o_sizes, .inl (cy 0, 8, .inl o_sizes_f)), (o_glyphStarts, .inl (cy 0, 65, .inl o_glyphStarts_f))]) [0, 1, 2, 3, 4] (by decide) rfl
    have hFc := va_free (wc := [(o, .inr (7, [.ref o_bytes, .int o_length, .ref o_starts, .ref o_sizes, .ref o_glyphStarts, .int o_units, .int o_glyphs, .int o_ascent, .int o_descent, .int o_gap, .int o_longLoca, .int o_metrics, .int o_codes, .int o_codesSize, .int o_segments, .int o_pairs])), (o_bytes, .inl (cy 1, 4096, .inl o_bytes_f)), (o_starts, .inl (cy 0, 8, .inl o_starts_f)), (o_sizes, .inl (cy 0, 8, .inl o_sizes_f)), (o_glyphStarts, .inl (cy 0, 65, .inl o_glyphStarts_f))]) hD hS hA [0, 1, 2, 3, 4] rfl
    refine va_calli (va_runV (As := [.int (o_codes + x7)]) (rest := []) ⟨hx, hb, hml, hown, htsG⟩ (c_Ff_twoAt l dC dI cy H.size o o_bytes o_starts o_sizes o_glyphStarts o_length o_units o_glyphs o_ascent o_descent o_gap o_longLoca o_metrics o_codes o_codesSize o_segments o_pairs o_bytes_f o_starts_f o_sizes_f o_glyphStarts_f (o_codes + x7) r_2 hq) (cwV 1 htsG (gV mW365 mW367 mS_Ff_twoAt mW11 mW368) rfl rfl rfl (by decide +kernel) ⟨Nat.le_of_ble_eq_true rfl, Nat.le_of_ble_eq_true rfl⟩) ⟨fun a U g mk q => by obtain ⟨q0, q1, qP, qK, qD⟩ := q; exact ⟨q0, q1, qP, va_K.moved (u := U) (U := U.calling g mk a) (Vm.Alike.refl U.vm) qK, qD⟩, va_recv hK hPc (ci := 7) (q0 := 0) rfl rfl, fun U hU hW => ⟨rfl, by rw [hU], by rw [hU]; exact hPc, va_K.moved hW.alike hK, hDc.weaken (fun _ _ _ _ => trivial)⟩⟩ rfl rfl hl.1 rfl (lv_room (Nat.le_of_ble_eq_true rfl)) d_Ff_glyphInSegment_128 ⟨Nat.le_of_ble_eq_true rfl, Nat.le_of_ble_eq_true rfl⟩) hS (fun q _ h => hFc q h) hFc (fun rr u t H1 locs ht hvm hw hB hz1 hk1 hS => ?_)
    obtain ⟨hP1, hK1, hD1⟩ := hB
    rw [ht] at hP1
    replace hw : r_2 = rr := hw.symm
    subst hw
    obtain ⟨hP, hD⟩ := va_join (wr := []) (w1 := [(o, .inr (7, [.ref o_bytes, .int o_length, .ref o_starts, .ref o_sizes, .ref o_glyphStarts, .int o_units, .int o_glyphs, .int o_ascent, .int o_descent, .int o_gap, .int o_longLoca, .int o_metrics, .int o_codes, .int o_codesSize, .int o_segments, .int o_pairs])), (o_bytes, .inl (cy 1, 4096, .inl o_bytes_f)), (o_starts, .inl (cy 0, 8, .inl o_starts_f)), (o_sizes, .inl (cy 0, 8, .inl o_sizes_f)), (o_glyphStarts, .inl (cy 0, 65, .inl o_glyphStarts_f))]) hP hD [0, 1, 2, 3, 4] [] rfl rfl (by decide) (by decide) hk1 hFc hP1 hD1
    generalize H1 = H at hP hS ⊢
    have hP := hP.sub (ws' := [(o, .inr (7, [.ref o_bytes, .int o_length, .ref o_starts, .ref o_sizes, .ref o_glyphStarts, .int o_units, .int o_glyphs, .int o_ascent, .int o_descent, .int o_gap, .int o_longLoca, .int o_metrics, .int o_codes, .int o_codesSize, .int o_segments, .int o_pairs])), (o_bytes, .inl (cy 1, 4096, .inl o_bytes_f)), (o_starts, .inl (cy 0, 8, .inl o_starts_f)), (o_sizes, .inl (cy 0, 8, .inl o_sizes_f)), (o_glyphStarts, .inl (cy 0, 65, .inl o_glyphStarts_f))]) [0, 1, 2, 3, 4] rfl
    have hD := hD.sub (ws' := [(o, .inr (7, [.ref o_bytes, .int o_length, .ref o_starts, .ref o_sizes, .ref o_glyphStarts, .int o_units, .int o_glyphs, .int o_ascent, .int o_descent, .int o_gap, .int o_longLoca, .int o_metrics, .int o_codes, .int o_codesSize, .int o_segments, .int o_pairs])), (o_bytes, .inl (cy 1, 4096, .inl o_bytes_f)), (o_starts, .inl (cy 0, 8, .inl o_starts_f)), (o_sizes, .inl (cy 0, 8, .inl o_sizes_f)), (o_glyphStarts, .inl (cy 0, 65, .inl o_glyphStarts_f))]) [0, 1, 2, 3, 4] (by decide) rfl
    refine W.widen (k := 0) (n := 0) (by decide) (by decide) ?_
    refine lv_goto (tgt := 135) hx hb d_Ff_glyphInSegment_131 (by decide) ?_
    exact w_Ff_glyphInSegment_135 C0 o o_bytes o_starts o_sizes o_glyphStarts o_length o_units o_glyphs o_ascent o_descent o_gap o_longLoca o_metrics o_codes o_codesSize o_segments o_pairs o_bytes_f o_starts_f o_sizes_f o_glyphStarts_f a1 a2 uu  x4 r_2 h hP hD hS (lv_sub hl [1] rfl)
def P_Ff_glyphInSegment (o_length : Int32) (o_codes : Int32) (o_codesSize : Int32) (o_segments : Int32) (o_bytes_f : Nat → Int32) (a1 : Int32) (a2 : Int32) : Option (Int32) :=
  (P_Ff_twoAt o_length o_bytes_f (((o_codes + (16 : Int32)) + ((2 : Int32) * o_segments)) + ((2 : Int32) * a1))).bind fun r_1 => (P_Ff_twoAt o_length o_bytes_f (((o_codes + (16 : Int32)) + ((4 : Int32) * o_segments)) + ((2 : Int32) * a1))).bind fun r_2 => (P_Ff_twoAt o_length o_bytes_f (o_codes + (((16 : Int32) + ((6 : Int32) * o_segments)) + ((2 : Int32) * a1)))).bind fun r_3 => if r_1 ≤ a2 then (if r_3 = 0 then (some ((a2 + r_2) &&& (65535 : Int32))) else (P_Ff_glyphInSegment_109 o_length o_codes o_codesSize o_segments o_bytes_f r_2 (((((16 : Int32) + ((6 : Int32) * o_segments)) + ((2 : Int32) * a1)) + r_3) + ((2 : Int32) * (a2 - r_1))))) else (some (0 : Int32))
set_option maxHeartbeats 4000000 in
set_option maxRecDepth 100000 in
theorem c_Ff_glyphInSegment (l : Launch) (dC : Nat → ClassId) (dI : Nat → Nat → Nat) (cy : Nat → ClassId) (sz : Nat) (o : Nat) (o_bytes : Nat) (o_starts : Nat) (o_sizes : Nat) (o_glyphStarts : Nat) (o_length : Int32) (o_units : Int32) (o_glyphs : Int32) (o_ascent : Int32) (o_descent : Int32) (o_gap : Int32) (o_longLoca : Int32) (o_metrics : Int32) (o_codes : Int32) (o_codesSize : Int32) (o_segments : Int32) (o_pairs : Int32) (o_bytes_f : Nat → Int32) (o_starts_f : Nat → Int32) (o_sizes_f : Nat → Int32) (o_glyphStarts_f : Nat → Int32) (a1 : Int32) (a2 : Int32) (uu : Int32) (h : P_Ff_glyphInSegment o_length o_codes o_codesSize o_segments o_bytes_f a1 a2 = some uu) : Met l y_Ff_glyphInSegment (Cond.code y_Ff_glyphInSegment b_Ff_glyphInSegment 9 (some .int) :: G) ({ frames := 1, cells := 0, slots := 0, locals := 21 } : Room) (va_Pc [.ref o, .int a1, .int a2] (fun U => U.heap.size = sz ∧ va_P (dC, dI) classes [(o, .inr (7, [.ref o_bytes, .int o_length, .ref o_starts, .ref o_sizes, .ref o_glyphStarts, .int o_units, .int o_glyphs, .int o_ascent, .int o_descent, .int o_gap, .int o_longLoca, .int o_metrics, .int o_codes, .int o_codesSize, .int o_segments, .int o_pairs])), (o_bytes, .inl (cy 1, 4096, .inl o_bytes_f)), (o_starts, .inl (cy 0, 8, .inl o_starts_f)), (o_sizes, .inl (cy 0, 8, .inl o_sizes_f)), (o_glyphStarts, .inl (cy 0, 65, .inl o_glyphStarts_f))] U.heap ∧ va_K (dC, dI) classes (TY cy) U ∧ va_D (fun _ => True) [(o, .inr (7, [.ref o_bytes, .int o_length, .ref o_starts, .ref o_sizes, .ref o_glyphStarts, .int o_units, .int o_glyphs, .int o_ascent, .int o_descent, .int o_gap, .int o_longLoca, .int o_metrics, .int o_codes, .int o_codesSize, .int o_segments, .int o_pairs])), (o_bytes, .inl (cy 1, 4096, .inl o_bytes_f)), (o_starts, .inl (cy 0, 8, .inl o_starts_f)), (o_sizes, .inl (cy 0, 8, .inl o_sizes_f)), (o_glyphStarts, .inl (cy 0, 65, .inl o_glyphStarts_f))])) (va_Qi (fun r (_ : Unit) => r = uu) (fun _ t => va_P (dC, dI) classes [(o, .inr (7, [.ref o_bytes, .int o_length, .ref o_starts, .ref o_sizes, .ref o_glyphStarts, .int o_units, .int o_glyphs, .int o_ascent, .int o_descent, .int o_gap, .int o_longLoca, .int o_metrics, .int o_codes, .int o_codesSize, .int o_segments, .int o_pairs])), (o_bytes, .inl (cy 1, 4096, .inl o_bytes_f)), (o_starts, .inl (cy 0, 8, .inl o_starts_f)), (o_sizes, .inl (cy 0, 8, .inl o_sizes_f)), (o_glyphStarts, .inl (cy 0, 65, .inl o_glyphStarts_f))] t.heap ∧ va_K (dC, dI) classes (TY cy) t ∧ va_D (va_A [(o, .inr (7, [.ref o_bytes, .int o_length, .ref o_starts, .ref o_sizes, .ref o_glyphStarts, .int o_units, .int o_glyphs, .int o_ascent, .int o_descent, .int o_gap, .int o_longLoca, .int o_metrics, .int o_codes, .int o_codesSize, .int o_segments, .int o_pairs])), (o_bytes, .inl (cy 1, 4096, .inl o_bytes_f)), (o_starts, .inl (cy 0, 8, .inl o_starts_f)), (o_sizes, .inl (cy 0, 8, .inl o_sizes_f)), (o_glyphStarts, .inl (cy 0, 65, .inl o_glyphStarts_f))] sz) [(o, .inr (7, [.ref o_bytes, .int o_length, .ref o_starts, .ref o_sizes, .ref o_glyphStarts, .int o_units, .int o_glyphs, .int o_ascent, .int o_descent, .int o_gap, .int o_longLoca, .int o_metrics, .int o_codes, .int o_codesSize, .int o_segments, .int o_pairs])), (o_bytes, .inl (cy 1, 4096, .inl o_bytes_f)), (o_starts, .inl (cy 0, 8, .inl o_starts_f)), (o_sizes, .inl (cy 0, 8, .inl o_sizes_f)), (o_glyphStarts, .inl (cy 0, 65, .inl o_glyphStarts_f))]) (va_A [(o, .inr (7, [.ref o_bytes, .int o_length, .ref o_starts, .ref o_sizes, .ref o_glyphStarts, .int o_units, .int o_glyphs, .int o_ascent, .int o_descent, .int o_gap, .int o_longLoca, .int o_metrics, .int o_codes, .int o_codesSize, .int o_segments, .int o_pairs])), (o_bytes, .inl (cy 1, 4096, .inl o_bytes_f)), (o_starts, .inl (cy 0, 8, .inl o_starts_f)), (o_sizes, .inl (cy 0, 8, .inl o_sizes_f)), (o_glyphStarts, .inl (cy 0, 65, .inl o_glyphStarts_f))] sz)) 0 0 (va_A [(o, .inr (7, [.ref o_bytes, .int o_length, .ref o_starts, .ref o_sizes, .ref o_glyphStarts, .int o_units, .int o_glyphs, .int o_ascent, .int o_descent, .int o_gap, .int o_longLoca, .int o_metrics, .int o_codes, .int o_codesSize, .int o_segments, .int o_pairs])), (o_bytes, .inl (cy 1, 4096, .inl o_bytes_f)), (o_starts, .inl (cy 0, 8, .inl o_starts_f)), (o_sizes, .inl (cy 0, 8, .inl o_sizes_f)), (o_glyphStarts, .inl (cy 0, 65, .inl o_glyphStarts_f))] sz) := by
  refine Met.ofW (cc := b_Ff_glyphInSegment) (maxL := 9) (ret := (some .int)) (by decide) rfl ?_
  intro p e s m args below meth c s₁ B hml hv
  obtain ⟨rfl, hsz, hP, hK, hD0⟩ := hv
  have hx := B.exec
  have hb := B.bytes
  have hr := B.returns
  have hts := atoms_spec (ws := Cond.code y_Ff_glyphInSegment b_Ff_glyphInSegment 9 (some .int) :: G) B.pre
  have htsG : ∀ w ∈ G, w.before _ s = true := fun w hw => hts w (List.mem_cons_of_mem _ hw)
  have hown : s.vm.findClass "GlyphPage$FontFile" = some m.cls := findClass_of_methodNamed B.named
  have hlocks := B.notSynchronized
  subst hsz
  have hD := hD0.self (sz := s.heap.size)
  generalize hAe : va_A [(o, .inr (7, [.ref o_bytes, .int o_length, .ref o_starts, .ref o_sizes, .ref o_glyphStarts, .int o_units, .int o_glyphs, .int o_ascent, .int o_descent, .int o_gap, .int o_longLoca, .int o_metrics, .int o_codes, .int o_codesSize, .int o_segments, .int o_pairs])), (o_bytes, .inl (cy 1, 4096, .inl o_bytes_f)), (o_starts, .inl (cy 0, 8, .inl o_starts_f)), (o_sizes, .inl (cy 0, 8, .inl o_sizes_f)), (o_glyphStarts, .inl (cy 0, 65, .inl o_glyphStarts_f))] s.heap.size = A at hD ⊢
  have hA : ∀ q : Nat, s.heap.size ≤ q → A q := fun q h => by rw [← hAe]; exact Or.inr h
  have hS : va_S A s.heap s.heap [] := va_S.rf
  have hl := lv_entry ([.ref o, .int a1, .int a2]) (n := 9) (Nat.le_of_ble_eq_true rfl)
  rw [lg_entry_eq]
  generalize (lg_sl ([.ref o, .int a1, .int a2]) ++ List.replicate (9 - (lg_sl ([.ref o, .int a1, .int a2])).length) Slot.unset).toArray = ls at hl ⊢
  have hl : lv_has ls 9 [(0, .ref o), (1, .int a1), (2, .int a2)] := hl
  have C0 : Cx p s m _ meth c A dC dI cy b_Ff_glyphInSegment 9 (some .int) "GlyphPage$FontFile" := ⟨hx, hb, hr, hlocks, hml, hown, htsG, hA, hK⟩
  unfold P_Ff_glyphInSegment at h
  refine lv_aload_n hx hb d_Ff_glyphInSegment_0 rfl (lv_at hl 0 rfl) ?_
  refine lv_aload_n hx hb d_Ff_glyphInSegment_1 rfl (lv_at hl 0 rfl) ?_
  refine va_get (D := (dC, dI)) (ci := 7) (v := .int o_codes) (C := "GlyphPage$FontFile") (T := F_Ff) (N := 16) hx hb htsG iG_Ff hown hK hP 0 rfl rfl 12 (by decide) (htsG _ mW320) (fun _ h9 => h9) rfl d_Ff_glyphInSegment_2 ?_
  refine lv_bipush (v := (16 : Int32)) hx hb d_Ff_glyphInSegment_5 (by decide) ?_
  refine lv_iadd hx hb d_Ff_glyphInSegment_7 ?_
  refine lv_iconst (v := (2 : Int32)) hx hb d_Ff_glyphInSegment_8 (by decide) ?_
  refine lv_aload_n hx hb d_Ff_glyphInSegment_9 rfl (lv_at hl 0 rfl) ?_
  refine va_get (D := (dC, dI)) (ci := 7) (v := .int o_segments) (C := "GlyphPage$FontFile") (T := F_Ff) (N := 16) hx hb htsG iG_Ff hown hK hP 0 rfl rfl 14 (by decide) (htsG _ mW322) (fun _ h9 => h9) rfl d_Ff_glyphInSegment_10 ?_
  refine lv_imul hx hb d_Ff_glyphInSegment_13 ?_
  refine lv_iadd hx hb d_Ff_glyphInSegment_14 ?_
  refine lv_iconst (v := (2 : Int32)) hx hb d_Ff_glyphInSegment_15 (by decide) ?_
  refine lv_iload_n hx hb d_Ff_glyphInSegment_16 rfl (lv_at hl 1 rfl) ?_
  refine lv_imul hx hb d_Ff_glyphInSegment_17 ?_
  refine lv_iadd hx hb d_Ff_glyphInSegment_18 ?_
  obtain ⟨r_1, hq, h⟩ := Option.bind_eq_some_iff.mp h
  try dsimp only at h
  have hPc := hP.sub (ws' := [(o, .inr (7, [.ref o_bytes, .int o_length, .ref o_starts, .ref o_sizes, .ref o_glyphStarts, .int o_units, .int o_glyphs, .int o_ascent, .int o_descent, .int o_gap, .int o_longLoca, .int o_metrics, .int o_codes, .int o_codesSize, .int o_segments, .int o_pairs])), (o_bytes, .inl (cy 1, 4096, .inl o_bytes_f)), (o_starts, .inl (cy 0, 8, .inl o_starts_f)), (o_sizes, .inl (cy 0, 8, .inl o_sizes_f)), (o_glyphStarts, .inl (cy 0, 65, .inl o_glyphStarts_f))]) [0, 1, 2, 3, 4] rfl
  have hDc := hD.sub (ws' := [(o, .inr (7, [.ref o_bytes, .int o_length, .ref o_starts, .ref o_sizes, .ref o_glyphStarts, .int o_units, .int o_glyphs, .int o_ascent, .int o_descent, .int o_gap, .int o_longLoca, .int o_metrics, .int o_codes, .int o_codesSize, .int o_segments, .int o_pairs])), (o_bytes, .inl (cy 1, 4096, .inl o_bytes_f)), (o_starts, .inl (cy 0, 8, .inl o_starts_f)), (o_sizes, .inl (cy 0, 8, .inl o_sizes_f)), (o_glyphStarts, .inl (cy 0, 65, .inl o_glyphStarts_f))]) [0, 1, 2, 3, 4] (by decide) rfl
  have hFc := va_free (wc := [(o, .inr (7, [.ref o_bytes, .int o_length, .ref o_starts, .ref o_sizes, .ref o_glyphStarts, .int o_units, .int o_glyphs, .int o_ascent, .int o_descent, .int o_gap, .int o_longLoca, .int o_metrics, .int o_codes, .int o_codesSize, .int o_segments, .int o_pairs])), (o_bytes, .inl (cy 1, 4096, .inl o_bytes_f)), (o_starts, .inl (cy 0, 8, .inl o_starts_f)), (o_sizes, .inl (cy 0, 8, .inl o_sizes_f)), (o_glyphStarts, .inl (cy 0, 65, .inl o_glyphStarts_f))]) hD hS hA [0, 1, 2, 3, 4] rfl
  refine va_calli (va_runV (As := [.int (((o_codes + (16 : Int32)) + ((2 : Int32) * o_segments)) + ((2 : Int32) * a1))]) (rest := []) ⟨hx, hb, hml, hown, htsG⟩ (c_Ff_twoAt l dC dI cy s.heap.size o o_bytes o_starts o_sizes o_glyphStarts o_length o_units o_glyphs o_ascent o_descent o_gap o_longLoca o_metrics o_codes o_codesSize o_segments o_pairs o_bytes_f o_starts_f o_sizes_f o_glyphStarts_f (((o_codes + (16 : Int32)) + ((2 : Int32) * o_segments)) + ((2 : Int32) * a1)) r_1 hq) (cwV 1 htsG (gV mW365 mW367 mS_Ff_twoAt mW11 mW368) rfl rfl rfl (by decide +kernel) ⟨Nat.le_of_ble_eq_true rfl, Nat.le_of_ble_eq_true rfl⟩) ⟨fun a U g mk q => by obtain ⟨q0, q1, qP, qK, qD⟩ := q; exact ⟨q0, q1, qP, va_K.moved (u := U) (U := U.calling g mk a) (Vm.Alike.refl U.vm) qK, qD⟩, va_recv hK hPc (ci := 7) (q0 := 0) rfl rfl, fun U hU hW => ⟨rfl, by rw [hU], by rw [hU]; exact hPc, va_K.moved hW.alike hK, hDc.weaken (fun _ _ _ _ => trivial)⟩⟩ rfl rfl hl.1 rfl (lv_room (Nat.le_of_ble_eq_true rfl)) d_Ff_glyphInSegment_19 ⟨Nat.le_of_ble_eq_true rfl, Nat.le_of_ble_eq_true rfl⟩) hS (fun q _ h => hFc q h) hFc (fun rr u t H1 locs ht hvm hw hB hz1 hk1 hS => ?_)
  obtain ⟨hP1, hK1, hD1⟩ := hB
  rw [ht] at hP1
  replace hw : r_1 = rr := hw.symm
  subst hw
  obtain ⟨hP, hD⟩ := va_join (wr := []) (w1 := [(o, .inr (7, [.ref o_bytes, .int o_length, .ref o_starts, .ref o_sizes, .ref o_glyphStarts, .int o_units, .int o_glyphs, .int o_ascent, .int o_descent, .int o_gap, .int o_longLoca, .int o_metrics, .int o_codes, .int o_codesSize, .int o_segments, .int o_pairs])), (o_bytes, .inl (cy 1, 4096, .inl o_bytes_f)), (o_starts, .inl (cy 0, 8, .inl o_starts_f)), (o_sizes, .inl (cy 0, 8, .inl o_sizes_f)), (o_glyphStarts, .inl (cy 0, 65, .inl o_glyphStarts_f))]) hP hD [0, 1, 2, 3, 4] [] rfl rfl (by decide) (by decide) hk1 hFc hP1 hD1
  generalize H1 = H at hP hS ⊢
  have hP := hP.sub (ws' := [(o, .inr (7, [.ref o_bytes, .int o_length, .ref o_starts, .ref o_sizes, .ref o_glyphStarts, .int o_units, .int o_glyphs, .int o_ascent, .int o_descent, .int o_gap, .int o_longLoca, .int o_metrics, .int o_codes, .int o_codesSize, .int o_segments, .int o_pairs])), (o_bytes, .inl (cy 1, 4096, .inl o_bytes_f)), (o_starts, .inl (cy 0, 8, .inl o_starts_f)), (o_sizes, .inl (cy 0, 8, .inl o_sizes_f)), (o_glyphStarts, .inl (cy 0, 65, .inl o_glyphStarts_f))]) [0, 1, 2, 3, 4] rfl
  have hD := hD.sub (ws' := [(o, .inr (7, [.ref o_bytes, .int o_length, .ref o_starts, .ref o_sizes, .ref o_glyphStarts, .int o_units, .int o_glyphs, .int o_ascent, .int o_descent, .int o_gap, .int o_longLoca, .int o_metrics, .int o_codes, .int o_codesSize, .int o_segments, .int o_pairs])), (o_bytes, .inl (cy 1, 4096, .inl o_bytes_f)), (o_starts, .inl (cy 0, 8, .inl o_starts_f)), (o_sizes, .inl (cy 0, 8, .inl o_sizes_f)), (o_glyphStarts, .inl (cy 0, 65, .inl o_glyphStarts_f))]) [0, 1, 2, 3, 4] (by decide) rfl
  refine W.widen (k := 0) (n := 0) (by decide) (by decide) ?_
  refine lv_istore_n (lv' := [(3, .int r_1), (0, .ref o), (1, .int a1), (2, .int a2)]) hx hb d_Ff_glyphInSegment_22 rfl hl (by decide) rfl (fun ls hl => ?_)
  refine lv_aload_n hx hb d_Ff_glyphInSegment_23 rfl (lv_at hl 1 rfl) ?_
  refine lv_aload_n hx hb d_Ff_glyphInSegment_24 rfl (lv_at hl 1 rfl) ?_
  refine va_get (D := (dC, dI)) (ci := 7) (v := .int o_codes) (C := "GlyphPage$FontFile") (T := F_Ff) (N := 16) hx hb htsG iG_Ff hown hK hP 0 rfl rfl 12 (by decide) (htsG _ mW320) (fun _ h9 => h9) rfl d_Ff_glyphInSegment_25 ?_
  refine lv_bipush (v := (16 : Int32)) hx hb d_Ff_glyphInSegment_28 (by decide) ?_
  refine lv_iadd hx hb d_Ff_glyphInSegment_30 ?_
  refine lv_iconst (v := (4 : Int32)) hx hb d_Ff_glyphInSegment_31 (by decide) ?_
  refine lv_aload_n hx hb d_Ff_glyphInSegment_32 rfl (lv_at hl 1 rfl) ?_
  refine va_get (D := (dC, dI)) (ci := 7) (v := .int o_segments) (C := "GlyphPage$FontFile") (T := F_Ff) (N := 16) hx hb htsG iG_Ff hown hK hP 0 rfl rfl 14 (by decide) (htsG _ mW322) (fun _ h9 => h9) rfl d_Ff_glyphInSegment_33 ?_
  refine lv_imul hx hb d_Ff_glyphInSegment_36 ?_
  refine lv_iadd hx hb d_Ff_glyphInSegment_37 ?_
  refine lv_iconst (v := (2 : Int32)) hx hb d_Ff_glyphInSegment_38 (by decide) ?_
  refine lv_iload_n hx hb d_Ff_glyphInSegment_39 rfl (lv_at hl 2 rfl) ?_
  refine lv_imul hx hb d_Ff_glyphInSegment_40 ?_
  refine lv_iadd hx hb d_Ff_glyphInSegment_41 ?_
  obtain ⟨r_2, hq, h⟩ := Option.bind_eq_some_iff.mp h
  try dsimp only at h
  have hPc := hP.sub (ws' := [(o, .inr (7, [.ref o_bytes, .int o_length, .ref o_starts, .ref o_sizes, .ref o_glyphStarts, .int o_units, .int o_glyphs, .int o_ascent, .int o_descent, .int o_gap, .int o_longLoca, .int o_metrics, .int o_codes, .int o_codesSize, .int o_segments, .int o_pairs])), (o_bytes, .inl (cy 1, 4096, .inl o_bytes_f)), (o_starts, .inl (cy 0, 8, .inl o_starts_f)), (o_sizes, .inl (cy 0, 8, .inl o_sizes_f)), (o_glyphStarts, .inl (cy 0, 65, .inl o_glyphStarts_f))]) [0, 1, 2, 3, 4] rfl
  have hDc := hD.sub (ws' := [(o, .inr (7, [.ref o_bytes, .int o_length, .ref o_starts, .ref o_sizes, .ref o_glyphStarts, .int o_units, .int o_glyphs, .int o_ascent, .int o_descent, .int o_gap, .int o_longLoca, .int o_metrics, .int o_codes, .int o_codesSize, .int o_segments, .int o_pairs])), (o_bytes, .inl (cy 1, 4096, .inl o_bytes_f)), (o_starts, .inl (cy 0, 8, .inl o_starts_f)), (o_sizes, .inl (cy 0, 8, .inl o_sizes_f)), (o_glyphStarts, .inl (cy 0, 65, .inl o_glyphStarts_f))]) [0, 1, 2, 3, 4] (by decide) rfl
  have hFc := va_free (wc := [(o, .inr (7, [.ref o_bytes, .int o_length, .ref o_starts, .ref o_sizes, .ref o_glyphStarts, .int o_units, .int o_glyphs, .int o_ascent, .int o_descent, .int o_gap, .int o_longLoca, .int o_metrics, .int o_codes, .int o_codesSize, .int o_segments, .int o_pairs])), (o_bytes, .inl (cy 1, 4096, .inl o_bytes_f)), (o_starts, .inl (cy 0, 8, .inl o_starts_f)), (o_sizes, .inl (cy 0, 8, .inl o_sizes_f)), (o_glyphStarts, .inl (cy 0, 65, .inl o_glyphStarts_f))]) hD hS hA [0, 1, 2, 3, 4] rfl
  refine va_calli (va_runV (As := [.int (((o_codes + (16 : Int32)) + ((4 : Int32) * o_segments)) + ((2 : Int32) * a1))]) (rest := []) ⟨hx, hb, hml, hown, htsG⟩ (c_Ff_twoAt l dC dI cy H.size o o_bytes o_starts o_sizes o_glyphStarts o_length o_units o_glyphs o_ascent o_descent o_gap o_longLoca o_metrics o_codes o_codesSize o_segments o_pairs o_bytes_f o_starts_f o_sizes_f o_glyphStarts_f (((o_codes + (16 : Int32)) + ((4 : Int32) * o_segments)) + ((2 : Int32) * a1)) r_2 hq) (cwV 1 htsG (gV mW365 mW367 mS_Ff_twoAt mW11 mW368) rfl rfl rfl (by decide +kernel) ⟨Nat.le_of_ble_eq_true rfl, Nat.le_of_ble_eq_true rfl⟩) ⟨fun a U g mk q => by obtain ⟨q0, q1, qP, qK, qD⟩ := q; exact ⟨q0, q1, qP, va_K.moved (u := U) (U := U.calling g mk a) (Vm.Alike.refl U.vm) qK, qD⟩, va_recv hK hPc (ci := 7) (q0 := 0) rfl rfl, fun U hU hW => ⟨rfl, by rw [hU], by rw [hU]; exact hPc, va_K.moved hW.alike hK, hDc.weaken (fun _ _ _ _ => trivial)⟩⟩ rfl rfl hl.1 rfl (lv_room (Nat.le_of_ble_eq_true rfl)) d_Ff_glyphInSegment_42 ⟨Nat.le_of_ble_eq_true rfl, Nat.le_of_ble_eq_true rfl⟩) hS (fun q _ h => hFc q h) hFc (fun rr u t H1 locs ht hvm hw hB hz1 hk1 hS => ?_)
  obtain ⟨hP1, hK1, hD1⟩ := hB
  rw [ht] at hP1
  replace hw : r_2 = rr := hw.symm
  subst hw
  obtain ⟨hP, hD⟩ := va_join (wr := []) (w1 := [(o, .inr (7, [.ref o_bytes, .int o_length, .ref o_starts, .ref o_sizes, .ref o_glyphStarts, .int o_units, .int o_glyphs, .int o_ascent, .int o_descent, .int o_gap, .int o_longLoca, .int o_metrics, .int o_codes, .int o_codesSize, .int o_segments, .int o_pairs])), (o_bytes, .inl (cy 1, 4096, .inl o_bytes_f)), (o_starts, .inl (cy 0, 8, .inl o_starts_f)), (o_sizes, .inl (cy 0, 8, .inl o_sizes_f)), (o_glyphStarts, .inl (cy 0, 65, .inl o_glyphStarts_f))]) hP hD [0, 1, 2, 3, 4] [] rfl rfl (by decide) (by decide) hk1 hFc hP1 hD1
  generalize H1 = H at hP hS ⊢
  have hP := hP.sub (ws' := [(o, .inr (7, [.ref o_bytes, .int o_length, .ref o_starts, .ref o_sizes, .ref o_glyphStarts, .int o_units, .int o_glyphs, .int o_ascent, .int o_descent, .int o_gap, .int o_longLoca, .int o_metrics, .int o_codes, .int o_codesSize, .int o_segments, .int o_pairs])), (o_bytes, .inl (cy 1, 4096, .inl o_bytes_f)), (o_starts, .inl (cy 0, 8, .inl o_starts_f)), (o_sizes, .inl (cy 0, 8, .inl o_sizes_f)), (o_glyphStarts, .inl (cy 0, 65, .inl o_glyphStarts_f))]) [0, 1, 2, 3, 4] rfl
  have hD := hD.sub (ws' := [(o, .inr (7, [.ref o_bytes, .int o_length, .ref o_starts, .ref o_sizes, .ref o_glyphStarts, .int o_units, .int o_glyphs, .int o_ascent, .int o_descent, .int o_gap, .int o_longLoca, .int o_metrics, .int o_codes, .int o_codesSize, .int o_segments, .int o_pairs])), (o_bytes, .inl (cy 1, 4096, .inl o_bytes_f)), (o_starts, .inl (cy 0, 8, .inl o_starts_f)), (o_sizes, .inl (cy 0, 8, .inl o_sizes_f)), (o_glyphStarts, .inl (cy 0, 65, .inl o_glyphStarts_f))]) [0, 1, 2, 3, 4] (by decide) rfl
  refine W.widen (k := 0) (n := 0) (by decide) (by decide) ?_
  refine lv_istore (lv' := [(4, .int r_2), (3, .int r_1), (0, .ref o), (1, .int a1), (2, .int a2)]) hx hb d_Ff_glyphInSegment_45 hl (by decide) rfl (fun ls hl => ?_)
  refine lv_bipush (v := (16 : Int32)) hx hb d_Ff_glyphInSegment_47 (by decide) ?_
  refine lv_bipush (v := (6 : Int32)) hx hb d_Ff_glyphInSegment_49 (by decide) ?_
  refine lv_aload_n hx hb d_Ff_glyphInSegment_51 rfl (lv_at hl 2 rfl) ?_
  refine va_get (D := (dC, dI)) (ci := 7) (v := .int o_segments) (C := "GlyphPage$FontFile") (T := F_Ff) (N := 16) hx hb htsG iG_Ff hown hK hP 0 rfl rfl 14 (by decide) (htsG _ mW322) (fun _ h9 => h9) rfl d_Ff_glyphInSegment_52 ?_
  refine lv_imul hx hb d_Ff_glyphInSegment_55 ?_
  refine lv_iadd hx hb d_Ff_glyphInSegment_56 ?_
  refine lv_iconst (v := (2 : Int32)) hx hb d_Ff_glyphInSegment_57 (by decide) ?_
  refine lv_iload_n hx hb d_Ff_glyphInSegment_58 rfl (lv_at hl 3 rfl) ?_
  refine lv_imul hx hb d_Ff_glyphInSegment_59 ?_
  refine lv_iadd hx hb d_Ff_glyphInSegment_60 ?_
  refine lv_istore (lv' := [(5, .int (((16 : Int32) + ((6 : Int32) * o_segments)) + ((2 : Int32) * a1))), (4, .int r_2), (3, .int r_1), (0, .ref o), (1, .int a1), (2, .int a2)]) hx hb d_Ff_glyphInSegment_61 hl (by decide) rfl (fun ls hl => ?_)
  refine lv_aload_n hx hb d_Ff_glyphInSegment_63 rfl (lv_at hl 3 rfl) ?_
  refine lv_aload_n hx hb d_Ff_glyphInSegment_64 rfl (lv_at hl 3 rfl) ?_
  refine va_get (D := (dC, dI)) (ci := 7) (v := .int o_codes) (C := "GlyphPage$FontFile") (T := F_Ff) (N := 16) hx hb htsG iG_Ff hown hK hP 0 rfl rfl 12 (by decide) (htsG _ mW320) (fun _ h9 => h9) rfl d_Ff_glyphInSegment_65 ?_
  refine lv_iload hx hb d_Ff_glyphInSegment_68 (lv_at hl 0 rfl) ?_
  refine lv_iadd hx hb d_Ff_glyphInSegment_70 ?_
  obtain ⟨r_3, hq, h⟩ := Option.bind_eq_some_iff.mp h
  try dsimp only at h
  have hPc := hP.sub (ws' := [(o, .inr (7, [.ref o_bytes, .int o_length, .ref o_starts, .ref o_sizes, .ref o_glyphStarts, .int o_units, .int o_glyphs, .int o_ascent, .int o_descent, .int o_gap, .int o_longLoca, .int o_metrics, .int o_codes, .int o_codesSize, .int o_segments, .int o_pairs])), (o_bytes, .inl (cy 1, 4096, .inl o_bytes_f)), (o_starts, .inl (cy 0, 8, .inl o_starts_f)), (o_sizes, .inl (cy 0, 8, .inl o_sizes_f)), (o_glyphStarts, .inl (cy 0, 65, .inl o_glyphStarts_f))]) [0, 1, 2, 3, 4] rfl
  have hDc := hD.sub (ws' := [(o, .inr (7, [.ref o_bytes, .int o_length, .ref o_starts, .ref o_sizes, .ref o_glyphStarts, .int o_units, .int o_glyphs, .int o_ascent, .int o_descent, .int o_gap, .int o_longLoca, .int o_metrics, .int o_codes, .int o_codesSize, .int o_segments, .int o_pairs])), (o_bytes, .inl (cy 1, 4096, .inl o_bytes_f)), (o_starts, .inl (cy 0, 8, .inl o_starts_f)), (o_sizes, .inl (cy 0, 8, .inl o_sizes_f)), (o_glyphStarts, .inl (cy 0, 65, .inl o_glyphStarts_f))]) [0, 1, 2, 3, 4] (by decide) rfl
  have hFc := va_free (wc := [(o, .inr (7, [.ref o_bytes, .int o_length, .ref o_starts, .ref o_sizes, .ref o_glyphStarts, .int o_units, .int o_glyphs, .int o_ascent, .int o_descent, .int o_gap, .int o_longLoca, .int o_metrics, .int o_codes, .int o_codesSize, .int o_segments, .int o_pairs])), (o_bytes, .inl (cy 1, 4096, .inl o_bytes_f)), (o_starts, .inl (cy 0, 8, .inl o_starts_f)), (o_sizes, .inl (cy 0, 8, .inl o_sizes_f)), (o_glyphStarts, .inl (cy 0, 65, .inl o_glyphStarts_f))]) hD hS hA [0, 1, 2, 3, 4] rfl
  refine va_calli (va_runV (As := [.int (o_codes + (((16 : Int32) + ((6 : Int32) * o_segments)) + ((2 : Int32) * a1)))]) (rest := []) ⟨hx, hb, hml, hown, htsG⟩ (c_Ff_twoAt l dC dI cy H.size o o_bytes o_starts o_sizes o_glyphStarts o_length o_units o_glyphs o_ascent o_descent o_gap o_longLoca o_metrics o_codes o_codesSize o_segments o_pairs o_bytes_f o_starts_f o_sizes_f o_glyphStarts_f (o_codes + (((16 : Int32) + ((6 : Int32) * o_segments)) + ((2 : Int32) * a1))) r_3 hq) (cwV 1 htsG (gV mW365 mW367 mS_Ff_twoAt mW11 mW368) rfl rfl rfl (by decide +kernel) ⟨Nat.le_of_ble_eq_true rfl, Nat.le_of_ble_eq_true rfl⟩) ⟨fun a U g mk q => by obtain ⟨q0, q1, qP, qK, qD⟩ := q; exact ⟨q0, q1, qP, va_K.moved (u := U) (U := U.calling g mk a) (Vm.Alike.refl U.vm) qK, qD⟩, va_recv hK hPc (ci := 7) (q0 := 0) rfl rfl, fun U hU hW => ⟨rfl, by rw [hU], by rw [hU]; exact hPc, va_K.moved hW.alike hK, hDc.weaken (fun _ _ _ _ => trivial)⟩⟩ rfl rfl hl.1 rfl (lv_room (Nat.le_of_ble_eq_true rfl)) d_Ff_glyphInSegment_71 ⟨Nat.le_of_ble_eq_true rfl, Nat.le_of_ble_eq_true rfl⟩) hS (fun q _ h => hFc q h) hFc (fun rr u t H1 locs ht hvm hw hB hz1 hk1 hS => ?_)
  obtain ⟨hP1, hK1, hD1⟩ := hB
  rw [ht] at hP1
  replace hw : r_3 = rr := hw.symm
  subst hw
  obtain ⟨hP, hD⟩ := va_join (wr := []) (w1 := [(o, .inr (7, [.ref o_bytes, .int o_length, .ref o_starts, .ref o_sizes, .ref o_glyphStarts, .int o_units, .int o_glyphs, .int o_ascent, .int o_descent, .int o_gap, .int o_longLoca, .int o_metrics, .int o_codes, .int o_codesSize, .int o_segments, .int o_pairs])), (o_bytes, .inl (cy 1, 4096, .inl o_bytes_f)), (o_starts, .inl (cy 0, 8, .inl o_starts_f)), (o_sizes, .inl (cy 0, 8, .inl o_sizes_f)), (o_glyphStarts, .inl (cy 0, 65, .inl o_glyphStarts_f))]) hP hD [0, 1, 2, 3, 4] [] rfl rfl (by decide) (by decide) hk1 hFc hP1 hD1
  generalize H1 = H at hP hS ⊢
  have hP := hP.sub (ws' := [(o, .inr (7, [.ref o_bytes, .int o_length, .ref o_starts, .ref o_sizes, .ref o_glyphStarts, .int o_units, .int o_glyphs, .int o_ascent, .int o_descent, .int o_gap, .int o_longLoca, .int o_metrics, .int o_codes, .int o_codesSize, .int o_segments, .int o_pairs])), (o_bytes, .inl (cy 1, 4096, .inl o_bytes_f)), (o_starts, .inl (cy 0, 8, .inl o_starts_f)), (o_sizes, .inl (cy 0, 8, .inl o_sizes_f)), (o_glyphStarts, .inl (cy 0, 65, .inl o_glyphStarts_f))]) [0, 1, 2, 3, 4] rfl
  have hD := hD.sub (ws' := [(o, .inr (7, [.ref o_bytes, .int o_length, .ref o_starts, .ref o_sizes, .ref o_glyphStarts, .int o_units, .int o_glyphs, .int o_ascent, .int o_descent, .int o_gap, .int o_longLoca, .int o_metrics, .int o_codes, .int o_codesSize, .int o_segments, .int o_pairs])), (o_bytes, .inl (cy 1, 4096, .inl o_bytes_f)), (o_starts, .inl (cy 0, 8, .inl o_starts_f)), (o_sizes, .inl (cy 0, 8, .inl o_sizes_f)), (o_glyphStarts, .inl (cy 0, 65, .inl o_glyphStarts_f))]) [0, 1, 2, 3, 4] (by decide) rfl
  refine W.widen (k := 0) (n := 0) (by decide) (by decide) ?_
  refine lv_istore (lv' := [(6, .int r_3), (5, .int (((16 : Int32) + ((6 : Int32) * o_segments)) + ((2 : Int32) * a1))), (4, .int r_2), (3, .int r_1), (0, .ref o), (1, .int a1), (2, .int a2)]) hx hb d_Ff_glyphInSegment_74 hl (by decide) rfl (fun ls hl => ?_)
  refine lv_iload_n hx hb d_Ff_glyphInSegment_76 rfl (lv_at hl 3 rfl) ?_
  refine lv_iload_n hx hb d_Ff_glyphInSegment_77 rfl (lv_at hl 6 rfl) ?_
  refine lv_icmp_le (tgt := 83) hx hb d_Ff_glyphInSegment_78 (by decide) (fun c_4 => ?_) (fun c_4 => ?_)
  · replace h := (if_pos c_4).symm.trans h
    refine lv_iload hx hb d_Ff_glyphInSegment_83 (lv_at hl 0 rfl) ?_
    refine lv_if_ne (tgt := 96) hx hb d_Ff_glyphInSegment_85 (by decide) (fun c_5 => ?_) (fun c_5 => ?_)
    · replace h := (if_neg c_5).symm.trans h
      refine lv_iload hx hb d_Ff_glyphInSegment_96 (lv_at hl 1 rfl) ?_
      refine lv_iload hx hb d_Ff_glyphInSegment_98 (lv_at hl 0 rfl) ?_
      refine lv_iadd hx hb d_Ff_glyphInSegment_100 ?_
      refine lv_iconst (v := (2 : Int32)) hx hb d_Ff_glyphInSegment_101 (by decide) ?_
      refine lv_iload_n hx hb d_Ff_glyphInSegment_102 rfl (lv_at hl 6 rfl) ?_
      refine lv_iload_n hx hb d_Ff_glyphInSegment_103 rfl (lv_at hl 3 rfl) ?_
      refine lv_isub hx hb d_Ff_glyphInSegment_104 ?_
      refine lv_imul hx hb d_Ff_glyphInSegment_105 ?_
      refine lv_iadd hx hb d_Ff_glyphInSegment_106 ?_
      refine lv_istore (lv' := [(7, .int (((((16 : Int32) + ((6 : Int32) * o_segments)) + ((2 : Int32) * a1)) + r_3) + ((2 : Int32) * (a2 - r_1)))), (6, .int r_3), (5, .int (((16 : Int32) + ((6 : Int32) * o_segments)) + ((2 : Int32) * a1))), (4, .int r_2), (3, .int r_1), (0, .ref o), (1, .int a1), (2, .int a2)]) hx hb d_Ff_glyphInSegment_107 hl (by decide) rfl (fun ls hl => ?_)
      exact w_Ff_glyphInSegment_109 C0 o o_bytes o_starts o_sizes o_glyphStarts o_length o_units o_glyphs o_ascent o_descent o_gap o_longLoca o_metrics o_codes o_codesSize o_segments o_pairs o_bytes_f o_starts_f o_sizes_f o_glyphStarts_f a1 a2 uu  r_2 (((((16 : Int32) + ((6 : Int32) * o_segments)) + ((2 : Int32) * a1)) + r_3) + ((2 : Int32) * (a2 - r_1))) h hP hD hS (lv_sub hl [5, 3, 0] rfl)
    · replace h := (if_pos c_5).symm.trans h
      refine lv_iload_n hx hb d_Ff_glyphInSegment_88 rfl (lv_at hl 6 rfl) ?_
      refine lv_iload hx hb d_Ff_glyphInSegment_89 (lv_at hl 2 rfl) ?_
      refine lv_iadd hx hb d_Ff_glyphInSegment_91 ?_
      refine lv_ldc hx hb hown (htsG _ mW533) d_Ff_glyphInSegment_92 ?_
      refine lv_iand hx hb d_Ff_glyphInSegment_94 ?_
      cases h
      exact W.iret hx hb hr (fun t ht hW => ⟨⟨_, (), rfl, rfl, by rw [ht]; exact hP, va_K.moved hW.alike hK, hD⟩, hS.F ht⟩) hS.2.2 d_Ff_glyphInSegment_95 hlocks
  · replace h := (if_neg c_4).symm.trans h
    refine lv_iconst (v := (0 : Int32)) hx hb d_Ff_glyphInSegment_81 (by decide) ?_
    cases h
    exact W.iret hx hb hr (fun t ht hW => ⟨⟨_, (), rfl, rfl, by rw [ht]; exact hP, va_K.moved hW.alike hK, hD⟩, hS.F ht⟩) hS.2.2 d_Ff_glyphInSegment_82 hlocks
def P_Ff_glyphOf_2b (o_length : Int32) (o_glyphs : Int32) (o_codes : Int32) (o_codesSize : Int32) (o_segments : Int32) (o_bytes_f : Nat → Int32)  (z2 : Int32 × Int32 → Option (Int32)) (x1 : Int32) (x2 : Int32) : Option (Int32) :=
  if o_segments ≤ x2 then (some (0 : Int32)) else ((P_Ff_twoAt o_length o_bytes_f ((o_codes + (14 : Int32)) + ((2 : Int32) * x2))).bind fun r_2 => if r_2 < x1 then (z2 (x1, (x2 + (1 : Int32)))) else ((P_Ff_glyphInSegment o_length o_codes o_codesSize o_segments o_bytes_f x2 x1).bind fun r_4 => if o_glyphs ≤ r_4 then (some (0 : Int32)) else (some r_4)))
def L_Ff_glyphOf_2 (o_length : Int32) (o_glyphs : Int32) (o_codes : Int32) (o_codesSize : Int32) (o_segments : Int32) (o_bytes_f : Nat → Int32)  : (Int32 × Int32 → Option (Int32)) → (Int32 × Int32) → Option (Int32) :=
  fun z => unp fun x1 x2 => P_Ff_glyphOf_2b o_length o_glyphs o_codes o_codesSize o_segments o_bytes_f z x1 x2
def P_Ff_glyphOf_2 (o_length : Int32) (o_glyphs : Int32) (o_codes : Int32) (o_codesSize : Int32) (o_segments : Int32) (o_bytes_f : Nat → Int32)  (x1 : Int32) (x2 : Int32) : Option (Int32) :=
  lp (L_Ff_glyphOf_2 o_length o_glyphs o_codes o_codesSize o_segments o_bytes_f) fuel (x1, x2)
theorem e_Ff_glyphOf_2 (o_length : Int32) (o_glyphs : Int32) (o_codes : Int32) (o_codesSize : Int32) (o_segments : Int32) (o_bytes_f : Nat → Int32)  (n : Nat) (x1 : Int32) (x2 : Int32) : lp (L_Ff_glyphOf_2 o_length o_glyphs o_codes o_codesSize o_segments o_bytes_f) (n + 1) (x1, x2) = P_Ff_glyphOf_2b o_length o_glyphs o_codes o_codesSize o_segments o_bytes_f (lp (L_Ff_glyphOf_2 o_length o_glyphs o_codes o_codesSize o_segments o_bytes_f) n) x1 x2 := rfl
set_option maxHeartbeats 4000000 in
set_option maxRecDepth 100000 in
theorem w_Ff_glyphOf_2b (C0 : Cx p s m args meth c A dC dI cy b_Ff_glyphOf 4 (some .int) "GlyphPage$FontFile") (o : Nat) (o_bytes : Nat) (o_starts : Nat) (o_sizes : Nat) (o_glyphStarts : Nat) (o_length : Int32) (o_units : Int32) (o_glyphs : Int32) (o_ascent : Int32) (o_descent : Int32) (o_gap : Int32) (o_longLoca : Int32) (o_metrics : Int32) (o_codes : Int32) (o_codesSize : Int32) (o_segments : Int32) (o_pairs : Int32) (o_bytes_f : Nat → Int32) (o_starts_f : Nat → Int32) (o_sizes_f : Nat → Int32) (o_glyphStarts_f : Nat → Int32) (a1 : Int32) (uu : Int32)  (z2 : Int32 × Int32 → Option (Int32)) (hz2 : ∀ (x1 : Int32) (x2 : Int32) (H : Heap) (locs : List Loc) (ls : Array Slot), z2 (x1, x2) = some uu → va_P (dC, dI) classes [(o, .inr (7, [.ref o_bytes, .int o_length, .ref o_starts, .ref o_sizes, .ref o_glyphStarts, .int o_units, .int o_glyphs, .int o_ascent, .int o_descent, .int o_gap, .int o_longLoca, .int o_metrics, .int o_codes, .int o_codesSize, .int o_segments, .int o_pairs])), (o_bytes, .inl (cy 1, 4096, .inl o_bytes_f)), (o_starts, .inl (cy 0, 8, .inl o_starts_f)), (o_sizes, .inl (cy 0, 8, .inl o_sizes_f)), (o_glyphStarts, .inl (cy 0, 65, .inl o_glyphStarts_f))] H → va_D A [(o, .inr (7, [.ref o_bytes, .int o_length, .ref o_starts, .ref o_sizes, .ref o_glyphStarts, .int o_units, .int o_glyphs, .int o_ascent, .int o_descent, .int o_gap, .int o_longLoca, .int o_metrics, .int o_codes, .int o_codesSize, .int o_segments, .int o_pairs])), (o_bytes, .inl (cy 1, 4096, .inl o_bytes_f)), (o_starts, .inl (cy 0, 8, .inl o_starts_f)), (o_sizes, .inl (cy 0, 8, .inl o_sizes_f)), (o_glyphStarts, .inl (cy 0, 65, .inl o_glyphStarts_f))] → va_S A s.heap H locs → lv_has ls 4 [(0, .ref o), (1, .int x1), (2, .int x2)] → W p l e ({ frames := 2, cells := 0, slots := 0, locals := 49 } : Room) s m args below meth c H locs 0 0 (MQ below (va_Qi (fun r (_ : Unit) => r = uu) (fun _ t => va_P (dC, dI) classes [(o, .inr (7, [.ref o_bytes, .int o_length, .ref o_starts, .ref o_sizes, .ref o_glyphStarts, .int o_units, .int o_glyphs, .int o_ascent, .int o_descent, .int o_gap, .int o_longLoca, .int o_metrics, .int o_codes, .int o_codesSize, .int o_segments, .int o_pairs])), (o_bytes, .inl (cy 1, 4096, .inl o_bytes_f)), (o_starts, .inl (cy 0, 8, .inl o_starts_f)), (o_sizes, .inl (cy 0, 8, .inl o_sizes_f)), (o_glyphStarts, .inl (cy 0, 65, .inl o_glyphStarts_f))] t.heap ∧ va_K (dC, dI) classes (TY cy) t ∧ va_D A [(o, .inr (7, [.ref o_bytes, .int o_length, .ref o_starts, .ref o_sizes, .ref o_glyphStarts, .int o_units, .int o_glyphs, .int o_ascent, .int o_descent, .int o_gap, .int o_longLoca, .int o_metrics, .int o_codes, .int o_codesSize, .int o_segments, .int o_pairs])), (o_bytes, .inl (cy 1, 4096, .inl o_bytes_f)), (o_starts, .inl (cy 0, 8, .inl o_starts_f)), (o_sizes, .inl (cy 0, 8, .inl o_sizes_f)), (o_glyphStarts, .inl (cy 0, 65, .inl o_glyphStarts_f))]) A) args s 0 0 A) (F0 m 2 ls [])) (x1 : Int32) (x2 : Int32) {H : Heap} {locs : List Loc} {ls : Array Slot} (h : P_Ff_glyphOf_2b o_length o_glyphs o_codes o_codesSize o_segments o_bytes_f z2 x1 x2 = some uu) : va_P (dC, dI) classes [(o, .inr (7, [.ref o_bytes, .int o_length, .ref o_starts, .ref o_sizes, .ref o_glyphStarts, .int o_units, .int o_glyphs, .int o_ascent, .int o_descent, .int o_gap, .int o_longLoca, .int o_metrics, .int o_codes, .int o_codesSize, .int o_segments, .int o_pairs])), (o_bytes, .inl (cy 1, 4096, .inl o_bytes_f)), (o_starts, .inl (cy 0, 8, .inl o_starts_f)), (o_sizes, .inl (cy 0, 8, .inl o_sizes_f)), (o_glyphStarts, .inl (cy 0, 65, .inl o_glyphStarts_f))] H → va_D A [(o, .inr (7, [.ref o_bytes, .int o_length, .ref o_starts, .ref o_sizes, .ref o_glyphStarts, .int o_units, .int o_glyphs, .int o_ascent, .int o_descent, .int o_gap, .int o_longLoca, .int o_metrics, .int o_codes, .int o_codesSize, .int o_segments, .int o_pairs])), (o_bytes, .inl (cy 1, 4096, .inl o_bytes_f)), (o_starts, .inl (cy 0, 8, .inl o_starts_f)), (o_sizes, .inl (cy 0, 8, .inl o_sizes_f)), (o_glyphStarts, .inl (cy 0, 65, .inl o_glyphStarts_f))] → va_S A s.heap H locs → lv_has ls 4 [(0, .ref o), (1, .int x1), (2, .int x2)] → W p l e ({ frames := 2, cells := 0, slots := 0, locals := 49 } : Room) s m args below meth c H locs 0 0 (MQ below (va_Qi (fun r (_ : Unit) => r = uu) (fun _ t => va_P (dC, dI) classes [(o, .inr (7, [.ref o_bytes, .int o_length, .ref o_starts, .ref o_sizes, .ref o_glyphStarts, .int o_units, .int o_glyphs, .int o_ascent, .int o_descent, .int o_gap, .int o_longLoca, .int o_metrics, .int o_codes, .int o_codesSize, .int o_segments, .int o_pairs])), (o_bytes, .inl (cy 1, 4096, .inl o_bytes_f)), (o_starts, .inl (cy 0, 8, .inl o_starts_f)), (o_sizes, .inl (cy 0, 8, .inl o_sizes_f)), (o_glyphStarts, .inl (cy 0, 65, .inl o_glyphStarts_f))] t.heap ∧ va_K (dC, dI) classes (TY cy) t ∧ va_D A [(o, .inr (7, [.ref o_bytes, .int o_length, .ref o_starts, .ref o_sizes, .ref o_glyphStarts, .int o_units, .int o_glyphs, .int o_ascent, .int o_descent, .int o_gap, .int o_longLoca, .int o_metrics, .int o_codes, .int o_codesSize, .int o_segments, .int o_pairs])), (o_bytes, .inl (cy 1, 4096, .inl o_bytes_f)), (o_starts, .inl (cy 0, 8, .inl o_starts_f)), (o_sizes, .inl (cy 0, 8, .inl o_sizes_f)), (o_glyphStarts, .inl (cy 0, 65, .inl o_glyphStarts_f))]) A) args s 0 0 A) (F0 m 2 ls []) := by
  intro hP hD hS hl
  obtain ⟨hx, hb, hr, hlocks, hml, hown, htsG, hA, hK⟩ := id C0
  unfold P_Ff_glyphOf_2b at h
  refine lv_iload_n hx hb d_Ff_glyphOf_2 rfl (lv_at hl 2 rfl) ?_
  refine lv_aload_n hx hb d_Ff_glyphOf_3 rfl (lv_at hl 0 rfl) ?_
  refine va_get (D := (dC, dI)) (ci := 7) (v := .int o_segments) (C := "GlyphPage$FontFile") (T := F_Ff) (N := 16) hx hb htsG iG_Ff hown hK hP 0 rfl rfl 14 (by decide) (htsG _ mW322) (fun _ h9 => h9) rfl d_Ff_glyphOf_4 ?_
  refine lv_icmp_ge (tgt := 56) hx hb d_Ff_glyphOf_7 (by decide) (fun c_1 => ?_) (fun c_1 => ?_)
  · replace h := (if_pos c_1).symm.trans h
    refine lv_iconst (v := (0 : Int32)) hx hb d_Ff_glyphOf_56 (by decide) ?_
    cases h
    exact W.iret hx hb hr (fun t ht hW => ⟨⟨_, (), rfl, rfl, by rw [ht]; exact hP, va_K.moved hW.alike hK, hD⟩, hS.F ht⟩) hS.2.2 d_Ff_glyphOf_57 hlocks
  · replace h := (if_neg c_1).symm.trans h
    refine lv_aload_n hx hb d_Ff_glyphOf_10 rfl (lv_at hl 0 rfl) ?_
    refine lv_aload_n hx hb d_Ff_glyphOf_11 rfl (lv_at hl 0 rfl) ?_
    refine va_get (D := (dC, dI)) (ci := 7) (v := .int o_codes) (C := "GlyphPage$FontFile") (T := F_Ff) (N := 16) hx hb htsG iG_Ff hown hK hP 0 rfl rfl 12 (by decide) (htsG _ mW320) (fun _ h9 => h9) rfl d_Ff_glyphOf_12 ?_
    refine lv_bipush (v := (14 : Int32)) hx hb d_Ff_glyphOf_15 (by decide) ?_
    refine lv_iadd hx hb d_Ff_glyphOf_17 ?_
    refine lv_iconst (v := (2 : Int32)) hx hb d_Ff_glyphOf_18 (by decide) ?_
    refine lv_iload_n hx hb d_Ff_glyphOf_19 rfl (lv_at hl 2 rfl) ?_
    refine lv_imul hx hb d_Ff_glyphOf_20 ?_
    refine lv_iadd hx hb d_Ff_glyphOf_21 ?_
    obtain ⟨r_2, hq, h⟩ := Option.bind_eq_some_iff.mp h
    try dsimp only at h
    have hPc := hP.sub (ws' := [(o, .inr (7, [.ref o_bytes, .int o_length, .ref o_starts, .ref o_sizes, .ref o_glyphStarts, .int o_units, .int o_glyphs, .int o_ascent, .int o_descent, .int o_gap, .int o_longLoca, .int o_metrics, .int o_codes, .int o_codesSize, .int o_segments, .int o_pairs])), (o_bytes, .inl (cy 1, 4096, .inl o_bytes_f)), (o_starts, .inl (cy 0, 8, .inl o_starts_f)), (o_sizes, .inl (cy 0, 8, .inl o_sizes_f)), (o_glyphStarts, .inl (cy 0, 65, .inl o_glyphStarts_f))]) [0, 1, 2, 3, 4] rfl
    have hDc := hD.sub (ws' := [(o, .inr (7, [.ref o_bytes, .int o_length, .ref o_starts, .ref o_sizes, .ref o_glyphStarts, .int o_units, .int o_glyphs, .int o_ascent, .int o_descent, .int o_gap, .int o_longLoca, .int o_metrics, .int o_codes, .int o_codesSize, .int o_segments, .int o_pairs])), (o_bytes, .inl (cy 1, 4096, .inl o_bytes_f)), (o_starts, .inl (cy 0, 8, .inl o_starts_f)), (o_sizes, .inl (cy 0, 8, .inl o_sizes_f)), (o_glyphStarts, .inl (cy 0, 65, .inl o_glyphStarts_f))]) [0, 1, 2, 3, 4] (by decide) rfl
    have hFc := va_free (wc := [(o, .inr (7, [.ref o_bytes, .int o_length, .ref o_starts, .ref o_sizes, .ref o_glyphStarts, .int o_units, .int o_glyphs, .int o_ascent, .int o_descent, .int o_gap, .int o_longLoca, .int o_metrics, .int o_codes, .int o_codesSize, .int o_segments, .int o_pairs])), (o_bytes, .inl (cy 1, 4096, .inl o_bytes_f)), (o_starts, .inl (cy 0, 8, .inl o_starts_f)), (o_sizes, .inl (cy 0, 8, .inl o_sizes_f)), (o_glyphStarts, .inl (cy 0, 65, .inl o_glyphStarts_f))]) hD hS hA [0, 1, 2, 3, 4] rfl
    refine va_calli (va_runV (As := [.int ((o_codes + (14 : Int32)) + ((2 : Int32) * x2))]) (rest := []) ⟨hx, hb, hml, hown, htsG⟩ (c_Ff_twoAt l dC dI cy H.size o o_bytes o_starts o_sizes o_glyphStarts o_length o_units o_glyphs o_ascent o_descent o_gap o_longLoca o_metrics o_codes o_codesSize o_segments o_pairs o_bytes_f o_starts_f o_sizes_f o_glyphStarts_f ((o_codes + (14 : Int32)) + ((2 : Int32) * x2)) r_2 hq) (cwV 1 htsG (gV mW365 mW367 mS_Ff_twoAt mW11 mW368) rfl rfl rfl (by decide +kernel) ⟨Nat.le_of_ble_eq_true rfl, Nat.le_of_ble_eq_true rfl⟩) ⟨fun a U g mk q => by obtain ⟨q0, q1, qP, qK, qD⟩ := q; exact ⟨q0, q1, qP, va_K.moved (u := U) (U := U.calling g mk a) (Vm.Alike.refl U.vm) qK, qD⟩, va_recv hK hPc (ci := 7) (q0 := 0) rfl rfl, fun U hU hW => ⟨rfl, by rw [hU], by rw [hU]; exact hPc, va_K.moved hW.alike hK, hDc.weaken (fun _ _ _ _ => trivial)⟩⟩ rfl rfl hl.1 rfl (lv_room (Nat.le_of_ble_eq_true rfl)) d_Ff_glyphOf_22 ⟨Nat.le_of_ble_eq_true rfl, Nat.le_of_ble_eq_true rfl⟩) hS (fun q _ h => hFc q h) hFc (fun rr u t H1 locs ht hvm hw hB hz1 hk1 hS => ?_)
    obtain ⟨hP1, hK1, hD1⟩ := hB
    rw [ht] at hP1
    replace hw : r_2 = rr := hw.symm
    subst hw
    obtain ⟨hP, hD⟩ := va_join (wr := []) (w1 := [(o, .inr (7, [.ref o_bytes, .int o_length, .ref o_starts, .ref o_sizes, .ref o_glyphStarts, .int o_units, .int o_glyphs, .int o_ascent, .int o_descent, .int o_gap, .int o_longLoca, .int o_metrics, .int o_codes, .int o_codesSize, .int o_segments, .int o_pairs])), (o_bytes, .inl (cy 1, 4096, .inl o_bytes_f)), (o_starts, .inl (cy 0, 8, .inl o_starts_f)), (o_sizes, .inl (cy 0, 8, .inl o_sizes_f)), (o_glyphStarts, .inl (cy 0, 65, .inl o_glyphStarts_f))]) hP hD [0, 1, 2, 3, 4] [] rfl rfl (by decide) (by decide) hk1 hFc hP1 hD1
    generalize H1 = H at hP hS ⊢
    have hP := hP.sub (ws' := [(o, .inr (7, [.ref o_bytes, .int o_length, .ref o_starts, .ref o_sizes, .ref o_glyphStarts, .int o_units, .int o_glyphs, .int o_ascent, .int o_descent, .int o_gap, .int o_longLoca, .int o_metrics, .int o_codes, .int o_codesSize, .int o_segments, .int o_pairs])), (o_bytes, .inl (cy 1, 4096, .inl o_bytes_f)), (o_starts, .inl (cy 0, 8, .inl o_starts_f)), (o_sizes, .inl (cy 0, 8, .inl o_sizes_f)), (o_glyphStarts, .inl (cy 0, 65, .inl o_glyphStarts_f))]) [0, 1, 2, 3, 4] rfl
    have hD := hD.sub (ws' := [(o, .inr (7, [.ref o_bytes, .int o_length, .ref o_starts, .ref o_sizes, .ref o_glyphStarts, .int o_units, .int o_glyphs, .int o_ascent, .int o_descent, .int o_gap, .int o_longLoca, .int o_metrics, .int o_codes, .int o_codesSize, .int o_segments, .int o_pairs])), (o_bytes, .inl (cy 1, 4096, .inl o_bytes_f)), (o_starts, .inl (cy 0, 8, .inl o_starts_f)), (o_sizes, .inl (cy 0, 8, .inl o_sizes_f)), (o_glyphStarts, .inl (cy 0, 65, .inl o_glyphStarts_f))]) [0, 1, 2, 3, 4] (by decide) rfl
    refine W.widen (k := 0) (n := 0) (by decide) (by decide) ?_
    refine lv_iload_n hx hb d_Ff_glyphOf_25 rfl (lv_at hl 1 rfl) ?_
    refine lv_icmp_lt (tgt := 50) hx hb d_Ff_glyphOf_26 (by decide) (fun c_3 => ?_) (fun c_3 => ?_)
    · replace h := (if_pos c_3).symm.trans h
      refine lv_iinc (v := (x2 + (1 : Int32))) (lv' := [(2, .int (x2 + (1 : Int32))), (0, .ref o), (1, .int x1)]) hx hb d_Ff_glyphOf_50 hl (k := 2) rfl rfl (by decide) rfl (fun ls hl => ?_)
      refine lv_goto (tgt := 2) hx hb d_Ff_glyphOf_53 (by decide) ?_
      exact hz2 x1 (x2 + (1 : Int32)) _ _ _ h hP hD hS (lv_sub hl [1, 2, 0] rfl)
    · replace h := (if_neg c_3).symm.trans h
      refine lv_aload_n hx hb d_Ff_glyphOf_29 rfl (lv_at hl 0 rfl) ?_
      refine lv_iload_n hx hb d_Ff_glyphOf_30 rfl (lv_at hl 2 rfl) ?_
      refine lv_iload_n hx hb d_Ff_glyphOf_31 rfl (lv_at hl 1 rfl) ?_
      obtain ⟨r_4, hq, h⟩ := Option.bind_eq_some_iff.mp h
      try dsimp only at h
      have hPc := hP.sub (ws' := [(o, .inr (7, [.ref o_bytes, .int o_length, .ref o_starts, .ref o_sizes, .ref o_glyphStarts, .int o_units, .int o_glyphs, .int o_ascent, .int o_descent, .int o_gap, .int o_longLoca, .int o_metrics, .int o_codes, .int o_codesSize, .int o_segments, .int o_pairs])), (o_bytes, .inl (cy 1, 4096, .inl o_bytes_f)), (o_starts, .inl (cy 0, 8, .inl o_starts_f)), (o_sizes, .inl (cy 0, 8, .inl o_sizes_f)), (o_glyphStarts, .inl (cy 0, 65, .inl o_glyphStarts_f))]) [0, 1, 2, 3, 4] rfl
      have hDc := hD.sub (ws' := [(o, .inr (7, [.ref o_bytes, .int o_length, .ref o_starts, .ref o_sizes, .ref o_glyphStarts, .int o_units, .int o_glyphs, .int o_ascent, .int o_descent, .int o_gap, .int o_longLoca, .int o_metrics, .int o_codes, .int o_codesSize, .int o_segments, .int o_pairs])), (o_bytes, .inl (cy 1, 4096, .inl o_bytes_f)), (o_starts, .inl (cy 0, 8, .inl o_starts_f)), (o_sizes, .inl (cy 0, 8, .inl o_sizes_f)), (o_glyphStarts, .inl (cy 0, 65, .inl o_glyphStarts_f))]) [0, 1, 2, 3, 4] (by decide) rfl
      have hFc := va_free (wc := [(o, .inr (7, [.ref o_bytes, .int o_length, .ref o_starts, .ref o_sizes, .ref o_glyphStarts, .int o_units, .int o_glyphs, .int o_ascent, .int o_descent, .int o_gap, .int o_longLoca, .int o_metrics, .int o_codes, .int o_codesSize, .int o_segments, .int o_pairs])), (o_bytes, .inl (cy 1, 4096, .inl o_bytes_f)), (o_starts, .inl (cy 0, 8, .inl o_starts_f)), (o_sizes, .inl (cy 0, 8, .inl o_sizes_f)), (o_glyphStarts, .inl (cy 0, 65, .inl o_glyphStarts_f))]) hD hS hA [0, 1, 2, 3, 4] rfl
      refine va_calli (va_runV (As := [.int x2, .int x1]) (rest := []) ⟨hx, hb, hml, hown, htsG⟩ (c_Ff_glyphInSegment l dC dI cy H.size o o_bytes o_starts o_sizes o_glyphStarts o_length o_units o_glyphs o_ascent o_descent o_gap o_longLoca o_metrics o_codes o_codesSize o_segments o_pairs o_bytes_f o_starts_f o_sizes_f o_glyphStarts_f x2 x1 r_4 hq) (cwV 2 htsG (gV mW529 mW531 mS_Ff_glyphInSegment mW11 mW532) rfl rfl rfl (by decide +kernel) ⟨Nat.le_of_ble_eq_true rfl, Nat.le_of_ble_eq_true rfl⟩) ⟨fun a U g mk q => by obtain ⟨q0, q1, qP, qK, qD⟩ := q; exact ⟨q0, q1, qP, va_K.moved (u := U) (U := U.calling g mk a) (Vm.Alike.refl U.vm) qK, qD⟩, va_recv hK hPc (ci := 7) (q0 := 0) rfl rfl, fun U hU hW => ⟨rfl, by rw [hU], by rw [hU]; exact hPc, va_K.moved hW.alike hK, hDc.weaken (fun _ _ _ _ => trivial)⟩⟩ rfl rfl hl.1 rfl (lv_room (Nat.le_of_ble_eq_true rfl)) d_Ff_glyphOf_32 ⟨Nat.le_of_ble_eq_true rfl, Nat.le_of_ble_eq_true rfl⟩) hS (fun q _ h => hFc q h) hFc (fun rr u t H1 locs ht hvm hw hB hz1 hk1 hS => ?_)
      obtain ⟨hP1, hK1, hD1⟩ := hB
      rw [ht] at hP1
      replace hw : r_4 = rr := hw.symm
      subst hw
      obtain ⟨hP, hD⟩ := va_join (wr := []) (w1 := [(o, .inr (7, [.ref o_bytes, .int o_length, .ref o_starts, .ref o_sizes, .ref o_glyphStarts, .int o_units, .int o_glyphs, .int o_ascent, .int o_descent, .int o_gap, .int o_longLoca, .int o_metrics, .int o_codes, .int o_codesSize, .int o_segments, .int o_pairs])), (o_bytes, .inl (cy 1, 4096, .inl o_bytes_f)), (o_starts, .inl (cy 0, 8, .inl o_starts_f)), (o_sizes, .inl (cy 0, 8, .inl o_sizes_f)), (o_glyphStarts, .inl (cy 0, 65, .inl o_glyphStarts_f))]) hP hD [0, 1, 2, 3, 4] [] rfl rfl (by decide) (by decide) hk1 hFc hP1 hD1
      generalize H1 = H at hP hS ⊢
      have hP := hP.sub (ws' := [(o, .inr (7, [.ref o_bytes, .int o_length, .ref o_starts, .ref o_sizes, .ref o_glyphStarts, .int o_units, .int o_glyphs, .int o_ascent, .int o_descent, .int o_gap, .int o_longLoca, .int o_metrics, .int o_codes, .int o_codesSize, .int o_segments, .int o_pairs])), (o_bytes, .inl (cy 1, 4096, .inl o_bytes_f)), (o_starts, .inl (cy 0, 8, .inl o_starts_f)), (o_sizes, .inl (cy 0, 8, .inl o_sizes_f)), (o_glyphStarts, .inl (cy 0, 65, .inl o_glyphStarts_f))]) [0, 1, 2, 3, 4] rfl
      have hD := hD.sub (ws' := [(o, .inr (7, [.ref o_bytes, .int o_length, .ref o_starts, .ref o_sizes, .ref o_glyphStarts, .int o_units, .int o_glyphs, .int o_ascent, .int o_descent, .int o_gap, .int o_longLoca, .int o_metrics, .int o_codes, .int o_codesSize, .int o_segments, .int o_pairs])), (o_bytes, .inl (cy 1, 4096, .inl o_bytes_f)), (o_starts, .inl (cy 0, 8, .inl o_starts_f)), (o_sizes, .inl (cy 0, 8, .inl o_sizes_f)), (o_glyphStarts, .inl (cy 0, 65, .inl o_glyphStarts_f))]) [0, 1, 2, 3, 4] (by decide) rfl
      refine W.widen (k := 0) (n := 0) (by decide) (by decide) ?_
      refine lv_istore_n (lv' := [(3, .int r_4), (0, .ref o), (1, .int x1), (2, .int x2)]) hx hb d_Ff_glyphOf_35 rfl hl (by decide) rfl (fun ls hl => ?_)
      refine lv_iload_n hx hb d_Ff_glyphOf_36 rfl (lv_at hl 0 rfl) ?_
      refine lv_aload_n hx hb d_Ff_glyphOf_37 rfl (lv_at hl 1 rfl) ?_
      refine va_get (D := (dC, dI)) (ci := 7) (v := .int o_glyphs) (C := "GlyphPage$FontFile") (T := F_Ff) (N := 16) hx hb htsG iG_Ff hown hK hP 0 rfl rfl 6 (by decide) (htsG _ mW309) (fun _ h9 => h9) rfl d_Ff_glyphOf_38 ?_
      refine lv_icmp_ge (tgt := 48) hx hb d_Ff_glyphOf_41 (by decide) (fun c_5 => ?_) (fun c_5 => ?_)
      · replace h := (if_pos c_5).symm.trans h
        refine lv_iconst (v := (0 : Int32)) hx hb d_Ff_glyphOf_48 (by decide) ?_
        cases h
        exact W.iret hx hb hr (fun t ht hW => ⟨⟨_, (), rfl, rfl, by rw [ht]; exact hP, va_K.moved hW.alike hK, hD⟩, hS.F ht⟩) hS.2.2 d_Ff_glyphOf_49 hlocks
      · replace h := (if_neg c_5).symm.trans h
        refine lv_iload_n hx hb d_Ff_glyphOf_44 rfl (lv_at hl 0 rfl) ?_
        refine lv_goto (tgt := 49) hx hb d_Ff_glyphOf_45 (by decide) ?_
        cases h
        exact W.iret hx hb hr (fun t ht hW => ⟨⟨_, (), rfl, rfl, by rw [ht]; exact hP, va_K.moved hW.alike hK, hD⟩, hS.F ht⟩) hS.2.2 d_Ff_glyphOf_49 hlocks
theorem w_Ff_glyphOf_2 (C0 : Cx p s m args meth c A dC dI cy b_Ff_glyphOf 4 (some .int) "GlyphPage$FontFile") (o : Nat) (o_bytes : Nat) (o_starts : Nat) (o_sizes : Nat) (o_glyphStarts : Nat) (o_length : Int32) (o_units : Int32) (o_glyphs : Int32) (o_ascent : Int32) (o_descent : Int32) (o_gap : Int32) (o_longLoca : Int32) (o_metrics : Int32) (o_codes : Int32) (o_codesSize : Int32) (o_segments : Int32) (o_pairs : Int32) (o_bytes_f : Nat → Int32) (o_starts_f : Nat → Int32) (o_sizes_f : Nat → Int32) (o_glyphStarts_f : Nat → Int32) (a1 : Int32) (uu : Int32)  (x1 : Int32) (x2 : Int32) {H : Heap} {locs : List Loc} {ls : Array Slot} (h : P_Ff_glyphOf_2 o_length o_glyphs o_codes o_codesSize o_segments o_bytes_f x1 x2 = some uu) : va_P (dC, dI) classes [(o, .inr (7, [.ref o_bytes, .int o_length, .ref o_starts, .ref o_sizes, .ref o_glyphStarts, .int o_units, .int o_glyphs, .int o_ascent, .int o_descent, .int o_gap, .int o_longLoca, .int o_metrics, .int o_codes, .int o_codesSize, .int o_segments, .int o_pairs])), (o_bytes, .inl (cy 1, 4096, .inl o_bytes_f)), (o_starts, .inl (cy 0, 8, .inl o_starts_f)), (o_sizes, .inl (cy 0, 8, .inl o_sizes_f)), (o_glyphStarts, .inl (cy 0, 65, .inl o_glyphStarts_f))] H → va_D A [(o, .inr (7, [.ref o_bytes, .int o_length, .ref o_starts, .ref o_sizes, .ref o_glyphStarts, .int o_units, .int o_glyphs, .int o_ascent, .int o_descent, .int o_gap, .int o_longLoca, .int o_metrics, .int o_codes, .int o_codesSize, .int o_segments, .int o_pairs])), (o_bytes, .inl (cy 1, 4096, .inl o_bytes_f)), (o_starts, .inl (cy 0, 8, .inl o_starts_f)), (o_sizes, .inl (cy 0, 8, .inl o_sizes_f)), (o_glyphStarts, .inl (cy 0, 65, .inl o_glyphStarts_f))] → va_S A s.heap H locs → lv_has ls 4 [(0, .ref o), (1, .int x1), (2, .int x2)] → W p l e ({ frames := 2, cells := 0, slots := 0, locals := 49 } : Room) s m args below meth c H locs 0 0 (MQ below (va_Qi (fun r (_ : Unit) => r = uu) (fun _ t => va_P (dC, dI) classes [(o, .inr (7, [.ref o_bytes, .int o_length, .ref o_starts, .ref o_sizes, .ref o_glyphStarts, .int o_units, .int o_glyphs, .int o_ascent, .int o_descent, .int o_gap, .int o_longLoca, .int o_metrics, .int o_codes, .int o_codesSize, .int o_segments, .int o_pairs])), (o_bytes, .inl (cy 1, 4096, .inl o_bytes_f)), (o_starts, .inl (cy 0, 8, .inl o_starts_f)), (o_sizes, .inl (cy 0, 8, .inl o_sizes_f)), (o_glyphStarts, .inl (cy 0, 65, .inl o_glyphStarts_f))] t.heap ∧ va_K (dC, dI) classes (TY cy) t ∧ va_D A [(o, .inr (7, [.ref o_bytes, .int o_length, .ref o_starts, .ref o_sizes, .ref o_glyphStarts, .int o_units, .int o_glyphs, .int o_ascent, .int o_descent, .int o_gap, .int o_longLoca, .int o_metrics, .int o_codes, .int o_codesSize, .int o_segments, .int o_pairs])), (o_bytes, .inl (cy 1, 4096, .inl o_bytes_f)), (o_starts, .inl (cy 0, 8, .inl o_starts_f)), (o_sizes, .inl (cy 0, 8, .inl o_sizes_f)), (o_glyphStarts, .inl (cy 0, 65, .inl o_glyphStarts_f))]) A) args s 0 0 A) (F0 m 2 ls []) := by
  have key : ∀ (n : Nat) (x1 : Int32) (x2 : Int32) (H : Heap) (locs : List Loc) (ls : Array Slot), lp (L_Ff_glyphOf_2 o_length o_glyphs o_codes o_codesSize o_segments o_bytes_f) n (x1, x2) = some uu → va_P (dC, dI) classes [(o, .inr (7, [.ref o_bytes, .int o_length, .ref o_starts, .ref o_sizes, .ref o_glyphStarts, .int o_units, .int o_glyphs, .int o_ascent, .int o_descent, .int o_gap, .int o_longLoca, .int o_metrics, .int o_codes, .int o_codesSize, .int o_segments, .int o_pairs])), (o_bytes, .inl (cy 1, 4096, .inl o_bytes_f)), (o_starts, .inl (cy 0, 8, .inl o_starts_f)), (o_sizes, .inl (cy 0, 8, .inl o_sizes_f)), (o_glyphStarts, .inl (cy 0, 65, .inl o_glyphStarts_f))] H → va_D A [(o, .inr (7, [.ref o_bytes, .int o_length, .ref o_starts, .ref o_sizes, .ref o_glyphStarts, .int o_units, .int o_glyphs, .int o_ascent, .int o_descent, .int o_gap, .int o_longLoca, .int o_metrics, .int o_codes, .int o_codesSize, .int o_segments, .int o_pairs])), (o_bytes, .inl (cy 1, 4096, .inl o_bytes_f)), (o_starts, .inl (cy 0, 8, .inl o_starts_f)), (o_sizes, .inl (cy 0, 8, .inl o_sizes_f)), (o_glyphStarts, .inl (cy 0, 65, .inl o_glyphStarts_f))] → va_S A s.heap H locs → lv_has ls 4 [(0, .ref o), (1, .int x1), (2, .int x2)] → W p l e ({ frames := 2, cells := 0, slots := 0, locals := 49 } : Room) s m args below meth c H locs 0 0 (MQ below (va_Qi (fun r (_ : Unit) => r = uu) (fun _ t => va_P (dC, dI) classes [(o, .inr (7, [.ref o_bytes, .int o_length, .ref o_starts, .ref o_sizes, .ref o_glyphStarts, .int o_units, .int o_glyphs, .int o_ascent, .int o_descent, .int o_gap, .int o_longLoca, .int o_metrics, .int o_codes, .int o_codesSize, .int o_segments, .int o_pairs])), (o_bytes, .inl (cy 1, 4096, .inl o_bytes_f)), (o_starts, .inl (cy 0, 8, .inl o_starts_f)), (o_sizes, .inl (cy 0, 8, .inl o_sizes_f)), (o_glyphStarts, .inl (cy 0, 65, .inl o_glyphStarts_f))] t.heap ∧ va_K (dC, dI) classes (TY cy) t ∧ va_D A [(o, .inr (7, [.ref o_bytes, .int o_length, .ref o_starts, .ref o_sizes, .ref o_glyphStarts, .int o_units, .int o_glyphs, .int o_ascent, .int o_descent, .int o_gap, .int o_longLoca, .int o_metrics, .int o_codes, .int o_codesSize, .int o_segments, .int o_pairs])), (o_bytes, .inl (cy 1, 4096, .inl o_bytes_f)), (o_starts, .inl (cy 0, 8, .inl o_starts_f)), (o_sizes, .inl (cy 0, 8, .inl o_sizes_f)), (o_glyphStarts, .inl (cy 0, 65, .inl o_glyphStarts_f))]) A) args s 0 0 A) (F0 m 2 ls []) := by
    intro n
    induction n with
    | zero => intro x1 x2 H locs ls h; cases h
    | succ n ih => intro x1 x2 H locs ls h; exact w_Ff_glyphOf_2b C0 o o_bytes o_starts o_sizes o_glyphStarts o_length o_units o_glyphs o_ascent o_descent o_gap o_longLoca o_metrics o_codes o_codesSize o_segments o_pairs o_bytes_f o_starts_f o_sizes_f o_glyphStarts_f a1 uu  (lp (L_Ff_glyphOf_2 o_length o_glyphs o_codes o_codesSize o_segments o_bytes_f) n) ih x1 x2 ((e_Ff_glyphOf_2 o_length o_glyphs o_codes o_codesSize o_segments o_bytes_f n x1 x2).symm.trans h)
  exact key fuel x1 x2 H locs ls h
def P_Ff_glyphOf (o_length : Int32) (o_glyphs : Int32) (o_codes : Int32) (o_codesSize : Int32) (o_segments : Int32) (o_bytes_f : Nat → Int32) (a1 : Int32) : Option (Int32) :=
  P_Ff_glyphOf_2 o_length o_glyphs o_codes o_codesSize o_segments o_bytes_f a1 (0 : Int32)
set_option maxHeartbeats 4000000 in
set_option maxRecDepth 100000 in
theorem c_Ff_glyphOf (l : Launch) (dC : Nat → ClassId) (dI : Nat → Nat → Nat) (cy : Nat → ClassId) (sz : Nat) (o : Nat) (o_bytes : Nat) (o_starts : Nat) (o_sizes : Nat) (o_glyphStarts : Nat) (o_length : Int32) (o_units : Int32) (o_glyphs : Int32) (o_ascent : Int32) (o_descent : Int32) (o_gap : Int32) (o_longLoca : Int32) (o_metrics : Int32) (o_codes : Int32) (o_codesSize : Int32) (o_segments : Int32) (o_pairs : Int32) (o_bytes_f : Nat → Int32) (o_starts_f : Nat → Int32) (o_sizes_f : Nat → Int32) (o_glyphStarts_f : Nat → Int32) (a1 : Int32) (uu : Int32) (h : P_Ff_glyphOf o_length o_glyphs o_codes o_codesSize o_segments o_bytes_f a1 = some uu) : Met l y_Ff_glyphOf (Cond.code y_Ff_glyphOf b_Ff_glyphOf 4 (some .int) :: G) ({ frames := 2, cells := 0, slots := 0, locals := 49 } : Room) (va_Pc [.ref o, .int a1] (fun U => U.heap.size = sz ∧ va_P (dC, dI) classes [(o, .inr (7, [.ref o_bytes, .int o_length, .ref o_starts, .ref o_sizes, .ref o_glyphStarts, .int o_units, .int o_glyphs, .int o_ascent, .int o_descent, .int o_gap, .int o_longLoca, .int o_metrics, .int o_codes, .int o_codesSize, .int o_segments, .int o_pairs])), (o_bytes, .inl (cy 1, 4096, .inl o_bytes_f)), (o_starts, .inl (cy 0, 8, .inl o_starts_f)), (o_sizes, .inl (cy 0, 8, .inl o_sizes_f)), (o_glyphStarts, .inl (cy 0, 65, .inl o_glyphStarts_f))] U.heap ∧ va_K (dC, dI) classes (TY cy) U ∧ va_D (fun _ => True) [(o, .inr (7, [.ref o_bytes, .int o_length, .ref o_starts, .ref o_sizes, .ref o_glyphStarts, .int o_units, .int o_glyphs, .int o_ascent, .int o_descent, .int o_gap, .int o_longLoca, .int o_metrics, .int o_codes, .int o_codesSize, .int o_segments, .int o_pairs])), (o_bytes, .inl (cy 1, 4096, .inl o_bytes_f)), (o_starts, .inl (cy 0, 8, .inl o_starts_f)), (o_sizes, .inl (cy 0, 8, .inl o_sizes_f)), (o_glyphStarts, .inl (cy 0, 65, .inl o_glyphStarts_f))])) (va_Qi (fun r (_ : Unit) => r = uu) (fun _ t => va_P (dC, dI) classes [(o, .inr (7, [.ref o_bytes, .int o_length, .ref o_starts, .ref o_sizes, .ref o_glyphStarts, .int o_units, .int o_glyphs, .int o_ascent, .int o_descent, .int o_gap, .int o_longLoca, .int o_metrics, .int o_codes, .int o_codesSize, .int o_segments, .int o_pairs])), (o_bytes, .inl (cy 1, 4096, .inl o_bytes_f)), (o_starts, .inl (cy 0, 8, .inl o_starts_f)), (o_sizes, .inl (cy 0, 8, .inl o_sizes_f)), (o_glyphStarts, .inl (cy 0, 65, .inl o_glyphStarts_f))] t.heap ∧ va_K (dC, dI) classes (TY cy) t ∧ va_D (va_A [(o, .inr (7, [.ref o_bytes, .int o_length, .ref o_starts, .ref o_sizes, .ref o_glyphStarts, .int o_units, .int o_glyphs, .int o_ascent, .int o_descent, .int o_gap, .int o_longLoca, .int o_metrics, .int o_codes, .int o_codesSize, .int o_segments, .int o_pairs])), (o_bytes, .inl (cy 1, 4096, .inl o_bytes_f)), (o_starts, .inl (cy 0, 8, .inl o_starts_f)), (o_sizes, .inl (cy 0, 8, .inl o_sizes_f)), (o_glyphStarts, .inl (cy 0, 65, .inl o_glyphStarts_f))] sz) [(o, .inr (7, [.ref o_bytes, .int o_length, .ref o_starts, .ref o_sizes, .ref o_glyphStarts, .int o_units, .int o_glyphs, .int o_ascent, .int o_descent, .int o_gap, .int o_longLoca, .int o_metrics, .int o_codes, .int o_codesSize, .int o_segments, .int o_pairs])), (o_bytes, .inl (cy 1, 4096, .inl o_bytes_f)), (o_starts, .inl (cy 0, 8, .inl o_starts_f)), (o_sizes, .inl (cy 0, 8, .inl o_sizes_f)), (o_glyphStarts, .inl (cy 0, 65, .inl o_glyphStarts_f))]) (va_A [(o, .inr (7, [.ref o_bytes, .int o_length, .ref o_starts, .ref o_sizes, .ref o_glyphStarts, .int o_units, .int o_glyphs, .int o_ascent, .int o_descent, .int o_gap, .int o_longLoca, .int o_metrics, .int o_codes, .int o_codesSize, .int o_segments, .int o_pairs])), (o_bytes, .inl (cy 1, 4096, .inl o_bytes_f)), (o_starts, .inl (cy 0, 8, .inl o_starts_f)), (o_sizes, .inl (cy 0, 8, .inl o_sizes_f)), (o_glyphStarts, .inl (cy 0, 65, .inl o_glyphStarts_f))] sz)) 0 0 (va_A [(o, .inr (7, [.ref o_bytes, .int o_length, .ref o_starts, .ref o_sizes, .ref o_glyphStarts, .int o_units, .int o_glyphs, .int o_ascent, .int o_descent, .int o_gap, .int o_longLoca, .int o_metrics, .int o_codes, .int o_codesSize, .int o_segments, .int o_pairs])), (o_bytes, .inl (cy 1, 4096, .inl o_bytes_f)), (o_starts, .inl (cy 0, 8, .inl o_starts_f)), (o_sizes, .inl (cy 0, 8, .inl o_sizes_f)), (o_glyphStarts, .inl (cy 0, 65, .inl o_glyphStarts_f))] sz) := by
  refine Met.ofW (cc := b_Ff_glyphOf) (maxL := 4) (ret := (some .int)) (by decide) rfl ?_
  intro p e s m args below meth c s₁ B hml hv
  obtain ⟨rfl, hsz, hP, hK, hD0⟩ := hv
  have hx := B.exec
  have hb := B.bytes
  have hr := B.returns
  have hts := atoms_spec (ws := Cond.code y_Ff_glyphOf b_Ff_glyphOf 4 (some .int) :: G) B.pre
  have htsG : ∀ w ∈ G, w.before _ s = true := fun w hw => hts w (List.mem_cons_of_mem _ hw)
  have hown : s.vm.findClass "GlyphPage$FontFile" = some m.cls := findClass_of_methodNamed B.named
  have hlocks := B.notSynchronized
  subst hsz
  have hD := hD0.self (sz := s.heap.size)
  generalize hAe : va_A [(o, .inr (7, [.ref o_bytes, .int o_length, .ref o_starts, .ref o_sizes, .ref o_glyphStarts, .int o_units, .int o_glyphs, .int o_ascent, .int o_descent, .int o_gap, .int o_longLoca, .int o_metrics, .int o_codes, .int o_codesSize, .int o_segments, .int o_pairs])), (o_bytes, .inl (cy 1, 4096, .inl o_bytes_f)), (o_starts, .inl (cy 0, 8, .inl o_starts_f)), (o_sizes, .inl (cy 0, 8, .inl o_sizes_f)), (o_glyphStarts, .inl (cy 0, 65, .inl o_glyphStarts_f))] s.heap.size = A at hD ⊢
  have hA : ∀ q : Nat, s.heap.size ≤ q → A q := fun q h => by rw [← hAe]; exact Or.inr h
  have hS : va_S A s.heap s.heap [] := va_S.rf
  have hl := lv_entry ([.ref o, .int a1]) (n := 4) (Nat.le_of_ble_eq_true rfl)
  rw [lg_entry_eq]
  generalize (lg_sl ([.ref o, .int a1]) ++ List.replicate (4 - (lg_sl ([.ref o, .int a1])).length) Slot.unset).toArray = ls at hl ⊢
  have hl : lv_has ls 4 [(0, .ref o), (1, .int a1)] := hl
  have C0 : Cx p s m _ meth c A dC dI cy b_Ff_glyphOf 4 (some .int) "GlyphPage$FontFile" := ⟨hx, hb, hr, hlocks, hml, hown, htsG, hA, hK⟩
  unfold P_Ff_glyphOf at h
  refine lv_iconst (v := (0 : Int32)) hx hb d_Ff_glyphOf_0 (by decide) ?_
  refine lv_istore_n (lv' := [(2, .int (0 : Int32)), (0, .ref o), (1, .int a1)]) hx hb d_Ff_glyphOf_1 rfl hl (by decide) rfl (fun ls hl => ?_)
  exact w_Ff_glyphOf_2 C0 o o_bytes o_starts o_sizes o_glyphStarts o_length o_units o_glyphs o_ascent o_descent o_gap o_longLoca o_metrics o_codes o_codesSize o_segments o_pairs o_bytes_f o_starts_f o_sizes_f o_glyphStarts_f a1 uu  a1 (0 : Int32) h hP hD hS (lv_sub hl [1, 2, 0] rfl)
def P_Ff_readKern_115b (o_length : Int32) (o_units : Int32) (o_bytes_f : Nat → Int32) (o_starts_f : Nat → Int32) (o_sizes_f : Nat → Int32)  (z115 : Int32 × Int32 × Int64 × Int32 × Int32 → Option (Int32 × Int32)) (x1 : Int32) (x3 : Int32) (x4 : Int64) (x6 : Int32) (o_pairs : Int32) : Option (Int32 × Int32) :=
  if x3 ≤ x6 then (some ((1 : Int32), x3)) else ((P_Ff_pairAt o_length o_bytes_f o_starts_f x6).bind fun r_2 => if (lg_cmp r_2 x4) ≤ 0 then (some ((0 : Int32), o_pairs)) else ((P_Ff_signedAt o_length o_bytes_f ((x1 + (22 : Int32)) + ((6 : Int32) * x6))).bind fun r_4 => (P_Ff_isModest o_units r_4).bind fun r_5 => if r_5 = 0 then (some ((0 : Int32), o_pairs)) else ((P_Ff_pairAt o_length o_bytes_f o_starts_f x6).bind fun r_7 => z115 (x1, x3, r_7, (x6 + (1 : Int32)), o_pairs))))
def L_Ff_readKern_115 (o_length : Int32) (o_units : Int32) (o_bytes_f : Nat → Int32) (o_starts_f : Nat → Int32) (o_sizes_f : Nat → Int32)  : (Int32 × Int32 × Int64 × Int32 × Int32 → Option (Int32 × Int32)) → (Int32 × Int32 × Int64 × Int32 × Int32) → Option (Int32 × Int32) :=
  fun z => unp fun x1 => unp fun x3 => unp fun x4 => unp fun x6 o_pairs => P_Ff_readKern_115b o_length o_units o_bytes_f o_starts_f o_sizes_f z x1 x3 x4 x6 o_pairs
def P_Ff_readKern_115 (o_length : Int32) (o_units : Int32) (o_bytes_f : Nat → Int32) (o_starts_f : Nat → Int32) (o_sizes_f : Nat → Int32)  (x1 : Int32) (x3 : Int32) (x4 : Int64) (x6 : Int32) (o_pairs : Int32) : Option (Int32 × Int32) :=
  lp (L_Ff_readKern_115 o_length o_units o_bytes_f o_starts_f o_sizes_f) fuel (x1, x3, x4, x6, o_pairs)
theorem e_Ff_readKern_115 (o_length : Int32) (o_units : Int32) (o_bytes_f : Nat → Int32) (o_starts_f : Nat → Int32) (o_sizes_f : Nat → Int32)  (n : Nat) (x1 : Int32) (x3 : Int32) (x4 : Int64) (x6 : Int32) (o_pairs : Int32) : lp (L_Ff_readKern_115 o_length o_units o_bytes_f o_starts_f o_sizes_f) (n + 1) (x1, x3, x4, x6, o_pairs) = P_Ff_readKern_115b o_length o_units o_bytes_f o_starts_f o_sizes_f (lp (L_Ff_readKern_115 o_length o_units o_bytes_f o_starts_f o_sizes_f) n) x1 x3 x4 x6 o_pairs := rfl
set_option maxHeartbeats 4000000 in
set_option maxRecDepth 100000 in
theorem w_Ff_readKern_115b (C0 : Cx p s m args meth c A dC dI cy b_Ff_readKern 7 (some .boolean) "GlyphPage$FontFile") (o : Nat) (o_bytes : Nat) (o_starts : Nat) (o_sizes : Nat) (o_glyphStarts : Nat) (o_length : Int32) (o_units : Int32) (o_glyphs : Int32) (o_ascent : Int32) (o_descent : Int32) (o_gap : Int32) (o_longLoca : Int32) (o_metrics : Int32) (o_codes : Int32) (o_codesSize : Int32) (o_segments : Int32) (o_bytes_f : Nat → Int32) (o_starts_f : Nat → Int32) (o_sizes_f : Nat → Int32) (o_glyphStarts_f : Nat → Int32) (uu : Int32 × Int32)  (z115 : Int32 × Int32 × Int64 × Int32 × Int32 → Option (Int32 × Int32)) (hz115 : ∀ (x1 : Int32) (x3 : Int32) (x4 : Int64) (x6 : Int32) (o_pairs : Int32) (H : Heap) (locs : List Loc) (ls : Array Slot), z115 (x1, x3, x4, x6, o_pairs) = some uu → va_P (dC, dI) classes [(o, .inr (7, [.ref o_bytes, .int o_length, .ref o_starts, .ref o_sizes, .ref o_glyphStarts, .int o_units, .int o_glyphs, .int o_ascent, .int o_descent, .int o_gap, .int o_longLoca, .int o_metrics, .int o_codes, .int o_codesSize, .int o_segments, .int o_pairs])), (o_bytes, .inl (cy 1, 4096, .inl o_bytes_f)), (o_starts, .inl (cy 0, 8, .inl o_starts_f)), (o_sizes, .inl (cy 0, 8, .inl o_sizes_f)), (o_glyphStarts, .inl (cy 0, 65, .inl o_glyphStarts_f))] H → va_D A [(o, .inr (7, [.ref o_bytes, .int o_length, .ref o_starts, .ref o_sizes, .ref o_glyphStarts, .int o_units, .int o_glyphs, .int o_ascent, .int o_descent, .int o_gap, .int o_longLoca, .int o_metrics, .int o_codes, .int o_codesSize, .int o_segments, .int o_pairs])), (o_bytes, .inl (cy 1, 4096, .inl o_bytes_f)), (o_starts, .inl (cy 0, 8, .inl o_starts_f)), (o_sizes, .inl (cy 0, 8, .inl o_sizes_f)), (o_glyphStarts, .inl (cy 0, 65, .inl o_glyphStarts_f))] → va_S A s.heap H locs → lv_has ls 7 [(0, .ref o), (1, .int x1), (3, .int x3), (4, .long x4), (6, .int x6)] → W p l e ({ frames := 3, cells := 0, slots := 0, locals := 63 } : Room) s m args below meth c H locs 0 0 (MQ below (va_Qi (fun r (_ : Unit) => r = uu.1) (fun _ t => va_P (dC, dI) classes [(o, .inr (7, [.ref o_bytes, .int o_length, .ref o_starts, .ref o_sizes, .ref o_glyphStarts, .int o_units, .int o_glyphs, .int o_ascent, .int o_descent, .int o_gap, .int o_longLoca, .int o_metrics, .int o_codes, .int o_codesSize, .int o_segments, .int uu.2])), (o_bytes, .inl (cy 1, 4096, .inl o_bytes_f)), (o_starts, .inl (cy 0, 8, .inl o_starts_f)), (o_sizes, .inl (cy 0, 8, .inl o_sizes_f)), (o_glyphStarts, .inl (cy 0, 65, .inl o_glyphStarts_f))] t.heap ∧ va_K (dC, dI) classes (TY cy) t ∧ va_D A [(o, .inr (7, [.ref o_bytes, .int o_length, .ref o_starts, .ref o_sizes, .ref o_glyphStarts, .int o_units, .int o_glyphs, .int o_ascent, .int o_descent, .int o_gap, .int o_longLoca, .int o_metrics, .int o_codes, .int o_codesSize, .int o_segments, .int uu.2])), (o_bytes, .inl (cy 1, 4096, .inl o_bytes_f)), (o_starts, .inl (cy 0, 8, .inl o_starts_f)), (o_sizes, .inl (cy 0, 8, .inl o_sizes_f)), (o_glyphStarts, .inl (cy 0, 65, .inl o_glyphStarts_f))]) A) args s 0 0 A) (F0 m 115 ls [])) (x1 : Int32) (x3 : Int32) (x4 : Int64) (x6 : Int32) (o_pairs : Int32) {H : Heap} {locs : List Loc} {ls : Array Slot} (h : P_Ff_readKern_115b o_length o_units o_bytes_f o_starts_f o_sizes_f z115 x1 x3 x4 x6 o_pairs = some uu) : va_P (dC, dI) classes [(o, .inr (7, [.ref o_bytes, .int o_length, .ref o_starts, .ref o_sizes, .ref o_glyphStarts, .int o_units, .int o_glyphs, .int o_ascent, .int o_descent, .int o_gap, .int o_longLoca, .int o_metrics, .int o_codes, .int o_codesSize, .int o_segments, .int o_pairs])), (o_bytes, .inl (cy 1, 4096, .inl o_bytes_f)), (o_starts, .inl (cy 0, 8, .inl o_starts_f)), (o_sizes, .inl (cy 0, 8, .inl o_sizes_f)), (o_glyphStarts, .inl (cy 0, 65, .inl o_glyphStarts_f))] H → va_D A [(o, .inr (7, [.ref o_bytes, .int o_length, .ref o_starts, .ref o_sizes, .ref o_glyphStarts, .int o_units, .int o_glyphs, .int o_ascent, .int o_descent, .int o_gap, .int o_longLoca, .int o_metrics, .int o_codes, .int o_codesSize, .int o_segments, .int o_pairs])), (o_bytes, .inl (cy 1, 4096, .inl o_bytes_f)), (o_starts, .inl (cy 0, 8, .inl o_starts_f)), (o_sizes, .inl (cy 0, 8, .inl o_sizes_f)), (o_glyphStarts, .inl (cy 0, 65, .inl o_glyphStarts_f))] → va_S A s.heap H locs → lv_has ls 7 [(0, .ref o), (1, .int x1), (3, .int x3), (4, .long x4), (6, .int x6)] → W p l e ({ frames := 3, cells := 0, slots := 0, locals := 63 } : Room) s m args below meth c H locs 0 0 (MQ below (va_Qi (fun r (_ : Unit) => r = uu.1) (fun _ t => va_P (dC, dI) classes [(o, .inr (7, [.ref o_bytes, .int o_length, .ref o_starts, .ref o_sizes, .ref o_glyphStarts, .int o_units, .int o_glyphs, .int o_ascent, .int o_descent, .int o_gap, .int o_longLoca, .int o_metrics, .int o_codes, .int o_codesSize, .int o_segments, .int uu.2])), (o_bytes, .inl (cy 1, 4096, .inl o_bytes_f)), (o_starts, .inl (cy 0, 8, .inl o_starts_f)), (o_sizes, .inl (cy 0, 8, .inl o_sizes_f)), (o_glyphStarts, .inl (cy 0, 65, .inl o_glyphStarts_f))] t.heap ∧ va_K (dC, dI) classes (TY cy) t ∧ va_D A [(o, .inr (7, [.ref o_bytes, .int o_length, .ref o_starts, .ref o_sizes, .ref o_glyphStarts, .int o_units, .int o_glyphs, .int o_ascent, .int o_descent, .int o_gap, .int o_longLoca, .int o_metrics, .int o_codes, .int o_codesSize, .int o_segments, .int uu.2])), (o_bytes, .inl (cy 1, 4096, .inl o_bytes_f)), (o_starts, .inl (cy 0, 8, .inl o_starts_f)), (o_sizes, .inl (cy 0, 8, .inl o_sizes_f)), (o_glyphStarts, .inl (cy 0, 65, .inl o_glyphStarts_f))]) A) args s 0 0 A) (F0 m 115 ls []) := by
  intro hP hD hS hl
  obtain ⟨hx, hb, hr, hlocks, hml, hown, htsG, hA, hK⟩ := id C0
  unfold P_Ff_readKern_115b at h
  refine lv_iload hx hb d_Ff_readKern_115 (lv_at hl 4 rfl) ?_
  refine lv_iload_n hx hb d_Ff_readKern_117 rfl (lv_at hl 2 rfl) ?_
  refine lv_icmp_ge (tgt := 170) hx hb d_Ff_readKern_118 (by decide) (fun c_1 => ?_) (fun c_1 => ?_)
  · replace h := (if_pos c_1).symm.trans h
    refine lv_aload_n hx hb d_Ff_readKern_170 rfl (lv_at hl 0 rfl) ?_
    refine lv_iload_n hx hb d_Ff_readKern_171 rfl (lv_at hl 2 rfl) ?_
    refine va_put (D := (dC, dI)) (ci := 7) (v := .int x3) (ty := .int) (C := "GlyphPage$FontFile") (T := F_Ff) (N := 16) hx hb htsG iG_Ff t_Ff t_Ff_ok n_Ff hown hK hP hD hS 0 rfl rfl 15 (by decide) (htsG _ mW323) (fun _ h9 => h9) rfl (by decide +kernel) rfl rfl (Nat.le_of_ble_eq_true rfl) d_Ff_readKern_172 (fun H locs hP hD hS => ?_)
    have hP : va_P (dC, dI) classes [(o, .inr (7, [.ref o_bytes, .int o_length, .ref o_starts, .ref o_sizes, .ref o_glyphStarts, .int o_units, .int o_glyphs, .int o_ascent, .int o_descent, .int o_gap, .int o_longLoca, .int o_metrics, .int o_codes, .int o_codesSize, .int o_segments, .int x3])), (o_bytes, .inl (cy 1, 4096, .inl o_bytes_f)), (o_starts, .inl (cy 0, 8, .inl o_starts_f)), (o_sizes, .inl (cy 0, 8, .inl o_sizes_f)), (o_glyphStarts, .inl (cy 0, 65, .inl o_glyphStarts_f))] H := hP
    have hD : va_D A [(o, .inr (7, [.ref o_bytes, .int o_length, .ref o_starts, .ref o_sizes, .ref o_glyphStarts, .int o_units, .int o_glyphs, .int o_ascent, .int o_descent, .int o_gap, .int o_longLoca, .int o_metrics, .int o_codes, .int o_codesSize, .int o_segments, .int x3])), (o_bytes, .inl (cy 1, 4096, .inl o_bytes_f)), (o_starts, .inl (cy 0, 8, .inl o_starts_f)), (o_sizes, .inl (cy 0, 8, .inl o_sizes_f)), (o_glyphStarts, .inl (cy 0, 65, .inl o_glyphStarts_f))] := hD
    refine lv_iconst (v := (1 : Int32)) hx hb d_Ff_readKern_175 (by decide) ?_
    cases h
    exact W.zret (ty := .boolean) hx hb hr rfl (fun t ht hW => ⟨⟨_, (), rfl, rfl, by rw [ht]; exact hP, va_K.moved hW.alike hK, hD⟩, hS.F ht⟩) hS.2.2 d_Ff_readKern_176 hlocks
  · replace h := (if_neg c_1).symm.trans h
    refine lv_aload_n hx hb d_Ff_readKern_121 rfl (lv_at hl 0 rfl) ?_
    refine lv_iload hx hb d_Ff_readKern_122 (lv_at hl 4 rfl) ?_
    obtain ⟨r_2, hq, h⟩ := Option.bind_eq_some_iff.mp h
    try dsimp only at h
    have hPc := hP.sub (ws' := [(o, .inr (7, [.ref o_bytes, .int o_length, .ref o_starts, .ref o_sizes, .ref o_glyphStarts, .int o_units, .int o_glyphs, .int o_ascent, .int o_descent, .int o_gap, .int o_longLoca, .int o_metrics, .int o_codes, .int o_codesSize, .int o_segments, .int o_pairs])), (o_bytes, .inl (cy 1, 4096, .inl o_bytes_f)), (o_starts, .inl (cy 0, 8, .inl o_starts_f)), (o_sizes, .inl (cy 0, 8, .inl o_sizes_f)), (o_glyphStarts, .inl (cy 0, 65, .inl o_glyphStarts_f))]) [0, 1, 2, 3, 4] rfl
    have hDc := hD.sub (ws' := [(o, .inr (7, [.ref o_bytes, .int o_length, .ref o_starts, .ref o_sizes, .ref o_glyphStarts, .int o_units, .int o_glyphs, .int o_ascent, .int o_descent, .int o_gap, .int o_longLoca, .int o_metrics, .int o_codes, .int o_codesSize, .int o_segments, .int o_pairs])), (o_bytes, .inl (cy 1, 4096, .inl o_bytes_f)), (o_starts, .inl (cy 0, 8, .inl o_starts_f)), (o_sizes, .inl (cy 0, 8, .inl o_sizes_f)), (o_glyphStarts, .inl (cy 0, 65, .inl o_glyphStarts_f))]) [0, 1, 2, 3, 4] (by decide) rfl
    have hFc := va_free (wc := [(o, .inr (7, [.ref o_bytes, .int o_length, .ref o_starts, .ref o_sizes, .ref o_glyphStarts, .int o_units, .int o_glyphs, .int o_ascent, .int o_descent, .int o_gap, .int o_longLoca, .int o_metrics, .int o_codes, .int o_codesSize, .int o_segments, .int o_pairs])), (o_bytes, .inl (cy 1, 4096, .inl o_bytes_f)), (o_starts, .inl (cy 0, 8, .inl o_starts_f)), (o_sizes, .inl (cy 0, 8, .inl o_sizes_f)), (o_glyphStarts, .inl (cy 0, 65, .inl o_glyphStarts_f))]) hD hS hA [0, 1, 2, 3, 4] rfl
    refine va_calll (va_runV (As := [.int x6]) (rest := []) ⟨hx, hb, hml, hown, htsG⟩ (c_Ff_pairAt l dC dI cy H.size o o_bytes o_starts o_sizes o_glyphStarts o_length o_units o_glyphs o_ascent o_descent o_gap o_longLoca o_metrics o_codes o_codesSize o_segments o_pairs o_bytes_f o_starts_f o_sizes_f o_glyphStarts_f x6 r_2 hq) (cwV 1 htsG (gV mW512 mW514 mS_Ff_pairAt mW11 mW515) rfl rfl rfl (by decide +kernel) ⟨Nat.le_of_ble_eq_true rfl, Nat.le_of_ble_eq_true rfl⟩) ⟨fun a U g mk q => by obtain ⟨q0, q1, qP, qK, qD⟩ := q; exact ⟨q0, q1, qP, va_K.moved (u := U) (U := U.calling g mk a) (Vm.Alike.refl U.vm) qK, qD⟩, va_recv hK hPc (ci := 7) (q0 := 0) rfl rfl, fun U hU hW => ⟨rfl, by rw [hU], by rw [hU]; exact hPc, va_K.moved hW.alike hK, hDc.weaken (fun _ _ _ _ => trivial)⟩⟩ rfl rfl hl.1 rfl (lv_room (Nat.le_of_ble_eq_true rfl)) d_Ff_readKern_124 ⟨Nat.le_of_ble_eq_true rfl, Nat.le_of_ble_eq_true rfl⟩) hS (fun q _ h => hFc q h) hFc (fun rr u t H1 locs ht hvm hw hB hz1 hk1 hS => ?_)
    obtain ⟨hP1, hK1, hD1⟩ := hB
    rw [ht] at hP1
    replace hw : r_2 = rr := hw.symm
    subst hw
    obtain ⟨hP, hD⟩ := va_join (wr := []) (w1 := [(o, .inr (7, [.ref o_bytes, .int o_length, .ref o_starts, .ref o_sizes, .ref o_glyphStarts, .int o_units, .int o_glyphs, .int o_ascent, .int o_descent, .int o_gap, .int o_longLoca, .int o_metrics, .int o_codes, .int o_codesSize, .int o_segments, .int o_pairs])), (o_bytes, .inl (cy 1, 4096, .inl o_bytes_f)), (o_starts, .inl (cy 0, 8, .inl o_starts_f)), (o_sizes, .inl (cy 0, 8, .inl o_sizes_f)), (o_glyphStarts, .inl (cy 0, 65, .inl o_glyphStarts_f))]) hP hD [0, 1, 2, 3, 4] [] rfl rfl (by decide) (by decide) hk1 hFc hP1 hD1
    generalize H1 = H at hP hS ⊢
    have hP := hP.sub (ws' := [(o, .inr (7, [.ref o_bytes, .int o_length, .ref o_starts, .ref o_sizes, .ref o_glyphStarts, .int o_units, .int o_glyphs, .int o_ascent, .int o_descent, .int o_gap, .int o_longLoca, .int o_metrics, .int o_codes, .int o_codesSize, .int o_segments, .int o_pairs])), (o_bytes, .inl (cy 1, 4096, .inl o_bytes_f)), (o_starts, .inl (cy 0, 8, .inl o_starts_f)), (o_sizes, .inl (cy 0, 8, .inl o_sizes_f)), (o_glyphStarts, .inl (cy 0, 65, .inl o_glyphStarts_f))]) [0, 1, 2, 3, 4] rfl
    have hD := hD.sub (ws' := [(o, .inr (7, [.ref o_bytes, .int o_length, .ref o_starts, .ref o_sizes, .ref o_glyphStarts, .int o_units, .int o_glyphs, .int o_ascent, .int o_descent, .int o_gap, .int o_longLoca, .int o_metrics, .int o_codes, .int o_codesSize, .int o_segments, .int o_pairs])), (o_bytes, .inl (cy 1, 4096, .inl o_bytes_f)), (o_starts, .inl (cy 0, 8, .inl o_starts_f)), (o_sizes, .inl (cy 0, 8, .inl o_sizes_f)), (o_glyphStarts, .inl (cy 0, 65, .inl o_glyphStarts_f))]) [0, 1, 2, 3, 4] (by decide) rfl
    refine W.widen (k := 0) (n := 0) (by decide) (by decide) ?_
    refine lv_lload hx hb d_Ff_readKern_127 (lv_at hl 3 rfl) ?_
    refine W.lcmp hx hb d_Ff_readKern_129 ?_
    refine lv_if_le (tgt := 154) hx hb d_Ff_readKern_130 (by decide) (fun c_3 => ?_) (fun c_3 => ?_)
    · replace h := (if_pos c_3).symm.trans h
      refine lv_iconst (v := (0 : Int32)) hx hb d_Ff_readKern_154 (by decide) ?_
      cases h
      exact W.zret (ty := .boolean) hx hb hr rfl (fun t ht hW => ⟨⟨_, (), rfl, rfl, by rw [ht]; exact hP, va_K.moved hW.alike hK, hD⟩, hS.F ht⟩) hS.2.2 d_Ff_readKern_155 hlocks
    · replace h := (if_neg c_3).symm.trans h
      refine lv_aload_n hx hb d_Ff_readKern_133 rfl (lv_at hl 0 rfl) ?_
      refine lv_aload_n hx hb d_Ff_readKern_134 rfl (lv_at hl 0 rfl) ?_
      refine lv_iload_n hx hb d_Ff_readKern_135 rfl (lv_at hl 1 rfl) ?_
      refine lv_bipush (v := (22 : Int32)) hx hb d_Ff_readKern_136 (by decide) ?_
      refine lv_iadd hx hb d_Ff_readKern_138 ?_
      refine lv_bipush (v := (6 : Int32)) hx hb d_Ff_readKern_139 (by decide) ?_
      refine lv_iload hx hb d_Ff_readKern_141 (lv_at hl 4 rfl) ?_
      refine lv_imul hx hb d_Ff_readKern_143 ?_
      refine lv_iadd hx hb d_Ff_readKern_144 ?_
      obtain ⟨r_4, hq, h⟩ := Option.bind_eq_some_iff.mp h
      try dsimp only at h
      have hPc := hP.sub (ws' := [(o, .inr (7, [.ref o_bytes, .int o_length, .ref o_starts, .ref o_sizes, .ref o_glyphStarts, .int o_units, .int o_glyphs, .int o_ascent, .int o_descent, .int o_gap, .int o_longLoca, .int o_metrics, .int o_codes, .int o_codesSize, .int o_segments, .int o_pairs])), (o_bytes, .inl (cy 1, 4096, .inl o_bytes_f)), (o_starts, .inl (cy 0, 8, .inl o_starts_f)), (o_sizes, .inl (cy 0, 8, .inl o_sizes_f)), (o_glyphStarts, .inl (cy 0, 65, .inl o_glyphStarts_f))]) [0, 1, 2, 3, 4] rfl
      have hDc := hD.sub (ws' := [(o, .inr (7, [.ref o_bytes, .int o_length, .ref o_starts, .ref o_sizes, .ref o_glyphStarts, .int o_units, .int o_glyphs, .int o_ascent, .int o_descent, .int o_gap, .int o_longLoca, .int o_metrics, .int o_codes, .int o_codesSize, .int o_segments, .int o_pairs])), (o_bytes, .inl (cy 1, 4096, .inl o_bytes_f)), (o_starts, .inl (cy 0, 8, .inl o_starts_f)), (o_sizes, .inl (cy 0, 8, .inl o_sizes_f)), (o_glyphStarts, .inl (cy 0, 65, .inl o_glyphStarts_f))]) [0, 1, 2, 3, 4] (by decide) rfl
      have hFc := va_free (wc := [(o, .inr (7, [.ref o_bytes, .int o_length, .ref o_starts, .ref o_sizes, .ref o_glyphStarts, .int o_units, .int o_glyphs, .int o_ascent, .int o_descent, .int o_gap, .int o_longLoca, .int o_metrics, .int o_codes, .int o_codesSize, .int o_segments, .int o_pairs])), (o_bytes, .inl (cy 1, 4096, .inl o_bytes_f)), (o_starts, .inl (cy 0, 8, .inl o_starts_f)), (o_sizes, .inl (cy 0, 8, .inl o_sizes_f)), (o_glyphStarts, .inl (cy 0, 65, .inl o_glyphStarts_f))]) hD hS hA [0, 1, 2, 3, 4] rfl
      refine va_calli (va_runV (As := [.int ((x1 + (22 : Int32)) + ((6 : Int32) * x6))]) (rest := [.ref o]) ⟨hx, hb, hml, hown, htsG⟩ (c_Ff_signedAt l dC dI cy H.size o o_bytes o_starts o_sizes o_glyphStarts o_length o_units o_glyphs o_ascent o_descent o_gap o_longLoca o_metrics o_codes o_codesSize o_segments o_pairs o_bytes_f o_starts_f o_sizes_f o_glyphStarts_f ((x1 + (22 : Int32)) + ((6 : Int32) * x6)) r_4 hq) (cwV 1 htsG (gV mW400 mW402 mS_Ff_signedAt mW11 mW403) rfl rfl rfl (by decide +kernel) ⟨Nat.le_of_ble_eq_true rfl, Nat.le_of_ble_eq_true rfl⟩) ⟨fun a U g mk q => by obtain ⟨q0, q1, qP, qK, qD⟩ := q; exact ⟨q0, q1, qP, va_K.moved (u := U) (U := U.calling g mk a) (Vm.Alike.refl U.vm) qK, qD⟩, va_recv hK hPc (ci := 7) (q0 := 0) rfl rfl, fun U hU hW => ⟨rfl, by rw [hU], by rw [hU]; exact hPc, va_K.moved hW.alike hK, hDc.weaken (fun _ _ _ _ => trivial)⟩⟩ rfl rfl hl.1 rfl (lv_room (Nat.le_of_ble_eq_true rfl)) d_Ff_readKern_145 ⟨Nat.le_of_ble_eq_true rfl, Nat.le_of_ble_eq_true rfl⟩) hS (fun q _ h => hFc q h) hFc (fun rr u t H1 locs ht hvm hw hB hz1 hk1 hS => ?_)
      obtain ⟨hP1, hK1, hD1⟩ := hB
      rw [ht] at hP1
      replace hw : r_4 = rr := hw.symm
      subst hw
      obtain ⟨hP, hD⟩ := va_join (wr := []) (w1 := [(o, .inr (7, [.ref o_bytes, .int o_length, .ref o_starts, .ref o_sizes, .ref o_glyphStarts, .int o_units, .int o_glyphs, .int o_ascent, .int o_descent, .int o_gap, .int o_longLoca, .int o_metrics, .int o_codes, .int o_codesSize, .int o_segments, .int o_pairs])), (o_bytes, .inl (cy 1, 4096, .inl o_bytes_f)), (o_starts, .inl (cy 0, 8, .inl o_starts_f)), (o_sizes, .inl (cy 0, 8, .inl o_sizes_f)), (o_glyphStarts, .inl (cy 0, 65, .inl o_glyphStarts_f))]) hP hD [0, 1, 2, 3, 4] [] rfl rfl (by decide) (by decide) hk1 hFc hP1 hD1
      generalize H1 = H at hP hS ⊢
      have hP := hP.sub (ws' := [(o, .inr (7, [.ref o_bytes, .int o_length, .ref o_starts, .ref o_sizes, .ref o_glyphStarts, .int o_units, .int o_glyphs, .int o_ascent, .int o_descent, .int o_gap, .int o_longLoca, .int o_metrics, .int o_codes, .int o_codesSize, .int o_segments, .int o_pairs])), (o_bytes, .inl (cy 1, 4096, .inl o_bytes_f)), (o_starts, .inl (cy 0, 8, .inl o_starts_f)), (o_sizes, .inl (cy 0, 8, .inl o_sizes_f)), (o_glyphStarts, .inl (cy 0, 65, .inl o_glyphStarts_f))]) [0, 1, 2, 3, 4] rfl
      have hD := hD.sub (ws' := [(o, .inr (7, [.ref o_bytes, .int o_length, .ref o_starts, .ref o_sizes, .ref o_glyphStarts, .int o_units, .int o_glyphs, .int o_ascent, .int o_descent, .int o_gap, .int o_longLoca, .int o_metrics, .int o_codes, .int o_codesSize, .int o_segments, .int o_pairs])), (o_bytes, .inl (cy 1, 4096, .inl o_bytes_f)), (o_starts, .inl (cy 0, 8, .inl o_starts_f)), (o_sizes, .inl (cy 0, 8, .inl o_sizes_f)), (o_glyphStarts, .inl (cy 0, 65, .inl o_glyphStarts_f))]) [0, 1, 2, 3, 4] (by decide) rfl
      refine W.widen (k := 0) (n := 0) (by decide) (by decide) ?_
      obtain ⟨r_5, hq, h⟩ := Option.bind_eq_some_iff.mp h
      try dsimp only at h
      have hPc := hP.sub (ws' := [(o, .inr (7, [.ref o_bytes, .int o_length, .ref o_starts, .ref o_sizes, .ref o_glyphStarts, .int o_units, .int o_glyphs, .int o_ascent, .int o_descent, .int o_gap, .int o_longLoca, .int o_metrics, .int o_codes, .int o_codesSize, .int o_segments, .int o_pairs]))]) [0] rfl
      have hDc := hD.sub (ws' := [(o, .inr (7, [.ref o_bytes, .int o_length, .ref o_starts, .ref o_sizes, .ref o_glyphStarts, .int o_units, .int o_glyphs, .int o_ascent, .int o_descent, .int o_gap, .int o_longLoca, .int o_metrics, .int o_codes, .int o_codesSize, .int o_segments, .int o_pairs]))]) [0] (by decide) rfl
      have hFc := va_free (wc := [(o, .inr (7, [.ref o_bytes, .int o_length, .ref o_starts, .ref o_sizes, .ref o_glyphStarts, .int o_units, .int o_glyphs, .int o_ascent, .int o_descent, .int o_gap, .int o_longLoca, .int o_metrics, .int o_codes, .int o_codesSize, .int o_segments, .int o_pairs]))]) hD hS hA [0] rfl
      refine va_calli (va_runV (As := [.int r_4]) (rest := []) ⟨hx, hb, hml, hown, htsG⟩ (c_Ff_isModest l dC dI cy H.size o o_bytes o_starts o_sizes o_glyphStarts o_length o_units o_glyphs o_ascent o_descent o_gap o_longLoca o_metrics o_codes o_codesSize o_segments o_pairs r_4 r_5 hq) (cwV 1 htsG (gV mW404 mW406 mS_Ff_isModest mW11 mW407) rfl rfl rfl (by decide +kernel) ⟨Nat.le_of_ble_eq_true rfl, Nat.le_of_ble_eq_true rfl⟩) ⟨fun a U g mk q => by obtain ⟨q0, q1, qP, qK, qD⟩ := q; exact ⟨q0, q1, qP, va_K.moved (u := U) (U := U.calling g mk a) (Vm.Alike.refl U.vm) qK, qD⟩, va_recv hK hPc (ci := 7) (q0 := 0) rfl rfl, fun U hU hW => ⟨rfl, by rw [hU], by rw [hU]; exact hPc, va_K.moved hW.alike hK, hDc.weaken (fun _ _ _ _ => trivial)⟩⟩ rfl rfl hl.1 rfl (lv_room (Nat.le_of_ble_eq_true rfl)) d_Ff_readKern_148 ⟨Nat.le_of_ble_eq_true rfl, Nat.le_of_ble_eq_true rfl⟩) hS (fun q _ h => hFc q h) hFc (fun rr u t H1 locs ht hvm hw hB hz1 hk1 hS => ?_)
      obtain ⟨hP1, hK1, hD1⟩ := hB
      rw [ht] at hP1
      replace hw : r_5 = rr := hw.symm
      subst hw
      obtain ⟨hP, hD⟩ := va_join (wr := [(o_bytes, .inl (cy 1, 4096, .inl o_bytes_f)), (o_starts, .inl (cy 0, 8, .inl o_starts_f)), (o_sizes, .inl (cy 0, 8, .inl o_sizes_f)), (o_glyphStarts, .inl (cy 0, 65, .inl o_glyphStarts_f))]) (w1 := [(o, .inr (7, [.ref o_bytes, .int o_length, .ref o_starts, .ref o_sizes, .ref o_glyphStarts, .int o_units, .int o_glyphs, .int o_ascent, .int o_descent, .int o_gap, .int o_longLoca, .int o_metrics, .int o_codes, .int o_codesSize, .int o_segments, .int o_pairs]))]) hP hD [0] [1, 2, 3, 4] rfl rfl (by decide) (by decide) hk1 hFc hP1 hD1
      generalize H1 = H at hP hS ⊢
      have hP := hP.sub (ws' := [(o, .inr (7, [.ref o_bytes, .int o_length, .ref o_starts, .ref o_sizes, .ref o_glyphStarts, .int o_units, .int o_glyphs, .int o_ascent, .int o_descent, .int o_gap, .int o_longLoca, .int o_metrics, .int o_codes, .int o_codesSize, .int o_segments, .int o_pairs])), (o_bytes, .inl (cy 1, 4096, .inl o_bytes_f)), (o_starts, .inl (cy 0, 8, .inl o_starts_f)), (o_sizes, .inl (cy 0, 8, .inl o_sizes_f)), (o_glyphStarts, .inl (cy 0, 65, .inl o_glyphStarts_f))]) [4, 0, 1, 2, 3] rfl
      have hD := hD.sub (ws' := [(o, .inr (7, [.ref o_bytes, .int o_length, .ref o_starts, .ref o_sizes, .ref o_glyphStarts, .int o_units, .int o_glyphs, .int o_ascent, .int o_descent, .int o_gap, .int o_longLoca, .int o_metrics, .int o_codes, .int o_codesSize, .int o_segments, .int o_pairs])), (o_bytes, .inl (cy 1, 4096, .inl o_bytes_f)), (o_starts, .inl (cy 0, 8, .inl o_starts_f)), (o_sizes, .inl (cy 0, 8, .inl o_sizes_f)), (o_glyphStarts, .inl (cy 0, 65, .inl o_glyphStarts_f))]) [4, 0, 1, 2, 3] (by decide) rfl
      refine W.widen (k := 0) (n := 0) (by decide) (by decide) ?_
      refine lv_if_ne (tgt := 156) hx hb d_Ff_readKern_151 (by decide) (fun c_6 => ?_) (fun c_6 => ?_)
      · replace h := (if_neg c_6).symm.trans h
        refine lv_aload_n hx hb d_Ff_readKern_156 rfl (lv_at hl 0 rfl) ?_
        refine lv_iload hx hb d_Ff_readKern_157 (lv_at hl 4 rfl) ?_
        obtain ⟨r_7, hq, h⟩ := Option.bind_eq_some_iff.mp h
        try dsimp only at h
        have hPc := hP.sub (ws' := [(o, .inr (7, [.ref o_bytes, .int o_length, .ref o_starts, .ref o_sizes, .ref o_glyphStarts, .int o_units, .int o_glyphs, .int o_ascent, .int o_descent, .int o_gap, .int o_longLoca, .int o_metrics, .int o_codes, .int o_codesSize, .int o_segments, .int o_pairs])), (o_bytes, .inl (cy 1, 4096, .inl o_bytes_f)), (o_starts, .inl (cy 0, 8, .inl o_starts_f)), (o_sizes, .inl (cy 0, 8, .inl o_sizes_f)), (o_glyphStarts, .inl (cy 0, 65, .inl o_glyphStarts_f))]) [0, 1, 2, 3, 4] rfl
        have hDc := hD.sub (ws' := [(o, .inr (7, [.ref o_bytes, .int o_length, .ref o_starts, .ref o_sizes, .ref o_glyphStarts, .int o_units, .int o_glyphs, .int o_ascent, .int o_descent, .int o_gap, .int o_longLoca, .int o_metrics, .int o_codes, .int o_codesSize, .int o_segments, .int o_pairs])), (o_bytes, .inl (cy 1, 4096, .inl o_bytes_f)), (o_starts, .inl (cy 0, 8, .inl o_starts_f)), (o_sizes, .inl (cy 0, 8, .inl o_sizes_f)), (o_glyphStarts, .inl (cy 0, 65, .inl o_glyphStarts_f))]) [0, 1, 2, 3, 4] (by decide) rfl
        have hFc := va_free (wc := [(o, .inr (7, [.ref o_bytes, .int o_length, .ref o_starts, .ref o_sizes, .ref o_glyphStarts, .int o_units, .int o_glyphs, .int o_ascent, .int o_descent, .int o_gap, .int o_longLoca, .int o_metrics, .int o_codes, .int o_codesSize, .int o_segments, .int o_pairs])), (o_bytes, .inl (cy 1, 4096, .inl o_bytes_f)), (o_starts, .inl (cy 0, 8, .inl o_starts_f)), (o_sizes, .inl (cy 0, 8, .inl o_sizes_f)), (o_glyphStarts, .inl (cy 0, 65, .inl o_glyphStarts_f))]) hD hS hA [0, 1, 2, 3, 4] rfl
        refine va_calll (va_runV (As := [.int x6]) (rest := []) ⟨hx, hb, hml, hown, htsG⟩ (c_Ff_pairAt l dC dI cy H.size o o_bytes o_starts o_sizes o_glyphStarts o_length o_units o_glyphs o_ascent o_descent o_gap o_longLoca o_metrics o_codes o_codesSize o_segments o_pairs o_bytes_f o_starts_f o_sizes_f o_glyphStarts_f x6 r_7 hq) (cwV 1 htsG (gV mW512 mW514 mS_Ff_pairAt mW11 mW515) rfl rfl rfl (by decide +kernel) ⟨Nat.le_of_ble_eq_true rfl, Nat.le_of_ble_eq_true rfl⟩) ⟨fun a U g mk q => by obtain ⟨q0, q1, qP, qK, qD⟩ := q; exact ⟨q0, q1, qP, va_K.moved (u := U) (U := U.calling g mk a) (Vm.Alike.refl U.vm) qK, qD⟩, va_recv hK hPc (ci := 7) (q0 := 0) rfl rfl, fun U hU hW => ⟨rfl, by rw [hU], by rw [hU]; exact hPc, va_K.moved hW.alike hK, hDc.weaken (fun _ _ _ _ => trivial)⟩⟩ rfl rfl hl.1 rfl (lv_room (Nat.le_of_ble_eq_true rfl)) d_Ff_readKern_159 ⟨Nat.le_of_ble_eq_true rfl, Nat.le_of_ble_eq_true rfl⟩) hS (fun q _ h => hFc q h) hFc (fun rr u t H1 locs ht hvm hw hB hz1 hk1 hS => ?_)
        obtain ⟨hP1, hK1, hD1⟩ := hB
        rw [ht] at hP1
        replace hw : r_7 = rr := hw.symm
        subst hw
        obtain ⟨hP, hD⟩ := va_join (wr := []) (w1 := [(o, .inr (7, [.ref o_bytes, .int o_length, .ref o_starts, .ref o_sizes, .ref o_glyphStarts, .int o_units, .int o_glyphs, .int o_ascent, .int o_descent, .int o_gap, .int o_longLoca, .int o_metrics, .int o_codes, .int o_codesSize, .int o_segments, .int o_pairs])), (o_bytes, .inl (cy 1, 4096, .inl o_bytes_f)), (o_starts, .inl (cy 0, 8, .inl o_starts_f)), (o_sizes, .inl (cy 0, 8, .inl o_sizes_f)), (o_glyphStarts, .inl (cy 0, 65, .inl o_glyphStarts_f))]) hP hD [0, 1, 2, 3, 4] [] rfl rfl (by decide) (by decide) hk1 hFc hP1 hD1
        generalize H1 = H at hP hS ⊢
        have hP := hP.sub (ws' := [(o, .inr (7, [.ref o_bytes, .int o_length, .ref o_starts, .ref o_sizes, .ref o_glyphStarts, .int o_units, .int o_glyphs, .int o_ascent, .int o_descent, .int o_gap, .int o_longLoca, .int o_metrics, .int o_codes, .int o_codesSize, .int o_segments, .int o_pairs])), (o_bytes, .inl (cy 1, 4096, .inl o_bytes_f)), (o_starts, .inl (cy 0, 8, .inl o_starts_f)), (o_sizes, .inl (cy 0, 8, .inl o_sizes_f)), (o_glyphStarts, .inl (cy 0, 65, .inl o_glyphStarts_f))]) [0, 1, 2, 3, 4] rfl
        have hD := hD.sub (ws' := [(o, .inr (7, [.ref o_bytes, .int o_length, .ref o_starts, .ref o_sizes, .ref o_glyphStarts, .int o_units, .int o_glyphs, .int o_ascent, .int o_descent, .int o_gap, .int o_longLoca, .int o_metrics, .int o_codes, .int o_codesSize, .int o_segments, .int o_pairs])), (o_bytes, .inl (cy 1, 4096, .inl o_bytes_f)), (o_starts, .inl (cy 0, 8, .inl o_starts_f)), (o_sizes, .inl (cy 0, 8, .inl o_sizes_f)), (o_glyphStarts, .inl (cy 0, 65, .inl o_glyphStarts_f))]) [0, 1, 2, 3, 4] (by decide) rfl
        refine W.widen (k := 0) (n := 0) (by decide) (by decide) ?_
        refine lv_lstore (lv' := [(4, .long r_7), (0, .ref o), (1, .int x1), (3, .int x3), (6, .int x6)]) hx hb d_Ff_readKern_162 hl (by decide) rfl (fun ls hl => ?_)
        refine lv_iinc (v := (x6 + (1 : Int32))) (lv' := [(6, .int (x6 + (1 : Int32))), (4, .long r_7), (0, .ref o), (1, .int x1), (3, .int x3)]) hx hb d_Ff_readKern_164 hl (k := 4) rfl rfl (by decide) rfl (fun ls hl => ?_)
        refine lv_goto (tgt := 115) hx hb d_Ff_readKern_167 (by decide) ?_
        exact hz115 x1 x3 r_7 (x6 + (1 : Int32)) o_pairs _ _ _ h hP hD hS (lv_sub hl [2, 3, 4, 1, 0] rfl)
      · replace h := (if_pos c_6).symm.trans h
        refine lv_iconst (v := (0 : Int32)) hx hb d_Ff_readKern_154 (by decide) ?_
        cases h
        exact W.zret (ty := .boolean) hx hb hr rfl (fun t ht hW => ⟨⟨_, (), rfl, rfl, by rw [ht]; exact hP, va_K.moved hW.alike hK, hD⟩, hS.F ht⟩) hS.2.2 d_Ff_readKern_155 hlocks
theorem w_Ff_readKern_115 (C0 : Cx p s m args meth c A dC dI cy b_Ff_readKern 7 (some .boolean) "GlyphPage$FontFile") (o : Nat) (o_bytes : Nat) (o_starts : Nat) (o_sizes : Nat) (o_glyphStarts : Nat) (o_length : Int32) (o_units : Int32) (o_glyphs : Int32) (o_ascent : Int32) (o_descent : Int32) (o_gap : Int32) (o_longLoca : Int32) (o_metrics : Int32) (o_codes : Int32) (o_codesSize : Int32) (o_segments : Int32) (o_bytes_f : Nat → Int32) (o_starts_f : Nat → Int32) (o_sizes_f : Nat → Int32) (o_glyphStarts_f : Nat → Int32) (uu : Int32 × Int32)  (x1 : Int32) (x3 : Int32) (x4 : Int64) (x6 : Int32) (o_pairs : Int32) {H : Heap} {locs : List Loc} {ls : Array Slot} (h : P_Ff_readKern_115 o_length o_units o_bytes_f o_starts_f o_sizes_f x1 x3 x4 x6 o_pairs = some uu) : va_P (dC, dI) classes [(o, .inr (7, [.ref o_bytes, .int o_length, .ref o_starts, .ref o_sizes, .ref o_glyphStarts, .int o_units, .int o_glyphs, .int o_ascent, .int o_descent, .int o_gap, .int o_longLoca, .int o_metrics, .int o_codes, .int o_codesSize, .int o_segments, .int o_pairs])), (o_bytes, .inl (cy 1, 4096, .inl o_bytes_f)), (o_starts, .inl (cy 0, 8, .inl o_starts_f)), (o_sizes, .inl (cy 0, 8, .inl o_sizes_f)), (o_glyphStarts, .inl (cy 0, 65, .inl o_glyphStarts_f))] H → va_D A [(o, .inr (7, [.ref o_bytes, .int o_length, .ref o_starts, .ref o_sizes, .ref o_glyphStarts, .int o_units, .int o_glyphs, .int o_ascent, .int o_descent, .int o_gap, .int o_longLoca, .int o_metrics, .int o_codes, .int o_codesSize, .int o_segments, .int o_pairs])), (o_bytes, .inl (cy 1, 4096, .inl o_bytes_f)), (o_starts, .inl (cy 0, 8, .inl o_starts_f)), (o_sizes, .inl (cy 0, 8, .inl o_sizes_f)), (o_glyphStarts, .inl (cy 0, 65, .inl o_glyphStarts_f))] → va_S A s.heap H locs → lv_has ls 7 [(0, .ref o), (1, .int x1), (3, .int x3), (4, .long x4), (6, .int x6)] → W p l e ({ frames := 3, cells := 0, slots := 0, locals := 63 } : Room) s m args below meth c H locs 0 0 (MQ below (va_Qi (fun r (_ : Unit) => r = uu.1) (fun _ t => va_P (dC, dI) classes [(o, .inr (7, [.ref o_bytes, .int o_length, .ref o_starts, .ref o_sizes, .ref o_glyphStarts, .int o_units, .int o_glyphs, .int o_ascent, .int o_descent, .int o_gap, .int o_longLoca, .int o_metrics, .int o_codes, .int o_codesSize, .int o_segments, .int uu.2])), (o_bytes, .inl (cy 1, 4096, .inl o_bytes_f)), (o_starts, .inl (cy 0, 8, .inl o_starts_f)), (o_sizes, .inl (cy 0, 8, .inl o_sizes_f)), (o_glyphStarts, .inl (cy 0, 65, .inl o_glyphStarts_f))] t.heap ∧ va_K (dC, dI) classes (TY cy) t ∧ va_D A [(o, .inr (7, [.ref o_bytes, .int o_length, .ref o_starts, .ref o_sizes, .ref o_glyphStarts, .int o_units, .int o_glyphs, .int o_ascent, .int o_descent, .int o_gap, .int o_longLoca, .int o_metrics, .int o_codes, .int o_codesSize, .int o_segments, .int uu.2])), (o_bytes, .inl (cy 1, 4096, .inl o_bytes_f)), (o_starts, .inl (cy 0, 8, .inl o_starts_f)), (o_sizes, .inl (cy 0, 8, .inl o_sizes_f)), (o_glyphStarts, .inl (cy 0, 65, .inl o_glyphStarts_f))]) A) args s 0 0 A) (F0 m 115 ls []) := by
  have key : ∀ (n : Nat) (x1 : Int32) (x3 : Int32) (x4 : Int64) (x6 : Int32) (o_pairs : Int32) (H : Heap) (locs : List Loc) (ls : Array Slot), lp (L_Ff_readKern_115 o_length o_units o_bytes_f o_starts_f o_sizes_f) n (x1, x3, x4, x6, o_pairs) = some uu → va_P (dC, dI) classes [(o, .inr (7, [.ref o_bytes, .int o_length, .ref o_starts, .ref o_sizes, .ref o_glyphStarts, .int o_units, .int o_glyphs, .int o_ascent, .int o_descent, .int o_gap, .int o_longLoca, .int o_metrics, .int o_codes, .int o_codesSize, .int o_segments, .int o_pairs])), (o_bytes, .inl (cy 1, 4096, .inl o_bytes_f)), (o_starts, .inl (cy 0, 8, .inl o_starts_f)), (o_sizes, .inl (cy 0, 8, .inl o_sizes_f)), (o_glyphStarts, .inl (cy 0, 65, .inl o_glyphStarts_f))] H → va_D A [(o, .inr (7, [.ref o_bytes, .int o_length, .ref o_starts, .ref o_sizes, .ref o_glyphStarts, .int o_units, .int o_glyphs, .int o_ascent, .int o_descent, .int o_gap, .int o_longLoca, .int o_metrics, .int o_codes, .int o_codesSize, .int o_segments, .int o_pairs])), (o_bytes, .inl (cy 1, 4096, .inl o_bytes_f)), (o_starts, .inl (cy 0, 8, .inl o_starts_f)), (o_sizes, .inl (cy 0, 8, .inl o_sizes_f)), (o_glyphStarts, .inl (cy 0, 65, .inl o_glyphStarts_f))] → va_S A s.heap H locs → lv_has ls 7 [(0, .ref o), (1, .int x1), (3, .int x3), (4, .long x4), (6, .int x6)] → W p l e ({ frames := 3, cells := 0, slots := 0, locals := 63 } : Room) s m args below meth c H locs 0 0 (MQ below (va_Qi (fun r (_ : Unit) => r = uu.1) (fun _ t => va_P (dC, dI) classes [(o, .inr (7, [.ref o_bytes, .int o_length, .ref o_starts, .ref o_sizes, .ref o_glyphStarts, .int o_units, .int o_glyphs, .int o_ascent, .int o_descent, .int o_gap, .int o_longLoca, .int o_metrics, .int o_codes, .int o_codesSize, .int o_segments, .int uu.2])), (o_bytes, .inl (cy 1, 4096, .inl o_bytes_f)), (o_starts, .inl (cy 0, 8, .inl o_starts_f)), (o_sizes, .inl (cy 0, 8, .inl o_sizes_f)), (o_glyphStarts, .inl (cy 0, 65, .inl o_glyphStarts_f))] t.heap ∧ va_K (dC, dI) classes (TY cy) t ∧ va_D A [(o, .inr (7, [.ref o_bytes, .int o_length, .ref o_starts, .ref o_sizes, .ref o_glyphStarts, .int o_units, .int o_glyphs, .int o_ascent, .int o_descent, .int o_gap, .int o_longLoca, .int o_metrics, .int o_codes, .int o_codesSize, .int o_segments, .int uu.2])), (o_bytes, .inl (cy 1, 4096, .inl o_bytes_f)), (o_starts, .inl (cy 0, 8, .inl o_starts_f)), (o_sizes, .inl (cy 0, 8, .inl o_sizes_f)), (o_glyphStarts, .inl (cy 0, 65, .inl o_glyphStarts_f))]) A) args s 0 0 A) (F0 m 115 ls []) := by
    intro n
    induction n with
    | zero => intro x1 x3 x4 x6 o_pairs H locs ls h; cases h
    | succ n ih => intro x1 x3 x4 x6 o_pairs H locs ls h; exact w_Ff_readKern_115b C0 o o_bytes o_starts o_sizes o_glyphStarts o_length o_units o_glyphs o_ascent o_descent o_gap o_longLoca o_metrics o_codes o_codesSize o_segments o_bytes_f o_starts_f o_sizes_f o_glyphStarts_f uu  (lp (L_Ff_readKern_115 o_length o_units o_bytes_f o_starts_f o_sizes_f) n) ih x1 x3 x4 x6 o_pairs ((e_Ff_readKern_115 o_length o_units o_bytes_f o_starts_f o_sizes_f n x1 x3 x4 x6 o_pairs).symm.trans h)
  exact key fuel x1 x3 x4 x6 o_pairs H locs ls h
def P_Ff_readKern (o_length : Int32) (o_units : Int32) (o_pairs : Int32) (o_bytes_f : Nat → Int32) (o_starts_f : Nat → Int32) (o_sizes_f : Nat → Int32)  : Option (Int32 × Int32) :=
  bd (7 : Int32) 8 <| if 0 ≤ (o_sizes_f (7 : Int32).toNatClampNeg) then (bd (7 : Int32) 8 <| (P_Ff_twoAt o_length o_bytes_f ((o_starts_f (7 : Int32).toNatClampNeg) + (6 : Int32))).bind fun r_4 => (P_Ff_twoAt o_length o_bytes_f ((o_starts_f (7 : Int32).toNatClampNeg) + (10 : Int32))).bind fun r_5 => bd (7 : Int32) 8 <| if (o_sizes_f (7 : Int32).toNatClampNeg) < (18 : Int32) then (some ((0 : Int32), o_pairs)) else ((P_Ff_twoAt o_length o_bytes_f (o_starts_f (7 : Int32).toNatClampNeg)).bind fun r_8 => if r_8 = 0 then ((P_Ff_twoAt o_length o_bytes_f ((o_starts_f (7 : Int32).toNatClampNeg) + (2 : Int32))).bind fun r_10 => if r_10 < (1 : Int32) then (some ((0 : Int32), o_pairs)) else ((P_Ff_twoAt o_length o_bytes_f ((o_starts_f (7 : Int32).toNatClampNeg) + (8 : Int32))).bind fun r_12 => if r_12 = (1 : Int32) then (if r_4 < ((14 : Int32) + ((6 : Int32) * r_5)) then (some ((0 : Int32), o_pairs)) else (bd (7 : Int32) 8 <| if ((4 : Int32) + r_4) ≤ (o_sizes_f (7 : Int32).toNatClampNeg) then (P_Ff_readKern_115 o_length o_units o_bytes_f o_starts_f o_sizes_f (o_starts_f (7 : Int32).toNatClampNeg) r_5 (-1 : Int64) (0 : Int32) o_pairs) else (some ((0 : Int32), o_pairs)))) else (some ((0 : Int32), o_pairs)))) else (some ((0 : Int32), o_pairs)))) else (some ((1 : Int32), o_pairs))
set_option maxHeartbeats 4000000 in
set_option maxRecDepth 100000 in
theorem c_Ff_readKern (l : Launch) (dC : Nat → ClassId) (dI : Nat → Nat → Nat) (cy : Nat → ClassId) (sz : Nat) (o : Nat) (o_bytes : Nat) (o_starts : Nat) (o_sizes : Nat) (o_glyphStarts : Nat) (o_length : Int32) (o_units : Int32) (o_glyphs : Int32) (o_ascent : Int32) (o_descent : Int32) (o_gap : Int32) (o_longLoca : Int32) (o_metrics : Int32) (o_codes : Int32) (o_codesSize : Int32) (o_segments : Int32) (o_pairs : Int32) (o_bytes_f : Nat → Int32) (o_starts_f : Nat → Int32) (o_sizes_f : Nat → Int32) (o_glyphStarts_f : Nat → Int32)  (uu : Int32 × Int32) (h : P_Ff_readKern o_length o_units o_pairs o_bytes_f o_starts_f o_sizes_f = some uu) : Met l y_Ff_readKern (Cond.code y_Ff_readKern b_Ff_readKern 7 (some .boolean) :: G) ({ frames := 3, cells := 0, slots := 0, locals := 63 } : Room) (va_Pc [.ref o] (fun U => U.heap.size = sz ∧ va_P (dC, dI) classes [(o, .inr (7, [.ref o_bytes, .int o_length, .ref o_starts, .ref o_sizes, .ref o_glyphStarts, .int o_units, .int o_glyphs, .int o_ascent, .int o_descent, .int o_gap, .int o_longLoca, .int o_metrics, .int o_codes, .int o_codesSize, .int o_segments, .int o_pairs])), (o_bytes, .inl (cy 1, 4096, .inl o_bytes_f)), (o_starts, .inl (cy 0, 8, .inl o_starts_f)), (o_sizes, .inl (cy 0, 8, .inl o_sizes_f)), (o_glyphStarts, .inl (cy 0, 65, .inl o_glyphStarts_f))] U.heap ∧ va_K (dC, dI) classes (TY cy) U ∧ va_D (fun _ => True) [(o, .inr (7, [.ref o_bytes, .int o_length, .ref o_starts, .ref o_sizes, .ref o_glyphStarts, .int o_units, .int o_glyphs, .int o_ascent, .int o_descent, .int o_gap, .int o_longLoca, .int o_metrics, .int o_codes, .int o_codesSize, .int o_segments, .int o_pairs])), (o_bytes, .inl (cy 1, 4096, .inl o_bytes_f)), (o_starts, .inl (cy 0, 8, .inl o_starts_f)), (o_sizes, .inl (cy 0, 8, .inl o_sizes_f)), (o_glyphStarts, .inl (cy 0, 65, .inl o_glyphStarts_f))])) (va_Qi (fun r (_ : Unit) => r = uu.1) (fun _ t => va_P (dC, dI) classes [(o, .inr (7, [.ref o_bytes, .int o_length, .ref o_starts, .ref o_sizes, .ref o_glyphStarts, .int o_units, .int o_glyphs, .int o_ascent, .int o_descent, .int o_gap, .int o_longLoca, .int o_metrics, .int o_codes, .int o_codesSize, .int o_segments, .int uu.2])), (o_bytes, .inl (cy 1, 4096, .inl o_bytes_f)), (o_starts, .inl (cy 0, 8, .inl o_starts_f)), (o_sizes, .inl (cy 0, 8, .inl o_sizes_f)), (o_glyphStarts, .inl (cy 0, 65, .inl o_glyphStarts_f))] t.heap ∧ va_K (dC, dI) classes (TY cy) t ∧ va_D (va_A [(o, .inr (7, [.ref o_bytes, .int o_length, .ref o_starts, .ref o_sizes, .ref o_glyphStarts, .int o_units, .int o_glyphs, .int o_ascent, .int o_descent, .int o_gap, .int o_longLoca, .int o_metrics, .int o_codes, .int o_codesSize, .int o_segments, .int o_pairs])), (o_bytes, .inl (cy 1, 4096, .inl o_bytes_f)), (o_starts, .inl (cy 0, 8, .inl o_starts_f)), (o_sizes, .inl (cy 0, 8, .inl o_sizes_f)), (o_glyphStarts, .inl (cy 0, 65, .inl o_glyphStarts_f))] sz) [(o, .inr (7, [.ref o_bytes, .int o_length, .ref o_starts, .ref o_sizes, .ref o_glyphStarts, .int o_units, .int o_glyphs, .int o_ascent, .int o_descent, .int o_gap, .int o_longLoca, .int o_metrics, .int o_codes, .int o_codesSize, .int o_segments, .int uu.2])), (o_bytes, .inl (cy 1, 4096, .inl o_bytes_f)), (o_starts, .inl (cy 0, 8, .inl o_starts_f)), (o_sizes, .inl (cy 0, 8, .inl o_sizes_f)), (o_glyphStarts, .inl (cy 0, 65, .inl o_glyphStarts_f))]) (va_A [(o, .inr (7, [.ref o_bytes, .int o_length, .ref o_starts, .ref o_sizes, .ref o_glyphStarts, .int o_units, .int o_glyphs, .int o_ascent, .int o_descent, .int o_gap, .int o_longLoca, .int o_metrics, .int o_codes, .int o_codesSize, .int o_segments, .int o_pairs])), (o_bytes, .inl (cy 1, 4096, .inl o_bytes_f)), (o_starts, .inl (cy 0, 8, .inl o_starts_f)), (o_sizes, .inl (cy 0, 8, .inl o_sizes_f)), (o_glyphStarts, .inl (cy 0, 65, .inl o_glyphStarts_f))] sz)) 0 0 (va_A [(o, .inr (7, [.ref o_bytes, .int o_length, .ref o_starts, .ref o_sizes, .ref o_glyphStarts, .int o_units, .int o_glyphs, .int o_ascent, .int o_descent, .int o_gap, .int o_longLoca, .int o_metrics, .int o_codes, .int o_codesSize, .int o_segments, .int o_pairs])), (o_bytes, .inl (cy 1, 4096, .inl o_bytes_f)), (o_starts, .inl (cy 0, 8, .inl o_starts_f)), (o_sizes, .inl (cy 0, 8, .inl o_sizes_f)), (o_glyphStarts, .inl (cy 0, 65, .inl o_glyphStarts_f))] sz) := by
  refine Met.ofW (cc := b_Ff_readKern) (maxL := 7) (ret := (some .boolean)) (by decide) rfl ?_
  intro p e s m args below meth c s₁ B hml hv
  obtain ⟨rfl, hsz, hP, hK, hD0⟩ := hv
  have hx := B.exec
  have hb := B.bytes
  have hr := B.returns
  have hts := atoms_spec (ws := Cond.code y_Ff_readKern b_Ff_readKern 7 (some .boolean) :: G) B.pre
  have htsG : ∀ w ∈ G, w.before _ s = true := fun w hw => hts w (List.mem_cons_of_mem _ hw)
  have hown : s.vm.findClass "GlyphPage$FontFile" = some m.cls := findClass_of_methodNamed B.named
  have hlocks := B.notSynchronized
  subst hsz
  have hD := hD0.self (sz := s.heap.size)
  generalize hAe : va_A [(o, .inr (7, [.ref o_bytes, .int o_length, .ref o_starts, .ref o_sizes, .ref o_glyphStarts, .int o_units, .int o_glyphs, .int o_ascent, .int o_descent, .int o_gap, .int o_longLoca, .int o_metrics, .int o_codes, .int o_codesSize, .int o_segments, .int o_pairs])), (o_bytes, .inl (cy 1, 4096, .inl o_bytes_f)), (o_starts, .inl (cy 0, 8, .inl o_starts_f)), (o_sizes, .inl (cy 0, 8, .inl o_sizes_f)), (o_glyphStarts, .inl (cy 0, 65, .inl o_glyphStarts_f))] s.heap.size = A at hD ⊢
  have hA : ∀ q : Nat, s.heap.size ≤ q → A q := fun q h => by rw [← hAe]; exact Or.inr h
  have hS : va_S A s.heap s.heap [] := va_S.rf
  have hl := lv_entry ([.ref o]) (n := 7) (Nat.le_of_ble_eq_true rfl)
  rw [lg_entry_eq]
  generalize (lg_sl ([.ref o]) ++ List.replicate (7 - (lg_sl ([.ref o])).length) Slot.unset).toArray = ls at hl ⊢
  have hl : lv_has ls 7 [(0, .ref o)] := hl
  have C0 : Cx p s m _ meth c A dC dI cy b_Ff_readKern 7 (some .boolean) "GlyphPage$FontFile" := ⟨hx, hb, hr, hlocks, hml, hown, htsG, hA, hK⟩
  unfold P_Ff_readKern at h
  refine lv_aload_n hx hb d_Ff_readKern_0 rfl (lv_at hl 0 rfl) ?_
  refine va_get (D := (dC, dI)) (ci := 7) (v := .ref o_sizes) (C := "GlyphPage$FontFile") (T := F_Ff) (N := 16) hx hb htsG iG_Ff hown hK hP 0 rfl rfl 3 (by decide) (htsG _ mW304) (fun _ h9 => h9) rfl d_Ff_readKern_1 ?_
  refine lv_bipush (v := (7 : Int32)) hx hb d_Ff_readKern_4 (by decide) ?_
  obtain ⟨hin_1, h⟩ := bd_some h
  refine va_iald hx hb hK hP 3 0 rfl rfl hin_1 d_Ff_readKern_6 ?_
  refine lv_if_ge (tgt := 12) hx hb d_Ff_readKern_7 (by decide) (fun c_2 => ?_) (fun c_2 => ?_)
  · replace h := (if_pos c_2).symm.trans h
    refine lv_aload_n hx hb d_Ff_readKern_12 rfl (lv_at hl 0 rfl) ?_
    refine va_get (D := (dC, dI)) (ci := 7) (v := .ref o_starts) (C := "GlyphPage$FontFile") (T := F_Ff) (N := 16) hx hb htsG iG_Ff hown hK hP 0 rfl rfl 2 (by decide) (htsG _ mW303) (fun _ h9 => h9) rfl d_Ff_readKern_13 ?_
    refine lv_bipush (v := (7 : Int32)) hx hb d_Ff_readKern_16 (by decide) ?_
    obtain ⟨hin_3, h⟩ := bd_some h
    refine va_iald hx hb hK hP 2 0 rfl rfl hin_3 d_Ff_readKern_18 ?_
    refine lv_istore_n (lv' := [(1, .int (o_starts_f (7 : Int32).toNatClampNeg)), (0, .ref o)]) hx hb d_Ff_readKern_19 rfl hl (by decide) rfl (fun ls hl => ?_)
    refine lv_aload_n hx hb d_Ff_readKern_20 rfl (lv_at hl 1 rfl) ?_
    refine lv_iload_n hx hb d_Ff_readKern_21 rfl (lv_at hl 0 rfl) ?_
    refine lv_bipush (v := (6 : Int32)) hx hb d_Ff_readKern_22 (by decide) ?_
    refine lv_iadd hx hb d_Ff_readKern_24 ?_
    obtain ⟨r_4, hq, h⟩ := Option.bind_eq_some_iff.mp h
    try dsimp only at h
    have hPc := hP.sub (ws' := [(o, .inr (7, [.ref o_bytes, .int o_length, .ref o_starts, .ref o_sizes, .ref o_glyphStarts, .int o_units, .int o_glyphs, .int o_ascent, .int o_descent, .int o_gap, .int o_longLoca, .int o_metrics, .int o_codes, .int o_codesSize, .int o_segments, .int o_pairs])), (o_bytes, .inl (cy 1, 4096, .inl o_bytes_f)), (o_starts, .inl (cy 0, 8, .inl o_starts_f)), (o_sizes, .inl (cy 0, 8, .inl o_sizes_f)), (o_glyphStarts, .inl (cy 0, 65, .inl o_glyphStarts_f))]) [0, 1, 2, 3, 4] rfl
    have hDc := hD.sub (ws' := [(o, .inr (7, [.ref o_bytes, .int o_length, .ref o_starts, .ref o_sizes, .ref o_glyphStarts, .int o_units, .int o_glyphs, .int o_ascent, .int o_descent, .int o_gap, .int o_longLoca, .int o_metrics, .int o_codes, .int o_codesSize, .int o_segments, .int o_pairs])), (o_bytes, .inl (cy 1, 4096, .inl o_bytes_f)), (o_starts, .inl (cy 0, 8, .inl o_starts_f)), (o_sizes, .inl (cy 0, 8, .inl o_sizes_f)), (o_glyphStarts, .inl (cy 0, 65, .inl o_glyphStarts_f))]) [0, 1, 2, 3, 4] (by decide) rfl
    have hFc := va_free (wc := [(o, .inr (7, [.ref o_bytes, .int o_length, .ref o_starts, .ref o_sizes, .ref o_glyphStarts, .int o_units, .int o_glyphs, .int o_ascent, .int o_descent, .int o_gap, .int o_longLoca, .int o_metrics, .int o_codes, .int o_codesSize, .int o_segments, .int o_pairs])), (o_bytes, .inl (cy 1, 4096, .inl o_bytes_f)), (o_starts, .inl (cy 0, 8, .inl o_starts_f)), (o_sizes, .inl (cy 0, 8, .inl o_sizes_f)), (o_glyphStarts, .inl (cy 0, 65, .inl o_glyphStarts_f))]) hD hS hA [0, 1, 2, 3, 4] rfl
    refine va_calli (va_runV (As := [.int ((o_starts_f (7 : Int32).toNatClampNeg) + (6 : Int32))]) (rest := []) ⟨hx, hb, hml, hown, htsG⟩ (c_Ff_twoAt l dC dI cy s.heap.size o o_bytes o_starts o_sizes o_glyphStarts o_length o_units o_glyphs o_ascent o_descent o_gap o_longLoca o_metrics o_codes o_codesSize o_segments o_pairs o_bytes_f o_starts_f o_sizes_f o_glyphStarts_f ((o_starts_f (7 : Int32).toNatClampNeg) + (6 : Int32)) r_4 hq) (cwV 1 htsG (gV mW365 mW367 mS_Ff_twoAt mW11 mW368) rfl rfl rfl (by decide +kernel) ⟨Nat.le_of_ble_eq_true rfl, Nat.le_of_ble_eq_true rfl⟩) ⟨fun a U g mk q => by obtain ⟨q0, q1, qP, qK, qD⟩ := q; exact ⟨q0, q1, qP, va_K.moved (u := U) (U := U.calling g mk a) (Vm.Alike.refl U.vm) qK, qD⟩, va_recv hK hPc (ci := 7) (q0 := 0) rfl rfl, fun U hU hW => ⟨rfl, by rw [hU], by rw [hU]; exact hPc, va_K.moved hW.alike hK, hDc.weaken (fun _ _ _ _ => trivial)⟩⟩ rfl rfl hl.1 rfl (lv_room (Nat.le_of_ble_eq_true rfl)) d_Ff_readKern_25 ⟨Nat.le_of_ble_eq_true rfl, Nat.le_of_ble_eq_true rfl⟩) hS (fun q _ h => hFc q h) hFc (fun rr u t H1 locs ht hvm hw hB hz1 hk1 hS => ?_)
    obtain ⟨hP1, hK1, hD1⟩ := hB
    rw [ht] at hP1
    replace hw : r_4 = rr := hw.symm
    subst hw
    obtain ⟨hP, hD⟩ := va_join (wr := []) (w1 := [(o, .inr (7, [.ref o_bytes, .int o_length, .ref o_starts, .ref o_sizes, .ref o_glyphStarts, .int o_units, .int o_glyphs, .int o_ascent, .int o_descent, .int o_gap, .int o_longLoca, .int o_metrics, .int o_codes, .int o_codesSize, .int o_segments, .int o_pairs])), (o_bytes, .inl (cy 1, 4096, .inl o_bytes_f)), (o_starts, .inl (cy 0, 8, .inl o_starts_f)), (o_sizes, .inl (cy 0, 8, .inl o_sizes_f)), (o_glyphStarts, .inl (cy 0, 65, .inl o_glyphStarts_f))]) hP hD [0, 1, 2, 3, 4] [] rfl rfl (by decide) (by decide) hk1 hFc hP1 hD1
    generalize H1 = H at hP hS ⊢
    have hP := hP.sub (ws' := [(o, .inr (7, [.ref o_bytes, .int o_length, .ref o_starts, .ref o_sizes, .ref o_glyphStarts, .int o_units, .int o_glyphs, .int o_ascent, .int o_descent, .int o_gap, .int o_longLoca, .int o_metrics, .int o_codes, .int o_codesSize, .int o_segments, .int o_pairs])), (o_bytes, .inl (cy 1, 4096, .inl o_bytes_f)), (o_starts, .inl (cy 0, 8, .inl o_starts_f)), (o_sizes, .inl (cy 0, 8, .inl o_sizes_f)), (o_glyphStarts, .inl (cy 0, 65, .inl o_glyphStarts_f))]) [0, 1, 2, 3, 4] rfl
    have hD := hD.sub (ws' := [(o, .inr (7, [.ref o_bytes, .int o_length, .ref o_starts, .ref o_sizes, .ref o_glyphStarts, .int o_units, .int o_glyphs, .int o_ascent, .int o_descent, .int o_gap, .int o_longLoca, .int o_metrics, .int o_codes, .int o_codesSize, .int o_segments, .int o_pairs])), (o_bytes, .inl (cy 1, 4096, .inl o_bytes_f)), (o_starts, .inl (cy 0, 8, .inl o_starts_f)), (o_sizes, .inl (cy 0, 8, .inl o_sizes_f)), (o_glyphStarts, .inl (cy 0, 65, .inl o_glyphStarts_f))]) [0, 1, 2, 3, 4] (by decide) rfl
    refine W.widen (k := 0) (n := 0) (by decide) (by decide) ?_
    refine lv_istore_n (lv' := [(2, .int r_4), (1, .int (o_starts_f (7 : Int32).toNatClampNeg)), (0, .ref o)]) hx hb d_Ff_readKern_28 rfl hl (by decide) rfl (fun ls hl => ?_)
    refine lv_aload_n hx hb d_Ff_readKern_29 rfl (lv_at hl 2 rfl) ?_
    refine lv_iload_n hx hb d_Ff_readKern_30 rfl (lv_at hl 1 rfl) ?_
    refine lv_bipush (v := (10 : Int32)) hx hb d_Ff_readKern_31 (by decide) ?_
    refine lv_iadd hx hb d_Ff_readKern_33 ?_
    obtain ⟨r_5, hq, h⟩ := Option.bind_eq_some_iff.mp h
    try dsimp only at h
    have hPc := hP.sub (ws' := [(o, .inr (7, [.ref o_bytes, .int o_length, .ref o_starts, .ref o_sizes, .ref o_glyphStarts, .int o_units, .int o_glyphs, .int o_ascent, .int o_descent, .int o_gap, .int o_longLoca, .int o_metrics, .int o_codes, .int o_codesSize, .int o_segments, .int o_pairs])), (o_bytes, .inl (cy 1, 4096, .inl o_bytes_f)), (o_starts, .inl (cy 0, 8, .inl o_starts_f)), (o_sizes, .inl (cy 0, 8, .inl o_sizes_f)), (o_glyphStarts, .inl (cy 0, 65, .inl o_glyphStarts_f))]) [0, 1, 2, 3, 4] rfl
    have hDc := hD.sub (ws' := [(o, .inr (7, [.ref o_bytes, .int o_length, .ref o_starts, .ref o_sizes, .ref o_glyphStarts, .int o_units, .int o_glyphs, .int o_ascent, .int o_descent, .int o_gap, .int o_longLoca, .int o_metrics, .int o_codes, .int o_codesSize, .int o_segments, .int o_pairs])), (o_bytes, .inl (cy 1, 4096, .inl o_bytes_f)), (o_starts, .inl (cy 0, 8, .inl o_starts_f)), (o_sizes, .inl (cy 0, 8, .inl o_sizes_f)), (o_glyphStarts, .inl (cy 0, 65, .inl o_glyphStarts_f))]) [0, 1, 2, 3, 4] (by decide) rfl
    have hFc := va_free (wc := [(o, .inr (7, [.ref o_bytes, .int o_length, .ref o_starts, .ref o_sizes, .ref o_glyphStarts, .int o_units, .int o_glyphs, .int o_ascent, .int o_descent, .int o_gap, .int o_longLoca, .int o_metrics, .int o_codes, .int o_codesSize, .int o_segments, .int o_pairs])), (o_bytes, .inl (cy 1, 4096, .inl o_bytes_f)), (o_starts, .inl (cy 0, 8, .inl o_starts_f)), (o_sizes, .inl (cy 0, 8, .inl o_sizes_f)), (o_glyphStarts, .inl (cy 0, 65, .inl o_glyphStarts_f))]) hD hS hA [0, 1, 2, 3, 4] rfl
    refine va_calli (va_runV (As := [.int ((o_starts_f (7 : Int32).toNatClampNeg) + (10 : Int32))]) (rest := []) ⟨hx, hb, hml, hown, htsG⟩ (c_Ff_twoAt l dC dI cy H.size o o_bytes o_starts o_sizes o_glyphStarts o_length o_units o_glyphs o_ascent o_descent o_gap o_longLoca o_metrics o_codes o_codesSize o_segments o_pairs o_bytes_f o_starts_f o_sizes_f o_glyphStarts_f ((o_starts_f (7 : Int32).toNatClampNeg) + (10 : Int32)) r_5 hq) (cwV 1 htsG (gV mW365 mW367 mS_Ff_twoAt mW11 mW368) rfl rfl rfl (by decide +kernel) ⟨Nat.le_of_ble_eq_true rfl, Nat.le_of_ble_eq_true rfl⟩) ⟨fun a U g mk q => by obtain ⟨q0, q1, qP, qK, qD⟩ := q; exact ⟨q0, q1, qP, va_K.moved (u := U) (U := U.calling g mk a) (Vm.Alike.refl U.vm) qK, qD⟩, va_recv hK hPc (ci := 7) (q0 := 0) rfl rfl, fun U hU hW => ⟨rfl, by rw [hU], by rw [hU]; exact hPc, va_K.moved hW.alike hK, hDc.weaken (fun _ _ _ _ => trivial)⟩⟩ rfl rfl hl.1 rfl (lv_room (Nat.le_of_ble_eq_true rfl)) d_Ff_readKern_34 ⟨Nat.le_of_ble_eq_true rfl, Nat.le_of_ble_eq_true rfl⟩) hS (fun q _ h => hFc q h) hFc (fun rr u t H1 locs ht hvm hw hB hz1 hk1 hS => ?_)
    obtain ⟨hP1, hK1, hD1⟩ := hB
    rw [ht] at hP1
    replace hw : r_5 = rr := hw.symm
    subst hw
    obtain ⟨hP, hD⟩ := va_join (wr := []) (w1 := [(o, .inr (7, [.ref o_bytes, .int o_length, .ref o_starts, .ref o_sizes, .ref o_glyphStarts, .int o_units, .int o_glyphs, .int o_ascent, .int o_descent, .int o_gap, .int o_longLoca, .int o_metrics, .int o_codes, .int o_codesSize, .int o_segments, .int o_pairs])), (o_bytes, .inl (cy 1, 4096, .inl o_bytes_f)), (o_starts, .inl (cy 0, 8, .inl o_starts_f)), (o_sizes, .inl (cy 0, 8, .inl o_sizes_f)), (o_glyphStarts, .inl (cy 0, 65, .inl o_glyphStarts_f))]) hP hD [0, 1, 2, 3, 4] [] rfl rfl (by decide) (by decide) hk1 hFc hP1 hD1
    generalize H1 = H at hP hS ⊢
    have hP := hP.sub (ws' := [(o, .inr (7, [.ref o_bytes, .int o_length, .ref o_starts, .ref o_sizes, .ref o_glyphStarts, .int o_units, .int o_glyphs, .int o_ascent, .int o_descent, .int o_gap, .int o_longLoca, .int o_metrics, .int o_codes, .int o_codesSize, .int o_segments, .int o_pairs])), (o_bytes, .inl (cy 1, 4096, .inl o_bytes_f)), (o_starts, .inl (cy 0, 8, .inl o_starts_f)), (o_sizes, .inl (cy 0, 8, .inl o_sizes_f)), (o_glyphStarts, .inl (cy 0, 65, .inl o_glyphStarts_f))]) [0, 1, 2, 3, 4] rfl
    have hD := hD.sub (ws' := [(o, .inr (7, [.ref o_bytes, .int o_length, .ref o_starts, .ref o_sizes, .ref o_glyphStarts, .int o_units, .int o_glyphs, .int o_ascent, .int o_descent, .int o_gap, .int o_longLoca, .int o_metrics, .int o_codes, .int o_codesSize, .int o_segments, .int o_pairs])), (o_bytes, .inl (cy 1, 4096, .inl o_bytes_f)), (o_starts, .inl (cy 0, 8, .inl o_starts_f)), (o_sizes, .inl (cy 0, 8, .inl o_sizes_f)), (o_glyphStarts, .inl (cy 0, 65, .inl o_glyphStarts_f))]) [0, 1, 2, 3, 4] (by decide) rfl
    refine W.widen (k := 0) (n := 0) (by decide) (by decide) ?_
    refine lv_istore_n (lv' := [(3, .int r_5), (2, .int r_4), (1, .int (o_starts_f (7 : Int32).toNatClampNeg)), (0, .ref o)]) hx hb d_Ff_readKern_37 rfl hl (by decide) rfl (fun ls hl => ?_)
    refine lv_aload_n hx hb d_Ff_readKern_38 rfl (lv_at hl 3 rfl) ?_
    refine va_get (D := (dC, dI)) (ci := 7) (v := .ref o_sizes) (C := "GlyphPage$FontFile") (T := F_Ff) (N := 16) hx hb htsG iG_Ff hown hK hP 0 rfl rfl 3 (by decide) (htsG _ mW304) (fun _ h9 => h9) rfl d_Ff_readKern_39 ?_
    refine lv_bipush (v := (7 : Int32)) hx hb d_Ff_readKern_42 (by decide) ?_
    obtain ⟨hin_6, h⟩ := bd_some h
    refine va_iald hx hb hK hP 3 0 rfl rfl hin_6 d_Ff_readKern_44 ?_
    refine lv_bipush (v := (18 : Int32)) hx hb d_Ff_readKern_45 (by decide) ?_
    refine lv_icmp_lt (tgt := 105) hx hb d_Ff_readKern_47 (by decide) (fun c_7 => ?_) (fun c_7 => ?_)
    · replace h := (if_pos c_7).symm.trans h
      refine lv_iconst (v := (0 : Int32)) hx hb d_Ff_readKern_105 (by decide) ?_
      cases h
      exact W.zret (ty := .boolean) hx hb hr rfl (fun t ht hW => ⟨⟨_, (), rfl, rfl, by rw [ht]; exact hP, va_K.moved hW.alike hK, hD⟩, hS.F ht⟩) hS.2.2 d_Ff_readKern_106 hlocks
    · replace h := (if_neg c_7).symm.trans h
      refine lv_aload_n hx hb d_Ff_readKern_50 rfl (lv_at hl 3 rfl) ?_
      refine lv_iload_n hx hb d_Ff_readKern_51 rfl (lv_at hl 2 rfl) ?_
      obtain ⟨r_8, hq, h⟩ := Option.bind_eq_some_iff.mp h
      try dsimp only at h
      have hPc := hP.sub (ws' := [(o, .inr (7, [.ref o_bytes, .int o_length, .ref o_starts, .ref o_sizes, .ref o_glyphStarts, .int o_units, .int o_glyphs, .int o_ascent, .int o_descent, .int o_gap, .int o_longLoca, .int o_metrics, .int o_codes, .int o_codesSize, .int o_segments, .int o_pairs])), (o_bytes, .inl (cy 1, 4096, .inl o_bytes_f)), (o_starts, .inl (cy 0, 8, .inl o_starts_f)), (o_sizes, .inl (cy 0, 8, .inl o_sizes_f)), (o_glyphStarts, .inl (cy 0, 65, .inl o_glyphStarts_f))]) [0, 1, 2, 3, 4] rfl
      have hDc := hD.sub (ws' := [(o, .inr (7, [.ref o_bytes, .int o_length, .ref o_starts, .ref o_sizes, .ref o_glyphStarts, .int o_units, .int o_glyphs, .int o_ascent, .int o_descent, .int o_gap, .int o_longLoca, .int o_metrics, .int o_codes, .int o_codesSize, .int o_segments, .int o_pairs])), (o_bytes, .inl (cy 1, 4096, .inl o_bytes_f)), (o_starts, .inl (cy 0, 8, .inl o_starts_f)), (o_sizes, .inl (cy 0, 8, .inl o_sizes_f)), (o_glyphStarts, .inl (cy 0, 65, .inl o_glyphStarts_f))]) [0, 1, 2, 3, 4] (by decide) rfl
      have hFc := va_free (wc := [(o, .inr (7, [.ref o_bytes, .int o_length, .ref o_starts, .ref o_sizes, .ref o_glyphStarts, .int o_units, .int o_glyphs, .int o_ascent, .int o_descent, .int o_gap, .int o_longLoca, .int o_metrics, .int o_codes, .int o_codesSize, .int o_segments, .int o_pairs])), (o_bytes, .inl (cy 1, 4096, .inl o_bytes_f)), (o_starts, .inl (cy 0, 8, .inl o_starts_f)), (o_sizes, .inl (cy 0, 8, .inl o_sizes_f)), (o_glyphStarts, .inl (cy 0, 65, .inl o_glyphStarts_f))]) hD hS hA [0, 1, 2, 3, 4] rfl
      refine va_calli (va_runV (As := [.int (o_starts_f (7 : Int32).toNatClampNeg)]) (rest := []) ⟨hx, hb, hml, hown, htsG⟩ (c_Ff_twoAt l dC dI cy H.size o o_bytes o_starts o_sizes o_glyphStarts o_length o_units o_glyphs o_ascent o_descent o_gap o_longLoca o_metrics o_codes o_codesSize o_segments o_pairs o_bytes_f o_starts_f o_sizes_f o_glyphStarts_f (o_starts_f (7 : Int32).toNatClampNeg) r_8 hq) (cwV 1 htsG (gV mW365 mW367 mS_Ff_twoAt mW11 mW368) rfl rfl rfl (by decide +kernel) ⟨Nat.le_of_ble_eq_true rfl, Nat.le_of_ble_eq_true rfl⟩) ⟨fun a U g mk q => by obtain ⟨q0, q1, qP, qK, qD⟩ := q; exact ⟨q0, q1, qP, va_K.moved (u := U) (U := U.calling g mk a) (Vm.Alike.refl U.vm) qK, qD⟩, va_recv hK hPc (ci := 7) (q0 := 0) rfl rfl, fun U hU hW => ⟨rfl, by rw [hU], by rw [hU]; exact hPc, va_K.moved hW.alike hK, hDc.weaken (fun _ _ _ _ => trivial)⟩⟩ rfl rfl hl.1 rfl (lv_room (Nat.le_of_ble_eq_true rfl)) d_Ff_readKern_52 ⟨Nat.le_of_ble_eq_true rfl, Nat.le_of_ble_eq_true rfl⟩) hS (fun q _ h => hFc q h) hFc (fun rr u t H1 locs ht hvm hw hB hz1 hk1 hS => ?_)
      obtain ⟨hP1, hK1, hD1⟩ := hB
      rw [ht] at hP1
      replace hw : r_8 = rr := hw.symm
      subst hw
      obtain ⟨hP, hD⟩ := va_join (wr := []) (w1 := [(o, .inr (7, [.ref o_bytes, .int o_length, .ref o_starts, .ref o_sizes, .ref o_glyphStarts, .int o_units, .int o_glyphs, .int o_ascent, .int o_descent, .int o_gap, .int o_longLoca, .int o_metrics, .int o_codes, .int o_codesSize, .int o_segments, .int o_pairs])), (o_bytes, .inl (cy 1, 4096, .inl o_bytes_f)), (o_starts, .inl (cy 0, 8, .inl o_starts_f)), (o_sizes, .inl (cy 0, 8, .inl o_sizes_f)), (o_glyphStarts, .inl (cy 0, 65, .inl o_glyphStarts_f))]) hP hD [0, 1, 2, 3, 4] [] rfl rfl (by decide) (by decide) hk1 hFc hP1 hD1
      generalize H1 = H at hP hS ⊢
      have hP := hP.sub (ws' := [(o, .inr (7, [.ref o_bytes, .int o_length, .ref o_starts, .ref o_sizes, .ref o_glyphStarts, .int o_units, .int o_glyphs, .int o_ascent, .int o_descent, .int o_gap, .int o_longLoca, .int o_metrics, .int o_codes, .int o_codesSize, .int o_segments, .int o_pairs])), (o_bytes, .inl (cy 1, 4096, .inl o_bytes_f)), (o_starts, .inl (cy 0, 8, .inl o_starts_f)), (o_sizes, .inl (cy 0, 8, .inl o_sizes_f)), (o_glyphStarts, .inl (cy 0, 65, .inl o_glyphStarts_f))]) [0, 1, 2, 3, 4] rfl
      have hD := hD.sub (ws' := [(o, .inr (7, [.ref o_bytes, .int o_length, .ref o_starts, .ref o_sizes, .ref o_glyphStarts, .int o_units, .int o_glyphs, .int o_ascent, .int o_descent, .int o_gap, .int o_longLoca, .int o_metrics, .int o_codes, .int o_codesSize, .int o_segments, .int o_pairs])), (o_bytes, .inl (cy 1, 4096, .inl o_bytes_f)), (o_starts, .inl (cy 0, 8, .inl o_starts_f)), (o_sizes, .inl (cy 0, 8, .inl o_sizes_f)), (o_glyphStarts, .inl (cy 0, 65, .inl o_glyphStarts_f))]) [0, 1, 2, 3, 4] (by decide) rfl
      refine W.widen (k := 0) (n := 0) (by decide) (by decide) ?_
      refine lv_if_ne (tgt := 105) hx hb d_Ff_readKern_55 (by decide) (fun c_9 => ?_) (fun c_9 => ?_)
      · replace h := (if_neg c_9).symm.trans h
        refine lv_iconst (v := (0 : Int32)) hx hb d_Ff_readKern_105 (by decide) ?_
        cases h
        exact W.zret (ty := .boolean) hx hb hr rfl (fun t ht hW => ⟨⟨_, (), rfl, rfl, by rw [ht]; exact hP, va_K.moved hW.alike hK, hD⟩, hS.F ht⟩) hS.2.2 d_Ff_readKern_106 hlocks
      · replace h := (if_pos c_9).symm.trans h
        refine lv_aload_n hx hb d_Ff_readKern_58 rfl (lv_at hl 3 rfl) ?_
        refine lv_iload_n hx hb d_Ff_readKern_59 rfl (lv_at hl 2 rfl) ?_
        refine lv_iconst (v := (2 : Int32)) hx hb d_Ff_readKern_60 (by decide) ?_
        refine lv_iadd hx hb d_Ff_readKern_61 ?_
        obtain ⟨r_10, hq, h⟩ := Option.bind_eq_some_iff.mp h
        try dsimp only at h
        have hPc := hP.sub (ws' := [(o, .inr (7, [.ref o_bytes, .int o_length, .ref o_starts, .ref o_sizes, .ref o_glyphStarts, .int o_units, .int o_glyphs, .int o_ascent, .int o_descent, .int o_gap, .int o_longLoca, .int o_metrics, .int o_codes, .int o_codesSize, .int o_segments, .int o_pairs])), (o_bytes, .inl (cy 1, 4096, .inl o_bytes_f)), (o_starts, .inl (cy 0, 8, .inl o_starts_f)), (o_sizes, .inl (cy 0, 8, .inl o_sizes_f)), (o_glyphStarts, .inl (cy 0, 65, .inl o_glyphStarts_f))]) [0, 1, 2, 3, 4] rfl
        have hDc := hD.sub (ws' := [(o, .inr (7, [.ref o_bytes, .int o_length, .ref o_starts, .ref o_sizes, .ref o_glyphStarts, .int o_units, .int o_glyphs, .int o_ascent, .int o_descent, .int o_gap, .int o_longLoca, .int o_metrics, .int o_codes, .int o_codesSize, .int o_segments, .int o_pairs])), (o_bytes, .inl (cy 1, 4096, .inl o_bytes_f)), (o_starts, .inl (cy 0, 8, .inl o_starts_f)), (o_sizes, .inl (cy 0, 8, .inl o_sizes_f)), (o_glyphStarts, .inl (cy 0, 65, .inl o_glyphStarts_f))]) [0, 1, 2, 3, 4] (by decide) rfl
        have hFc := va_free (wc := [(o, .inr (7, [.ref o_bytes, .int o_length, .ref o_starts, .ref o_sizes, .ref o_glyphStarts, .int o_units, .int o_glyphs, .int o_ascent, .int o_descent, .int o_gap, .int o_longLoca, .int o_metrics, .int o_codes, .int o_codesSize, .int o_segments, .int o_pairs])), (o_bytes, .inl (cy 1, 4096, .inl o_bytes_f)), (o_starts, .inl (cy 0, 8, .inl o_starts_f)), (o_sizes, .inl (cy 0, 8, .inl o_sizes_f)), (o_glyphStarts, .inl (cy 0, 65, .inl o_glyphStarts_f))]) hD hS hA [0, 1, 2, 3, 4] rfl
        refine va_calli (va_runV (As := [.int ((o_starts_f (7 : Int32).toNatClampNeg) + (2 : Int32))]) (rest := []) ⟨hx, hb, hml, hown, htsG⟩ (c_Ff_twoAt l dC dI cy H.size o o_bytes o_starts o_sizes o_glyphStarts o_length o_units o_glyphs o_ascent o_descent o_gap o_longLoca o_metrics o_codes o_codesSize o_segments o_pairs o_bytes_f o_starts_f o_sizes_f o_glyphStarts_f ((o_starts_f (7 : Int32).toNatClampNeg) + (2 : Int32)) r_10 hq) (cwV 1 htsG (gV mW365 mW367 mS_Ff_twoAt mW11 mW368) rfl rfl rfl (by decide +kernel) ⟨Nat.le_of_ble_eq_true rfl, Nat.le_of_ble_eq_true rfl⟩) ⟨fun a U g mk q => by obtain ⟨q0, q1, qP, qK, qD⟩ := q; exact ⟨q0, q1, qP, va_K.moved (u := U) (U := U.calling g mk a) (Vm.Alike.refl U.vm) qK, qD⟩, va_recv hK hPc (ci := 7) (q0 := 0) rfl rfl, fun U hU hW => ⟨rfl, by rw [hU], by rw [hU]; exact hPc, va_K.moved hW.alike hK, hDc.weaken (fun _ _ _ _ => trivial)⟩⟩ rfl rfl hl.1 rfl (lv_room (Nat.le_of_ble_eq_true rfl)) d_Ff_readKern_62 ⟨Nat.le_of_ble_eq_true rfl, Nat.le_of_ble_eq_true rfl⟩) hS (fun q _ h => hFc q h) hFc (fun rr u t H1 locs ht hvm hw hB hz1 hk1 hS => ?_)
        obtain ⟨hP1, hK1, hD1⟩ := hB
        rw [ht] at hP1
        replace hw : r_10 = rr := hw.symm
        subst hw
        obtain ⟨hP, hD⟩ := va_join (wr := []) (w1 := [(o, .inr (7, [.ref o_bytes, .int o_length, .ref o_starts, .ref o_sizes, .ref o_glyphStarts, .int o_units, .int o_glyphs, .int o_ascent, .int o_descent, .int o_gap, .int o_longLoca, .int o_metrics, .int o_codes, .int o_codesSize, .int o_segments, .int o_pairs])), (o_bytes, .inl (cy 1, 4096, .inl o_bytes_f)), (o_starts, .inl (cy 0, 8, .inl o_starts_f)), (o_sizes, .inl (cy 0, 8, .inl o_sizes_f)), (o_glyphStarts, .inl (cy 0, 65, .inl o_glyphStarts_f))]) hP hD [0, 1, 2, 3, 4] [] rfl rfl (by decide) (by decide) hk1 hFc hP1 hD1
        generalize H1 = H at hP hS ⊢
        have hP := hP.sub (ws' := [(o, .inr (7, [.ref o_bytes, .int o_length, .ref o_starts, .ref o_sizes, .ref o_glyphStarts, .int o_units, .int o_glyphs, .int o_ascent, .int o_descent, .int o_gap, .int o_longLoca, .int o_metrics, .int o_codes, .int o_codesSize, .int o_segments, .int o_pairs])), (o_bytes, .inl (cy 1, 4096, .inl o_bytes_f)), (o_starts, .inl (cy 0, 8, .inl o_starts_f)), (o_sizes, .inl (cy 0, 8, .inl o_sizes_f)), (o_glyphStarts, .inl (cy 0, 65, .inl o_glyphStarts_f))]) [0, 1, 2, 3, 4] rfl
        have hD := hD.sub (ws' := [(o, .inr (7, [.ref o_bytes, .int o_length, .ref o_starts, .ref o_sizes, .ref o_glyphStarts, .int o_units, .int o_glyphs, .int o_ascent, .int o_descent, .int o_gap, .int o_longLoca, .int o_metrics, .int o_codes, .int o_codesSize, .int o_segments, .int o_pairs])), (o_bytes, .inl (cy 1, 4096, .inl o_bytes_f)), (o_starts, .inl (cy 0, 8, .inl o_starts_f)), (o_sizes, .inl (cy 0, 8, .inl o_sizes_f)), (o_glyphStarts, .inl (cy 0, 65, .inl o_glyphStarts_f))]) [0, 1, 2, 3, 4] (by decide) rfl
        refine W.widen (k := 0) (n := 0) (by decide) (by decide) ?_
        refine lv_iconst (v := (1 : Int32)) hx hb d_Ff_readKern_65 (by decide) ?_
        refine lv_icmp_lt (tgt := 105) hx hb d_Ff_readKern_66 (by decide) (fun c_11 => ?_) (fun c_11 => ?_)
        · replace h := (if_pos c_11).symm.trans h
          refine lv_iconst (v := (0 : Int32)) hx hb d_Ff_readKern_105 (by decide) ?_
          cases h
          exact W.zret (ty := .boolean) hx hb hr rfl (fun t ht hW => ⟨⟨_, (), rfl, rfl, by rw [ht]; exact hP, va_K.moved hW.alike hK, hD⟩, hS.F ht⟩) hS.2.2 d_Ff_readKern_106 hlocks
        · replace h := (if_neg c_11).symm.trans h
          refine lv_aload_n hx hb d_Ff_readKern_69 rfl (lv_at hl 3 rfl) ?_
          refine lv_iload_n hx hb d_Ff_readKern_70 rfl (lv_at hl 2 rfl) ?_
          refine lv_bipush (v := (8 : Int32)) hx hb d_Ff_readKern_71 (by decide) ?_
          refine lv_iadd hx hb d_Ff_readKern_73 ?_
          obtain ⟨r_12, hq, h⟩ := Option.bind_eq_some_iff.mp h
          try dsimp only at h
          have hPc := hP.sub (ws' := [(o, .inr (7, [.ref o_bytes, .int o_length, .ref o_starts, .ref o_sizes, .ref o_glyphStarts, .int o_units, .int o_glyphs, .int o_ascent, .int o_descent, .int o_gap, .int o_longLoca, .int o_metrics, .int o_codes, .int o_codesSize, .int o_segments, .int o_pairs])), (o_bytes, .inl (cy 1, 4096, .inl o_bytes_f)), (o_starts, .inl (cy 0, 8, .inl o_starts_f)), (o_sizes, .inl (cy 0, 8, .inl o_sizes_f)), (o_glyphStarts, .inl (cy 0, 65, .inl o_glyphStarts_f))]) [0, 1, 2, 3, 4] rfl
          have hDc := hD.sub (ws' := [(o, .inr (7, [.ref o_bytes, .int o_length, .ref o_starts, .ref o_sizes, .ref o_glyphStarts, .int o_units, .int o_glyphs, .int o_ascent, .int o_descent, .int o_gap, .int o_longLoca, .int o_metrics, .int o_codes, .int o_codesSize, .int o_segments, .int o_pairs])), (o_bytes, .inl (cy 1, 4096, .inl o_bytes_f)), (o_starts, .inl (cy 0, 8, .inl o_starts_f)), (o_sizes, .inl (cy 0, 8, .inl o_sizes_f)), (o_glyphStarts, .inl (cy 0, 65, .inl o_glyphStarts_f))]) [0, 1, 2, 3, 4] (by decide) rfl
          have hFc := va_free (wc := [(o, .inr (7, [.ref o_bytes, .int o_length, .ref o_starts, .ref o_sizes, .ref o_glyphStarts, .int o_units, .int o_glyphs, .int o_ascent, .int o_descent, .int o_gap, .int o_longLoca, .int o_metrics, .int o_codes, .int o_codesSize, .int o_segments, .int o_pairs])), (o_bytes, .inl (cy 1, 4096, .inl o_bytes_f)), (o_starts, .inl (cy 0, 8, .inl o_starts_f)), (o_sizes, .inl (cy 0, 8, .inl o_sizes_f)), (o_glyphStarts, .inl (cy 0, 65, .inl o_glyphStarts_f))]) hD hS hA [0, 1, 2, 3, 4] rfl
          refine va_calli (va_runV (As := [.int ((o_starts_f (7 : Int32).toNatClampNeg) + (8 : Int32))]) (rest := []) ⟨hx, hb, hml, hown, htsG⟩ (c_Ff_twoAt l dC dI cy H.size o o_bytes o_starts o_sizes o_glyphStarts o_length o_units o_glyphs o_ascent o_descent o_gap o_longLoca o_metrics o_codes o_codesSize o_segments o_pairs o_bytes_f o_starts_f o_sizes_f o_glyphStarts_f ((o_starts_f (7 : Int32).toNatClampNeg) + (8 : Int32)) r_12 hq) (cwV 1 htsG (gV mW365 mW367 mS_Ff_twoAt mW11 mW368) rfl rfl rfl (by decide +kernel) ⟨Nat.le_of_ble_eq_true rfl, Nat.le_of_ble_eq_true rfl⟩) ⟨fun a U g mk q => by obtain ⟨q0, q1, qP, qK, qD⟩ := q; exact ⟨q0, q1, qP, va_K.moved (u := U) (U := U.calling g mk a) (Vm.Alike.refl U.vm) qK, qD⟩, va_recv hK hPc (ci := 7) (q0 := 0) rfl rfl, fun U hU hW => ⟨rfl, by rw [hU], by rw [hU]; exact hPc, va_K.moved hW.alike hK, hDc.weaken (fun _ _ _ _ => trivial)⟩⟩ rfl rfl hl.1 rfl (lv_room (Nat.le_of_ble_eq_true rfl)) d_Ff_readKern_74 ⟨Nat.le_of_ble_eq_true rfl, Nat.le_of_ble_eq_true rfl⟩) hS (fun q _ h => hFc q h) hFc (fun rr u t H1 locs ht hvm hw hB hz1 hk1 hS => ?_)
          obtain ⟨hP1, hK1, hD1⟩ := hB
          rw [ht] at hP1
          replace hw : r_12 = rr := hw.symm
          subst hw
          obtain ⟨hP, hD⟩ := va_join (wr := []) (w1 := [(o, .inr (7, [.ref o_bytes, .int o_length, .ref o_starts, .ref o_sizes, .ref o_glyphStarts, .int o_units, .int o_glyphs, .int o_ascent, .int o_descent, .int o_gap, .int o_longLoca, .int o_metrics, .int o_codes, .int o_codesSize, .int o_segments, .int o_pairs])), (o_bytes, .inl (cy 1, 4096, .inl o_bytes_f)), (o_starts, .inl (cy 0, 8, .inl o_starts_f)), (o_sizes, .inl (cy 0, 8, .inl o_sizes_f)), (o_glyphStarts, .inl (cy 0, 65, .inl o_glyphStarts_f))]) hP hD [0, 1, 2, 3, 4] [] rfl rfl (by decide) (by decide) hk1 hFc hP1 hD1
          generalize H1 = H at hP hS ⊢
          have hP := hP.sub (ws' := [(o, .inr (7, [.ref o_bytes, .int o_length, .ref o_starts, .ref o_sizes, .ref o_glyphStarts, .int o_units, .int o_glyphs, .int o_ascent, .int o_descent, .int o_gap, .int o_longLoca, .int o_metrics, .int o_codes, .int o_codesSize, .int o_segments, .int o_pairs])), (o_bytes, .inl (cy 1, 4096, .inl o_bytes_f)), (o_starts, .inl (cy 0, 8, .inl o_starts_f)), (o_sizes, .inl (cy 0, 8, .inl o_sizes_f)), (o_glyphStarts, .inl (cy 0, 65, .inl o_glyphStarts_f))]) [0, 1, 2, 3, 4] rfl
          have hD := hD.sub (ws' := [(o, .inr (7, [.ref o_bytes, .int o_length, .ref o_starts, .ref o_sizes, .ref o_glyphStarts, .int o_units, .int o_glyphs, .int o_ascent, .int o_descent, .int o_gap, .int o_longLoca, .int o_metrics, .int o_codes, .int o_codesSize, .int o_segments, .int o_pairs])), (o_bytes, .inl (cy 1, 4096, .inl o_bytes_f)), (o_starts, .inl (cy 0, 8, .inl o_starts_f)), (o_sizes, .inl (cy 0, 8, .inl o_sizes_f)), (o_glyphStarts, .inl (cy 0, 65, .inl o_glyphStarts_f))]) [0, 1, 2, 3, 4] (by decide) rfl
          refine W.widen (k := 0) (n := 0) (by decide) (by decide) ?_
          refine lv_iconst (v := (1 : Int32)) hx hb d_Ff_readKern_77 (by decide) ?_
          refine lv_icmp_ne (tgt := 105) hx hb d_Ff_readKern_78 (by decide) (fun c_13 => ?_) (fun c_13 => ?_)
          · replace h := (if_neg c_13).symm.trans h
            refine lv_iconst (v := (0 : Int32)) hx hb d_Ff_readKern_105 (by decide) ?_
            cases h
            exact W.zret (ty := .boolean) hx hb hr rfl (fun t ht hW => ⟨⟨_, (), rfl, rfl, by rw [ht]; exact hP, va_K.moved hW.alike hK, hD⟩, hS.F ht⟩) hS.2.2 d_Ff_readKern_106 hlocks
          · replace h := (if_pos c_13).symm.trans h
            refine lv_iload_n hx hb d_Ff_readKern_81 rfl (lv_at hl 1 rfl) ?_
            refine lv_bipush (v := (14 : Int32)) hx hb d_Ff_readKern_82 (by decide) ?_
            refine lv_bipush (v := (6 : Int32)) hx hb d_Ff_readKern_84 (by decide) ?_
            refine lv_iload_n hx hb d_Ff_readKern_86 rfl (lv_at hl 0 rfl) ?_
            refine lv_imul hx hb d_Ff_readKern_87 ?_
            refine lv_iadd hx hb d_Ff_readKern_88 ?_
            refine lv_icmp_lt (tgt := 105) hx hb d_Ff_readKern_89 (by decide) (fun c_14 => ?_) (fun c_14 => ?_)
            · replace h := (if_pos c_14).symm.trans h
              refine lv_iconst (v := (0 : Int32)) hx hb d_Ff_readKern_105 (by decide) ?_
              cases h
              exact W.zret (ty := .boolean) hx hb hr rfl (fun t ht hW => ⟨⟨_, (), rfl, rfl, by rw [ht]; exact hP, va_K.moved hW.alike hK, hD⟩, hS.F ht⟩) hS.2.2 d_Ff_readKern_106 hlocks
            · replace h := (if_neg c_14).symm.trans h
              refine lv_iconst (v := (4 : Int32)) hx hb d_Ff_readKern_92 (by decide) ?_
              refine lv_iload_n hx hb d_Ff_readKern_93 rfl (lv_at hl 1 rfl) ?_
              refine lv_iadd hx hb d_Ff_readKern_94 ?_
              refine lv_aload_n hx hb d_Ff_readKern_95 rfl (lv_at hl 3 rfl) ?_
              refine va_get (D := (dC, dI)) (ci := 7) (v := .ref o_sizes) (C := "GlyphPage$FontFile") (T := F_Ff) (N := 16) hx hb htsG iG_Ff hown hK hP 0 rfl rfl 3 (by decide) (htsG _ mW304) (fun _ h9 => h9) rfl d_Ff_readKern_96 ?_
              refine lv_bipush (v := (7 : Int32)) hx hb d_Ff_readKern_99 (by decide) ?_
              obtain ⟨hin_15, h⟩ := bd_some h
              refine va_iald hx hb hK hP 3 0 rfl rfl hin_15 d_Ff_readKern_101 ?_
              refine lv_icmp_le (tgt := 107) hx hb d_Ff_readKern_102 (by decide) (fun c_16 => ?_) (fun c_16 => ?_)
              · replace h := (if_pos c_16).symm.trans h
                refine lv_ldc2 hx hb hown (htsG _ mW374) d_Ff_readKern_107 ?_
                refine lv_lstore (lv' := [(4, .long (-1 : Int64)), (3, .int r_5), (2, .int r_4), (1, .int (o_starts_f (7 : Int32).toNatClampNeg)), (0, .ref o)]) hx hb d_Ff_readKern_110 hl (by decide) rfl (fun ls hl => ?_)
                refine lv_iconst (v := (0 : Int32)) hx hb d_Ff_readKern_112 (by decide) ?_
                refine lv_istore (lv' := [(6, .int (0 : Int32)), (4, .long (-1 : Int64)), (3, .int r_5), (2, .int r_4), (1, .int (o_starts_f (7 : Int32).toNatClampNeg)), (0, .ref o)]) hx hb d_Ff_readKern_113 hl (by decide) rfl (fun ls hl => ?_)
                exact w_Ff_readKern_115 C0 o o_bytes o_starts o_sizes o_glyphStarts o_length o_units o_glyphs o_ascent o_descent o_gap o_longLoca o_metrics o_codes o_codesSize o_segments o_bytes_f o_starts_f o_sizes_f o_glyphStarts_f uu  (o_starts_f (7 : Int32).toNatClampNeg) r_5 (-1 : Int64) (0 : Int32) o_pairs h hP hD hS (lv_sub hl [5, 4, 2, 1, 0] rfl)
              · replace h := (if_neg c_16).symm.trans h
                refine lv_iconst (v := (0 : Int32)) hx hb d_Ff_readKern_105 (by decide) ?_
                cases h
                exact W.zret (ty := .boolean) hx hb hr rfl (fun t ht hW => ⟨⟨_, (), rfl, rfl, by rw [ht]; exact hP, va_K.moved hW.alike hK, hD⟩, hS.F ht⟩) hS.2.2 d_Ff_readKern_106 hlocks
  · replace h := (if_neg c_2).symm.trans h
    refine lv_iconst (v := (1 : Int32)) hx hb d_Ff_readKern_10 (by decide) ?_
    cases h
    exact W.zret (ty := .boolean) hx hb hr rfl (fun t ht hW => ⟨⟨_, (), rfl, rfl, by rw [ht]; exact hP, va_K.moved hW.alike hK, hD⟩, hS.F ht⟩) hS.2.2 d_Ff_readKern_11 hlocks
def P_Ff_kernOf_113 (o_length : Int32) (o_pairs : Int32) (o_bytes_f : Nat → Int32) (o_starts_f : Nat → Int32)  (x5 : Int32) (k0 : Int32) : Option (Int32) :=
  if k0 = 0 then (some (0 : Int32)) else (bd (7 : Int32) 8 <| (P_Ff_signedAt o_length o_bytes_f (((o_starts_f (7 : Int32).toNatClampNeg) + (22 : Int32)) + ((6 : Int32) * x5))).bind fun r_3 => some r_3)
set_option maxHeartbeats 4000000 in
set_option maxRecDepth 100000 in
theorem w_Ff_kernOf_113 (C0 : Cx p s m args meth c A dC dI cy b_Ff_kernOf 7 (some .int) "GlyphPage$FontFile") (o : Nat) (o_bytes : Nat) (o_starts : Nat) (o_sizes : Nat) (o_glyphStarts : Nat) (o_length : Int32) (o_units : Int32) (o_glyphs : Int32) (o_ascent : Int32) (o_descent : Int32) (o_gap : Int32) (o_longLoca : Int32) (o_metrics : Int32) (o_codes : Int32) (o_codesSize : Int32) (o_segments : Int32) (o_pairs : Int32) (o_bytes_f : Nat → Int32) (o_starts_f : Nat → Int32) (o_sizes_f : Nat → Int32) (o_glyphStarts_f : Nat → Int32) (a1 : Int32) (a2 : Int32) (uu : Int32)  (x5 : Int32) (k0 : Int32) {H : Heap} {locs : List Loc} {ls : Array Slot} (h : P_Ff_kernOf_113 o_length o_pairs o_bytes_f o_starts_f x5 k0 = some uu) : va_P (dC, dI) classes [(o, .inr (7, [.ref o_bytes, .int o_length, .ref o_starts, .ref o_sizes, .ref o_glyphStarts, .int o_units, .int o_glyphs, .int o_ascent, .int o_descent, .int o_gap, .int o_longLoca, .int o_metrics, .int o_codes, .int o_codesSize, .int o_segments, .int o_pairs])), (o_bytes, .inl (cy 1, 4096, .inl o_bytes_f)), (o_starts, .inl (cy 0, 8, .inl o_starts_f)), (o_sizes, .inl (cy 0, 8, .inl o_sizes_f)), (o_glyphStarts, .inl (cy 0, 65, .inl o_glyphStarts_f))] H → va_D A [(o, .inr (7, [.ref o_bytes, .int o_length, .ref o_starts, .ref o_sizes, .ref o_glyphStarts, .int o_units, .int o_glyphs, .int o_ascent, .int o_descent, .int o_gap, .int o_longLoca, .int o_metrics, .int o_codes, .int o_codesSize, .int o_segments, .int o_pairs])), (o_bytes, .inl (cy 1, 4096, .inl o_bytes_f)), (o_starts, .inl (cy 0, 8, .inl o_starts_f)), (o_sizes, .inl (cy 0, 8, .inl o_sizes_f)), (o_glyphStarts, .inl (cy 0, 65, .inl o_glyphStarts_f))] → va_S A s.heap H locs → lv_has ls 7 [(0, .ref o), (5, .int x5)] → W p l e ({ frames := 3, cells := 0, slots := 0, locals := 63 } : Room) s m args below meth c H locs 0 0 (MQ below (va_Qi (fun r (_ : Unit) => r = uu) (fun _ t => va_P (dC, dI) classes [(o, .inr (7, [.ref o_bytes, .int o_length, .ref o_starts, .ref o_sizes, .ref o_glyphStarts, .int o_units, .int o_glyphs, .int o_ascent, .int o_descent, .int o_gap, .int o_longLoca, .int o_metrics, .int o_codes, .int o_codesSize, .int o_segments, .int o_pairs])), (o_bytes, .inl (cy 1, 4096, .inl o_bytes_f)), (o_starts, .inl (cy 0, 8, .inl o_starts_f)), (o_sizes, .inl (cy 0, 8, .inl o_sizes_f)), (o_glyphStarts, .inl (cy 0, 65, .inl o_glyphStarts_f))] t.heap ∧ va_K (dC, dI) classes (TY cy) t ∧ va_D A [(o, .inr (7, [.ref o_bytes, .int o_length, .ref o_starts, .ref o_sizes, .ref o_glyphStarts, .int o_units, .int o_glyphs, .int o_ascent, .int o_descent, .int o_gap, .int o_longLoca, .int o_metrics, .int o_codes, .int o_codesSize, .int o_segments, .int o_pairs])), (o_bytes, .inl (cy 1, 4096, .inl o_bytes_f)), (o_starts, .inl (cy 0, 8, .inl o_starts_f)), (o_sizes, .inl (cy 0, 8, .inl o_sizes_f)), (o_glyphStarts, .inl (cy 0, 65, .inl o_glyphStarts_f))]) A) args s 0 0 A) (F0 m 113 ls [.int k0]) := by
  intro hP hD hS hl
  obtain ⟨hx, hb, hr, hlocks, hml, hown, htsG, hA, hK⟩ := id C0
  unfold P_Ff_kernOf_113 at h
  refine lv_istore (lv' := [(6, .int k0), (0, .ref o), (5, .int x5)]) hx hb d_Ff_kernOf_113 hl (by decide) rfl (fun ls hl => ?_)
  refine lv_iload hx hb d_Ff_kernOf_115 (lv_at hl 0 rfl) ?_
  refine lv_if_eq (tgt := 143) hx hb d_Ff_kernOf_117 (by decide) (fun c_1 => ?_) (fun c_1 => ?_)
  · replace h := (if_pos c_1).symm.trans h
    refine lv_iconst (v := (0 : Int32)) hx hb d_Ff_kernOf_143 (by decide) ?_
    cases h
    exact W.iret hx hb hr (fun t ht hW => ⟨⟨_, (), rfl, rfl, by rw [ht]; exact hP, va_K.moved hW.alike hK, hD⟩, hS.F ht⟩) hS.2.2 d_Ff_kernOf_144 hlocks
  · replace h := (if_neg c_1).symm.trans h
    refine lv_aload_n hx hb d_Ff_kernOf_120 rfl (lv_at hl 1 rfl) ?_
    refine lv_aload_n hx hb d_Ff_kernOf_121 rfl (lv_at hl 1 rfl) ?_
    refine va_get (D := (dC, dI)) (ci := 7) (v := .ref o_starts) (C := "GlyphPage$FontFile") (T := F_Ff) (N := 16) hx hb htsG iG_Ff hown hK hP 0 rfl rfl 2 (by decide) (htsG _ mW303) (fun _ h9 => h9) rfl d_Ff_kernOf_122 ?_
    refine lv_bipush (v := (7 : Int32)) hx hb d_Ff_kernOf_125 (by decide) ?_
    obtain ⟨hin_2, h⟩ := bd_some h
    refine va_iald hx hb hK hP 2 0 rfl rfl hin_2 d_Ff_kernOf_127 ?_
    refine lv_bipush (v := (22 : Int32)) hx hb d_Ff_kernOf_128 (by decide) ?_
    refine lv_iadd hx hb d_Ff_kernOf_130 ?_
    refine lv_bipush (v := (6 : Int32)) hx hb d_Ff_kernOf_131 (by decide) ?_
    refine lv_iload hx hb d_Ff_kernOf_133 (lv_at hl 2 rfl) ?_
    refine lv_imul hx hb d_Ff_kernOf_135 ?_
    refine lv_iadd hx hb d_Ff_kernOf_136 ?_
    obtain ⟨r_3, hq, h⟩ := Option.bind_eq_some_iff.mp h
    try dsimp only at h
    have hPc := hP.sub (ws' := [(o, .inr (7, [.ref o_bytes, .int o_length, .ref o_starts, .ref o_sizes, .ref o_glyphStarts, .int o_units, .int o_glyphs, .int o_ascent, .int o_descent, .int o_gap, .int o_longLoca, .int o_metrics, .int o_codes, .int o_codesSize, .int o_segments, .int o_pairs])), (o_bytes, .inl (cy 1, 4096, .inl o_bytes_f)), (o_starts, .inl (cy 0, 8, .inl o_starts_f)), (o_sizes, .inl (cy 0, 8, .inl o_sizes_f)), (o_glyphStarts, .inl (cy 0, 65, .inl o_glyphStarts_f))]) [0, 1, 2, 3, 4] rfl
    have hDc := hD.sub (ws' := [(o, .inr (7, [.ref o_bytes, .int o_length, .ref o_starts, .ref o_sizes, .ref o_glyphStarts, .int o_units, .int o_glyphs, .int o_ascent, .int o_descent, .int o_gap, .int o_longLoca, .int o_metrics, .int o_codes, .int o_codesSize, .int o_segments, .int o_pairs])), (o_bytes, .inl (cy 1, 4096, .inl o_bytes_f)), (o_starts, .inl (cy 0, 8, .inl o_starts_f)), (o_sizes, .inl (cy 0, 8, .inl o_sizes_f)), (o_glyphStarts, .inl (cy 0, 65, .inl o_glyphStarts_f))]) [0, 1, 2, 3, 4] (by decide) rfl
    have hFc := va_free (wc := [(o, .inr (7, [.ref o_bytes, .int o_length, .ref o_starts, .ref o_sizes, .ref o_glyphStarts, .int o_units, .int o_glyphs, .int o_ascent, .int o_descent, .int o_gap, .int o_longLoca, .int o_metrics, .int o_codes, .int o_codesSize, .int o_segments, .int o_pairs])), (o_bytes, .inl (cy 1, 4096, .inl o_bytes_f)), (o_starts, .inl (cy 0, 8, .inl o_starts_f)), (o_sizes, .inl (cy 0, 8, .inl o_sizes_f)), (o_glyphStarts, .inl (cy 0, 65, .inl o_glyphStarts_f))]) hD hS hA [0, 1, 2, 3, 4] rfl
    refine va_calli (va_runV (As := [.int (((o_starts_f (7 : Int32).toNatClampNeg) + (22 : Int32)) + ((6 : Int32) * x5))]) (rest := []) ⟨hx, hb, hml, hown, htsG⟩ (c_Ff_signedAt l dC dI cy H.size o o_bytes o_starts o_sizes o_glyphStarts o_length o_units o_glyphs o_ascent o_descent o_gap o_longLoca o_metrics o_codes o_codesSize o_segments o_pairs o_bytes_f o_starts_f o_sizes_f o_glyphStarts_f (((o_starts_f (7 : Int32).toNatClampNeg) + (22 : Int32)) + ((6 : Int32) * x5)) r_3 hq) (cwV 1 htsG (gV mW400 mW402 mS_Ff_signedAt mW11 mW403) rfl rfl rfl (by decide +kernel) ⟨Nat.le_of_ble_eq_true rfl, Nat.le_of_ble_eq_true rfl⟩) ⟨fun a U g mk q => by obtain ⟨q0, q1, qP, qK, qD⟩ := q; exact ⟨q0, q1, qP, va_K.moved (u := U) (U := U.calling g mk a) (Vm.Alike.refl U.vm) qK, qD⟩, va_recv hK hPc (ci := 7) (q0 := 0) rfl rfl, fun U hU hW => ⟨rfl, by rw [hU], by rw [hU]; exact hPc, va_K.moved hW.alike hK, hDc.weaken (fun _ _ _ _ => trivial)⟩⟩ rfl rfl hl.1 rfl (lv_room (Nat.le_of_ble_eq_true rfl)) d_Ff_kernOf_137 ⟨Nat.le_of_ble_eq_true rfl, Nat.le_of_ble_eq_true rfl⟩) hS (fun q _ h => hFc q h) hFc (fun rr u t H1 locs ht hvm hw hB hz1 hk1 hS => ?_)
    obtain ⟨hP1, hK1, hD1⟩ := hB
    rw [ht] at hP1
    replace hw : r_3 = rr := hw.symm
    subst hw
    obtain ⟨hP, hD⟩ := va_join (wr := []) (w1 := [(o, .inr (7, [.ref o_bytes, .int o_length, .ref o_starts, .ref o_sizes, .ref o_glyphStarts, .int o_units, .int o_glyphs, .int o_ascent, .int o_descent, .int o_gap, .int o_longLoca, .int o_metrics, .int o_codes, .int o_codesSize, .int o_segments, .int o_pairs])), (o_bytes, .inl (cy 1, 4096, .inl o_bytes_f)), (o_starts, .inl (cy 0, 8, .inl o_starts_f)), (o_sizes, .inl (cy 0, 8, .inl o_sizes_f)), (o_glyphStarts, .inl (cy 0, 65, .inl o_glyphStarts_f))]) hP hD [0, 1, 2, 3, 4] [] rfl rfl (by decide) (by decide) hk1 hFc hP1 hD1
    generalize H1 = H at hP hS ⊢
    have hP := hP.sub (ws' := [(o, .inr (7, [.ref o_bytes, .int o_length, .ref o_starts, .ref o_sizes, .ref o_glyphStarts, .int o_units, .int o_glyphs, .int o_ascent, .int o_descent, .int o_gap, .int o_longLoca, .int o_metrics, .int o_codes, .int o_codesSize, .int o_segments, .int o_pairs])), (o_bytes, .inl (cy 1, 4096, .inl o_bytes_f)), (o_starts, .inl (cy 0, 8, .inl o_starts_f)), (o_sizes, .inl (cy 0, 8, .inl o_sizes_f)), (o_glyphStarts, .inl (cy 0, 65, .inl o_glyphStarts_f))]) [0, 1, 2, 3, 4] rfl
    have hD := hD.sub (ws' := [(o, .inr (7, [.ref o_bytes, .int o_length, .ref o_starts, .ref o_sizes, .ref o_glyphStarts, .int o_units, .int o_glyphs, .int o_ascent, .int o_descent, .int o_gap, .int o_longLoca, .int o_metrics, .int o_codes, .int o_codesSize, .int o_segments, .int o_pairs])), (o_bytes, .inl (cy 1, 4096, .inl o_bytes_f)), (o_starts, .inl (cy 0, 8, .inl o_starts_f)), (o_sizes, .inl (cy 0, 8, .inl o_sizes_f)), (o_glyphStarts, .inl (cy 0, 65, .inl o_glyphStarts_f))]) [0, 1, 2, 3, 4] (by decide) rfl
    refine W.widen (k := 0) (n := 0) (by decide) (by decide) ?_
    refine lv_goto (tgt := 144) hx hb d_Ff_kernOf_140 (by decide) ?_
    cases h
    exact W.iret hx hb hr (fun t ht hW => ⟨⟨_, (), rfl, rfl, by rw [ht]; exact hP, va_K.moved hW.alike hK, hD⟩, hS.F ht⟩) hS.2.2 d_Ff_kernOf_144 hlocks
def P_Ff_kernOf_112 (o_length : Int32) (o_pairs : Int32) (o_bytes_f : Nat → Int32) (o_starts_f : Nat → Int32)  (x5 : Int32) : Option (Int32) :=
  P_Ff_kernOf_113 o_length o_pairs o_bytes_f o_starts_f x5 (0 : Int32)
set_option maxHeartbeats 4000000 in
set_option maxRecDepth 100000 in
theorem w_Ff_kernOf_112 (C0 : Cx p s m args meth c A dC dI cy b_Ff_kernOf 7 (some .int) "GlyphPage$FontFile") (o : Nat) (o_bytes : Nat) (o_starts : Nat) (o_sizes : Nat) (o_glyphStarts : Nat) (o_length : Int32) (o_units : Int32) (o_glyphs : Int32) (o_ascent : Int32) (o_descent : Int32) (o_gap : Int32) (o_longLoca : Int32) (o_metrics : Int32) (o_codes : Int32) (o_codesSize : Int32) (o_segments : Int32) (o_pairs : Int32) (o_bytes_f : Nat → Int32) (o_starts_f : Nat → Int32) (o_sizes_f : Nat → Int32) (o_glyphStarts_f : Nat → Int32) (a1 : Int32) (a2 : Int32) (uu : Int32)  (x5 : Int32) {H : Heap} {locs : List Loc} {ls : Array Slot} (h : P_Ff_kernOf_112 o_length o_pairs o_bytes_f o_starts_f x5 = some uu) : va_P (dC, dI) classes [(o, .inr (7, [.ref o_bytes, .int o_length, .ref o_starts, .ref o_sizes, .ref o_glyphStarts, .int o_units, .int o_glyphs, .int o_ascent, .int o_descent, .int o_gap, .int o_longLoca, .int o_metrics, .int o_codes, .int o_codesSize, .int o_segments, .int o_pairs])), (o_bytes, .inl (cy 1, 4096, .inl o_bytes_f)), (o_starts, .inl (cy 0, 8, .inl o_starts_f)), (o_sizes, .inl (cy 0, 8, .inl o_sizes_f)), (o_glyphStarts, .inl (cy 0, 65, .inl o_glyphStarts_f))] H → va_D A [(o, .inr (7, [.ref o_bytes, .int o_length, .ref o_starts, .ref o_sizes, .ref o_glyphStarts, .int o_units, .int o_glyphs, .int o_ascent, .int o_descent, .int o_gap, .int o_longLoca, .int o_metrics, .int o_codes, .int o_codesSize, .int o_segments, .int o_pairs])), (o_bytes, .inl (cy 1, 4096, .inl o_bytes_f)), (o_starts, .inl (cy 0, 8, .inl o_starts_f)), (o_sizes, .inl (cy 0, 8, .inl o_sizes_f)), (o_glyphStarts, .inl (cy 0, 65, .inl o_glyphStarts_f))] → va_S A s.heap H locs → lv_has ls 7 [(0, .ref o), (5, .int x5)] → W p l e ({ frames := 3, cells := 0, slots := 0, locals := 63 } : Room) s m args below meth c H locs 0 0 (MQ below (va_Qi (fun r (_ : Unit) => r = uu) (fun _ t => va_P (dC, dI) classes [(o, .inr (7, [.ref o_bytes, .int o_length, .ref o_starts, .ref o_sizes, .ref o_glyphStarts, .int o_units, .int o_glyphs, .int o_ascent, .int o_descent, .int o_gap, .int o_longLoca, .int o_metrics, .int o_codes, .int o_codesSize, .int o_segments, .int o_pairs])), (o_bytes, .inl (cy 1, 4096, .inl o_bytes_f)), (o_starts, .inl (cy 0, 8, .inl o_starts_f)), (o_sizes, .inl (cy 0, 8, .inl o_sizes_f)), (o_glyphStarts, .inl (cy 0, 65, .inl o_glyphStarts_f))] t.heap ∧ va_K (dC, dI) classes (TY cy) t ∧ va_D A [(o, .inr (7, [.ref o_bytes, .int o_length, .ref o_starts, .ref o_sizes, .ref o_glyphStarts, .int o_units, .int o_glyphs, .int o_ascent, .int o_descent, .int o_gap, .int o_longLoca, .int o_metrics, .int o_codes, .int o_codesSize, .int o_segments, .int o_pairs])), (o_bytes, .inl (cy 1, 4096, .inl o_bytes_f)), (o_starts, .inl (cy 0, 8, .inl o_starts_f)), (o_sizes, .inl (cy 0, 8, .inl o_sizes_f)), (o_glyphStarts, .inl (cy 0, 65, .inl o_glyphStarts_f))]) A) args s 0 0 A) (F0 m 112 ls []) := by
  intro hP hD hS hl
  obtain ⟨hx, hb, hr, hlocks, hml, hown, htsG, hA, hK⟩ := id C0
  unfold P_Ff_kernOf_112 at h
  refine lv_iconst (v := (0 : Int32)) hx hb d_Ff_kernOf_112 (by decide) ?_
  exact w_Ff_kernOf_113 C0 o o_bytes o_starts o_sizes o_glyphStarts o_length o_units o_glyphs o_ascent o_descent o_gap o_longLoca o_metrics o_codes o_codesSize o_segments o_pairs o_bytes_f o_starts_f o_sizes_f o_glyphStarts_f a1 a2 uu  x5 (0 : Int32) h hP hD hS (lv_sub hl [0, 1] rfl)
def P_Ff_kernOf_79 (o_length : Int32) (o_pairs : Int32) (o_bytes_f : Nat → Int32) (o_starts_f : Nat → Int32) (z39 : Int64 × Int32 × Int32 → Option (Int32)) (x3 : Int64) (x5 : Int32) (x6 : Int32) : Option (Int32) :=
  z39 (x3, x5, (x6 / (2 : Int32)))
set_option maxHeartbeats 4000000 in
set_option maxRecDepth 100000 in
theorem w_Ff_kernOf_79 (C0 : Cx p s m args meth c A dC dI cy b_Ff_kernOf 7 (some .int) "GlyphPage$FontFile") (o : Nat) (o_bytes : Nat) (o_starts : Nat) (o_sizes : Nat) (o_glyphStarts : Nat) (o_length : Int32) (o_units : Int32) (o_glyphs : Int32) (o_ascent : Int32) (o_descent : Int32) (o_gap : Int32) (o_longLoca : Int32) (o_metrics : Int32) (o_codes : Int32) (o_codesSize : Int32) (o_segments : Int32) (o_pairs : Int32) (o_bytes_f : Nat → Int32) (o_starts_f : Nat → Int32) (o_sizes_f : Nat → Int32) (o_glyphStarts_f : Nat → Int32) (a1 : Int32) (a2 : Int32) (uu : Int32) (z39 : Int64 × Int32 × Int32 → Option (Int32)) (hz39 : ∀ (x3 : Int64) (x5 : Int32) (x6 : Int32) (H : Heap) (locs : List Loc) (ls : Array Slot), z39 (x3, x5, x6) = some uu → va_P (dC, dI) classes [(o, .inr (7, [.ref o_bytes, .int o_length, .ref o_starts, .ref o_sizes, .ref o_glyphStarts, .int o_units, .int o_glyphs, .int o_ascent, .int o_descent, .int o_gap, .int o_longLoca, .int o_metrics, .int o_codes, .int o_codesSize, .int o_segments, .int o_pairs])), (o_bytes, .inl (cy 1, 4096, .inl o_bytes_f)), (o_starts, .inl (cy 0, 8, .inl o_starts_f)), (o_sizes, .inl (cy 0, 8, .inl o_sizes_f)), (o_glyphStarts, .inl (cy 0, 65, .inl o_glyphStarts_f))] H → va_D A [(o, .inr (7, [.ref o_bytes, .int o_length, .ref o_starts, .ref o_sizes, .ref o_glyphStarts, .int o_units, .int o_glyphs, .int o_ascent, .int o_descent, .int o_gap, .int o_longLoca, .int o_metrics, .int o_codes, .int o_codesSize, .int o_segments, .int o_pairs])), (o_bytes, .inl (cy 1, 4096, .inl o_bytes_f)), (o_starts, .inl (cy 0, 8, .inl o_starts_f)), (o_sizes, .inl (cy 0, 8, .inl o_sizes_f)), (o_glyphStarts, .inl (cy 0, 65, .inl o_glyphStarts_f))] → va_S A s.heap H locs → lv_has ls 7 [(0, .ref o), (3, .long x3), (5, .int x5), (6, .int x6)] → W p l e ({ frames := 3, cells := 0, slots := 0, locals := 63 } : Room) s m args below meth c H locs 0 0 (MQ below (va_Qi (fun r (_ : Unit) => r = uu) (fun _ t => va_P (dC, dI) classes [(o, .inr (7, [.ref o_bytes, .int o_length, .ref o_starts, .ref o_sizes, .ref o_glyphStarts, .int o_units, .int o_glyphs, .int o_ascent, .int o_descent, .int o_gap, .int o_longLoca, .int o_metrics, .int o_codes, .int o_codesSize, .int o_segments, .int o_pairs])), (o_bytes, .inl (cy 1, 4096, .inl o_bytes_f)), (o_starts, .inl (cy 0, 8, .inl o_starts_f)), (o_sizes, .inl (cy 0, 8, .inl o_sizes_f)), (o_glyphStarts, .inl (cy 0, 65, .inl o_glyphStarts_f))] t.heap ∧ va_K (dC, dI) classes (TY cy) t ∧ va_D A [(o, .inr (7, [.ref o_bytes, .int o_length, .ref o_starts, .ref o_sizes, .ref o_glyphStarts, .int o_units, .int o_glyphs, .int o_ascent, .int o_descent, .int o_gap, .int o_longLoca, .int o_metrics, .int o_codes, .int o_codesSize, .int o_segments, .int o_pairs])), (o_bytes, .inl (cy 1, 4096, .inl o_bytes_f)), (o_starts, .inl (cy 0, 8, .inl o_starts_f)), (o_sizes, .inl (cy 0, 8, .inl o_sizes_f)), (o_glyphStarts, .inl (cy 0, 65, .inl o_glyphStarts_f))]) A) args s 0 0 A) (F0 m 39 ls [])) (x3 : Int64) (x5 : Int32) (x6 : Int32) {H : Heap} {locs : List Loc} {ls : Array Slot} (h : P_Ff_kernOf_79 o_length o_pairs o_bytes_f o_starts_f z39 x3 x5 x6 = some uu) : va_P (dC, dI) classes [(o, .inr (7, [.ref o_bytes, .int o_length, .ref o_starts, .ref o_sizes, .ref o_glyphStarts, .int o_units, .int o_glyphs, .int o_ascent, .int o_descent, .int o_gap, .int o_longLoca, .int o_metrics, .int o_codes, .int o_codesSize, .int o_segments, .int o_pairs])), (o_bytes, .inl (cy 1, 4096, .inl o_bytes_f)), (o_starts, .inl (cy 0, 8, .inl o_starts_f)), (o_sizes, .inl (cy 0, 8, .inl o_sizes_f)), (o_glyphStarts, .inl (cy 0, 65, .inl o_glyphStarts_f))] H → va_D A [(o, .inr (7, [.ref o_bytes, .int o_length, .ref o_starts, .ref o_sizes, .ref o_glyphStarts, .int o_units, .int o_glyphs, .int o_ascent, .int o_descent, .int o_gap, .int o_longLoca, .int o_metrics, .int o_codes, .int o_codesSize, .int o_segments, .int o_pairs])), (o_bytes, .inl (cy 1, 4096, .inl o_bytes_f)), (o_starts, .inl (cy 0, 8, .inl o_starts_f)), (o_sizes, .inl (cy 0, 8, .inl o_sizes_f)), (o_glyphStarts, .inl (cy 0, 65, .inl o_glyphStarts_f))] → va_S A s.heap H locs → lv_has ls 7 [(0, .ref o), (3, .long x3), (5, .int x5), (6, .int x6)] → W p l e ({ frames := 3, cells := 0, slots := 0, locals := 63 } : Room) s m args below meth c H locs 0 0 (MQ below (va_Qi (fun r (_ : Unit) => r = uu) (fun _ t => va_P (dC, dI) classes [(o, .inr (7, [.ref o_bytes, .int o_length, .ref o_starts, .ref o_sizes, .ref o_glyphStarts, .int o_units, .int o_glyphs, .int o_ascent, .int o_descent, .int o_gap, .int o_longLoca, .int o_metrics, .int o_codes, .int o_codesSize, .int o_segments, .int o_pairs])), (o_bytes, .inl (cy 1, 4096, .inl o_bytes_f)), (o_starts, .inl (cy 0, 8, .inl o_starts_f)), (o_sizes, .inl (cy 0, 8, .inl o_sizes_f)), (o_glyphStarts, .inl (cy 0, 65, .inl o_glyphStarts_f))] t.heap ∧ va_K (dC, dI) classes (TY cy) t ∧ va_D A [(o, .inr (7, [.ref o_bytes, .int o_length, .ref o_starts, .ref o_sizes, .ref o_glyphStarts, .int o_units, .int o_glyphs, .int o_ascent, .int o_descent, .int o_gap, .int o_longLoca, .int o_metrics, .int o_codes, .int o_codesSize, .int o_segments, .int o_pairs])), (o_bytes, .inl (cy 1, 4096, .inl o_bytes_f)), (o_starts, .inl (cy 0, 8, .inl o_starts_f)), (o_sizes, .inl (cy 0, 8, .inl o_sizes_f)), (o_glyphStarts, .inl (cy 0, 65, .inl o_glyphStarts_f))]) A) args s 0 0 A) (F0 m 79 ls []) := by
  intro hP hD hS hl
  obtain ⟨hx, hb, hr, hlocks, hml, hown, htsG, hA, hK⟩ := id C0
  unfold P_Ff_kernOf_79 at h
  refine lv_iload hx hb d_Ff_kernOf_79 (lv_at hl 3 rfl) ?_
  refine lv_iconst (v := (2 : Int32)) hx hb d_Ff_kernOf_81 (by decide) ?_
  refine lv_idiv hx hb d_Ff_kernOf_82 (by decide) ?_
  refine lv_istore (lv' := [(6, .int (x6 / (2 : Int32))), (0, .ref o), (3, .long x3), (5, .int x5)]) hx hb d_Ff_kernOf_83 hl (by decide) rfl (fun ls hl => ?_)
  refine lv_goto (tgt := 39) hx hb d_Ff_kernOf_85 (by decide) ?_
  exact hz39 x3 x5 (x6 / (2 : Int32)) _ _ _ h hP hD hS (lv_sub hl [1, 2, 3, 0] rfl)
def P_Ff_kernOf_39b (o_length : Int32) (o_pairs : Int32) (o_bytes_f : Nat → Int32) (o_starts_f : Nat → Int32)  (z39 : Int64 × Int32 × Int32 → Option (Int32)) (x3 : Int64) (x5 : Int32) (x6 : Int32) : Option (Int32) :=
  if x6 ≤ 0 then (if o_pairs ≤ x5 then (P_Ff_kernOf_112 o_length o_pairs o_bytes_f o_starts_f x5) else ((P_Ff_pairAt o_length o_bytes_f o_starts_f x5).bind fun r_3 => if (lg_cmp r_3 x3) = 0 then (P_Ff_kernOf_113 o_length o_pairs o_bytes_f o_starts_f x5 (1 : Int32)) else (P_Ff_kernOf_112 o_length o_pairs o_bytes_f o_starts_f x5))) else (if o_pairs < (x5 + x6) then (P_Ff_kernOf_79 o_length o_pairs o_bytes_f o_starts_f z39 x3 x5 x6) else ((P_Ff_pairAt o_length o_bytes_f o_starts_f ((x5 + x6) - (1 : Int32))).bind fun r_6 => if 0 ≤ (lg_cmp r_6 x3) then (P_Ff_kernOf_79 o_length o_pairs o_bytes_f o_starts_f z39 x3 x5 x6) else (P_Ff_kernOf_79 o_length o_pairs o_bytes_f o_starts_f z39 x3 (x5 + x6) x6)))
def L_Ff_kernOf_39 (o_length : Int32) (o_pairs : Int32) (o_bytes_f : Nat → Int32) (o_starts_f : Nat → Int32)  : (Int64 × Int32 × Int32 → Option (Int32)) → (Int64 × Int32 × Int32) → Option (Int32) :=
  fun z => unp fun x3 => unp fun x5 x6 => P_Ff_kernOf_39b o_length o_pairs o_bytes_f o_starts_f z x3 x5 x6
def P_Ff_kernOf_39 (o_length : Int32) (o_pairs : Int32) (o_bytes_f : Nat → Int32) (o_starts_f : Nat → Int32)  (x3 : Int64) (x5 : Int32) (x6 : Int32) : Option (Int32) :=
  lp (L_Ff_kernOf_39 o_length o_pairs o_bytes_f o_starts_f) fuel (x3, x5, x6)
theorem e_Ff_kernOf_39 (o_length : Int32) (o_pairs : Int32) (o_bytes_f : Nat → Int32) (o_starts_f : Nat → Int32)  (n : Nat) (x3 : Int64) (x5 : Int32) (x6 : Int32) : lp (L_Ff_kernOf_39 o_length o_pairs o_bytes_f o_starts_f) (n + 1) (x3, x5, x6) = P_Ff_kernOf_39b o_length o_pairs o_bytes_f o_starts_f (lp (L_Ff_kernOf_39 o_length o_pairs o_bytes_f o_starts_f) n) x3 x5 x6 := rfl
set_option maxHeartbeats 4000000 in
set_option maxRecDepth 100000 in
theorem w_Ff_kernOf_39b (C0 : Cx p s m args meth c A dC dI cy b_Ff_kernOf 7 (some .int) "GlyphPage$FontFile") (o : Nat) (o_bytes : Nat) (o_starts : Nat) (o_sizes : Nat) (o_glyphStarts : Nat) (o_length : Int32) (o_units : Int32) (o_glyphs : Int32) (o_ascent : Int32) (o_descent : Int32) (o_gap : Int32) (o_longLoca : Int32) (o_metrics : Int32) (o_codes : Int32) (o_codesSize : Int32) (o_segments : Int32) (o_pairs : Int32) (o_bytes_f : Nat → Int32) (o_starts_f : Nat → Int32) (o_sizes_f : Nat → Int32) (o_glyphStarts_f : Nat → Int32) (a1 : Int32) (a2 : Int32) (uu : Int32)  (z39 : Int64 × Int32 × Int32 → Option (Int32)) (hz39 : ∀ (x3 : Int64) (x5 : Int32) (x6 : Int32) (H : Heap) (locs : List Loc) (ls : Array Slot), z39 (x3, x5, x6) = some uu → va_P (dC, dI) classes [(o, .inr (7, [.ref o_bytes, .int o_length, .ref o_starts, .ref o_sizes, .ref o_glyphStarts, .int o_units, .int o_glyphs, .int o_ascent, .int o_descent, .int o_gap, .int o_longLoca, .int o_metrics, .int o_codes, .int o_codesSize, .int o_segments, .int o_pairs])), (o_bytes, .inl (cy 1, 4096, .inl o_bytes_f)), (o_starts, .inl (cy 0, 8, .inl o_starts_f)), (o_sizes, .inl (cy 0, 8, .inl o_sizes_f)), (o_glyphStarts, .inl (cy 0, 65, .inl o_glyphStarts_f))] H → va_D A [(o, .inr (7, [.ref o_bytes, .int o_length, .ref o_starts, .ref o_sizes, .ref o_glyphStarts, .int o_units, .int o_glyphs, .int o_ascent, .int o_descent, .int o_gap, .int o_longLoca, .int o_metrics, .int o_codes, .int o_codesSize, .int o_segments, .int o_pairs])), (o_bytes, .inl (cy 1, 4096, .inl o_bytes_f)), (o_starts, .inl (cy 0, 8, .inl o_starts_f)), (o_sizes, .inl (cy 0, 8, .inl o_sizes_f)), (o_glyphStarts, .inl (cy 0, 65, .inl o_glyphStarts_f))] → va_S A s.heap H locs → lv_has ls 7 [(0, .ref o), (3, .long x3), (5, .int x5), (6, .int x6)] → W p l e ({ frames := 3, cells := 0, slots := 0, locals := 63 } : Room) s m args below meth c H locs 0 0 (MQ below (va_Qi (fun r (_ : Unit) => r = uu) (fun _ t => va_P (dC, dI) classes [(o, .inr (7, [.ref o_bytes, .int o_length, .ref o_starts, .ref o_sizes, .ref o_glyphStarts, .int o_units, .int o_glyphs, .int o_ascent, .int o_descent, .int o_gap, .int o_longLoca, .int o_metrics, .int o_codes, .int o_codesSize, .int o_segments, .int o_pairs])), (o_bytes, .inl (cy 1, 4096, .inl o_bytes_f)), (o_starts, .inl (cy 0, 8, .inl o_starts_f)), (o_sizes, .inl (cy 0, 8, .inl o_sizes_f)), (o_glyphStarts, .inl (cy 0, 65, .inl o_glyphStarts_f))] t.heap ∧ va_K (dC, dI) classes (TY cy) t ∧ va_D A [(o, .inr (7, [.ref o_bytes, .int o_length, .ref o_starts, .ref o_sizes, .ref o_glyphStarts, .int o_units, .int o_glyphs, .int o_ascent, .int o_descent, .int o_gap, .int o_longLoca, .int o_metrics, .int o_codes, .int o_codesSize, .int o_segments, .int o_pairs])), (o_bytes, .inl (cy 1, 4096, .inl o_bytes_f)), (o_starts, .inl (cy 0, 8, .inl o_starts_f)), (o_sizes, .inl (cy 0, 8, .inl o_sizes_f)), (o_glyphStarts, .inl (cy 0, 65, .inl o_glyphStarts_f))]) A) args s 0 0 A) (F0 m 39 ls [])) (x3 : Int64) (x5 : Int32) (x6 : Int32) {H : Heap} {locs : List Loc} {ls : Array Slot} (h : P_Ff_kernOf_39b o_length o_pairs o_bytes_f o_starts_f z39 x3 x5 x6 = some uu) : va_P (dC, dI) classes [(o, .inr (7, [.ref o_bytes, .int o_length, .ref o_starts, .ref o_sizes, .ref o_glyphStarts, .int o_units, .int o_glyphs, .int o_ascent, .int o_descent, .int o_gap, .int o_longLoca, .int o_metrics, .int o_codes, .int o_codesSize, .int o_segments, .int o_pairs])), (o_bytes, .inl (cy 1, 4096, .inl o_bytes_f)), (o_starts, .inl (cy 0, 8, .inl o_starts_f)), (o_sizes, .inl (cy 0, 8, .inl o_sizes_f)), (o_glyphStarts, .inl (cy 0, 65, .inl o_glyphStarts_f))] H → va_D A [(o, .inr (7, [.ref o_bytes, .int o_length, .ref o_starts, .ref o_sizes, .ref o_glyphStarts, .int o_units, .int o_glyphs, .int o_ascent, .int o_descent, .int o_gap, .int o_longLoca, .int o_metrics, .int o_codes, .int o_codesSize, .int o_segments, .int o_pairs])), (o_bytes, .inl (cy 1, 4096, .inl o_bytes_f)), (o_starts, .inl (cy 0, 8, .inl o_starts_f)), (o_sizes, .inl (cy 0, 8, .inl o_sizes_f)), (o_glyphStarts, .inl (cy 0, 65, .inl o_glyphStarts_f))] → va_S A s.heap H locs → lv_has ls 7 [(0, .ref o), (3, .long x3), (5, .int x5), (6, .int x6)] → W p l e ({ frames := 3, cells := 0, slots := 0, locals := 63 } : Room) s m args below meth c H locs 0 0 (MQ below (va_Qi (fun r (_ : Unit) => r = uu) (fun _ t => va_P (dC, dI) classes [(o, .inr (7, [.ref o_bytes, .int o_length, .ref o_starts, .ref o_sizes, .ref o_glyphStarts, .int o_units, .int o_glyphs, .int o_ascent, .int o_descent, .int o_gap, .int o_longLoca, .int o_metrics, .int o_codes, .int o_codesSize, .int o_segments, .int o_pairs])), (o_bytes, .inl (cy 1, 4096, .inl o_bytes_f)), (o_starts, .inl (cy 0, 8, .inl o_starts_f)), (o_sizes, .inl (cy 0, 8, .inl o_sizes_f)), (o_glyphStarts, .inl (cy 0, 65, .inl o_glyphStarts_f))] t.heap ∧ va_K (dC, dI) classes (TY cy) t ∧ va_D A [(o, .inr (7, [.ref o_bytes, .int o_length, .ref o_starts, .ref o_sizes, .ref o_glyphStarts, .int o_units, .int o_glyphs, .int o_ascent, .int o_descent, .int o_gap, .int o_longLoca, .int o_metrics, .int o_codes, .int o_codesSize, .int o_segments, .int o_pairs])), (o_bytes, .inl (cy 1, 4096, .inl o_bytes_f)), (o_starts, .inl (cy 0, 8, .inl o_starts_f)), (o_sizes, .inl (cy 0, 8, .inl o_sizes_f)), (o_glyphStarts, .inl (cy 0, 65, .inl o_glyphStarts_f))]) A) args s 0 0 A) (F0 m 39 ls []) := by
  intro hP hD hS hl
  obtain ⟨hx, hb, hr, hlocks, hml, hown, htsG, hA, hK⟩ := id C0
  unfold P_Ff_kernOf_39b at h
  refine lv_iload hx hb d_Ff_kernOf_39 (lv_at hl 3 rfl) ?_
  refine lv_if_le (tgt := 88) hx hb d_Ff_kernOf_41 (by decide) (fun c_1 => ?_) (fun c_1 => ?_)
  · replace h := (if_pos c_1).symm.trans h
    refine lv_iload hx hb d_Ff_kernOf_88 (lv_at hl 2 rfl) ?_
    refine lv_aload_n hx hb d_Ff_kernOf_90 rfl (lv_at hl 0 rfl) ?_
    refine va_get (D := (dC, dI)) (ci := 7) (v := .int o_pairs) (C := "GlyphPage$FontFile") (T := F_Ff) (N := 16) hx hb htsG iG_Ff hown hK hP 0 rfl rfl 15 (by decide) (htsG _ mW323) (fun _ h9 => h9) rfl d_Ff_kernOf_91 ?_
    refine lv_icmp_ge (tgt := 112) hx hb d_Ff_kernOf_94 (by decide) (fun c_2 => ?_) (fun c_2 => ?_)
    · replace h := (if_pos c_2).symm.trans h
      exact w_Ff_kernOf_112 C0 o o_bytes o_starts o_sizes o_glyphStarts o_length o_units o_glyphs o_ascent o_descent o_gap o_longLoca o_metrics o_codes o_codesSize o_segments o_pairs o_bytes_f o_starts_f o_sizes_f o_glyphStarts_f a1 a2 uu  x5 h hP hD hS (lv_sub hl [0, 2] rfl)
    · replace h := (if_neg c_2).symm.trans h
      refine lv_aload_n hx hb d_Ff_kernOf_97 rfl (lv_at hl 0 rfl) ?_
      refine lv_iload hx hb d_Ff_kernOf_98 (lv_at hl 2 rfl) ?_
      obtain ⟨r_3, hq, h⟩ := Option.bind_eq_some_iff.mp h
      try dsimp only at h
      have hPc := hP.sub (ws' := [(o, .inr (7, [.ref o_bytes, .int o_length, .ref o_starts, .ref o_sizes, .ref o_glyphStarts, .int o_units, .int o_glyphs, .int o_ascent, .int o_descent, .int o_gap, .int o_longLoca, .int o_metrics, .int o_codes, .int o_codesSize, .int o_segments, .int o_pairs])), (o_bytes, .inl (cy 1, 4096, .inl o_bytes_f)), (o_starts, .inl (cy 0, 8, .inl o_starts_f)), (o_sizes, .inl (cy 0, 8, .inl o_sizes_f)), (o_glyphStarts, .inl (cy 0, 65, .inl o_glyphStarts_f))]) [0, 1, 2, 3, 4] rfl
      have hDc := hD.sub (ws' := [(o, .inr (7, [.ref o_bytes, .int o_length, .ref o_starts, .ref o_sizes, .ref o_glyphStarts, .int o_units, .int o_glyphs, .int o_ascent, .int o_descent, .int o_gap, .int o_longLoca, .int o_metrics, .int o_codes, .int o_codesSize, .int o_segments, .int o_pairs])), (o_bytes, .inl (cy 1, 4096, .inl o_bytes_f)), (o_starts, .inl (cy 0, 8, .inl o_starts_f)), (o_sizes, .inl (cy 0, 8, .inl o_sizes_f)), (o_glyphStarts, .inl (cy 0, 65, .inl o_glyphStarts_f))]) [0, 1, 2, 3, 4] (by decide) rfl
      have hFc := va_free (wc := [(o, .inr (7, [.ref o_bytes, .int o_length, .ref o_starts, .ref o_sizes, .ref o_glyphStarts, .int o_units, .int o_glyphs, .int o_ascent, .int o_descent, .int o_gap, .int o_longLoca, .int o_metrics, .int o_codes, .int o_codesSize, .int o_segments, .int o_pairs])), (o_bytes, .inl (cy 1, 4096, .inl o_bytes_f)), (o_starts, .inl (cy 0, 8, .inl o_starts_f)), (o_sizes, .inl (cy 0, 8, .inl o_sizes_f)), (o_glyphStarts, .inl (cy 0, 65, .inl o_glyphStarts_f))]) hD hS hA [0, 1, 2, 3, 4] rfl
      refine va_calll (va_runV (As := [.int x5]) (rest := []) ⟨hx, hb, hml, hown, htsG⟩ (c_Ff_pairAt l dC dI cy H.size o o_bytes o_starts o_sizes o_glyphStarts o_length o_units o_glyphs o_ascent o_descent o_gap o_longLoca o_metrics o_codes o_codesSize o_segments o_pairs o_bytes_f o_starts_f o_sizes_f o_glyphStarts_f x5 r_3 hq) (cwV 1 htsG (gV mW512 mW514 mS_Ff_pairAt mW11 mW515) rfl rfl rfl (by decide +kernel) ⟨Nat.le_of_ble_eq_true rfl, Nat.le_of_ble_eq_true rfl⟩) ⟨fun a U g mk q => by obtain ⟨q0, q1, qP, qK, qD⟩ := q; exact ⟨q0, q1, qP, va_K.moved (u := U) (U := U.calling g mk a) (Vm.Alike.refl U.vm) qK, qD⟩, va_recv hK hPc (ci := 7) (q0 := 0) rfl rfl, fun U hU hW => ⟨rfl, by rw [hU], by rw [hU]; exact hPc, va_K.moved hW.alike hK, hDc.weaken (fun _ _ _ _ => trivial)⟩⟩ rfl rfl hl.1 rfl (lv_room (Nat.le_of_ble_eq_true rfl)) d_Ff_kernOf_100 ⟨Nat.le_of_ble_eq_true rfl, Nat.le_of_ble_eq_true rfl⟩) hS (fun q _ h => hFc q h) hFc (fun rr u t H1 locs ht hvm hw hB hz1 hk1 hS => ?_)
      obtain ⟨hP1, hK1, hD1⟩ := hB
      rw [ht] at hP1
      replace hw : r_3 = rr := hw.symm
      subst hw
      obtain ⟨hP, hD⟩ := va_join (wr := []) (w1 := [(o, .inr (7, [.ref o_bytes, .int o_length, .ref o_starts, .ref o_sizes, .ref o_glyphStarts, .int o_units, .int o_glyphs, .int o_ascent, .int o_descent, .int o_gap, .int o_longLoca, .int o_metrics, .int o_codes, .int o_codesSize, .int o_segments, .int o_pairs])), (o_bytes, .inl (cy 1, 4096, .inl o_bytes_f)), (o_starts, .inl (cy 0, 8, .inl o_starts_f)), (o_sizes, .inl (cy 0, 8, .inl o_sizes_f)), (o_glyphStarts, .inl (cy 0, 65, .inl o_glyphStarts_f))]) hP hD [0, 1, 2, 3, 4] [] rfl rfl (by decide) (by decide) hk1 hFc hP1 hD1
      generalize H1 = H at hP hS ⊢
      have hP := hP.sub (ws' := [(o, .inr (7, [.ref o_bytes, .int o_length, .ref o_starts, .ref o_sizes, .ref o_glyphStarts, .int o_units, .int o_glyphs, .int o_ascent, .int o_descent, .int o_gap, .int o_longLoca, .int o_metrics, .int o_codes, .int o_codesSize, .int o_segments, .int o_pairs])), (o_bytes, .inl (cy 1, 4096, .inl o_bytes_f)), (o_starts, .inl (cy 0, 8, .inl o_starts_f)), (o_sizes, .inl (cy 0, 8, .inl o_sizes_f)), (o_glyphStarts, .inl (cy 0, 65, .inl o_glyphStarts_f))]) [0, 1, 2, 3, 4] rfl
      have hD := hD.sub (ws' := [(o, .inr (7, [.ref o_bytes, .int o_length, .ref o_starts, .ref o_sizes, .ref o_glyphStarts, .int o_units, .int o_glyphs, .int o_ascent, .int o_descent, .int o_gap, .int o_longLoca, .int o_metrics, .int o_codes, .int o_codesSize, .int o_segments, .int o_pairs])), (o_bytes, .inl (cy 1, 4096, .inl o_bytes_f)), (o_starts, .inl (cy 0, 8, .inl o_starts_f)), (o_sizes, .inl (cy 0, 8, .inl o_sizes_f)), (o_glyphStarts, .inl (cy 0, 65, .inl o_glyphStarts_f))]) [0, 1, 2, 3, 4] (by decide) rfl
      refine W.widen (k := 0) (n := 0) (by decide) (by decide) ?_
      refine lv_lload_n hx hb d_Ff_kernOf_103 rfl (lv_at hl 1 rfl) ?_
      refine W.lcmp hx hb d_Ff_kernOf_104 ?_
      refine lv_if_ne (tgt := 112) hx hb d_Ff_kernOf_105 (by decide) (fun c_4 => ?_) (fun c_4 => ?_)
      · replace h := (if_neg c_4).symm.trans h
        exact w_Ff_kernOf_112 C0 o o_bytes o_starts o_sizes o_glyphStarts o_length o_units o_glyphs o_ascent o_descent o_gap o_longLoca o_metrics o_codes o_codesSize o_segments o_pairs o_bytes_f o_starts_f o_sizes_f o_glyphStarts_f a1 a2 uu  x5 h hP hD hS (lv_sub hl [0, 2] rfl)
      · replace h := (if_pos c_4).symm.trans h
        refine lv_iconst (v := (1 : Int32)) hx hb d_Ff_kernOf_108 (by decide) ?_
        refine lv_goto (tgt := 113) hx hb d_Ff_kernOf_109 (by decide) ?_
        exact w_Ff_kernOf_113 C0 o o_bytes o_starts o_sizes o_glyphStarts o_length o_units o_glyphs o_ascent o_descent o_gap o_longLoca o_metrics o_codes o_codesSize o_segments o_pairs o_bytes_f o_starts_f o_sizes_f o_glyphStarts_f a1 a2 uu  x5 (1 : Int32) h hP hD hS (lv_sub hl [0, 2] rfl)
  · replace h := (if_neg c_1).symm.trans h
    refine lv_iload hx hb d_Ff_kernOf_44 (lv_at hl 2 rfl) ?_
    refine lv_iload hx hb d_Ff_kernOf_46 (lv_at hl 3 rfl) ?_
    refine lv_iadd hx hb d_Ff_kernOf_48 ?_
    refine lv_aload_n hx hb d_Ff_kernOf_49 rfl (lv_at hl 0 rfl) ?_
    refine va_get (D := (dC, dI)) (ci := 7) (v := .int o_pairs) (C := "GlyphPage$FontFile") (T := F_Ff) (N := 16) hx hb htsG iG_Ff hown hK hP 0 rfl rfl 15 (by decide) (htsG _ mW323) (fun _ h9 => h9) rfl d_Ff_kernOf_50 ?_
    refine lv_icmp_gt (tgt := 79) hx hb d_Ff_kernOf_53 (by decide) (fun c_5 => ?_) (fun c_5 => ?_)
    · replace h := (if_pos c_5).symm.trans h
      exact w_Ff_kernOf_79 C0 o o_bytes o_starts o_sizes o_glyphStarts o_length o_units o_glyphs o_ascent o_descent o_gap o_longLoca o_metrics o_codes o_codesSize o_segments o_pairs o_bytes_f o_starts_f o_sizes_f o_glyphStarts_f a1 a2 uu z39 hz39 x3 x5 x6 h hP hD hS (lv_sub hl [0, 1, 2, 3] rfl)
    · replace h := (if_neg c_5).symm.trans h
      refine lv_aload_n hx hb d_Ff_kernOf_56 rfl (lv_at hl 0 rfl) ?_
      refine lv_iload hx hb d_Ff_kernOf_57 (lv_at hl 2 rfl) ?_
      refine lv_iload hx hb d_Ff_kernOf_59 (lv_at hl 3 rfl) ?_
      refine lv_iadd hx hb d_Ff_kernOf_61 ?_
      refine lv_iconst (v := (1 : Int32)) hx hb d_Ff_kernOf_62 (by decide) ?_
      refine lv_isub hx hb d_Ff_kernOf_63 ?_
      obtain ⟨r_6, hq, h⟩ := Option.bind_eq_some_iff.mp h
      try dsimp only at h
      have hPc := hP.sub (ws' := [(o, .inr (7, [.ref o_bytes, .int o_length, .ref o_starts, .ref o_sizes, .ref o_glyphStarts, .int o_units, .int o_glyphs, .int o_ascent, .int o_descent, .int o_gap, .int o_longLoca, .int o_metrics, .int o_codes, .int o_codesSize, .int o_segments, .int o_pairs])), (o_bytes, .inl (cy 1, 4096, .inl o_bytes_f)), (o_starts, .inl (cy 0, 8, .inl o_starts_f)), (o_sizes, .inl (cy 0, 8, .inl o_sizes_f)), (o_glyphStarts, .inl (cy 0, 65, .inl o_glyphStarts_f))]) [0, 1, 2, 3, 4] rfl
      have hDc := hD.sub (ws' := [(o, .inr (7, [.ref o_bytes, .int o_length, .ref o_starts, .ref o_sizes, .ref o_glyphStarts, .int o_units, .int o_glyphs, .int o_ascent, .int o_descent, .int o_gap, .int o_longLoca, .int o_metrics, .int o_codes, .int o_codesSize, .int o_segments, .int o_pairs])), (o_bytes, .inl (cy 1, 4096, .inl o_bytes_f)), (o_starts, .inl (cy 0, 8, .inl o_starts_f)), (o_sizes, .inl (cy 0, 8, .inl o_sizes_f)), (o_glyphStarts, .inl (cy 0, 65, .inl o_glyphStarts_f))]) [0, 1, 2, 3, 4] (by decide) rfl
      have hFc := va_free (wc := [(o, .inr (7, [.ref o_bytes, .int o_length, .ref o_starts, .ref o_sizes, .ref o_glyphStarts, .int o_units, .int o_glyphs, .int o_ascent, .int o_descent, .int o_gap, .int o_longLoca, .int o_metrics, .int o_codes, .int o_codesSize, .int o_segments, .int o_pairs])), (o_bytes, .inl (cy 1, 4096, .inl o_bytes_f)), (o_starts, .inl (cy 0, 8, .inl o_starts_f)), (o_sizes, .inl (cy 0, 8, .inl o_sizes_f)), (o_glyphStarts, .inl (cy 0, 65, .inl o_glyphStarts_f))]) hD hS hA [0, 1, 2, 3, 4] rfl
      refine va_calll (va_runV (As := [.int ((x5 + x6) - (1 : Int32))]) (rest := []) ⟨hx, hb, hml, hown, htsG⟩ (c_Ff_pairAt l dC dI cy H.size o o_bytes o_starts o_sizes o_glyphStarts o_length o_units o_glyphs o_ascent o_descent o_gap o_longLoca o_metrics o_codes o_codesSize o_segments o_pairs o_bytes_f o_starts_f o_sizes_f o_glyphStarts_f ((x5 + x6) - (1 : Int32)) r_6 hq) (cwV 1 htsG (gV mW512 mW514 mS_Ff_pairAt mW11 mW515) rfl rfl rfl (by decide +kernel) ⟨Nat.le_of_ble_eq_true rfl, Nat.le_of_ble_eq_true rfl⟩) ⟨fun a U g mk q => by obtain ⟨q0, q1, qP, qK, qD⟩ := q; exact ⟨q0, q1, qP, va_K.moved (u := U) (U := U.calling g mk a) (Vm.Alike.refl U.vm) qK, qD⟩, va_recv hK hPc (ci := 7) (q0 := 0) rfl rfl, fun U hU hW => ⟨rfl, by rw [hU], by rw [hU]; exact hPc, va_K.moved hW.alike hK, hDc.weaken (fun _ _ _ _ => trivial)⟩⟩ rfl rfl hl.1 rfl (lv_room (Nat.le_of_ble_eq_true rfl)) d_Ff_kernOf_64 ⟨Nat.le_of_ble_eq_true rfl, Nat.le_of_ble_eq_true rfl⟩) hS (fun q _ h => hFc q h) hFc (fun rr u t H1 locs ht hvm hw hB hz1 hk1 hS => ?_)
      obtain ⟨hP1, hK1, hD1⟩ := hB
      rw [ht] at hP1
      replace hw : r_6 = rr := hw.symm
      subst hw
      obtain ⟨hP, hD⟩ := va_join (wr := []) (w1 := [(o, .inr (7, [.ref o_bytes, .int o_length, .ref o_starts, .ref o_sizes, .ref o_glyphStarts, .int o_units, .int o_glyphs, .int o_ascent, .int o_descent, .int o_gap, .int o_longLoca, .int o_metrics, .int o_codes, .int o_codesSize, .int o_segments, .int o_pairs])), (o_bytes, .inl (cy 1, 4096, .inl o_bytes_f)), (o_starts, .inl (cy 0, 8, .inl o_starts_f)), (o_sizes, .inl (cy 0, 8, .inl o_sizes_f)), (o_glyphStarts, .inl (cy 0, 65, .inl o_glyphStarts_f))]) hP hD [0, 1, 2, 3, 4] [] rfl rfl (by decide) (by decide) hk1 hFc hP1 hD1
      generalize H1 = H at hP hS ⊢
      have hP := hP.sub (ws' := [(o, .inr (7, [.ref o_bytes, .int o_length, .ref o_starts, .ref o_sizes, .ref o_glyphStarts, .int o_units, .int o_glyphs, .int o_ascent, .int o_descent, .int o_gap, .int o_longLoca, .int o_metrics, .int o_codes, .int o_codesSize, .int o_segments, .int o_pairs])), (o_bytes, .inl (cy 1, 4096, .inl o_bytes_f)), (o_starts, .inl (cy 0, 8, .inl o_starts_f)), (o_sizes, .inl (cy 0, 8, .inl o_sizes_f)), (o_glyphStarts, .inl (cy 0, 65, .inl o_glyphStarts_f))]) [0, 1, 2, 3, 4] rfl
      have hD := hD.sub (ws' := [(o, .inr (7, [.ref o_bytes, .int o_length, .ref o_starts, .ref o_sizes, .ref o_glyphStarts, .int o_units, .int o_glyphs, .int o_ascent, .int o_descent, .int o_gap, .int o_longLoca, .int o_metrics, .int o_codes, .int o_codesSize, .int o_segments, .int o_pairs])), (o_bytes, .inl (cy 1, 4096, .inl o_bytes_f)), (o_starts, .inl (cy 0, 8, .inl o_starts_f)), (o_sizes, .inl (cy 0, 8, .inl o_sizes_f)), (o_glyphStarts, .inl (cy 0, 65, .inl o_glyphStarts_f))]) [0, 1, 2, 3, 4] (by decide) rfl
      refine W.widen (k := 0) (n := 0) (by decide) (by decide) ?_
      refine lv_lload_n hx hb d_Ff_kernOf_67 rfl (lv_at hl 1 rfl) ?_
      refine W.lcmp hx hb d_Ff_kernOf_68 ?_
      refine lv_if_ge (tgt := 79) hx hb d_Ff_kernOf_69 (by decide) (fun c_7 => ?_) (fun c_7 => ?_)
      · replace h := (if_pos c_7).symm.trans h
        exact w_Ff_kernOf_79 C0 o o_bytes o_starts o_sizes o_glyphStarts o_length o_units o_glyphs o_ascent o_descent o_gap o_longLoca o_metrics o_codes o_codesSize o_segments o_pairs o_bytes_f o_starts_f o_sizes_f o_glyphStarts_f a1 a2 uu z39 hz39 x3 x5 x6 h hP hD hS (lv_sub hl [0, 1, 2, 3] rfl)
      · replace h := (if_neg c_7).symm.trans h
        refine lv_iload hx hb d_Ff_kernOf_72 (lv_at hl 2 rfl) ?_
        refine lv_iload hx hb d_Ff_kernOf_74 (lv_at hl 3 rfl) ?_
        refine lv_iadd hx hb d_Ff_kernOf_76 ?_
        refine lv_istore (lv' := [(5, .int (x5 + x6)), (0, .ref o), (3, .long x3), (6, .int x6)]) hx hb d_Ff_kernOf_77 hl (by decide) rfl (fun ls hl => ?_)
        exact w_Ff_kernOf_79 C0 o o_bytes o_starts o_sizes o_glyphStarts o_length o_units o_glyphs o_ascent o_descent o_gap o_longLoca o_metrics o_codes o_codesSize o_segments o_pairs o_bytes_f o_starts_f o_sizes_f o_glyphStarts_f a1 a2 uu z39 hz39 x3 (x5 + x6) x6 h hP hD hS (lv_sub hl [1, 2, 0, 3] rfl)
theorem w_Ff_kernOf_39 (C0 : Cx p s m args meth c A dC dI cy b_Ff_kernOf 7 (some .int) "GlyphPage$FontFile") (o : Nat) (o_bytes : Nat) (o_starts : Nat) (o_sizes : Nat) (o_glyphStarts : Nat) (o_length : Int32) (o_units : Int32) (o_glyphs : Int32) (o_ascent : Int32) (o_descent : Int32) (o_gap : Int32) (o_longLoca : Int32) (o_metrics : Int32) (o_codes : Int32) (o_codesSize : Int32) (o_segments : Int32) (o_pairs : Int32) (o_bytes_f : Nat → Int32) (o_starts_f : Nat → Int32) (o_sizes_f : Nat → Int32) (o_glyphStarts_f : Nat → Int32) (a1 : Int32) (a2 : Int32) (uu : Int32)  (x3 : Int64) (x5 : Int32) (x6 : Int32) {H : Heap} {locs : List Loc} {ls : Array Slot} (h : P_Ff_kernOf_39 o_length o_pairs o_bytes_f o_starts_f x3 x5 x6 = some uu) : va_P (dC, dI) classes [(o, .inr (7, [.ref o_bytes, .int o_length, .ref o_starts, .ref o_sizes, .ref o_glyphStarts, .int o_units, .int o_glyphs, .int o_ascent, .int o_descent, .int o_gap, .int o_longLoca, .int o_metrics, .int o_codes, .int o_codesSize, .int o_segments, .int o_pairs])), (o_bytes, .inl (cy 1, 4096, .inl o_bytes_f)), (o_starts, .inl (cy 0, 8, .inl o_starts_f)), (o_sizes, .inl (cy 0, 8, .inl o_sizes_f)), (o_glyphStarts, .inl (cy 0, 65, .inl o_glyphStarts_f))] H → va_D A [(o, .inr (7, [.ref o_bytes, .int o_length, .ref o_starts, .ref o_sizes, .ref o_glyphStarts, .int o_units, .int o_glyphs, .int o_ascent, .int o_descent, .int o_gap, .int o_longLoca, .int o_metrics, .int o_codes, .int o_codesSize, .int o_segments, .int o_pairs])), (o_bytes, .inl (cy 1, 4096, .inl o_bytes_f)), (o_starts, .inl (cy 0, 8, .inl o_starts_f)), (o_sizes, .inl (cy 0, 8, .inl o_sizes_f)), (o_glyphStarts, .inl (cy 0, 65, .inl o_glyphStarts_f))] → va_S A s.heap H locs → lv_has ls 7 [(0, .ref o), (3, .long x3), (5, .int x5), (6, .int x6)] → W p l e ({ frames := 3, cells := 0, slots := 0, locals := 63 } : Room) s m args below meth c H locs 0 0 (MQ below (va_Qi (fun r (_ : Unit) => r = uu) (fun _ t => va_P (dC, dI) classes [(o, .inr (7, [.ref o_bytes, .int o_length, .ref o_starts, .ref o_sizes, .ref o_glyphStarts, .int o_units, .int o_glyphs, .int o_ascent, .int o_descent, .int o_gap, .int o_longLoca, .int o_metrics, .int o_codes, .int o_codesSize, .int o_segments, .int o_pairs])), (o_bytes, .inl (cy 1, 4096, .inl o_bytes_f)), (o_starts, .inl (cy 0, 8, .inl o_starts_f)), (o_sizes, .inl (cy 0, 8, .inl o_sizes_f)), (o_glyphStarts, .inl (cy 0, 65, .inl o_glyphStarts_f))] t.heap ∧ va_K (dC, dI) classes (TY cy) t ∧ va_D A [(o, .inr (7, [.ref o_bytes, .int o_length, .ref o_starts, .ref o_sizes, .ref o_glyphStarts, .int o_units, .int o_glyphs, .int o_ascent, .int o_descent, .int o_gap, .int o_longLoca, .int o_metrics, .int o_codes, .int o_codesSize, .int o_segments, .int o_pairs])), (o_bytes, .inl (cy 1, 4096, .inl o_bytes_f)), (o_starts, .inl (cy 0, 8, .inl o_starts_f)), (o_sizes, .inl (cy 0, 8, .inl o_sizes_f)), (o_glyphStarts, .inl (cy 0, 65, .inl o_glyphStarts_f))]) A) args s 0 0 A) (F0 m 39 ls []) := by
  have key : ∀ (n : Nat) (x3 : Int64) (x5 : Int32) (x6 : Int32) (H : Heap) (locs : List Loc) (ls : Array Slot), lp (L_Ff_kernOf_39 o_length o_pairs o_bytes_f o_starts_f) n (x3, x5, x6) = some uu → va_P (dC, dI) classes [(o, .inr (7, [.ref o_bytes, .int o_length, .ref o_starts, .ref o_sizes, .ref o_glyphStarts, .int o_units, .int o_glyphs, .int o_ascent, .int o_descent, .int o_gap, .int o_longLoca, .int o_metrics, .int o_codes, .int o_codesSize, .int o_segments, .int o_pairs])), (o_bytes, .inl (cy 1, 4096, .inl o_bytes_f)), (o_starts, .inl (cy 0, 8, .inl o_starts_f)), (o_sizes, .inl (cy 0, 8, .inl o_sizes_f)), (o_glyphStarts, .inl (cy 0, 65, .inl o_glyphStarts_f))] H → va_D A [(o, .inr (7, [.ref o_bytes, .int o_length, .ref o_starts, .ref o_sizes, .ref o_glyphStarts, .int o_units, .int o_glyphs, .int o_ascent, .int o_descent, .int o_gap, .int o_longLoca, .int o_metrics, .int o_codes, .int o_codesSize, .int o_segments, .int o_pairs])), (o_bytes, .inl (cy 1, 4096, .inl o_bytes_f)), (o_starts, .inl (cy 0, 8, .inl o_starts_f)), (o_sizes, .inl (cy 0, 8, .inl o_sizes_f)), (o_glyphStarts, .inl (cy 0, 65, .inl o_glyphStarts_f))] → va_S A s.heap H locs → lv_has ls 7 [(0, .ref o), (3, .long x3), (5, .int x5), (6, .int x6)] → W p l e ({ frames := 3, cells := 0, slots := 0, locals := 63 } : Room) s m args below meth c H locs 0 0 (MQ below (va_Qi (fun r (_ : Unit) => r = uu) (fun _ t => va_P (dC, dI) classes [(o, .inr (7, [.ref o_bytes, .int o_length, .ref o_starts, .ref o_sizes, .ref o_glyphStarts, .int o_units, .int o_glyphs, .int o_ascent, .int o_descent, .int o_gap, .int o_longLoca, .int o_metrics, .int o_codes, .int o_codesSize, .int o_segments, .int o_pairs])), (o_bytes, .inl (cy 1, 4096, .inl o_bytes_f)), (o_starts, .inl (cy 0, 8, .inl o_starts_f)), (o_sizes, .inl (cy 0, 8, .inl o_sizes_f)), (o_glyphStarts, .inl (cy 0, 65, .inl o_glyphStarts_f))] t.heap ∧ va_K (dC, dI) classes (TY cy) t ∧ va_D A [(o, .inr (7, [.ref o_bytes, .int o_length, .ref o_starts, .ref o_sizes, .ref o_glyphStarts, .int o_units, .int o_glyphs, .int o_ascent, .int o_descent, .int o_gap, .int o_longLoca, .int o_metrics, .int o_codes, .int o_codesSize, .int o_segments, .int o_pairs])), (o_bytes, .inl (cy 1, 4096, .inl o_bytes_f)), (o_starts, .inl (cy 0, 8, .inl o_starts_f)), (o_sizes, .inl (cy 0, 8, .inl o_sizes_f)), (o_glyphStarts, .inl (cy 0, 65, .inl o_glyphStarts_f))]) A) args s 0 0 A) (F0 m 39 ls []) := by
    intro n
    induction n with
    | zero => intro x3 x5 x6 H locs ls h; cases h
    | succ n ih => intro x3 x5 x6 H locs ls h; exact w_Ff_kernOf_39b C0 o o_bytes o_starts o_sizes o_glyphStarts o_length o_units o_glyphs o_ascent o_descent o_gap o_longLoca o_metrics o_codes o_codesSize o_segments o_pairs o_bytes_f o_starts_f o_sizes_f o_glyphStarts_f a1 a2 uu  (lp (L_Ff_kernOf_39 o_length o_pairs o_bytes_f o_starts_f) n) ih x3 x5 x6 ((e_Ff_kernOf_39 o_length o_pairs o_bytes_f o_starts_f n x3 x5 x6).symm.trans h)
  exact key fuel x3 x5 x6 H locs ls h
def P_Ff_kernOf (o_length : Int32) (o_pairs : Int32) (o_bytes_f : Nat → Int32) (o_starts_f : Nat → Int32) (a1 : Int32) (a2 : Int32) : Option (Int32) :=
  if a1 < 0 then (some (0 : Int32)) else (if (65535 : Int32) < a1 then (some (0 : Int32)) else (if a2 < 0 then (some (0 : Int32)) else (if a2 ≤ (65535 : Int32) then (P_Ff_kernOf_39 o_length o_pairs o_bytes_f o_starts_f (((a1.toInt64) <<< ((16 : Int32).toInt64 &&& 63)) ||| (a2.toInt64)) (0 : Int32) (1024 : Int32)) else (some (0 : Int32)))))
set_option maxHeartbeats 4000000 in
set_option maxRecDepth 100000 in
theorem c_Ff_kernOf (l : Launch) (dC : Nat → ClassId) (dI : Nat → Nat → Nat) (cy : Nat → ClassId) (sz : Nat) (o : Nat) (o_bytes : Nat) (o_starts : Nat) (o_sizes : Nat) (o_glyphStarts : Nat) (o_length : Int32) (o_units : Int32) (o_glyphs : Int32) (o_ascent : Int32) (o_descent : Int32) (o_gap : Int32) (o_longLoca : Int32) (o_metrics : Int32) (o_codes : Int32) (o_codesSize : Int32) (o_segments : Int32) (o_pairs : Int32) (o_bytes_f : Nat → Int32) (o_starts_f : Nat → Int32) (o_sizes_f : Nat → Int32) (o_glyphStarts_f : Nat → Int32) (a1 : Int32) (a2 : Int32) (uu : Int32) (h : P_Ff_kernOf o_length o_pairs o_bytes_f o_starts_f a1 a2 = some uu) : Met l y_Ff_kernOf (Cond.code y_Ff_kernOf b_Ff_kernOf 7 (some .int) :: G) ({ frames := 3, cells := 0, slots := 0, locals := 63 } : Room) (va_Pc [.ref o, .int a1, .int a2] (fun U => U.heap.size = sz ∧ va_P (dC, dI) classes [(o, .inr (7, [.ref o_bytes, .int o_length, .ref o_starts, .ref o_sizes, .ref o_glyphStarts, .int o_units, .int o_glyphs, .int o_ascent, .int o_descent, .int o_gap, .int o_longLoca, .int o_metrics, .int o_codes, .int o_codesSize, .int o_segments, .int o_pairs])), (o_bytes, .inl (cy 1, 4096, .inl o_bytes_f)), (o_starts, .inl (cy 0, 8, .inl o_starts_f)), (o_sizes, .inl (cy 0, 8, .inl o_sizes_f)), (o_glyphStarts, .inl (cy 0, 65, .inl o_glyphStarts_f))] U.heap ∧ va_K (dC, dI) classes (TY cy) U ∧ va_D (fun _ => True) [(o, .inr (7, [.ref o_bytes, .int o_length, .ref o_starts, .ref o_sizes, .ref o_glyphStarts, .int o_units, .int o_glyphs, .int o_ascent, .int o_descent, .int o_gap, .int o_longLoca, .int o_metrics, .int o_codes, .int o_codesSize, .int o_segments, .int o_pairs])), (o_bytes, .inl (cy 1, 4096, .inl o_bytes_f)), (o_starts, .inl (cy 0, 8, .inl o_starts_f)), (o_sizes, .inl (cy 0, 8, .inl o_sizes_f)), (o_glyphStarts, .inl (cy 0, 65, .inl o_glyphStarts_f))])) (va_Qi (fun r (_ : Unit) => r = uu) (fun _ t => va_P (dC, dI) classes [(o, .inr (7, [.ref o_bytes, .int o_length, .ref o_starts, .ref o_sizes, .ref o_glyphStarts, .int o_units, .int o_glyphs, .int o_ascent, .int o_descent, .int o_gap, .int o_longLoca, .int o_metrics, .int o_codes, .int o_codesSize, .int o_segments, .int o_pairs])), (o_bytes, .inl (cy 1, 4096, .inl o_bytes_f)), (o_starts, .inl (cy 0, 8, .inl o_starts_f)), (o_sizes, .inl (cy 0, 8, .inl o_sizes_f)), (o_glyphStarts, .inl (cy 0, 65, .inl o_glyphStarts_f))] t.heap ∧ va_K (dC, dI) classes (TY cy) t ∧ va_D (va_A [(o, .inr (7, [.ref o_bytes, .int o_length, .ref o_starts, .ref o_sizes, .ref o_glyphStarts, .int o_units, .int o_glyphs, .int o_ascent, .int o_descent, .int o_gap, .int o_longLoca, .int o_metrics, .int o_codes, .int o_codesSize, .int o_segments, .int o_pairs])), (o_bytes, .inl (cy 1, 4096, .inl o_bytes_f)), (o_starts, .inl (cy 0, 8, .inl o_starts_f)), (o_sizes, .inl (cy 0, 8, .inl o_sizes_f)), (o_glyphStarts, .inl (cy 0, 65, .inl o_glyphStarts_f))] sz) [(o, .inr (7, [.ref o_bytes, .int o_length, .ref o_starts, .ref o_sizes, .ref o_glyphStarts, .int o_units, .int o_glyphs, .int o_ascent, .int o_descent, .int o_gap, .int o_longLoca, .int o_metrics, .int o_codes, .int o_codesSize, .int o_segments, .int o_pairs])), (o_bytes, .inl (cy 1, 4096, .inl o_bytes_f)), (o_starts, .inl (cy 0, 8, .inl o_starts_f)), (o_sizes, .inl (cy 0, 8, .inl o_sizes_f)), (o_glyphStarts, .inl (cy 0, 65, .inl o_glyphStarts_f))]) (va_A [(o, .inr (7, [.ref o_bytes, .int o_length, .ref o_starts, .ref o_sizes, .ref o_glyphStarts, .int o_units, .int o_glyphs, .int o_ascent, .int o_descent, .int o_gap, .int o_longLoca, .int o_metrics, .int o_codes, .int o_codesSize, .int o_segments, .int o_pairs])), (o_bytes, .inl (cy 1, 4096, .inl o_bytes_f)), (o_starts, .inl (cy 0, 8, .inl o_starts_f)), (o_sizes, .inl (cy 0, 8, .inl o_sizes_f)), (o_glyphStarts, .inl (cy 0, 65, .inl o_glyphStarts_f))] sz)) 0 0 (va_A [(o, .inr (7, [.ref o_bytes, .int o_length, .ref o_starts, .ref o_sizes, .ref o_glyphStarts, .int o_units, .int o_glyphs, .int o_ascent, .int o_descent, .int o_gap, .int o_longLoca, .int o_metrics, .int o_codes, .int o_codesSize, .int o_segments, .int o_pairs])), (o_bytes, .inl (cy 1, 4096, .inl o_bytes_f)), (o_starts, .inl (cy 0, 8, .inl o_starts_f)), (o_sizes, .inl (cy 0, 8, .inl o_sizes_f)), (o_glyphStarts, .inl (cy 0, 65, .inl o_glyphStarts_f))] sz) := by
  refine Met.ofW (cc := b_Ff_kernOf) (maxL := 7) (ret := (some .int)) (by decide) rfl ?_
  intro p e s m args below meth c s₁ B hml hv
  obtain ⟨rfl, hsz, hP, hK, hD0⟩ := hv
  have hx := B.exec
  have hb := B.bytes
  have hr := B.returns
  have hts := atoms_spec (ws := Cond.code y_Ff_kernOf b_Ff_kernOf 7 (some .int) :: G) B.pre
  have htsG : ∀ w ∈ G, w.before _ s = true := fun w hw => hts w (List.mem_cons_of_mem _ hw)
  have hown : s.vm.findClass "GlyphPage$FontFile" = some m.cls := findClass_of_methodNamed B.named
  have hlocks := B.notSynchronized
  subst hsz
  have hD := hD0.self (sz := s.heap.size)
  generalize hAe : va_A [(o, .inr (7, [.ref o_bytes, .int o_length, .ref o_starts, .ref o_sizes, .ref o_glyphStarts, .int o_units, .int o_glyphs, .int o_ascent, .int o_descent, .int o_gap, .int o_longLoca, .int o_metrics, .int o_codes, .int o_codesSize, .int o_segments, .int o_pairs])), (o_bytes, .inl (cy 1, 4096, .inl o_bytes_f)), (o_starts, .inl (cy 0, 8, .inl o_starts_f)), (o_sizes, .inl (cy 0, 8, .inl o_sizes_f)), (o_glyphStarts, .inl (cy 0, 65, .inl o_glyphStarts_f))] s.heap.size = A at hD ⊢
  have hA : ∀ q : Nat, s.heap.size ≤ q → A q := fun q h => by rw [← hAe]; exact Or.inr h
  have hS : va_S A s.heap s.heap [] := va_S.rf
  have hl := lv_entry ([.ref o, .int a1, .int a2]) (n := 7) (Nat.le_of_ble_eq_true rfl)
  rw [lg_entry_eq]
  generalize (lg_sl ([.ref o, .int a1, .int a2]) ++ List.replicate (7 - (lg_sl ([.ref o, .int a1, .int a2])).length) Slot.unset).toArray = ls at hl ⊢
  have hl : lv_has ls 7 [(0, .ref o), (1, .int a1), (2, .int a2)] := hl
  have C0 : Cx p s m _ meth c A dC dI cy b_Ff_kernOf 7 (some .int) "GlyphPage$FontFile" := ⟨hx, hb, hr, hlocks, hml, hown, htsG, hA, hK⟩
  unfold P_Ff_kernOf at h
  refine lv_iload_n hx hb d_Ff_kernOf_0 rfl (lv_at hl 1 rfl) ?_
  refine lv_if_lt (tgt := 20) hx hb d_Ff_kernOf_1 (by decide) (fun c_1 => ?_) (fun c_1 => ?_)
  · replace h := (if_pos c_1).symm.trans h
    refine lv_iconst (v := (0 : Int32)) hx hb d_Ff_kernOf_20 (by decide) ?_
    cases h
    exact W.iret hx hb hr (fun t ht hW => ⟨⟨_, (), rfl, rfl, by rw [ht]; exact hP, va_K.moved hW.alike hK, hD⟩, hS.F ht⟩) hS.2.2 d_Ff_kernOf_21 hlocks
  · replace h := (if_neg c_1).symm.trans h
    refine lv_iload_n hx hb d_Ff_kernOf_4 rfl (lv_at hl 1 rfl) ?_
    refine lv_ldc hx hb hown (htsG _ mW533) d_Ff_kernOf_5 ?_
    refine lv_icmp_gt (tgt := 20) hx hb d_Ff_kernOf_7 (by decide) (fun c_2 => ?_) (fun c_2 => ?_)
    · replace h := (if_pos c_2).symm.trans h
      refine lv_iconst (v := (0 : Int32)) hx hb d_Ff_kernOf_20 (by decide) ?_
      cases h
      exact W.iret hx hb hr (fun t ht hW => ⟨⟨_, (), rfl, rfl, by rw [ht]; exact hP, va_K.moved hW.alike hK, hD⟩, hS.F ht⟩) hS.2.2 d_Ff_kernOf_21 hlocks
    · replace h := (if_neg c_2).symm.trans h
      refine lv_iload_n hx hb d_Ff_kernOf_10 rfl (lv_at hl 2 rfl) ?_
      refine lv_if_lt (tgt := 20) hx hb d_Ff_kernOf_11 (by decide) (fun c_3 => ?_) (fun c_3 => ?_)
      · replace h := (if_pos c_3).symm.trans h
        refine lv_iconst (v := (0 : Int32)) hx hb d_Ff_kernOf_20 (by decide) ?_
        cases h
        exact W.iret hx hb hr (fun t ht hW => ⟨⟨_, (), rfl, rfl, by rw [ht]; exact hP, va_K.moved hW.alike hK, hD⟩, hS.F ht⟩) hS.2.2 d_Ff_kernOf_21 hlocks
      · replace h := (if_neg c_3).symm.trans h
        refine lv_iload_n hx hb d_Ff_kernOf_14 rfl (lv_at hl 2 rfl) ?_
        refine lv_ldc hx hb hown (htsG _ mW533) d_Ff_kernOf_15 ?_
        refine lv_icmp_le (tgt := 22) hx hb d_Ff_kernOf_17 (by decide) (fun c_4 => ?_) (fun c_4 => ?_)
        · replace h := (if_pos c_4).symm.trans h
          refine lv_iload_n hx hb d_Ff_kernOf_22 rfl (lv_at hl 1 rfl) ?_
          refine lv_i2l hx hb d_Ff_kernOf_23 rfl ?_
          refine lv_bipush (v := (16 : Int32)) hx hb d_Ff_kernOf_24 (by decide) ?_
          refine lv_lshl hx hb d_Ff_kernOf_26 rfl ?_
          refine lv_iload_n hx hb d_Ff_kernOf_27 rfl (lv_at hl 2 rfl) ?_
          refine lv_i2l hx hb d_Ff_kernOf_28 rfl ?_
          refine lv_lor hx hb d_Ff_kernOf_29 ?_
          refine lv_lstore_n (lv' := [(3, .long (((a1.toInt64) <<< ((16 : Int32).toInt64 &&& 63)) ||| (a2.toInt64))), (0, .ref o), (1, .int a1), (2, .int a2)]) hx hb d_Ff_kernOf_30 rfl hl (by decide) rfl (fun ls hl => ?_)
          refine lv_iconst (v := (0 : Int32)) hx hb d_Ff_kernOf_31 (by decide) ?_
          refine lv_istore (lv' := [(5, .int (0 : Int32)), (3, .long (((a1.toInt64) <<< ((16 : Int32).toInt64 &&& 63)) ||| (a2.toInt64))), (0, .ref o), (1, .int a1), (2, .int a2)]) hx hb d_Ff_kernOf_32 hl (by decide) rfl (fun ls hl => ?_)
          refine lv_sipush (v := (1024 : Int32)) hx hb d_Ff_kernOf_34 (by decide) ?_
          refine lv_istore (lv' := [(6, .int (1024 : Int32)), (5, .int (0 : Int32)), (3, .long (((a1.toInt64) <<< ((16 : Int32).toInt64 &&& 63)) ||| (a2.toInt64))), (0, .ref o), (1, .int a1), (2, .int a2)]) hx hb d_Ff_kernOf_37 hl (by decide) rfl (fun ls hl => ?_)
          exact w_Ff_kernOf_39 C0 o o_bytes o_starts o_sizes o_glyphStarts o_length o_units o_glyphs o_ascent o_descent o_gap o_longLoca o_metrics o_codes o_codesSize o_segments o_pairs o_bytes_f o_starts_f o_sizes_f o_glyphStarts_f a1 a2 uu  (((a1.toInt64) <<< ((16 : Int32).toInt64 &&& 63)) ||| (a2.toInt64)) (0 : Int32) (1024 : Int32) h hP hD hS (lv_sub hl [3, 2, 1, 0] rfl)
        · replace h := (if_neg c_4).symm.trans h
          refine lv_iconst (v := (0 : Int32)) hx hb d_Ff_kernOf_20 (by decide) ?_
          cases h
          exact W.iret hx hb hr (fun t ht hW => ⟨⟨_, (), rfl, rfl, by rw [ht]; exact hP, va_K.moved hW.alike hK, hD⟩, hS.F ht⟩) hS.2.2 d_Ff_kernOf_21 hlocks
end
