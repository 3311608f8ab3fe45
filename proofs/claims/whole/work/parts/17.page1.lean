theorem mW1 : (Jvm.Cond.initialized "GlyphPage") ∈ G := inG (inT1 (List.mem_of_getElem? (i := 1) rfl)) rfl
theorem mW186 : (Jvm.Cond.fieldLink "GlyphPage" (157 : Nat) "GlyphPage$Lines" "begins" "[I") ∈ G := inG (inT1 (List.mem_of_getElem? (i := 186) rfl)) rfl
theorem mW188 : (Jvm.Cond.fieldLink "GlyphPage" (160 : Nat) "GlyphPage$Lines" "ends" "[I") ∈ G := inG (inT1 (List.mem_of_getElem? (i := 188) rfl)) rfl
theorem mW190 : (Jvm.Cond.fieldLink "GlyphPage" (168 : Nat) "GlyphPage$Lines" "widths" "[I") ∈ G := inG (inT1 (List.mem_of_getElem? (i := 190) rfl)) rfl
theorem mW192 : (Jvm.Cond.fieldLink "GlyphPage" (154 : Nat) "GlyphPage$Lines" "count" "I") ∈ G := inG (inT1 (List.mem_of_getElem? (i := 192) rfl)) rfl
theorem mW226 : (Jvm.Cond.fieldLink "GlyphPage" (171 : Nat) "GlyphPage$Page" "width" "I") ∈ G := inG (inT1 (List.mem_of_getElem? (i := 226) rfl)) rfl
theorem mW228 : (Jvm.Cond.fieldLink "GlyphPage" (174 : Nat) "GlyphPage$Page" "height" "I") ∈ G := inG (inT1 (List.mem_of_getElem? (i := 228) rfl)) rfl
theorem mW230 : (Jvm.Cond.fieldLink "GlyphPage" (177 : Nat) "GlyphPage$Page" "rows" "[J") ∈ G := inG (inT1 (List.mem_of_getElem? (i := 230) rfl)) rfl
theorem mW246 : (Jvm.Cond.fieldLink "GlyphPage" (62 : Nat) "GlyphPage" "page" "LGlyphPage$Page;") ∈ G := inG (inT2 (List.mem_of_getElem? (i := 6) rfl)) rfl
theorem mW249 : (Jvm.Cond.fieldLink "GlyphPage" (26 : Nat) "GlyphPage" "lines" "LGlyphPage$Lines;") ∈ G := inG (inT2 (List.mem_of_getElem? (i := 9) rfl)) rfl
theorem mW250 : (Jvm.Cond.fieldLink "GlyphPage" (30 : Nat) "GlyphPage" "tape" "[B") ∈ G := inG (inT2 (List.mem_of_getElem? (i := 10) rfl)) rfl
theorem mW252 : (Jvm.Cond.fieldLink "GlyphPage" (37 : Nat) "GlyphPage" "tapeLength" "I") ∈ G := inG (inT2 (List.mem_of_getElem? (i := 12) rfl)) rfl
theorem mW253 : (Jvm.Cond.fieldLink "GlyphPage" (41 : Nat) "GlyphPage" "face" "LGlyphPage$FontFile;") ∈ G := inG (inT2 (List.mem_of_getElem? (i := 13) rfl)) rfl
theorem mW254 : (Jvm.Cond.fieldLink "GlyphPage" (45 : Nat) "GlyphPage" "pixels" "I") ∈ G := inG (inT2 (List.mem_of_getElem? (i := 14) rfl)) rfl
theorem mW278 : (Jvm.Cond.methodLink "GlyphPage" (66 : Nat) ({ cls := "GlyphPage", name := "append", desc := "(I)V" } : Jvm.MethodName)) ∈ G := inG (inT2 (List.mem_of_getElem? (i := 38) rfl)) rfl
theorem mW280 : (Jvm.Cond.instanceMethod ({ cls := "GlyphPage", name := "append", desc := "(I)V" } : Jvm.MethodName)) ∈ G := inG (inT2 (List.mem_of_getElem? (i := 40) rfl)) rfl
theorem mW281 : (Jvm.Cond.code ({ cls := "GlyphPage", name := "append", desc := "(I)V" } : Jvm.MethodName) prog_1_method_19_code (3 : Nat) (Option.none : Option Jvm.ClassFile.FieldType)) ∈ G := inG (inT2 (List.mem_of_getElem? (i := 41) rfl)) rfl
theorem mW308 : (Jvm.Cond.fieldLink "GlyphPage" (84 : Nat) "GlyphPage$FontFile" "units" "I") ∈ G := inG (inT2 (List.mem_of_getElem? (i := 68) rfl)) rfl
theorem mW311 : (Jvm.Cond.fieldLink "GlyphPage" (87 : Nat) "GlyphPage$FontFile" "glyphs" "I") ∈ G := inG (inT2 (List.mem_of_getElem? (i := 71) rfl)) rfl
theorem mW313 : (Jvm.Cond.fieldLink "GlyphPage" (90 : Nat) "GlyphPage$FontFile" "ascent" "I") ∈ G := inG (inT2 (List.mem_of_getElem? (i := 73) rfl)) rfl
theorem mW315 : (Jvm.Cond.fieldLink "GlyphPage" (93 : Nat) "GlyphPage$FontFile" "descent" "I") ∈ G := inG (inT2 (List.mem_of_getElem? (i := 75) rfl)) rfl
theorem mW317 : (Jvm.Cond.fieldLink "GlyphPage" (96 : Nat) "GlyphPage$FontFile" "gap" "I") ∈ G := inG (inT2 (List.mem_of_getElem? (i := 77) rfl)) rfl
theorem mW524 : (Jvm.Cond.constant "GlyphPage" (79 : Nat) (65535 : Int32)) ∈ G := inG (inT3 (List.mem_of_getElem? (i := 44) rfl)) rfl
theorem mW525 : (Jvm.Cond.methodLink "GlyphPage" (80 : Nat) ({ cls := "GlyphPage$FontFile", name := "glyphOf", desc := "(I)I" } : Jvm.MethodName)) ∈ G := inG (inT3 (List.mem_of_getElem? (i := 45) rfl)) rfl
theorem mW542 : (Jvm.Cond.methodLink "GlyphPage" (99 : Nat) ({ cls := "GlyphPage", name := "takesShape", desc := "(I)Z" } : Jvm.MethodName)) ∈ G := inG (inT3 (List.mem_of_getElem? (i := 62) rfl)) rfl
theorem mW544 : (Jvm.Cond.instanceMethod ({ cls := "GlyphPage", name := "takesShape", desc := "(I)Z" } : Jvm.MethodName)) ∈ G := inG (inT3 (List.mem_of_getElem? (i := 64) rfl)) rfl
theorem mW545 : (Jvm.Cond.code ({ cls := "GlyphPage", name := "takesShape", desc := "(I)Z" } : Jvm.MethodName) prog_1_method_20_code (2 : Nat) (Option.some Jvm.ClassFile.FieldType.boolean)) ∈ G := inG (inT3 (List.mem_of_getElem? (i := 65) rfl)) rfl
theorem mW552 : (Jvm.Cond.constant "GlyphPage" (112 : Nat) (100000 : Int32)) ∈ G := inG (inT3 (List.mem_of_getElem? (i := 72) rfl)) rfl
theorem mW561 : (Jvm.Cond.methodLink "GlyphPage" (127 : Nat) ({ cls := "GlyphPage$FontFile", name := "kernOf", desc := "(II)I" } : Jvm.MethodName)) ∈ G := inG (inT3 (List.mem_of_getElem? (i := 81) rfl)) rfl
theorem mW569 : (Jvm.Cond.methodLink "GlyphPage" (130 : Nat) ({ cls := "GlyphPage$Curves", name := "isNear", desc := "(I)Z" } : Jvm.MethodName)) ∈ G := inG (inT3 (List.mem_of_getElem? (i := 89) rfl)) rfl
theorem mW744 : (Jvm.Cond.methodLink "GlyphPage" (181 : Nat) ({ cls := "GlyphPage$Page", name := "countSet", desc := "()I" } : Jvm.MethodName)) ∈ G := inG (inT4 (List.mem_of_getElem? (i := 24) rfl)) rfl
theorem mW745 : (Jvm.Cond.instanceMethod ({ cls := "GlyphPage$Page", name := "countSet", desc := "()I" } : Jvm.MethodName)) ∈ G := inG (inT4 (List.mem_of_getElem? (i := 25) rfl)) rfl
theorem mW746 : (Jvm.Cond.selects "GlyphPage$Page" ({ cls := "GlyphPage$Page", name := "countSet", desc := "()I" } : Jvm.MethodName) ({ cls := "GlyphPage$Page", name := "countSet", desc := "()I" } : Jvm.MethodName)) ∈ G := inG (inT4 (List.mem_of_getElem? (i := 26) rfl)) rfl
theorem mW747 : (Jvm.Cond.code ({ cls := "GlyphPage$Page", name := "countSet", desc := "()I" } : Jvm.MethodName) prog_5_method_2_code (3 : Nat) (Option.some Jvm.ClassFile.FieldType.int)) ∈ G := inG (inT4 (List.mem_of_getElem? (i := 27) rfl)) rfl
theorem mW752 : (Jvm.Cond.methodLink "GlyphPage" (185 : Nat) ({ cls := "GlyphPage$Page", name := "wipe", desc := "()V" } : Jvm.MethodName)) ∈ G := inG (inT4 (List.mem_of_getElem? (i := 32) rfl)) rfl
theorem mW753 : (Jvm.Cond.instanceMethod ({ cls := "GlyphPage$Page", name := "wipe", desc := "()V" } : Jvm.MethodName)) ∈ G := inG (inT4 (List.mem_of_getElem? (i := 33) rfl)) rfl
theorem mW754 : (Jvm.Cond.selects "GlyphPage$Page" ({ cls := "GlyphPage$Page", name := "wipe", desc := "()V" } : Jvm.MethodName) ({ cls := "GlyphPage$Page", name := "wipe", desc := "()V" } : Jvm.MethodName)) ∈ G := inG (inT4 (List.mem_of_getElem? (i := 34) rfl)) rfl
theorem mW755 : (Jvm.Cond.code ({ cls := "GlyphPage$Page", name := "wipe", desc := "()V" } : Jvm.MethodName) prog_5_method_3_code (1 : Nat) (Option.none : Option Jvm.ClassFile.FieldType)) ∈ G := inG (inT4 (List.mem_of_getElem? (i := 35) rfl)) rfl
theorem mS_Gp_append : Cond.selects "GlyphPage" ⟨"GlyphPage", "append", "(I)V"⟩ ⟨"GlyphPage", "append", "(I)V"⟩ ∈ G := inGp (q := (⟨"GlyphPage", "append", "(I)V"⟩, 9)) (List.mem_append_left _ (List.mem_of_getElem? (i := 0) rfl)) rfl
theorem mS_Gp_takesShape : Cond.selects "GlyphPage" ⟨"GlyphPage", "takesShape", "(I)Z"⟩ ⟨"GlyphPage", "takesShape", "(I)Z"⟩ ∈ G := inGp (q := (⟨"GlyphPage", "takesShape", "(I)Z"⟩, 9)) (List.mem_append_right _ (List.mem_append_left _ (List.mem_of_getElem? (i := 10) rfl))) rfl
abbrev b_Gp_append : ByteArray := prog_1_method_19_code
def y_Gp_append : MethodName := ⟨"GlyphPage", "append", "(I)V"⟩
theorem d_Gp_append_0 : decode b_Gp_append 0 = .ok (.bipush 24, 2) := by decide +kernel
theorem d_Gp_append_2 : decode b_Gp_append 2 = .ok (.istore_n 2, 1) := by decide +kernel
theorem d_Gp_append_3 : decode b_Gp_append 3 = .ok (.iload_n 2, 1) := by decide +kernel
theorem d_Gp_append_4 : decode b_Gp_append 4 = .ok (.ifCond .lt 39, 3) := by decide +kernel
theorem d_Gp_append_7 : decode b_Gp_append 7 = .ok (.aload_n 0, 1) := by decide +kernel
theorem d_Gp_append_8 : decode b_Gp_append 8 = .ok (.getfield 37, 3) := by decide +kernel
theorem d_Gp_append_11 : decode b_Gp_append 11 = .ok (.sipush 4096, 3) := by decide +kernel
theorem d_Gp_append_14 : decode b_Gp_append 14 = .ok (.if_icmp .ge 23, 3) := by decide +kernel
theorem d_Gp_append_17 : decode b_Gp_append 17 = .ok (.aload_n 0, 1) := by decide +kernel
theorem d_Gp_append_18 : decode b_Gp_append 18 = .ok (.getfield 30, 3) := by decide +kernel
theorem d_Gp_append_21 : decode b_Gp_append 21 = .ok (.aload_n 0, 1) := by decide +kernel
theorem d_Gp_append_22 : decode b_Gp_append 22 = .ok (.dup, 1) := by decide +kernel
theorem d_Gp_append_23 : decode b_Gp_append 23 = .ok (.getfield 37, 3) := by decide +kernel
theorem d_Gp_append_26 : decode b_Gp_append 26 = .ok (.dup_x1, 1) := by decide +kernel
theorem d_Gp_append_27 : decode b_Gp_append 27 = .ok (.iconst 1, 1) := by decide +kernel
theorem d_Gp_append_28 : decode b_Gp_append 28 = .ok (.iadd, 1) := by decide +kernel
theorem d_Gp_append_29 : decode b_Gp_append 29 = .ok (.putfield 37, 3) := by decide +kernel
theorem d_Gp_append_32 : decode b_Gp_append 32 = .ok (.iload_n 1, 1) := by decide +kernel
theorem d_Gp_append_33 : decode b_Gp_append 33 = .ok (.iload_n 2, 1) := by decide +kernel
theorem d_Gp_append_34 : decode b_Gp_append 34 = .ok (.ishr, 1) := by decide +kernel
theorem d_Gp_append_35 : decode b_Gp_append 35 = .ok (.i2b, 1) := by decide +kernel
theorem d_Gp_append_36 : decode b_Gp_append 36 = .ok (.bastore, 1) := by decide +kernel
theorem d_Gp_append_37 : decode b_Gp_append 37 = .ok (.iinc 2 (-8), 3) := by decide +kernel
theorem d_Gp_append_40 : decode b_Gp_append 40 = .ok (.goto (-37), 3) := by decide +kernel
theorem d_Gp_append_43 : decode b_Gp_append 43 = .ok (.return_, 1) := by decide +kernel
abbrev b_Gp_feed : ByteArray := prog_1_method_2_code
def y_Gp_feed : MethodName := ⟨"GlyphPage", "feed", "(IIIII)I"⟩
theorem d_Gp_feed_0 : decode b_Gp_feed 0 = .ok (.aload_n 0, 1) := by decide +kernel
theorem d_Gp_feed_1 : decode b_Gp_feed 1 = .ok (.getfield 37, 3) := by decide +kernel
theorem d_Gp_feed_4 : decode b_Gp_feed 4 = .ok (.bipush 20, 2) := by decide +kernel
theorem d_Gp_feed_6 : decode b_Gp_feed 6 = .ok (.iadd, 1) := by decide +kernel
theorem d_Gp_feed_7 : decode b_Gp_feed 7 = .ok (.sipush 4096, 3) := by decide +kernel
theorem d_Gp_feed_10 : decode b_Gp_feed 10 = .ok (.if_icmp .le 6, 3) := by decide +kernel
theorem d_Gp_feed_13 : decode b_Gp_feed 13 = .ok (.bipush (-3), 2) := by decide +kernel
theorem d_Gp_feed_15 : decode b_Gp_feed 15 = .ok (.ireturn, 1) := by decide +kernel
theorem d_Gp_feed_16 : decode b_Gp_feed 16 = .ok (.aload_n 0, 1) := by decide +kernel
theorem d_Gp_feed_17 : decode b_Gp_feed 17 = .ok (.iload_n 1, 1) := by decide +kernel
theorem d_Gp_feed_18 : decode b_Gp_feed 18 = .ok (.invokevirtual 66, 3) := by decide +kernel
theorem d_Gp_feed_21 : decode b_Gp_feed 21 = .ok (.aload_n 0, 1) := by decide +kernel
theorem d_Gp_feed_22 : decode b_Gp_feed 22 = .ok (.iload_n 2, 1) := by decide +kernel
theorem d_Gp_feed_23 : decode b_Gp_feed 23 = .ok (.invokevirtual 66, 3) := by decide +kernel
theorem d_Gp_feed_26 : decode b_Gp_feed 26 = .ok (.aload_n 0, 1) := by decide +kernel
theorem d_Gp_feed_27 : decode b_Gp_feed 27 = .ok (.iload_n 3, 1) := by decide +kernel
theorem d_Gp_feed_28 : decode b_Gp_feed 28 = .ok (.invokevirtual 66, 3) := by decide +kernel
theorem d_Gp_feed_31 : decode b_Gp_feed 31 = .ok (.aload_n 0, 1) := by decide +kernel
theorem d_Gp_feed_32 : decode b_Gp_feed 32 = .ok (.iload 4, 2) := by decide +kernel
theorem d_Gp_feed_34 : decode b_Gp_feed 34 = .ok (.invokevirtual 66, 3) := by decide +kernel
theorem d_Gp_feed_37 : decode b_Gp_feed 37 = .ok (.aload_n 0, 1) := by decide +kernel
theorem d_Gp_feed_38 : decode b_Gp_feed 38 = .ok (.iload 5, 2) := by decide +kernel
theorem d_Gp_feed_40 : decode b_Gp_feed 40 = .ok (.invokevirtual 66, 3) := by decide +kernel
theorem d_Gp_feed_43 : decode b_Gp_feed 43 = .ok (.aload_n 0, 1) := by decide +kernel
theorem d_Gp_feed_44 : decode b_Gp_feed 44 = .ok (.getfield 37, 3) := by decide +kernel
theorem d_Gp_feed_47 : decode b_Gp_feed 47 = .ok (.ireturn, 1) := by decide +kernel
abbrev b_Gp_end : ByteArray := prog_1_method_3_code
def y_Gp_end : MethodName := ⟨"GlyphPage", "end", "(I)I"⟩
theorem d_Gp_end_0 : decode b_Gp_end 0 = .ok (.iload_n 1, 1) := by decide +kernel
theorem d_Gp_end_1 : decode b_Gp_end 1 = .ok (.ifCond .lt 11, 3) := by decide +kernel
theorem d_Gp_end_4 : decode b_Gp_end 4 = .ok (.iload_n 1, 1) := by decide +kernel
theorem d_Gp_end_5 : decode b_Gp_end 5 = .ok (.aload_n 0, 1) := by decide +kernel
theorem d_Gp_end_6 : decode b_Gp_end 6 = .ok (.getfield 37, 3) := by decide +kernel
theorem d_Gp_end_9 : decode b_Gp_end 9 = .ok (.if_icmp .le 5, 3) := by decide +kernel
theorem d_Gp_end_12 : decode b_Gp_end 12 = .ok (.iconst (-1), 1) := by decide +kernel
theorem d_Gp_end_13 : decode b_Gp_end 13 = .ok (.ireturn, 1) := by decide +kernel
theorem d_Gp_end_14 : decode b_Gp_end 14 = .ok (.aload_n 0, 1) := by decide +kernel
theorem d_Gp_end_15 : decode b_Gp_end 15 = .ok (.iload_n 1, 1) := by decide +kernel
theorem d_Gp_end_16 : decode b_Gp_end 16 = .ok (.putfield 37, 3) := by decide +kernel
theorem d_Gp_end_19 : decode b_Gp_end 19 = .ok (.iload_n 1, 1) := by decide +kernel
theorem d_Gp_end_20 : decode b_Gp_end 20 = .ok (.ireturn, 1) := by decide +kernel
abbrev b_Gp_size : ByteArray := prog_1_method_5_code
def y_Gp_size : MethodName := ⟨"GlyphPage", "size", "(I)I"⟩
theorem d_Gp_size_0 : decode b_Gp_size 0 = .ok (.iload_n 1, 1) := by decide +kernel
theorem d_Gp_size_1 : decode b_Gp_size 1 = .ok (.iconst 4, 1) := by decide +kernel
theorem d_Gp_size_2 : decode b_Gp_size 2 = .ok (.if_icmp .lt 9, 3) := by decide +kernel
theorem d_Gp_size_5 : decode b_Gp_size 5 = .ok (.iload_n 1, 1) := by decide +kernel
theorem d_Gp_size_6 : decode b_Gp_size 6 = .ok (.bipush 64, 2) := by decide +kernel
theorem d_Gp_size_8 : decode b_Gp_size 8 = .ok (.if_icmp .le 5, 3) := by decide +kernel
theorem d_Gp_size_11 : decode b_Gp_size 11 = .ok (.iconst (-1), 1) := by decide +kernel
theorem d_Gp_size_12 : decode b_Gp_size 12 = .ok (.ireturn, 1) := by decide +kernel
theorem d_Gp_size_13 : decode b_Gp_size 13 = .ok (.aload_n 0, 1) := by decide +kernel
theorem d_Gp_size_14 : decode b_Gp_size 14 = .ok (.getfield 45, 3) := by decide +kernel
theorem d_Gp_size_17 : decode b_Gp_size 17 = .ok (.istore_n 2, 1) := by decide +kernel
theorem d_Gp_size_18 : decode b_Gp_size 18 = .ok (.aload_n 0, 1) := by decide +kernel
theorem d_Gp_size_19 : decode b_Gp_size 19 = .ok (.iload_n 1, 1) := by decide +kernel
theorem d_Gp_size_20 : decode b_Gp_size 20 = .ok (.putfield 45, 3) := by decide +kernel
theorem d_Gp_size_23 : decode b_Gp_size 23 = .ok (.iload_n 2, 1) := by decide +kernel
theorem d_Gp_size_24 : decode b_Gp_size 24 = .ok (.ireturn, 1) := by decide +kernel
abbrev b_Gp_glyph : ByteArray := prog_1_method_6_code
def y_Gp_glyph : MethodName := ⟨"GlyphPage", "glyph", "(I)I"⟩
theorem d_Gp_glyph_0 : decode b_Gp_glyph 0 = .ok (.iload_n 1, 1) := by decide +kernel
theorem d_Gp_glyph_1 : decode b_Gp_glyph 1 = .ok (.ifCond .lt 9, 3) := by decide +kernel
theorem d_Gp_glyph_4 : decode b_Gp_glyph 4 = .ok (.iload_n 1, 1) := by decide +kernel
theorem d_Gp_glyph_5 : decode b_Gp_glyph 5 = .ok (.ldc 79, 2) := by decide +kernel
theorem d_Gp_glyph_7 : decode b_Gp_glyph 7 = .ok (.if_icmp .le 5, 3) := by decide +kernel
theorem d_Gp_glyph_10 : decode b_Gp_glyph 10 = .ok (.iconst (-1), 1) := by decide +kernel
theorem d_Gp_glyph_11 : decode b_Gp_glyph 11 = .ok (.ireturn, 1) := by decide +kernel
theorem d_Gp_glyph_12 : decode b_Gp_glyph 12 = .ok (.aload_n 0, 1) := by decide +kernel
theorem d_Gp_glyph_13 : decode b_Gp_glyph 13 = .ok (.getfield 41, 3) := by decide +kernel
theorem d_Gp_glyph_16 : decode b_Gp_glyph 16 = .ok (.ifnonnull 8, 3) := by decide +kernel
theorem d_Gp_glyph_19 : decode b_Gp_glyph 19 = .ok (.bipush (-2), 2) := by decide +kernel
theorem d_Gp_glyph_21 : decode b_Gp_glyph 21 = .ok (.goto 11, 3) := by decide +kernel
theorem d_Gp_glyph_24 : decode b_Gp_glyph 24 = .ok (.aload_n 0, 1) := by decide +kernel
theorem d_Gp_glyph_25 : decode b_Gp_glyph 25 = .ok (.getfield 41, 3) := by decide +kernel
theorem d_Gp_glyph_28 : decode b_Gp_glyph 28 = .ok (.iload_n 1, 1) := by decide +kernel
theorem d_Gp_glyph_29 : decode b_Gp_glyph 29 = .ok (.invokevirtual 80, 3) := by decide +kernel
theorem d_Gp_glyph_32 : decode b_Gp_glyph 32 = .ok (.ireturn, 1) := by decide +kernel
abbrev b_Gp_metric : ByteArray := prog_1_method_7_code
def y_Gp_metric : MethodName := ⟨"GlyphPage", "metric", "(I)I"⟩
theorem d_Gp_metric_0 : decode b_Gp_metric 0 = .ok (.iload_n 1, 1) := by decide +kernel
theorem d_Gp_metric_1 : decode b_Gp_metric 1 = .ok (.ifCond .lt 8, 3) := by decide +kernel
theorem d_Gp_metric_4 : decode b_Gp_metric 4 = .ok (.iload_n 1, 1) := by decide +kernel
theorem d_Gp_metric_5 : decode b_Gp_metric 5 = .ok (.iconst 4, 1) := by decide +kernel
theorem d_Gp_metric_6 : decode b_Gp_metric 6 = .ok (.if_icmp .le 5, 3) := by decide +kernel
theorem d_Gp_metric_9 : decode b_Gp_metric 9 = .ok (.iconst (-1), 1) := by decide +kernel
theorem d_Gp_metric_10 : decode b_Gp_metric 10 = .ok (.ireturn, 1) := by decide +kernel
theorem d_Gp_metric_11 : decode b_Gp_metric 11 = .ok (.aload_n 0, 1) := by decide +kernel
theorem d_Gp_metric_12 : decode b_Gp_metric 12 = .ok (.getfield 41, 3) := by decide +kernel
theorem d_Gp_metric_15 : decode b_Gp_metric 15 = .ok (.ifnonnull 15, 3) := by decide +kernel
theorem d_Gp_metric_18 : decode b_Gp_metric 18 = .ok (.iload_n 1, 1) := by decide +kernel
theorem d_Gp_metric_19 : decode b_Gp_metric 19 = .ok (.iconst 2, 1) := by decide +kernel
theorem d_Gp_metric_20 : decode b_Gp_metric 20 = .ok (.if_icmp .ge 8, 3) := by decide +kernel
theorem d_Gp_metric_23 : decode b_Gp_metric 23 = .ok (.bipush (-2), 2) := by decide +kernel
theorem d_Gp_metric_25 : decode b_Gp_metric 25 = .ok (.goto 4, 3) := by decide +kernel
theorem d_Gp_metric_28 : decode b_Gp_metric 28 = .ok (.iconst 0, 1) := by decide +kernel
theorem d_Gp_metric_29 : decode b_Gp_metric 29 = .ok (.ireturn, 1) := by decide +kernel
theorem d_Gp_metric_30 : decode b_Gp_metric 30 = .ok (.iload_n 1, 1) := by decide +kernel
theorem d_Gp_metric_31 : decode b_Gp_metric 31 = .ok (.tableswitch 61 0 3 #[29, 37, 45, 53], 29) := by decide +kernel
theorem d_Gp_metric_60 : decode b_Gp_metric 60 = .ok (.aload_n 0, 1) := by decide +kernel
theorem d_Gp_metric_61 : decode b_Gp_metric 61 = .ok (.getfield 41, 3) := by decide +kernel
theorem d_Gp_metric_64 : decode b_Gp_metric 64 = .ok (.getfield 84, 3) := by decide +kernel
theorem d_Gp_metric_67 : decode b_Gp_metric 67 = .ok (.ireturn, 1) := by decide +kernel
theorem d_Gp_metric_68 : decode b_Gp_metric 68 = .ok (.aload_n 0, 1) := by decide +kernel
theorem d_Gp_metric_69 : decode b_Gp_metric 69 = .ok (.getfield 41, 3) := by decide +kernel
theorem d_Gp_metric_72 : decode b_Gp_metric 72 = .ok (.getfield 87, 3) := by decide +kernel
theorem d_Gp_metric_75 : decode b_Gp_metric 75 = .ok (.ireturn, 1) := by decide +kernel
theorem d_Gp_metric_76 : decode b_Gp_metric 76 = .ok (.aload_n 0, 1) := by decide +kernel
theorem d_Gp_metric_77 : decode b_Gp_metric 77 = .ok (.getfield 41, 3) := by decide +kernel
theorem d_Gp_metric_80 : decode b_Gp_metric 80 = .ok (.getfield 90, 3) := by decide +kernel
theorem d_Gp_metric_83 : decode b_Gp_metric 83 = .ok (.ireturn, 1) := by decide +kernel
theorem d_Gp_metric_84 : decode b_Gp_metric 84 = .ok (.aload_n 0, 1) := by decide +kernel
theorem d_Gp_metric_85 : decode b_Gp_metric 85 = .ok (.getfield 41, 3) := by decide +kernel
theorem d_Gp_metric_88 : decode b_Gp_metric 88 = .ok (.getfield 93, 3) := by decide +kernel
theorem d_Gp_metric_91 : decode b_Gp_metric 91 = .ok (.ireturn, 1) := by decide +kernel
theorem d_Gp_metric_92 : decode b_Gp_metric 92 = .ok (.aload_n 0, 1) := by decide +kernel
theorem d_Gp_metric_93 : decode b_Gp_metric 93 = .ok (.getfield 41, 3) := by decide +kernel
theorem d_Gp_metric_96 : decode b_Gp_metric 96 = .ok (.getfield 96, 3) := by decide +kernel
theorem d_Gp_metric_99 : decode b_Gp_metric 99 = .ok (.ireturn, 1) := by decide +kernel
abbrev b_Gp_kern : ByteArray := prog_1_method_10_code
def y_Gp_kern : MethodName := ⟨"GlyphPage", "kern", "(II)I"⟩
theorem d_Gp_kern_0 : decode b_Gp_kern 0 = .ok (.aload_n 0, 1) := by decide +kernel
theorem d_Gp_kern_1 : decode b_Gp_kern 1 = .ok (.getfield 41, 3) := by decide +kernel
theorem d_Gp_kern_4 : decode b_Gp_kern 4 = .ok (.ifnonnull 7, 3) := by decide +kernel
theorem d_Gp_kern_7 : decode b_Gp_kern 7 = .ok (.iconst 0, 1) := by decide +kernel
theorem d_Gp_kern_8 : decode b_Gp_kern 8 = .ok (.goto 12, 3) := by decide +kernel
theorem d_Gp_kern_11 : decode b_Gp_kern 11 = .ok (.aload_n 0, 1) := by decide +kernel
theorem d_Gp_kern_12 : decode b_Gp_kern 12 = .ok (.getfield 41, 3) := by decide +kernel
theorem d_Gp_kern_15 : decode b_Gp_kern 15 = .ok (.iload_n 1, 1) := by decide +kernel
theorem d_Gp_kern_16 : decode b_Gp_kern 16 = .ok (.iload_n 2, 1) := by decide +kernel
theorem d_Gp_kern_17 : decode b_Gp_kern 17 = .ok (.invokevirtual 127, 3) := by decide +kernel
theorem d_Gp_kern_20 : decode b_Gp_kern 20 = .ok (.ireturn, 1) := by decide +kernel
abbrev b_Gp_line : ByteArray := prog_1_method_14_code
def y_Gp_line : MethodName := ⟨"GlyphPage", "line", "(II)I"⟩
theorem d_Gp_line_0 : decode b_Gp_line 0 = .ok (.iload_n 2, 1) := by decide +kernel
theorem d_Gp_line_1 : decode b_Gp_line 1 = .ok (.ifCond .lt 8, 3) := by decide +kernel
theorem d_Gp_line_4 : decode b_Gp_line 4 = .ok (.iload_n 2, 1) := by decide +kernel
theorem d_Gp_line_5 : decode b_Gp_line 5 = .ok (.iconst 2, 1) := by decide +kernel
theorem d_Gp_line_6 : decode b_Gp_line 6 = .ok (.if_icmp .le 5, 3) := by decide +kernel
theorem d_Gp_line_9 : decode b_Gp_line 9 = .ok (.iconst (-1), 1) := by decide +kernel
theorem d_Gp_line_10 : decode b_Gp_line 10 = .ok (.ireturn, 1) := by decide +kernel
theorem d_Gp_line_11 : decode b_Gp_line 11 = .ok (.iload_n 1, 1) := by decide +kernel
theorem d_Gp_line_12 : decode b_Gp_line 12 = .ok (.ifCond .lt 14, 3) := by decide +kernel
theorem d_Gp_line_15 : decode b_Gp_line 15 = .ok (.iload_n 1, 1) := by decide +kernel
theorem d_Gp_line_16 : decode b_Gp_line 16 = .ok (.aload_n 0, 1) := by decide +kernel
theorem d_Gp_line_17 : decode b_Gp_line 17 = .ok (.getfield 26, 3) := by decide +kernel
theorem d_Gp_line_20 : decode b_Gp_line 20 = .ok (.getfield 154, 3) := by decide +kernel
theorem d_Gp_line_23 : decode b_Gp_line 23 = .ok (.if_icmp .lt 6, 3) := by decide +kernel
theorem d_Gp_line_26 : decode b_Gp_line 26 = .ok (.bipush (-2), 2) := by decide +kernel
theorem d_Gp_line_28 : decode b_Gp_line 28 = .ok (.ireturn, 1) := by decide +kernel
theorem d_Gp_line_29 : decode b_Gp_line 29 = .ok (.iload_n 2, 1) := by decide +kernel
theorem d_Gp_line_30 : decode b_Gp_line 30 = .ok (.ifCond .ne 13, 3) := by decide +kernel
theorem d_Gp_line_33 : decode b_Gp_line 33 = .ok (.aload_n 0, 1) := by decide +kernel
theorem d_Gp_line_34 : decode b_Gp_line 34 = .ok (.getfield 26, 3) := by decide +kernel
theorem d_Gp_line_37 : decode b_Gp_line 37 = .ok (.getfield 157, 3) := by decide +kernel
theorem d_Gp_line_40 : decode b_Gp_line 40 = .ok (.iload_n 1, 1) := by decide +kernel
theorem d_Gp_line_41 : decode b_Gp_line 41 = .ok (.iaload, 1) := by decide +kernel
theorem d_Gp_line_42 : decode b_Gp_line 42 = .ok (.ireturn, 1) := by decide +kernel
theorem d_Gp_line_43 : decode b_Gp_line 43 = .ok (.iload_n 2, 1) := by decide +kernel
theorem d_Gp_line_44 : decode b_Gp_line 44 = .ok (.iconst 1, 1) := by decide +kernel
theorem d_Gp_line_45 : decode b_Gp_line 45 = .ok (.if_icmp .ne 15, 3) := by decide +kernel
theorem d_Gp_line_48 : decode b_Gp_line 48 = .ok (.aload_n 0, 1) := by decide +kernel
theorem d_Gp_line_49 : decode b_Gp_line 49 = .ok (.getfield 26, 3) := by decide +kernel
theorem d_Gp_line_52 : decode b_Gp_line 52 = .ok (.getfield 160, 3) := by decide +kernel
theorem d_Gp_line_55 : decode b_Gp_line 55 = .ok (.iload_n 1, 1) := by decide +kernel
theorem d_Gp_line_56 : decode b_Gp_line 56 = .ok (.iaload, 1) := by decide +kernel
theorem d_Gp_line_57 : decode b_Gp_line 57 = .ok (.goto 12, 3) := by decide +kernel
theorem d_Gp_line_60 : decode b_Gp_line 60 = .ok (.aload_n 0, 1) := by decide +kernel
theorem d_Gp_line_61 : decode b_Gp_line 61 = .ok (.getfield 26, 3) := by decide +kernel
theorem d_Gp_line_64 : decode b_Gp_line 64 = .ok (.getfield 168, 3) := by decide +kernel
theorem d_Gp_line_67 : decode b_Gp_line 67 = .ok (.iload_n 1, 1) := by decide +kernel
theorem d_Gp_line_68 : decode b_Gp_line 68 = .ok (.iaload, 1) := by decide +kernel
theorem d_Gp_line_69 : decode b_Gp_line 69 = .ok (.ireturn, 1) := by decide +kernel
abbrev b_Gp_pixel : ByteArray := prog_1_method_15_code
def y_Gp_pixel : MethodName := ⟨"GlyphPage", "pixel", "(II)I"⟩
theorem d_Gp_pixel_0 : decode b_Gp_pixel 0 = .ok (.iload_n 1, 1) := by decide +kernel
theorem d_Gp_pixel_1 : decode b_Gp_pixel 1 = .ok (.ifCond .lt 29, 3) := by decide +kernel
theorem d_Gp_pixel_4 : decode b_Gp_pixel 4 = .ok (.iload_n 1, 1) := by decide +kernel
theorem d_Gp_pixel_5 : decode b_Gp_pixel 5 = .ok (.aload_n 0, 1) := by decide +kernel
theorem d_Gp_pixel_6 : decode b_Gp_pixel 6 = .ok (.getfield 62, 3) := by decide +kernel
theorem d_Gp_pixel_9 : decode b_Gp_pixel 9 = .ok (.getfield 171, 3) := by decide +kernel
theorem d_Gp_pixel_12 : decode b_Gp_pixel 12 = .ok (.if_icmp .ge 18, 3) := by decide +kernel
theorem d_Gp_pixel_15 : decode b_Gp_pixel 15 = .ok (.iload_n 2, 1) := by decide +kernel
theorem d_Gp_pixel_16 : decode b_Gp_pixel 16 = .ok (.ifCond .lt 14, 3) := by decide +kernel
theorem d_Gp_pixel_19 : decode b_Gp_pixel 19 = .ok (.iload_n 2, 1) := by decide +kernel
theorem d_Gp_pixel_20 : decode b_Gp_pixel 20 = .ok (.aload_n 0, 1) := by decide +kernel
theorem d_Gp_pixel_21 : decode b_Gp_pixel 21 = .ok (.getfield 62, 3) := by decide +kernel
theorem d_Gp_pixel_24 : decode b_Gp_pixel 24 = .ok (.getfield 174, 3) := by decide +kernel
theorem d_Gp_pixel_27 : decode b_Gp_pixel 27 = .ok (.if_icmp .lt 6, 3) := by decide +kernel
theorem d_Gp_pixel_30 : decode b_Gp_pixel 30 = .ok (.bipush (-2), 2) := by decide +kernel
theorem d_Gp_pixel_32 : decode b_Gp_pixel 32 = .ok (.ireturn, 1) := by decide +kernel
theorem d_Gp_pixel_33 : decode b_Gp_pixel 33 = .ok (.aload_n 0, 1) := by decide +kernel
theorem d_Gp_pixel_34 : decode b_Gp_pixel 34 = .ok (.getfield 62, 3) := by decide +kernel
theorem d_Gp_pixel_37 : decode b_Gp_pixel 37 = .ok (.getfield 177, 3) := by decide +kernel
theorem d_Gp_pixel_40 : decode b_Gp_pixel 40 = .ok (.iload_n 2, 1) := by decide +kernel
theorem d_Gp_pixel_41 : decode b_Gp_pixel 41 = .ok (.laload, 1) := by decide +kernel
theorem d_Gp_pixel_42 : decode b_Gp_pixel 42 = .ok (.iload_n 1, 1) := by decide +kernel
theorem d_Gp_pixel_43 : decode b_Gp_pixel 43 = .ok (.lushr, 1) := by decide +kernel
theorem d_Gp_pixel_44 : decode b_Gp_pixel 44 = .ok (.lconst 1, 1) := by decide +kernel
theorem d_Gp_pixel_45 : decode b_Gp_pixel 45 = .ok (.land, 1) := by decide +kernel
theorem d_Gp_pixel_46 : decode b_Gp_pixel 46 = .ok (.l2i, 1) := by decide +kernel
theorem d_Gp_pixel_47 : decode b_Gp_pixel 47 = .ok (.ireturn, 1) := by decide +kernel
abbrev b_Gp_row : ByteArray := prog_1_method_16_code
def y_Gp_row : MethodName := ⟨"GlyphPage", "row", "(I)J"⟩
theorem d_Gp_row_0 : decode b_Gp_row 0 = .ok (.iload_n 1, 1) := by decide +kernel
theorem d_Gp_row_1 : decode b_Gp_row 1 = .ok (.ifCond .lt 14, 3) := by decide +kernel
theorem d_Gp_row_4 : decode b_Gp_row 4 = .ok (.iload_n 1, 1) := by decide +kernel
theorem d_Gp_row_5 : decode b_Gp_row 5 = .ok (.aload_n 0, 1) := by decide +kernel
theorem d_Gp_row_6 : decode b_Gp_row 6 = .ok (.getfield 62, 3) := by decide +kernel
theorem d_Gp_row_9 : decode b_Gp_row 9 = .ok (.getfield 174, 3) := by decide +kernel
theorem d_Gp_row_12 : decode b_Gp_row 12 = .ok (.if_icmp .lt 7, 3) := by decide +kernel
theorem d_Gp_row_15 : decode b_Gp_row 15 = .ok (.lconst 0, 1) := by decide +kernel
theorem d_Gp_row_16 : decode b_Gp_row 16 = .ok (.goto 12, 3) := by decide +kernel
theorem d_Gp_row_19 : decode b_Gp_row 19 = .ok (.aload_n 0, 1) := by decide +kernel
theorem d_Gp_row_20 : decode b_Gp_row 20 = .ok (.getfield 62, 3) := by decide +kernel
theorem d_Gp_row_23 : decode b_Gp_row 23 = .ok (.getfield 177, 3) := by decide +kernel
theorem d_Gp_row_26 : decode b_Gp_row 26 = .ok (.iload_n 1, 1) := by decide +kernel
theorem d_Gp_row_27 : decode b_Gp_row 27 = .ok (.laload, 1) := by decide +kernel
theorem d_Gp_row_28 : decode b_Gp_row 28 = .ok (.lreturn, 1) := by decide +kernel
abbrev b_Gp_inked : ByteArray := prog_1_method_17_code
def y_Gp_inked : MethodName := ⟨"GlyphPage", "inked", "()I"⟩
theorem d_Gp_inked_0 : decode b_Gp_inked 0 = .ok (.aload_n 0, 1) := by decide +kernel
theorem d_Gp_inked_1 : decode b_Gp_inked 1 = .ok (.getfield 62, 3) := by decide +kernel
theorem d_Gp_inked_4 : decode b_Gp_inked 4 = .ok (.invokevirtual 181, 3) := by decide +kernel
theorem d_Gp_inked_7 : decode b_Gp_inked 7 = .ok (.ireturn, 1) := by decide +kernel
abbrev b_Gp_clear : ByteArray := prog_1_method_18_code
def y_Gp_clear : MethodName := ⟨"GlyphPage", "clear", "()I"⟩
theorem d_Gp_clear_0 : decode b_Gp_clear 0 = .ok (.aload_n 0, 1) := by decide +kernel
theorem d_Gp_clear_1 : decode b_Gp_clear 1 = .ok (.getfield 62, 3) := by decide +kernel
theorem d_Gp_clear_4 : decode b_Gp_clear 4 = .ok (.invokevirtual 181, 3) := by decide +kernel
theorem d_Gp_clear_7 : decode b_Gp_clear 7 = .ok (.istore_n 1, 1) := by decide +kernel
theorem d_Gp_clear_8 : decode b_Gp_clear 8 = .ok (.aload_n 0, 1) := by decide +kernel
theorem d_Gp_clear_9 : decode b_Gp_clear 9 = .ok (.getfield 62, 3) := by decide +kernel
theorem d_Gp_clear_12 : decode b_Gp_clear 12 = .ok (.invokevirtual 185, 3) := by decide +kernel
theorem d_Gp_clear_15 : decode b_Gp_clear 15 = .ok (.iload_n 1, 1) := by decide +kernel
theorem d_Gp_clear_16 : decode b_Gp_clear 16 = .ok (.ireturn, 1) := by decide +kernel
abbrev b_Gp_takesShape : ByteArray := prog_1_method_20_code
def y_Gp_takesShape : MethodName := ⟨"GlyphPage", "takesShape", "(I)Z"⟩
theorem d_Gp_takesShape_0 : decode b_Gp_takesShape 0 = .ok (.aload_n 0, 1) := by decide +kernel
theorem d_Gp_takesShape_1 : decode b_Gp_takesShape 1 = .ok (.getfield 41, 3) := by decide +kernel
theorem d_Gp_takesShape_4 : decode b_Gp_takesShape 4 = .ok (.ifnull 37, 3) := by decide +kernel
theorem d_Gp_takesShape_7 : decode b_Gp_takesShape 7 = .ok (.iload_n 1, 1) := by decide +kernel
theorem d_Gp_takesShape_8 : decode b_Gp_takesShape 8 = .ok (.ifCond .lt 33, 3) := by decide +kernel
theorem d_Gp_takesShape_11 : decode b_Gp_takesShape 11 = .ok (.iload_n 1, 1) := by decide +kernel
theorem d_Gp_takesShape_12 : decode b_Gp_takesShape 12 = .ok (.aload_n 0, 1) := by decide +kernel
theorem d_Gp_takesShape_13 : decode b_Gp_takesShape 13 = .ok (.getfield 41, 3) := by decide +kernel
theorem d_Gp_takesShape_16 : decode b_Gp_takesShape 16 = .ok (.getfield 87, 3) := by decide +kernel
theorem d_Gp_takesShape_19 : decode b_Gp_takesShape 19 = .ok (.if_icmp .ge 22, 3) := by decide +kernel
theorem d_Gp_takesShape_22 : decode b_Gp_takesShape 22 = .ok (.aload_n 0, 1) := by decide +kernel
theorem d_Gp_takesShape_23 : decode b_Gp_takesShape 23 = .ok (.getfield 10, 3) := by decide +kernel
theorem d_Gp_takesShape_26 : decode b_Gp_takesShape 26 = .ok (.aload_n 0, 1) := by decide +kernel
theorem d_Gp_takesShape_27 : decode b_Gp_takesShape 27 = .ok (.getfield 41, 3) := by decide +kernel
theorem d_Gp_takesShape_30 : decode b_Gp_takesShape 30 = .ok (.iload_n 1, 1) := by decide +kernel
theorem d_Gp_takesShape_31 : decode b_Gp_takesShape 31 = .ok (.invokevirtual 188, 3) := by decide +kernel
theorem d_Gp_takesShape_34 : decode b_Gp_takesShape 34 = .ok (.ifCond .eq 7, 3) := by decide +kernel
theorem d_Gp_takesShape_37 : decode b_Gp_takesShape 37 = .ok (.iconst 1, 1) := by decide +kernel
theorem d_Gp_takesShape_38 : decode b_Gp_takesShape 38 = .ok (.goto 4, 3) := by decide +kernel
theorem d_Gp_takesShape_41 : decode b_Gp_takesShape 41 = .ok (.iconst 0, 1) := by decide +kernel
theorem d_Gp_takesShape_42 : decode b_Gp_takesShape 42 = .ok (.ireturn, 1) := by decide +kernel
abbrev b_Gp_look : ByteArray := prog_1_method_8_code
def y_Gp_look : MethodName := ⟨"GlyphPage", "look", "(II)I"⟩
theorem d_Gp_look_0 : decode b_Gp_look 0 = .ok (.iload_n 2, 1) := by decide +kernel
theorem d_Gp_look_1 : decode b_Gp_look 1 = .ok (.ifCond .lt 8, 3) := by decide +kernel
theorem d_Gp_look_4 : decode b_Gp_look 4 = .ok (.iload_n 2, 1) := by decide +kernel
theorem d_Gp_look_5 : decode b_Gp_look 5 = .ok (.iconst 2, 1) := by decide +kernel
theorem d_Gp_look_6 : decode b_Gp_look 6 = .ok (.if_icmp .le 5, 3) := by decide +kernel
theorem d_Gp_look_9 : decode b_Gp_look 9 = .ok (.iconst (-1), 1) := by decide +kernel
theorem d_Gp_look_10 : decode b_Gp_look 10 = .ok (.ireturn, 1) := by decide +kernel
theorem d_Gp_look_11 : decode b_Gp_look 11 = .ok (.aload_n 0, 1) := by decide +kernel
theorem d_Gp_look_12 : decode b_Gp_look 12 = .ok (.iload_n 1, 1) := by decide +kernel
theorem d_Gp_look_13 : decode b_Gp_look 13 = .ok (.invokevirtual 99, 3) := by decide +kernel
theorem d_Gp_look_16 : decode b_Gp_look 16 = .ok (.ifCond .ne 6, 3) := by decide +kernel
theorem d_Gp_look_19 : decode b_Gp_look 19 = .ok (.bipush (-2), 2) := by decide +kernel
theorem d_Gp_look_21 : decode b_Gp_look 21 = .ok (.ireturn, 1) := by decide +kernel
theorem d_Gp_look_22 : decode b_Gp_look 22 = .ok (.iload_n 2, 1) := by decide +kernel
theorem d_Gp_look_23 : decode b_Gp_look 23 = .ok (.ifCond .ne 12, 3) := by decide +kernel
theorem d_Gp_look_26 : decode b_Gp_look 26 = .ok (.aload_n 0, 1) := by decide +kernel
theorem d_Gp_look_27 : decode b_Gp_look 27 = .ok (.getfield 41, 3) := by decide +kernel
theorem d_Gp_look_30 : decode b_Gp_look 30 = .ok (.iload_n 1, 1) := by decide +kernel
theorem d_Gp_look_31 : decode b_Gp_look 31 = .ok (.invokevirtual 103, 3) := by decide +kernel
theorem d_Gp_look_34 : decode b_Gp_look 34 = .ok (.ireturn, 1) := by decide +kernel
theorem d_Gp_look_35 : decode b_Gp_look 35 = .ok (.iload_n 2, 1) := by decide +kernel
theorem d_Gp_look_36 : decode b_Gp_look 36 = .ok (.iconst 1, 1) := by decide +kernel
theorem d_Gp_look_37 : decode b_Gp_look 37 = .ok (.if_icmp .ne 13, 3) := by decide +kernel
theorem d_Gp_look_40 : decode b_Gp_look 40 = .ok (.aload_n 0, 1) := by decide +kernel
theorem d_Gp_look_41 : decode b_Gp_look 41 = .ok (.getfield 10, 3) := by decide +kernel
theorem d_Gp_look_44 : decode b_Gp_look 44 = .ok (.getfield 106, 3) := by decide +kernel
theorem d_Gp_look_47 : decode b_Gp_look 47 = .ok (.goto 10, 3) := by decide +kernel
theorem d_Gp_look_50 : decode b_Gp_look 50 = .ok (.aload_n 0, 1) := by decide +kernel
theorem d_Gp_look_51 : decode b_Gp_look 51 = .ok (.getfield 10, 3) := by decide +kernel
theorem d_Gp_look_54 : decode b_Gp_look 54 = .ok (.getfield 109, 3) := by decide +kernel
theorem d_Gp_look_57 : decode b_Gp_look 57 = .ok (.ireturn, 1) := by decide +kernel
abbrev b_Gp_point : ByteArray := prog_1_method_9_code
def y_Gp_point : MethodName := ⟨"GlyphPage", "point", "(III)I"⟩
theorem d_Gp_point_0 : decode b_Gp_point 0 = .ok (.iload_n 3, 1) := by decide +kernel
theorem d_Gp_point_1 : decode b_Gp_point 1 = .ok (.ifCond .lt 8, 3) := by decide +kernel
theorem d_Gp_point_4 : decode b_Gp_point 4 = .ok (.iload_n 3, 1) := by decide +kernel
theorem d_Gp_point_5 : decode b_Gp_point 5 = .ok (.iconst 3, 1) := by decide +kernel
theorem d_Gp_point_6 : decode b_Gp_point 6 = .ok (.if_icmp .le 5, 3) := by decide +kernel
theorem d_Gp_point_9 : decode b_Gp_point 9 = .ok (.iconst (-1), 1) := by decide +kernel
theorem d_Gp_point_10 : decode b_Gp_point 10 = .ok (.ireturn, 1) := by decide +kernel
theorem d_Gp_point_11 : decode b_Gp_point 11 = .ok (.aload_n 0, 1) := by decide +kernel
theorem d_Gp_point_12 : decode b_Gp_point 12 = .ok (.iload_n 1, 1) := by decide +kernel
theorem d_Gp_point_13 : decode b_Gp_point 13 = .ok (.invokevirtual 99, 3) := by decide +kernel
theorem d_Gp_point_16 : decode b_Gp_point 16 = .ok (.ifCond .eq 18, 3) := by decide +kernel
theorem d_Gp_point_19 : decode b_Gp_point 19 = .ok (.iload_n 2, 1) := by decide +kernel
theorem d_Gp_point_20 : decode b_Gp_point 20 = .ok (.ifCond .lt 14, 3) := by decide +kernel
theorem d_Gp_point_23 : decode b_Gp_point 23 = .ok (.iload_n 2, 1) := by decide +kernel
theorem d_Gp_point_24 : decode b_Gp_point 24 = .ok (.aload_n 0, 1) := by decide +kernel
theorem d_Gp_point_25 : decode b_Gp_point 25 = .ok (.getfield 10, 3) := by decide +kernel
theorem d_Gp_point_28 : decode b_Gp_point 28 = .ok (.getfield 109, 3) := by decide +kernel
theorem d_Gp_point_31 : decode b_Gp_point 31 = .ok (.if_icmp .lt 6, 3) := by decide +kernel
theorem d_Gp_point_34 : decode b_Gp_point 34 = .ok (.ldc 112, 2) := by decide +kernel
theorem d_Gp_point_36 : decode b_Gp_point 36 = .ok (.ireturn, 1) := by decide +kernel
theorem d_Gp_point_37 : decode b_Gp_point 37 = .ok (.iload_n 3, 1) := by decide +kernel
theorem d_Gp_point_38 : decode b_Gp_point 38 = .ok (.tableswitch 64 0 2 #[26, 36, 46], 26) := by decide +kernel
theorem d_Gp_point_64 : decode b_Gp_point 64 = .ok (.aload_n 0, 1) := by decide +kernel
theorem d_Gp_point_65 : decode b_Gp_point 65 = .ok (.getfield 10, 3) := by decide +kernel
theorem d_Gp_point_68 : decode b_Gp_point 68 = .ok (.getfield 113, 3) := by decide +kernel
theorem d_Gp_point_71 : decode b_Gp_point 71 = .ok (.iload_n 2, 1) := by decide +kernel
theorem d_Gp_point_72 : decode b_Gp_point 72 = .ok (.iaload, 1) := by decide +kernel
theorem d_Gp_point_73 : decode b_Gp_point 73 = .ok (.ireturn, 1) := by decide +kernel
theorem d_Gp_point_74 : decode b_Gp_point 74 = .ok (.aload_n 0, 1) := by decide +kernel
theorem d_Gp_point_75 : decode b_Gp_point 75 = .ok (.getfield 10, 3) := by decide +kernel
theorem d_Gp_point_78 : decode b_Gp_point 78 = .ok (.getfield 117, 3) := by decide +kernel
theorem d_Gp_point_81 : decode b_Gp_point 81 = .ok (.iload_n 2, 1) := by decide +kernel
theorem d_Gp_point_82 : decode b_Gp_point 82 = .ok (.iaload, 1) := by decide +kernel
theorem d_Gp_point_83 : decode b_Gp_point 83 = .ok (.ireturn, 1) := by decide +kernel
theorem d_Gp_point_84 : decode b_Gp_point 84 = .ok (.aload_n 0, 1) := by decide +kernel
theorem d_Gp_point_85 : decode b_Gp_point 85 = .ok (.getfield 10, 3) := by decide +kernel
theorem d_Gp_point_88 : decode b_Gp_point 88 = .ok (.getfield 120, 3) := by decide +kernel
theorem d_Gp_point_91 : decode b_Gp_point 91 = .ok (.iload_n 2, 1) := by decide +kernel
theorem d_Gp_point_92 : decode b_Gp_point 92 = .ok (.baload, 1) := by decide +kernel
theorem d_Gp_point_93 : decode b_Gp_point 93 = .ok (.ifCond .eq 7, 3) := by decide +kernel
theorem d_Gp_point_96 : decode b_Gp_point 96 = .ok (.iconst 1, 1) := by decide +kernel
theorem d_Gp_point_97 : decode b_Gp_point 97 = .ok (.goto 4, 3) := by decide +kernel
theorem d_Gp_point_100 : decode b_Gp_point 100 = .ok (.iconst 0, 1) := by decide +kernel
theorem d_Gp_point_101 : decode b_Gp_point 101 = .ok (.ireturn, 1) := by decide +kernel
theorem d_Gp_point_102 : decode b_Gp_point 102 = .ok (.aload_n 0, 1) := by decide +kernel
theorem d_Gp_point_103 : decode b_Gp_point 103 = .ok (.getfield 10, 3) := by decide +kernel
theorem d_Gp_point_106 : decode b_Gp_point 106 = .ok (.iload_n 2, 1) := by decide +kernel
theorem d_Gp_point_107 : decode b_Gp_point 107 = .ok (.invokevirtual 124, 3) := by decide +kernel
theorem d_Gp_point_110 : decode b_Gp_point 110 = .ok (.ireturn, 1) := by decide +kernel
abbrev b_Gp_winding : ByteArray := prog_1_method_11_code
def y_Gp_winding : MethodName := ⟨"GlyphPage", "winding", "(III)I"⟩
theorem d_Gp_winding_0 : decode b_Gp_winding 0 = .ok (.aload_n 0, 1) := by decide +kernel
theorem d_Gp_winding_1 : decode b_Gp_winding 1 = .ok (.iload_n 1, 1) := by decide +kernel
theorem d_Gp_winding_2 : decode b_Gp_winding 2 = .ok (.invokevirtual 99, 3) := by decide +kernel
theorem d_Gp_winding_5 : decode b_Gp_winding 5 = .ok (.ifCond .eq 41, 3) := by decide +kernel
theorem d_Gp_winding_8 : decode b_Gp_winding 8 = .ok (.iload_n 2, 1) := by decide +kernel
theorem d_Gp_winding_9 : decode b_Gp_winding 9 = .ok (.invokestatic 130, 3) := by decide +kernel
theorem d_Gp_winding_12 : decode b_Gp_winding 12 = .ok (.ifCond .eq 34, 3) := by decide +kernel
theorem d_Gp_winding_15 : decode b_Gp_winding 15 = .ok (.iload_n 3, 1) := by decide +kernel
theorem d_Gp_winding_16 : decode b_Gp_winding 16 = .ok (.invokestatic 130, 3) := by decide +kernel
theorem d_Gp_winding_19 : decode b_Gp_winding 19 = .ok (.ifCond .eq 27, 3) := by decide +kernel
theorem d_Gp_winding_22 : decode b_Gp_winding 22 = .ok (.aload_n 0, 1) := by decide +kernel
theorem d_Gp_winding_23 : decode b_Gp_winding 23 = .ok (.getfield 19, 3) := by decide +kernel
theorem d_Gp_winding_26 : decode b_Gp_winding 26 = .ok (.aload_n 0, 1) := by decide +kernel
theorem d_Gp_winding_27 : decode b_Gp_winding 27 = .ok (.getfield 10, 3) := by decide +kernel
theorem d_Gp_winding_30 : decode b_Gp_winding 30 = .ok (.aload_n 0, 1) := by decide +kernel
theorem d_Gp_winding_31 : decode b_Gp_winding 31 = .ok (.getfield 41, 3) := by decide +kernel
theorem d_Gp_winding_34 : decode b_Gp_winding 34 = .ok (.aload_n 0, 1) := by decide +kernel
theorem d_Gp_winding_35 : decode b_Gp_winding 35 = .ok (.getfield 45, 3) := by decide +kernel
theorem d_Gp_winding_38 : decode b_Gp_winding 38 = .ok (.iconst 0, 1) := by decide +kernel
theorem d_Gp_winding_39 : decode b_Gp_winding 39 = .ok (.iconst 0, 1) := by decide +kernel
theorem d_Gp_winding_40 : decode b_Gp_winding 40 = .ok (.invokevirtual 133, 3) := by decide +kernel
theorem d_Gp_winding_43 : decode b_Gp_winding 43 = .ok (.ifCond .ne 7, 3) := by decide +kernel
theorem d_Gp_winding_46 : decode b_Gp_winding 46 = .ok (.sipush 2000, 3) := by decide +kernel
theorem d_Gp_winding_49 : decode b_Gp_winding 49 = .ok (.ireturn, 1) := by decide +kernel
theorem d_Gp_winding_50 : decode b_Gp_winding 50 = .ok (.aload_n 0, 1) := by decide +kernel
theorem d_Gp_winding_51 : decode b_Gp_winding 51 = .ok (.getfield 19, 3) := by decide +kernel
theorem d_Gp_winding_54 : decode b_Gp_winding 54 = .ok (.iconst 2, 1) := by decide +kernel
theorem d_Gp_winding_55 : decode b_Gp_winding 55 = .ok (.iload_n 2, 1) := by decide +kernel
theorem d_Gp_winding_56 : decode b_Gp_winding 56 = .ok (.imul, 1) := by decide +kernel
theorem d_Gp_winding_57 : decode b_Gp_winding 57 = .ok (.iconst 2, 1) := by decide +kernel
theorem d_Gp_winding_58 : decode b_Gp_winding 58 = .ok (.iload_n 3, 1) := by decide +kernel
theorem d_Gp_winding_59 : decode b_Gp_winding 59 = .ok (.imul, 1) := by decide +kernel
theorem d_Gp_winding_60 : decode b_Gp_winding 60 = .ok (.invokevirtual 137, 3) := by decide +kernel
theorem d_Gp_winding_63 : decode b_Gp_winding 63 = .ok (.ireturn, 1) := by decide +kernel
abbrev b_Gp_stamp : ByteArray := prog_1_method_12_code
def y_Gp_stamp : MethodName := ⟨"GlyphPage", "stamp", "(III)I"⟩
theorem d_Gp_stamp_0 : decode b_Gp_stamp 0 = .ok (.aload_n 0, 1) := by decide +kernel
theorem d_Gp_stamp_1 : decode b_Gp_stamp 1 = .ok (.iload_n 1, 1) := by decide +kernel
theorem d_Gp_stamp_2 : decode b_Gp_stamp 2 = .ok (.invokevirtual 99, 3) := by decide +kernel
theorem d_Gp_stamp_5 : decode b_Gp_stamp 5 = .ok (.ifCond .eq 12, 3) := by decide +kernel
theorem d_Gp_stamp_8 : decode b_Gp_stamp 8 = .ok (.aload_n 0, 1) := by decide +kernel
theorem d_Gp_stamp_9 : decode b_Gp_stamp 9 = .ok (.iload_n 2, 1) := by decide +kernel
theorem d_Gp_stamp_10 : decode b_Gp_stamp 10 = .ok (.iload_n 3, 1) := by decide +kernel
theorem d_Gp_stamp_11 : decode b_Gp_stamp 11 = .ok (.invokevirtual 140, 3) := by decide +kernel
theorem d_Gp_stamp_14 : decode b_Gp_stamp 14 = .ok (.goto 5, 3) := by decide +kernel
theorem d_Gp_stamp_17 : decode b_Gp_stamp 17 = .ok (.bipush (-2), 2) := by decide +kernel
theorem d_Gp_stamp_19 : decode b_Gp_stamp 19 = .ok (.ireturn, 1) := by decide +kernel
abbrev b_Gp_text : ByteArray := prog_1_method_13_code
def y_Gp_text : MethodName := ⟨"GlyphPage", "text", "(III)I"⟩
theorem d_Gp_text_0 : decode b_Gp_text 0 = .ok (.aload_n 0, 1) := by decide +kernel
theorem d_Gp_text_1 : decode b_Gp_text 1 = .ok (.getfield 37, 3) := by decide +kernel
theorem d_Gp_text_4 : decode b_Gp_text 4 = .ok (.sipush 200, 3) := by decide +kernel
theorem d_Gp_text_7 : decode b_Gp_text 7 = .ok (.if_icmp .gt 28, 3) := by decide +kernel
theorem d_Gp_text_10 : decode b_Gp_text 10 = .ok (.iload_n 1, 1) := by decide +kernel
theorem d_Gp_text_11 : decode b_Gp_text 11 = .ok (.invokestatic 130, 3) := by decide +kernel
theorem d_Gp_text_14 : decode b_Gp_text 14 = .ok (.ifCond .eq 21, 3) := by decide +kernel
theorem d_Gp_text_17 : decode b_Gp_text 17 = .ok (.iload_n 2, 1) := by decide +kernel
theorem d_Gp_text_18 : decode b_Gp_text 18 = .ok (.invokestatic 130, 3) := by decide +kernel
theorem d_Gp_text_21 : decode b_Gp_text 21 = .ok (.ifCond .eq 14, 3) := by decide +kernel
theorem d_Gp_text_24 : decode b_Gp_text 24 = .ok (.iload_n 3, 1) := by decide +kernel
theorem d_Gp_text_25 : decode b_Gp_text 25 = .ok (.ifCond .lt 10, 3) := by decide +kernel
theorem d_Gp_text_28 : decode b_Gp_text 28 = .ok (.iload_n 3, 1) := by decide +kernel
theorem d_Gp_text_29 : decode b_Gp_text 29 = .ok (.sipush 20000, 3) := by decide +kernel
theorem d_Gp_text_32 : decode b_Gp_text 32 = .ok (.if_icmp .le 5, 3) := by decide +kernel
theorem d_Gp_text_35 : decode b_Gp_text 35 = .ok (.iconst (-1), 1) := by decide +kernel
theorem d_Gp_text_36 : decode b_Gp_text 36 = .ok (.ireturn, 1) := by decide +kernel
theorem d_Gp_text_37 : decode b_Gp_text 37 = .ok (.aload_n 0, 1) := by decide +kernel
theorem d_Gp_text_38 : decode b_Gp_text 38 = .ok (.getfield 37, 3) := by decide +kernel
theorem d_Gp_text_41 : decode b_Gp_text 41 = .ok (.istore 4, 2) := by decide +kernel
theorem d_Gp_text_43 : decode b_Gp_text 43 = .ok (.aload_n 0, 1) := by decide +kernel
theorem d_Gp_text_44 : decode b_Gp_text 44 = .ok (.iconst 0, 1) := by decide +kernel
theorem d_Gp_text_45 : decode b_Gp_text 45 = .ok (.putfield 37, 3) := by decide +kernel
theorem d_Gp_text_48 : decode b_Gp_text 48 = .ok (.aload_n 0, 1) := by decide +kernel
theorem d_Gp_text_49 : decode b_Gp_text 49 = .ok (.getfield 41, 3) := by decide +kernel
theorem d_Gp_text_52 : decode b_Gp_text 52 = .ok (.ifnonnull 6, 3) := by decide +kernel
theorem d_Gp_text_55 : decode b_Gp_text 55 = .ok (.bipush (-2), 2) := by decide +kernel
theorem d_Gp_text_57 : decode b_Gp_text 57 = .ok (.ireturn, 1) := by decide +kernel
theorem d_Gp_text_58 : decode b_Gp_text 58 = .ok (.aload_n 0, 1) := by decide +kernel
theorem d_Gp_text_59 : decode b_Gp_text 59 = .ok (.getfield 26, 3) := by decide +kernel
theorem d_Gp_text_62 : decode b_Gp_text 62 = .ok (.aload_n 0, 1) := by decide +kernel
theorem d_Gp_text_63 : decode b_Gp_text 63 = .ok (.getfield 41, 3) := by decide +kernel
theorem d_Gp_text_66 : decode b_Gp_text 66 = .ok (.aload_n 0, 1) := by decide +kernel
theorem d_Gp_text_67 : decode b_Gp_text 67 = .ok (.getfield 45, 3) := by decide +kernel
theorem d_Gp_text_70 : decode b_Gp_text 70 = .ok (.aload_n 0, 1) := by decide +kernel
theorem d_Gp_text_71 : decode b_Gp_text 71 = .ok (.getfield 30, 3) := by decide +kernel
theorem d_Gp_text_74 : decode b_Gp_text 74 = .ok (.iload 4, 2) := by decide +kernel
theorem d_Gp_text_76 : decode b_Gp_text 76 = .ok (.invokevirtual 143, 3) := by decide +kernel
theorem d_Gp_text_79 : decode b_Gp_text 79 = .ok (.aload_n 0, 1) := by decide +kernel
theorem d_Gp_text_80 : decode b_Gp_text 80 = .ok (.getfield 26, 3) := by decide +kernel
theorem d_Gp_text_83 : decode b_Gp_text 83 = .ok (.aload_n 0, 1) := by decide +kernel
theorem d_Gp_text_84 : decode b_Gp_text 84 = .ok (.getfield 30, 3) := by decide +kernel
theorem d_Gp_text_87 : decode b_Gp_text 87 = .ok (.iload 4, 2) := by decide +kernel
theorem d_Gp_text_89 : decode b_Gp_text 89 = .ok (.iload_n 3, 1) := by decide +kernel
theorem d_Gp_text_90 : decode b_Gp_text 90 = .ok (.invokevirtual 147, 3) := by decide +kernel
theorem d_Gp_text_93 : decode b_Gp_text 93 = .ok (.aload_n 0, 1) := by decide +kernel
theorem d_Gp_text_94 : decode b_Gp_text 94 = .ok (.getfield 41, 3) := by decide +kernel
theorem d_Gp_text_97 : decode b_Gp_text 97 = .ok (.aload_n 0, 1) := by decide +kernel
theorem d_Gp_text_98 : decode b_Gp_text 98 = .ok (.getfield 41, 3) := by decide +kernel
theorem d_Gp_text_101 : decode b_Gp_text 101 = .ok (.getfield 90, 3) := by decide +kernel
theorem d_Gp_text_104 : decode b_Gp_text 104 = .ok (.aload_n 0, 1) := by decide +kernel
theorem d_Gp_text_105 : decode b_Gp_text 105 = .ok (.getfield 41, 3) := by decide +kernel
theorem d_Gp_text_108 : decode b_Gp_text 108 = .ok (.getfield 93, 3) := by decide +kernel
theorem d_Gp_text_111 : decode b_Gp_text 111 = .ok (.isub, 1) := by decide +kernel
theorem d_Gp_text_112 : decode b_Gp_text 112 = .ok (.aload_n 0, 1) := by decide +kernel
theorem d_Gp_text_113 : decode b_Gp_text 113 = .ok (.getfield 41, 3) := by decide +kernel
theorem d_Gp_text_116 : decode b_Gp_text 116 = .ok (.getfield 96, 3) := by decide +kernel
theorem d_Gp_text_119 : decode b_Gp_text 119 = .ok (.iadd, 1) := by decide +kernel
theorem d_Gp_text_120 : decode b_Gp_text 120 = .ok (.aload_n 0, 1) := by decide +kernel
theorem d_Gp_text_121 : decode b_Gp_text 121 = .ok (.getfield 45, 3) := by decide +kernel
theorem d_Gp_text_124 : decode b_Gp_text 124 = .ok (.invokevirtual 151, 3) := by decide +kernel
theorem d_Gp_text_127 : decode b_Gp_text 127 = .ok (.istore 5, 2) := by decide +kernel
theorem d_Gp_text_129 : decode b_Gp_text 129 = .ok (.iconst 0, 1) := by decide +kernel
theorem d_Gp_text_130 : decode b_Gp_text 130 = .ok (.istore 6, 2) := by decide +kernel
theorem d_Gp_text_132 : decode b_Gp_text 132 = .ok (.iload 6, 2) := by decide +kernel
theorem d_Gp_text_134 : decode b_Gp_text 134 = .ok (.aload_n 0, 1) := by decide +kernel
theorem d_Gp_text_135 : decode b_Gp_text 135 = .ok (.getfield 26, 3) := by decide +kernel
theorem d_Gp_text_138 : decode b_Gp_text 138 = .ok (.getfield 154, 3) := by decide +kernel
theorem d_Gp_text_141 : decode b_Gp_text 141 = .ok (.if_icmp .ge 98, 3) := by decide +kernel
theorem d_Gp_text_144 : decode b_Gp_text 144 = .ok (.aload_n 0, 1) := by decide +kernel
theorem d_Gp_text_145 : decode b_Gp_text 145 = .ok (.getfield 26, 3) := by decide +kernel
theorem d_Gp_text_148 : decode b_Gp_text 148 = .ok (.getfield 157, 3) := by decide +kernel
theorem d_Gp_text_151 : decode b_Gp_text 151 = .ok (.iload 6, 2) := by decide +kernel
theorem d_Gp_text_153 : decode b_Gp_text 153 = .ok (.iaload, 1) := by decide +kernel
theorem d_Gp_text_154 : decode b_Gp_text 154 = .ok (.istore 7, 2) := by decide +kernel
theorem d_Gp_text_156 : decode b_Gp_text 156 = .ok (.iload 7, 2) := by decide +kernel
theorem d_Gp_text_158 : decode b_Gp_text 158 = .ok (.istore 8, 2) := by decide +kernel
theorem d_Gp_text_160 : decode b_Gp_text 160 = .ok (.iload 8, 2) := by decide +kernel
theorem d_Gp_text_162 : decode b_Gp_text 162 = .ok (.aload_n 0, 1) := by decide +kernel
theorem d_Gp_text_163 : decode b_Gp_text 163 = .ok (.getfield 26, 3) := by decide +kernel
theorem d_Gp_text_166 : decode b_Gp_text 166 = .ok (.getfield 160, 3) := by decide +kernel
theorem d_Gp_text_169 : decode b_Gp_text 169 = .ok (.iload 6, 2) := by decide +kernel
theorem d_Gp_text_171 : decode b_Gp_text 171 = .ok (.iaload, 1) := by decide +kernel
theorem d_Gp_text_172 : decode b_Gp_text 172 = .ok (.if_icmp .ge 61, 3) := by decide +kernel
theorem d_Gp_text_175 : decode b_Gp_text 175 = .ok (.aload_n 0, 1) := by decide +kernel
theorem d_Gp_text_176 : decode b_Gp_text 176 = .ok (.aload_n 0, 1) := by decide +kernel
theorem d_Gp_text_177 : decode b_Gp_text 177 = .ok (.getfield 26, 3) := by decide +kernel
theorem d_Gp_text_180 : decode b_Gp_text 180 = .ok (.getfield 163, 3) := by decide +kernel
theorem d_Gp_text_183 : decode b_Gp_text 183 = .ok (.iload 8, 2) := by decide +kernel
theorem d_Gp_text_185 : decode b_Gp_text 185 = .ok (.iaload, 1) := by decide +kernel
theorem d_Gp_text_186 : decode b_Gp_text 186 = .ok (.invokevirtual 99, 3) := by decide +kernel
theorem d_Gp_text_189 : decode b_Gp_text 189 = .ok (.ifCond .eq 38, 3) := by decide +kernel
theorem d_Gp_text_192 : decode b_Gp_text 192 = .ok (.aload_n 0, 1) := by decide +kernel
theorem d_Gp_text_193 : decode b_Gp_text 193 = .ok (.iload_n 1, 1) := by decide +kernel
theorem d_Gp_text_194 : decode b_Gp_text 194 = .ok (.aload_n 0, 1) := by decide +kernel
theorem d_Gp_text_195 : decode b_Gp_text 195 = .ok (.getfield 26, 3) := by decide +kernel
theorem d_Gp_text_198 : decode b_Gp_text 198 = .ok (.getfield 165, 3) := by decide +kernel
theorem d_Gp_text_201 : decode b_Gp_text 201 = .ok (.iload 8, 2) := by decide +kernel
theorem d_Gp_text_203 : decode b_Gp_text 203 = .ok (.iaload, 1) := by decide +kernel
theorem d_Gp_text_204 : decode b_Gp_text 204 = .ok (.iadd, 1) := by decide +kernel
theorem d_Gp_text_205 : decode b_Gp_text 205 = .ok (.aload_n 0, 1) := by decide +kernel
theorem d_Gp_text_206 : decode b_Gp_text 206 = .ok (.getfield 26, 3) := by decide +kernel
theorem d_Gp_text_209 : decode b_Gp_text 209 = .ok (.getfield 165, 3) := by decide +kernel
theorem d_Gp_text_212 : decode b_Gp_text 212 = .ok (.iload 7, 2) := by decide +kernel
theorem d_Gp_text_214 : decode b_Gp_text 214 = .ok (.iaload, 1) := by decide +kernel
theorem d_Gp_text_215 : decode b_Gp_text 215 = .ok (.isub, 1) := by decide +kernel
theorem d_Gp_text_216 : decode b_Gp_text 216 = .ok (.iload_n 2, 1) := by decide +kernel
theorem d_Gp_text_217 : decode b_Gp_text 217 = .ok (.iload 6, 2) := by decide +kernel
theorem d_Gp_text_219 : decode b_Gp_text 219 = .ok (.iload 5, 2) := by decide +kernel
theorem d_Gp_text_221 : decode b_Gp_text 221 = .ok (.imul, 1) := by decide +kernel
theorem d_Gp_text_222 : decode b_Gp_text 222 = .ok (.iadd, 1) := by decide +kernel
theorem d_Gp_text_223 : decode b_Gp_text 223 = .ok (.invokevirtual 140, 3) := by decide +kernel
theorem d_Gp_text_226 : decode b_Gp_text 226 = .ok (.pop, 1) := by decide +kernel
theorem d_Gp_text_227 : decode b_Gp_text 227 = .ok (.iinc 8 1, 3) := by decide +kernel
theorem d_Gp_text_230 : decode b_Gp_text 230 = .ok (.goto (-70), 3) := by decide +kernel
theorem d_Gp_text_233 : decode b_Gp_text 233 = .ok (.iinc 6 1, 3) := by decide +kernel
theorem d_Gp_text_236 : decode b_Gp_text 236 = .ok (.goto (-104), 3) := by decide +kernel
theorem d_Gp_text_239 : decode b_Gp_text 239 = .ok (.aload_n 0, 1) := by decide +kernel
theorem d_Gp_text_240 : decode b_Gp_text 240 = .ok (.getfield 26, 3) := by decide +kernel
theorem d_Gp_text_243 : decode b_Gp_text 243 = .ok (.getfield 154, 3) := by decide +kernel
theorem d_Gp_text_246 : decode b_Gp_text 246 = .ok (.ireturn, 1) := by decide +kernel
section
variable {p : Program} {l : Launch} {e : Env} {s : State} {m : MethodId} {args : Array Value} {below : List Frame} {meth : Method} {c : Code} {A : Nat → Prop} {dC : Nat → ClassId} {dI : Nat → Nat → Nat} {cy : Nat → ClassId}
def P_Gp_append_37  (z3 : Int32 × Int32 × Int32 × (Nat → Int32) → Option (Int32 × (Nat → Int32))) (x1 : Int32) (x2 : Int32) (o_tapeLength : Int32) (o_tape_f : Nat → Int32) : Option (Int32 × (Nat → Int32)) :=
  z3 (x1, (x2 + (-8 : Int32)), o_tapeLength, o_tape_f)
set_option maxHeartbeats 4000000 in
set_option maxRecDepth 100000 in
theorem w_Gp_append_37 (C0 : Cx p s m args meth c A dC dI cy b_Gp_append 3 none "GlyphPage") (o : Nat) (o_page : Nat) (o_shape : Nat) (o_curves : Nat) (o_lines : Nat) (o_tape : Nat) (o_spare : Nat) (o_face : Option Nat) (o_pixels : Int32) (a1 : Int32) (uu : Int32 × (Nat → Int32)) (z3 : Int32 × Int32 × Int32 × (Nat → Int32) → Option (Int32 × (Nat → Int32))) (hz3 : ∀ (x1 : Int32) (x2 : Int32) (o_tapeLength : Int32) (o_tape_f : Nat → Int32) (H : Heap) (locs : List Loc) (ls : Array Slot), z3 (x1, x2, o_tapeLength, o_tape_f) = some uu → va_P (dC, dI) classes [(o, .inr (6, [.ref o_page, .ref o_shape, .ref o_curves, .ref o_lines, .ref o_tape, .ref o_spare, .int o_tapeLength, va_rf o_face, .int o_pixels])), (o_tape, .inl (cy 1, 4096, .inl o_tape_f))] H → va_D A [(o, .inr (6, [.ref o_page, .ref o_shape, .ref o_curves, .ref o_lines, .ref o_tape, .ref o_spare, .int o_tapeLength, va_rf o_face, .int o_pixels])), (o_tape, .inl (cy 1, 4096, .inl o_tape_f))] → va_S A s.heap H locs → lv_has ls 3 [(0, .ref o), (1, .int x1), (2, .int x2)] → W p l e ({ frames := 0, cells := 0, slots := 0, locals := 0 } : Room) s m args below meth c H locs 0 0 (MQ below (va_Qv (fun _ : Unit => True) (fun _ t => va_P (dC, dI) classes [(o, .inr (6, [.ref o_page, .ref o_shape, .ref o_curves, .ref o_lines, .ref o_tape, .ref o_spare, .int uu.1, va_rf o_face, .int o_pixels])), (o_tape, .inl (cy 1, 4096, .inl uu.2))] t.heap ∧ va_K (dC, dI) classes (TY cy) t ∧ va_D A [(o, .inr (6, [.ref o_page, .ref o_shape, .ref o_curves, .ref o_lines, .ref o_tape, .ref o_spare, .int uu.1, va_rf o_face, .int o_pixels])), (o_tape, .inl (cy 1, 4096, .inl uu.2))]) A) args s 0 0 A) (F0 m 3 ls [])) (x1 : Int32) (x2 : Int32) (o_tapeLength : Int32) (o_tape_f : Nat → Int32) {H : Heap} {locs : List Loc} {ls : Array Slot} (h : P_Gp_append_37 z3 x1 x2 o_tapeLength o_tape_f = some uu) : va_P (dC, dI) classes [(o, .inr (6, [.ref o_page, .ref o_shape, .ref o_curves, .ref o_lines, .ref o_tape, .ref o_spare, .int o_tapeLength, va_rf o_face, .int o_pixels])), (o_tape, .inl (cy 1, 4096, .inl o_tape_f))] H → va_D A [(o, .inr (6, [.ref o_page, .ref o_shape, .ref o_curves, .ref o_lines, .ref o_tape, .ref o_spare, .int o_tapeLength, va_rf o_face, .int o_pixels])), (o_tape, .inl (cy 1, 4096, .inl o_tape_f))] → va_S A s.heap H locs → lv_has ls 3 [(0, .ref o), (1, .int x1), (2, .int x2)] → W p l e ({ frames := 0, cells := 0, slots := 0, locals := 0 } : Room) s m args below meth c H locs 0 0 (MQ below (va_Qv (fun _ : Unit => True) (fun _ t => va_P (dC, dI) classes [(o, .inr (6, [.ref o_page, .ref o_shape, .ref o_curves, .ref o_lines, .ref o_tape, .ref o_spare, .int uu.1, va_rf o_face, .int o_pixels])), (o_tape, .inl (cy 1, 4096, .inl uu.2))] t.heap ∧ va_K (dC, dI) classes (TY cy) t ∧ va_D A [(o, .inr (6, [.ref o_page, .ref o_shape, .ref o_curves, .ref o_lines, .ref o_tape, .ref o_spare, .int uu.1, va_rf o_face, .int o_pixels])), (o_tape, .inl (cy 1, 4096, .inl uu.2))]) A) args s 0 0 A) (F0 m 37 ls []) := by
  intro hP hD hS hl
  obtain ⟨hx, hb, hr, hlocks, hml, hown, htsG, hA, hK⟩ := id C0
  unfold P_Gp_append_37 at h
  refine lv_iinc (v := (x2 + (-8 : Int32))) (lv' := [(2, .int (x2 + (-8 : Int32))), (0, .ref o), (1, .int x1)]) hx hb d_Gp_append_37 hl (k := 2) rfl rfl (by decide) rfl (fun ls hl => ?_)
  refine lv_goto (tgt := 3) hx hb d_Gp_append_40 (by decide) ?_
  exact hz3 x1 (x2 + (-8 : Int32)) o_tapeLength o_tape_f _ _ _ h hP hD hS (lv_sub hl [1, 2, 0] rfl)
def P_Gp_append_3b   (z3 : Int32 × Int32 × Int32 × (Nat → Int32) → Option (Int32 × (Nat → Int32))) (x1 : Int32) (x2 : Int32) (o_tapeLength : Int32) (o_tape_f : Nat → Int32) : Option (Int32 × (Nat → Int32)) :=
  if x2 < 0 then (some (o_tapeLength, o_tape_f)) else (if (4096 : Int32) ≤ o_tapeLength then (P_Gp_append_37 z3 x1 x2 o_tapeLength o_tape_f) else (bd o_tapeLength 4096 <| P_Gp_append_37 z3 x1 x2 (o_tapeLength + (1 : Int32)) (upd o_tape_f o_tapeLength.toNatClampNeg (vp_nar .byte ((x1 >>> (x2 &&& 31)).toInt8.toInt32)))))
def L_Gp_append_3   : (Int32 × Int32 × Int32 × (Nat → Int32) → Option (Int32 × (Nat → Int32))) → (Int32 × Int32 × Int32 × (Nat → Int32)) → Option (Int32 × (Nat → Int32)) :=
  fun z => unp fun x1 => unp fun x2 => unp fun o_tapeLength o_tape_f => P_Gp_append_3b  z x1 x2 o_tapeLength o_tape_f
def P_Gp_append_3   (x1 : Int32) (x2 : Int32) (o_tapeLength : Int32) (o_tape_f : Nat → Int32) : Option (Int32 × (Nat → Int32)) :=
  lp (L_Gp_append_3 ) fuel (x1, x2, o_tapeLength, o_tape_f)
theorem e_Gp_append_3   (n : Nat) (x1 : Int32) (x2 : Int32) (o_tapeLength : Int32) (o_tape_f : Nat → Int32) : lp (L_Gp_append_3 ) (n + 1) (x1, x2, o_tapeLength, o_tape_f) = P_Gp_append_3b  (lp (L_Gp_append_3 ) n) x1 x2 o_tapeLength o_tape_f := rfl
set_option maxHeartbeats 4000000 in
set_option maxRecDepth 100000 in
theorem w_Gp_append_3b (C0 : Cx p s m args meth c A dC dI cy b_Gp_append 3 none "GlyphPage") (o : Nat) (o_page : Nat) (o_shape : Nat) (o_curves : Nat) (o_lines : Nat) (o_tape : Nat) (o_spare : Nat) (o_face : Option Nat) (o_pixels : Int32) (a1 : Int32) (uu : Int32 × (Nat → Int32))  (z3 : Int32 × Int32 × Int32 × (Nat → Int32) → Option (Int32 × (Nat → Int32))) (hz3 : ∀ (x1 : Int32) (x2 : Int32) (o_tapeLength : Int32) (o_tape_f : Nat → Int32) (H : Heap) (locs : List Loc) (ls : Array Slot), z3 (x1, x2, o_tapeLength, o_tape_f) = some uu → va_P (dC, dI) classes [(o, .inr (6, [.ref o_page, .ref o_shape, .ref o_curves, .ref o_lines, .ref o_tape, .ref o_spare, .int o_tapeLength, va_rf o_face, .int o_pixels])), (o_tape, .inl (cy 1, 4096, .inl o_tape_f))] H → va_D A [(o, .inr (6, [.ref o_page, .ref o_shape, .ref o_curves, .ref o_lines, .ref o_tape, .ref o_spare, .int o_tapeLength, va_rf o_face, .int o_pixels])), (o_tape, .inl (cy 1, 4096, .inl o_tape_f))] → va_S A s.heap H locs → lv_has ls 3 [(0, .ref o), (1, .int x1), (2, .int x2)] → W p l e ({ frames := 0, cells := 0, slots := 0, locals := 0 } : Room) s m args below meth c H locs 0 0 (MQ below (va_Qv (fun _ : Unit => True) (fun _ t => va_P (dC, dI) classes [(o, .inr (6, [.ref o_page, .ref o_shape, .ref o_curves, .ref o_lines, .ref o_tape, .ref o_spare, .int uu.1, va_rf o_face, .int o_pixels])), (o_tape, .inl (cy 1, 4096, .inl uu.2))] t.heap ∧ va_K (dC, dI) classes (TY cy) t ∧ va_D A [(o, .inr (6, [.ref o_page, .ref o_shape, .ref o_curves, .ref o_lines, .ref o_tape, .ref o_spare, .int uu.1, va_rf o_face, .int o_pixels])), (o_tape, .inl (cy 1, 4096, .inl uu.2))]) A) args s 0 0 A) (F0 m 3 ls [])) (x1 : Int32) (x2 : Int32) (o_tapeLength : Int32) (o_tape_f : Nat → Int32) {H : Heap} {locs : List Loc} {ls : Array Slot} (h : P_Gp_append_3b z3 x1 x2 o_tapeLength o_tape_f = some uu) : va_P (dC, dI) classes [(o, .inr (6, [.ref o_page, .ref o_shape, .ref o_curves, .ref o_lines, .ref o_tape, .ref o_spare, .int o_tapeLength, va_rf o_face, .int o_pixels])), (o_tape, .inl (cy 1, 4096, .inl o_tape_f))] H → va_D A [(o, .inr (6, [.ref o_page, .ref o_shape, .ref o_curves, .ref o_lines, .ref o_tape, .ref o_spare, .int o_tapeLength, va_rf o_face, .int o_pixels])), (o_tape, .inl (cy 1, 4096, .inl o_tape_f))] → va_S A s.heap H locs → lv_has ls 3 [(0, .ref o), (1, .int x1), (2, .int x2)] → W p l e ({ frames := 0, cells := 0, slots := 0, locals := 0 } : Room) s m args below meth c H locs 0 0 (MQ below (va_Qv (fun _ : Unit => True) (fun _ t => va_P (dC, dI) classes [(o, .inr (6, [.ref o_page, .ref o_shape, .ref o_curves, .ref o_lines, .ref o_tape, .ref o_spare, .int uu.1, va_rf o_face, .int o_pixels])), (o_tape, .inl (cy 1, 4096, .inl uu.2))] t.heap ∧ va_K (dC, dI) classes (TY cy) t ∧ va_D A [(o, .inr (6, [.ref o_page, .ref o_shape, .ref o_curves, .ref o_lines, .ref o_tape, .ref o_spare, .int uu.1, va_rf o_face, .int o_pixels])), (o_tape, .inl (cy 1, 4096, .inl uu.2))]) A) args s 0 0 A) (F0 m 3 ls []) := by
  intro hP hD hS hl
  obtain ⟨hx, hb, hr, hlocks, hml, hown, htsG, hA, hK⟩ := id C0
  unfold P_Gp_append_3b at h
  refine lv_iload_n hx hb d_Gp_append_3 rfl (lv_at hl 2 rfl) ?_
  refine lv_if_lt (tgt := 43) hx hb d_Gp_append_4 (by decide) (fun c_1 => ?_) (fun c_1 => ?_)
  · replace h := (if_pos c_1).symm.trans h
    cases h
    exact W.vret hx hb hr (fun t ht hW => ⟨⟨(), rfl, trivial, by rw [ht]; exact hP, va_K.moved hW.alike hK, hD⟩, hS.F ht⟩) hS.2.2 d_Gp_append_43 hlocks
  · replace h := (if_neg c_1).symm.trans h
    refine lv_aload_n hx hb d_Gp_append_7 rfl (lv_at hl 0 rfl) ?_
    refine va_get (D := (dC, dI)) (ci := 6) (v := .int o_tapeLength) (C := "GlyphPage") (T := F_Gp) (N := 9) hx hb htsG iG_Gp hown hK hP 0 rfl rfl 6 (by decide) (htsG _ mW252) (fun _ h9 => h9) rfl d_Gp_append_8 ?_
    refine lv_sipush (v := (4096 : Int32)) hx hb d_Gp_append_11 (by decide) ?_
    refine lv_icmp_ge (tgt := 37) hx hb d_Gp_append_14 (by decide) (fun c_2 => ?_) (fun c_2 => ?_)
    · replace h := (if_pos c_2).symm.trans h
      exact w_Gp_append_37 C0 o o_page o_shape o_curves o_lines o_tape o_spare o_face o_pixels a1 uu z3 hz3 x1 x2 o_tapeLength o_tape_f h hP hD hS (lv_sub hl [0, 1, 2] rfl)
    · replace h := (if_neg c_2).symm.trans h
      refine lv_aload_n hx hb d_Gp_append_17 rfl (lv_at hl 0 rfl) ?_
      refine va_get (D := (dC, dI)) (ci := 6) (v := .ref o_tape) (C := "GlyphPage") (T := F_Gp) (N := 9) hx hb htsG iG_Gp hown hK hP 0 rfl rfl 4 (by decide) (htsG _ mW250) (fun _ h9 => h9) rfl d_Gp_append_18 ?_
      refine lv_aload_n hx hb d_Gp_append_21 rfl (lv_at hl 0 rfl) ?_
      refine lv_dup hx hb d_Gp_append_22 rfl ?_
      refine va_get (D := (dC, dI)) (ci := 6) (v := .int o_tapeLength) (C := "GlyphPage") (T := F_Gp) (N := 9) hx hb htsG iG_Gp hown hK hP 0 rfl rfl 6 (by decide) (htsG _ mW252) (fun _ h9 => h9) rfl d_Gp_append_23 ?_
      refine lv_dup_x1 hx hb d_Gp_append_26 rfl rfl ?_
      refine lv_iconst (v := (1 : Int32)) hx hb d_Gp_append_27 (by decide) ?_
      refine lv_iadd hx hb d_Gp_append_28 ?_
      refine va_put (D := (dC, dI)) (ci := 6) (v := .int (o_tapeLength + (1 : Int32))) (ty := .int) (C := "GlyphPage") (T := F_Gp) (N := 9) hx hb htsG iG_Gp t_Gp t_Gp_ok n_Gp hown hK hP hD hS 0 rfl rfl 6 (by decide) (htsG _ mW252) (fun _ h9 => h9) rfl (by decide +kernel) rfl rfl (Nat.le_of_ble_eq_true rfl) d_Gp_append_29 (fun H locs hP hD hS => ?_)
      have hP : va_P (dC, dI) classes [(o, .inr (6, [.ref o_page, .ref o_shape, .ref o_curves, .ref o_lines, .ref o_tape, .ref o_spare, .int (o_tapeLength + (1 : Int32)), va_rf o_face, .int o_pixels])), (o_tape, .inl (cy 1, 4096, .inl o_tape_f))] H := hP
      have hD : va_D A [(o, .inr (6, [.ref o_page, .ref o_shape, .ref o_curves, .ref o_lines, .ref o_tape, .ref o_spare, .int (o_tapeLength + (1 : Int32)), va_rf o_face, .int o_pixels])), (o_tape, .inl (cy 1, 4096, .inl o_tape_f))] := hD
      refine lv_iload_n hx hb d_Gp_append_32 rfl (lv_at hl 1 rfl) ?_
      refine lv_iload_n hx hb d_Gp_append_33 rfl (lv_at hl 2 rfl) ?_
      refine lv_ishr hx hb d_Gp_append_34 ?_
      refine lv_i2b hx hb d_Gp_append_35 rfl ?_
      obtain ⟨hin_3, h⟩ := bd_some h
      refine va_bast hx hb hK hP hD hS 1 1 rfl rfl hin_3 d_Gp_append_36 (fun H locs hP hD hS => ?_)
      have hP : va_P (dC, dI) classes [(o, .inr (6, [.ref o_page, .ref o_shape, .ref o_curves, .ref o_lines, .ref o_tape, .ref o_spare, .int (o_tapeLength + (1 : Int32)), va_rf o_face, .int o_pixels])), (o_tape, .inl (cy 1, 4096, .inl (upd o_tape_f o_tapeLength.toNatClampNeg (vp_nar .byte ((x1 >>> (x2 &&& 31)).toInt8.toInt32)))))] H := hP
      have hD : va_D A [(o, .inr (6, [.ref o_page, .ref o_shape, .ref o_curves, .ref o_lines, .ref o_tape, .ref o_spare, .int (o_tapeLength + (1 : Int32)), va_rf o_face, .int o_pixels])), (o_tape, .inl (cy 1, 4096, .inl (upd o_tape_f o_tapeLength.toNatClampNeg (vp_nar .byte ((x1 >>> (x2 &&& 31)).toInt8.toInt32)))))] := hD
      exact w_Gp_append_37 C0 o o_page o_shape o_curves o_lines o_tape o_spare o_face o_pixels a1 uu z3 hz3 x1 x2 (o_tapeLength + (1 : Int32)) (upd o_tape_f o_tapeLength.toNatClampNeg (vp_nar .byte ((x1 >>> (x2 &&& 31)).toInt8.toInt32))) h hP hD hS (lv_sub hl [0, 1, 2] rfl)
theorem w_Gp_append_3 (C0 : Cx p s m args meth c A dC dI cy b_Gp_append 3 none "GlyphPage") (o : Nat) (o_page : Nat) (o_shape : Nat) (o_curves : Nat) (o_lines : Nat) (o_tape : Nat) (o_spare : Nat) (o_face : Option Nat) (o_pixels : Int32) (a1 : Int32) (uu : Int32 × (Nat → Int32))  (x1 : Int32) (x2 : Int32) (o_tapeLength : Int32) (o_tape_f : Nat → Int32) {H : Heap} {locs : List Loc} {ls : Array Slot} (h : P_Gp_append_3 x1 x2 o_tapeLength o_tape_f = some uu) : va_P (dC, dI) classes [(o, .inr (6, [.ref o_page, .ref o_shape, .ref o_curves, .ref o_lines, .ref o_tape, .ref o_spare, .int o_tapeLength, va_rf o_face, .int o_pixels])), (o_tape, .inl (cy 1, 4096, .inl o_tape_f))] H → va_D A [(o, .inr (6, [.ref o_page, .ref o_shape, .ref o_curves, .ref o_lines, .ref o_tape, .ref o_spare, .int o_tapeLength, va_rf o_face, .int o_pixels])), (o_tape, .inl (cy 1, 4096, .inl o_tape_f))] → va_S A s.heap H locs → lv_has ls 3 [(0, .ref o), (1, .int x1), (2, .int x2)] → W p l e ({ frames := 0, cells := 0, slots := 0, locals := 0 } : Room) s m args below meth c H locs 0 0 (MQ below (va_Qv (fun _ : Unit => True) (fun _ t => va_P (dC, dI) classes [(o, .inr (6, [.ref o_page, .ref o_shape, .ref o_curves, .ref o_lines, .ref o_tape, .ref o_spare, .int uu.1, va_rf o_face, .int o_pixels])), (o_tape, .inl (cy 1, 4096, .inl uu.2))] t.heap ∧ va_K (dC, dI) classes (TY cy) t ∧ va_D A [(o, .inr (6, [.ref o_page, .ref o_shape, .ref o_curves, .ref o_lines, .ref o_tape, .ref o_spare, .int uu.1, va_rf o_face, .int o_pixels])), (o_tape, .inl (cy 1, 4096, .inl uu.2))]) A) args s 0 0 A) (F0 m 3 ls []) := by
  have key : ∀ (n : Nat) (x1 : Int32) (x2 : Int32) (o_tapeLength : Int32) (o_tape_f : Nat → Int32) (H : Heap) (locs : List Loc) (ls : Array Slot), lp (L_Gp_append_3 ) n (x1, x2, o_tapeLength, o_tape_f) = some uu → va_P (dC, dI) classes [(o, .inr (6, [.ref o_page, .ref o_shape, .ref o_curves, .ref o_lines, .ref o_tape, .ref o_spare, .int o_tapeLength, va_rf o_face, .int o_pixels])), (o_tape, .inl (cy 1, 4096, .inl o_tape_f))] H → va_D A [(o, .inr (6, [.ref o_page, .ref o_shape, .ref o_curves, .ref o_lines, .ref o_tape, .ref o_spare, .int o_tapeLength, va_rf o_face, .int o_pixels])), (o_tape, .inl (cy 1, 4096, .inl o_tape_f))] → va_S A s.heap H locs → lv_has ls 3 [(0, .ref o), (1, .int x1), (2, .int x2)] → W p l e ({ frames := 0, cells := 0, slots := 0, locals := 0 } : Room) s m args below meth c H locs 0 0 (MQ below (va_Qv (fun _ : Unit => True) (fun _ t => va_P (dC, dI) classes [(o, .inr (6, [.ref o_page, .ref o_shape, .ref o_curves, .ref o_lines, .ref o_tape, .ref o_spare, .int uu.1, va_rf o_face, .int o_pixels])), (o_tape, .inl (cy 1, 4096, .inl uu.2))] t.heap ∧ va_K (dC, dI) classes (TY cy) t ∧ va_D A [(o, .inr (6, [.ref o_page, .ref o_shape, .ref o_curves, .ref o_lines, .ref o_tape, .ref o_spare, .int uu.1, va_rf o_face, .int o_pixels])), (o_tape, .inl (cy 1, 4096, .inl uu.2))]) A) args s 0 0 A) (F0 m 3 ls []) := by
    intro n
    induction n with
    | zero => intro x1 x2 o_tapeLength o_tape_f H locs ls h; cases h
    | succ n ih => intro x1 x2 o_tapeLength o_tape_f H locs ls h; exact w_Gp_append_3b C0 o o_page o_shape o_curves o_lines o_tape o_spare o_face o_pixels a1 uu  (lp (L_Gp_append_3 ) n) ih x1 x2 o_tapeLength o_tape_f ((e_Gp_append_3  n x1 x2 o_tapeLength o_tape_f).symm.trans h)
  exact key fuel x1 x2 o_tapeLength o_tape_f H locs ls h
def P_Gp_append (o_tapeLength : Int32) (o_tape_f : Nat → Int32) (a1 : Int32) : Option (Int32 × (Nat → Int32)) :=
  P_Gp_append_3 a1 (24 : Int32) o_tapeLength o_tape_f
set_option maxHeartbeats 4000000 in
set_option maxRecDepth 100000 in
theorem c_Gp_append (l : Launch) (dC : Nat → ClassId) (dI : Nat → Nat → Nat) (cy : Nat → ClassId) (sz : Nat) (o : Nat) (o_page : Nat) (o_shape : Nat) (o_curves : Nat) (o_lines : Nat) (o_tape : Nat) (o_spare : Nat) (o_tapeLength : Int32) (o_face : Option Nat) (o_pixels : Int32) (o_tape_f : Nat → Int32) (a1 : Int32) (uu : Int32 × (Nat → Int32)) (h : P_Gp_append o_tapeLength o_tape_f a1 = some uu) : Met l y_Gp_append (Cond.code y_Gp_append b_Gp_append 3 none :: G) ({ frames := 0, cells := 0, slots := 0, locals := 0 } : Room) (va_Pc [.ref o, .int a1] (fun U => U.heap.size = sz ∧ va_P (dC, dI) classes [(o, .inr (6, [.ref o_page, .ref o_shape, .ref o_curves, .ref o_lines, .ref o_tape, .ref o_spare, .int o_tapeLength, va_rf o_face, .int o_pixels])), (o_tape, .inl (cy 1, 4096, .inl o_tape_f))] U.heap ∧ va_K (dC, dI) classes (TY cy) U ∧ va_D (fun _ => True) [(o, .inr (6, [.ref o_page, .ref o_shape, .ref o_curves, .ref o_lines, .ref o_tape, .ref o_spare, .int o_tapeLength, va_rf o_face, .int o_pixels])), (o_tape, .inl (cy 1, 4096, .inl o_tape_f))])) (va_Qv (fun _ : Unit => True) (fun _ t => va_P (dC, dI) classes [(o, .inr (6, [.ref o_page, .ref o_shape, .ref o_curves, .ref o_lines, .ref o_tape, .ref o_spare, .int uu.1, va_rf o_face, .int o_pixels])), (o_tape, .inl (cy 1, 4096, .inl uu.2))] t.heap ∧ va_K (dC, dI) classes (TY cy) t ∧ va_D (va_A [(o, .inr (6, [.ref o_page, .ref o_shape, .ref o_curves, .ref o_lines, .ref o_tape, .ref o_spare, .int o_tapeLength, va_rf o_face, .int o_pixels])), (o_tape, .inl (cy 1, 4096, .inl o_tape_f))] sz) [(o, .inr (6, [.ref o_page, .ref o_shape, .ref o_curves, .ref o_lines, .ref o_tape, .ref o_spare, .int uu.1, va_rf o_face, .int o_pixels])), (o_tape, .inl (cy 1, 4096, .inl uu.2))]) (va_A [(o, .inr (6, [.ref o_page, .ref o_shape, .ref o_curves, .ref o_lines, .ref o_tape, .ref o_spare, .int o_tapeLength, va_rf o_face, .int o_pixels])), (o_tape, .inl (cy 1, 4096, .inl o_tape_f))] sz)) 0 0 (va_A [(o, .inr (6, [.ref o_page, .ref o_shape, .ref o_curves, .ref o_lines, .ref o_tape, .ref o_spare, .int o_tapeLength, va_rf o_face, .int o_pixels])), (o_tape, .inl (cy 1, 4096, .inl o_tape_f))] sz) := by
  refine Met.ofW (cc := b_Gp_append) (maxL := 3) (ret := none) (by decide) rfl ?_
  intro p e s m args below meth c s₁ B hml hv
  obtain ⟨rfl, hsz, hP, hK, hD0⟩ := hv
  have hx := B.exec
  have hb := B.bytes
  have hr := B.returns
  have hts := atoms_spec (ws := Cond.code y_Gp_append b_Gp_append 3 none :: G) B.pre
  have htsG : ∀ w ∈ G, w.before _ s = true := fun w hw => hts w (List.mem_cons_of_mem _ hw)
  have hown : s.vm.findClass "GlyphPage" = some m.cls := findClass_of_methodNamed B.named
  have hlocks := B.notSynchronized
  subst hsz
  have hD := hD0.self (sz := s.heap.size)
  generalize hAe : va_A [(o, .inr (6, [.ref o_page, .ref o_shape, .ref o_curves, .ref o_lines, .ref o_tape, .ref o_spare, .int o_tapeLength, va_rf o_face, .int o_pixels])), (o_tape, .inl (cy 1, 4096, .inl o_tape_f))] s.heap.size = A at hD ⊢
  have hA : ∀ q : Nat, s.heap.size ≤ q → A q := fun q h => by rw [← hAe]; exact Or.inr h
  have hS : va_S A s.heap s.heap [] := va_S.rf
  have hl := lv_entry ([.ref o, .int a1]) (n := 3) (Nat.le_of_ble_eq_true rfl)
  rw [lg_entry_eq]
  generalize (lg_sl ([.ref o, .int a1]) ++ List.replicate (3 - (lg_sl ([.ref o, .int a1])).length) Slot.unset).toArray = ls at hl ⊢
  have hl : lv_has ls 3 [(0, .ref o), (1, .int a1)] := hl
  have C0 : Cx p s m _ meth c A dC dI cy b_Gp_append 3 none "GlyphPage" := ⟨hx, hb, hr, hlocks, hml, hown, htsG, hA, hK⟩
  unfold P_Gp_append at h
  refine lv_bipush (v := (24 : Int32)) hx hb d_Gp_append_0 (by decide) ?_
  refine lv_istore_n (lv' := [(2, .int (24 : Int32)), (0, .ref o), (1, .int a1)]) hx hb d_Gp_append_2 rfl hl (by decide) rfl (fun ls hl => ?_)
  exact w_Gp_append_3 C0 o o_page o_shape o_curves o_lines o_tape o_spare o_face o_pixels a1 uu  a1 (24 : Int32) o_tapeLength o_tape_f h hP hD hS (lv_sub hl [1, 2, 0] rfl)
def P_Gp_feed (o_tapeLength : Int32) (o_tape_f : Nat → Int32) (a1 : Int32) (a2 : Int32) (a3 : Int32) (a4 : Int32) (a5 : Int32) : Option (Int32 × Int32 × (Nat → Int32)) :=
  if (o_tapeLength + (20 : Int32)) ≤ (4096 : Int32) then ((P_Gp_append o_tapeLength o_tape_f a1).bind <| unp fun n_2 n_3 => (P_Gp_append n_2 n_3 a2).bind <| unp fun n_4 n_5 => (P_Gp_append n_4 n_5 a3).bind <| unp fun n_6 n_7 => (P_Gp_append n_6 n_7 a4).bind <| unp fun n_8 n_9 => (P_Gp_append n_8 n_9 a5).bind <| unp fun n_10 n_11 => some (n_10, n_10, n_11)) else (some ((-3 : Int32), o_tapeLength, o_tape_f))
set_option maxHeartbeats 4000000 in
set_option maxRecDepth 100000 in
theorem c_Gp_feed (l : Launch) (dC : Nat → ClassId) (dI : Nat → Nat → Nat) (cy : Nat → ClassId) (sz : Nat) (o : Nat) (o_page : Nat) (o_shape : Nat) (o_curves : Nat) (o_lines : Nat) (o_tape : Nat) (o_spare : Nat) (o_tapeLength : Int32) (o_face : Option Nat) (o_pixels : Int32) (o_tape_f : Nat → Int32) (a1 : Int32) (a2 : Int32) (a3 : Int32) (a4 : Int32) (a5 : Int32) (uu : Int32 × Int32 × (Nat → Int32)) (h : P_Gp_feed o_tapeLength o_tape_f a1 a2 a3 a4 a5 = some uu) : Met l y_Gp_feed (Cond.code y_Gp_feed b_Gp_feed 6 (some .int) :: G) ({ frames := 1, cells := 0, slots := 0, locals := 22 } : Room) (va_Pc [.ref o, .int a1, .int a2, .int a3, .int a4, .int a5] (fun U => U.heap.size = sz ∧ va_P (dC, dI) classes [(o, .inr (6, [.ref o_page, .ref o_shape, .ref o_curves, .ref o_lines, .ref o_tape, .ref o_spare, .int o_tapeLength, va_rf o_face, .int o_pixels])), (o_tape, .inl (cy 1, 4096, .inl o_tape_f))] U.heap ∧ va_K (dC, dI) classes (TY cy) U ∧ va_D (fun _ => True) [(o, .inr (6, [.ref o_page, .ref o_shape, .ref o_curves, .ref o_lines, .ref o_tape, .ref o_spare, .int o_tapeLength, va_rf o_face, .int o_pixels])), (o_tape, .inl (cy 1, 4096, .inl o_tape_f))])) (va_Qi (fun r (_ : Unit) => r = uu.1) (fun _ t => va_P (dC, dI) classes [(o, .inr (6, [.ref o_page, .ref o_shape, .ref o_curves, .ref o_lines, .ref o_tape, .ref o_spare, .int uu.2.1, va_rf o_face, .int o_pixels])), (o_tape, .inl (cy 1, 4096, .inl uu.2.2))] t.heap ∧ va_K (dC, dI) classes (TY cy) t ∧ va_D (va_A [(o, .inr (6, [.ref o_page, .ref o_shape, .ref o_curves, .ref o_lines, .ref o_tape, .ref o_spare, .int o_tapeLength, va_rf o_face, .int o_pixels])), (o_tape, .inl (cy 1, 4096, .inl o_tape_f))] sz) [(o, .inr (6, [.ref o_page, .ref o_shape, .ref o_curves, .ref o_lines, .ref o_tape, .ref o_spare, .int uu.2.1, va_rf o_face, .int o_pixels])), (o_tape, .inl (cy 1, 4096, .inl uu.2.2))]) (va_A [(o, .inr (6, [.ref o_page, .ref o_shape, .ref o_curves, .ref o_lines, .ref o_tape, .ref o_spare, .int o_tapeLength, va_rf o_face, .int o_pixels])), (o_tape, .inl (cy 1, 4096, .inl o_tape_f))] sz)) 0 0 (va_A [(o, .inr (6, [.ref o_page, .ref o_shape, .ref o_curves, .ref o_lines, .ref o_tape, .ref o_spare, .int o_tapeLength, va_rf o_face, .int o_pixels])), (o_tape, .inl (cy 1, 4096, .inl o_tape_f))] sz) := by
  refine Met.ofW (cc := b_Gp_feed) (maxL := 6) (ret := (some .int)) (by decide) rfl ?_
  intro p e s m args below meth c s₁ B hml hv
  obtain ⟨rfl, hsz, hP, hK, hD0⟩ := hv
  have hx := B.exec
  have hb := B.bytes
  have hr := B.returns
  have hts := atoms_spec (ws := Cond.code y_Gp_feed b_Gp_feed 6 (some .int) :: G) B.pre
  have htsG : ∀ w ∈ G, w.before _ s = true := fun w hw => hts w (List.mem_cons_of_mem _ hw)
  have hown : s.vm.findClass "GlyphPage" = some m.cls := findClass_of_methodNamed B.named
  have hlocks := B.notSynchronized
  subst hsz
  have hD := hD0.self (sz := s.heap.size)
  generalize hAe : va_A [(o, .inr (6, [.ref o_page, .ref o_shape, .ref o_curves, .ref o_lines, .ref o_tape, .ref o_spare, .int o_tapeLength, va_rf o_face, .int o_pixels])), (o_tape, .inl (cy 1, 4096, .inl o_tape_f))] s.heap.size = A at hD ⊢
  have hA : ∀ q : Nat, s.heap.size ≤ q → A q := fun q h => by rw [← hAe]; exact Or.inr h
  have hS : va_S A s.heap s.heap [] := va_S.rf
  have hl := lv_entry ([.ref o, .int a1, .int a2, .int a3, .int a4, .int a5]) (n := 6) (Nat.le_of_ble_eq_true rfl)
  rw [lg_entry_eq]
  generalize (lg_sl ([.ref o, .int a1, .int a2, .int a3, .int a4, .int a5]) ++ List.replicate (6 - (lg_sl ([.ref o, .int a1, .int a2, .int a3, .int a4, .int a5])).length) Slot.unset).toArray = ls at hl ⊢
  have hl : lv_has ls 6 [(0, .ref o), (1, .int a1), (2, .int a2), (3, .int a3), (4, .int a4), (5, .int a5)] := hl
  have C0 : Cx p s m _ meth c A dC dI cy b_Gp_feed 6 (some .int) "GlyphPage" := ⟨hx, hb, hr, hlocks, hml, hown, htsG, hA, hK⟩
  unfold P_Gp_feed at h
  refine lv_aload_n hx hb d_Gp_feed_0 rfl (lv_at hl 0 rfl) ?_
  refine va_get (D := (dC, dI)) (ci := 6) (v := .int o_tapeLength) (C := "GlyphPage") (T := F_Gp) (N := 9) hx hb htsG iG_Gp hown hK hP 0 rfl rfl 6 (by decide) (htsG _ mW252) (fun _ h9 => h9) rfl d_Gp_feed_1 ?_
  refine lv_bipush (v := (20 : Int32)) hx hb d_Gp_feed_4 (by decide) ?_
  refine lv_iadd hx hb d_Gp_feed_6 ?_
  refine lv_sipush (v := (4096 : Int32)) hx hb d_Gp_feed_7 (by decide) ?_
  refine lv_icmp_le (tgt := 16) hx hb d_Gp_feed_10 (by decide) (fun c_1 => ?_) (fun c_1 => ?_)
  · replace h := (if_pos c_1).symm.trans h
    refine lv_aload_n hx hb d_Gp_feed_16 rfl (lv_at hl 0 rfl) ?_
    refine lv_iload_n hx hb d_Gp_feed_17 rfl (lv_at hl 1 rfl) ?_
    obtain ⟨⟨n_2, n_3⟩, hq, h⟩ := Option.bind_eq_some_iff.mp h
    dsimp only [unp] at h
    have hPc := hP.sub (ws' := [(o, .inr (6, [.ref o_page, .ref o_shape, .ref o_curves, .ref o_lines, .ref o_tape, .ref o_spare, .int o_tapeLength, va_rf o_face, .int o_pixels])), (o_tape, .inl (cy 1, 4096, .inl o_tape_f))]) [0, 1] rfl
    have hDc := hD.sub (ws' := [(o, .inr (6, [.ref o_page, .ref o_shape, .ref o_curves, .ref o_lines, .ref o_tape, .ref o_spare, .int o_tapeLength, va_rf o_face, .int o_pixels])), (o_tape, .inl (cy 1, 4096, .inl o_tape_f))]) [0, 1] (by decide) rfl
    have hFc := va_free (wc := [(o, .inr (6, [.ref o_page, .ref o_shape, .ref o_curves, .ref o_lines, .ref o_tape, .ref o_spare, .int o_tapeLength, va_rf o_face, .int o_pixels])), (o_tape, .inl (cy 1, 4096, .inl o_tape_f))]) hD hS hA [0, 1] rfl
    refine va_callv (va_runV (As := [.int a1]) (rest := []) ⟨hx, hb, hml, hown, htsG⟩ (c_Gp_append l dC dI cy s.heap.size o o_page o_shape o_curves o_lines o_tape o_spare o_tapeLength o_face o_pixels o_tape_f a1 (n_2, n_3) hq) (cwV 1 htsG (gV mW278 mW280 mS_Gp_append mW1 mW281) rfl rfl rfl (by decide +kernel) ⟨Nat.le_of_ble_eq_true rfl, Nat.le_of_ble_eq_true rfl⟩) ⟨fun a U g mk q => by obtain ⟨q0, q1, qP, qK, qD⟩ := q; exact ⟨q0, q1, qP, va_K.moved (u := U) (U := U.calling g mk a) (Vm.Alike.refl U.vm) qK, qD⟩, va_recv hK hPc (ci := 6) (q0 := 0) rfl rfl, fun U hU hW => ⟨rfl, by rw [hU], by rw [hU]; exact hPc, va_K.moved hW.alike hK, hDc.weaken (fun _ _ _ _ => trivial)⟩⟩ rfl rfl hl.1 rfl (lv_room (Nat.le_of_ble_eq_true rfl)) d_Gp_feed_18 ⟨Nat.le_of_ble_eq_true rfl, Nat.le_of_ble_eq_true rfl⟩) hS (fun q _ h => hFc q h) hFc (fun u t H1 locs ht hvm hw hB hz1 hk1 hS => ?_)
    obtain ⟨hP1, hK1, hD1⟩ := hB
    rw [ht] at hP1
    obtain ⟨hP, hD⟩ := va_join (wr := []) (w1 := [(o, .inr (6, [.ref o_page, .ref o_shape, .ref o_curves, .ref o_lines, .ref o_tape, .ref o_spare, .int n_2, va_rf o_face, .int o_pixels])), (o_tape, .inl (cy 1, 4096, .inl n_3))]) hP hD [0, 1] [] rfl rfl (by decide) (by decide) hk1 hFc hP1 hD1
    generalize H1 = H at hP hS ⊢
    have hP := hP.sub (ws' := [(o, .inr (6, [.ref o_page, .ref o_shape, .ref o_curves, .ref o_lines, .ref o_tape, .ref o_spare, .int n_2, va_rf o_face, .int o_pixels])), (o_tape, .inl (cy 1, 4096, .inl n_3))]) [0, 1] rfl
    have hD := hD.sub (ws' := [(o, .inr (6, [.ref o_page, .ref o_shape, .ref o_curves, .ref o_lines, .ref o_tape, .ref o_spare, .int n_2, va_rf o_face, .int o_pixels])), (o_tape, .inl (cy 1, 4096, .inl n_3))]) [0, 1] (by decide) rfl
    refine W.widen (k := 0) (n := 0) (by decide) (by decide) ?_
    refine lv_aload_n hx hb d_Gp_feed_21 rfl (lv_at hl 0 rfl) ?_
    refine lv_iload_n hx hb d_Gp_feed_22 rfl (lv_at hl 2 rfl) ?_
    obtain ⟨⟨n_4, n_5⟩, hq, h⟩ := Option.bind_eq_some_iff.mp h
    dsimp only [unp] at h
    have hPc := hP.sub (ws' := [(o, .inr (6, [.ref o_page, .ref o_shape, .ref o_curves, .ref o_lines, .ref o_tape, .ref o_spare, .int n_2, va_rf o_face, .int o_pixels])), (o_tape, .inl (cy 1, 4096, .inl n_3))]) [0, 1] rfl
    have hDc := hD.sub (ws' := [(o, .inr (6, [.ref o_page, .ref o_shape, .ref o_curves, .ref o_lines, .ref o_tape, .ref o_spare, .int n_2, va_rf o_face, .int o_pixels])), (o_tape, .inl (cy 1, 4096, .inl n_3))]) [0, 1] (by decide) rfl
    have hFc := va_free (wc := [(o, .inr (6, [.ref o_page, .ref o_shape, .ref o_curves, .ref o_lines, .ref o_tape, .ref o_spare, .int n_2, va_rf o_face, .int o_pixels])), (o_tape, .inl (cy 1, 4096, .inl n_3))]) hD hS hA [0, 1] rfl
    refine va_callv (va_runV (As := [.int a2]) (rest := []) ⟨hx, hb, hml, hown, htsG⟩ (c_Gp_append l dC dI cy H.size o o_page o_shape o_curves o_lines o_tape o_spare n_2 o_face o_pixels n_3 a2 (n_4, n_5) hq) (cwV 1 htsG (gV mW278 mW280 mS_Gp_append mW1 mW281) rfl rfl rfl (by decide +kernel) ⟨Nat.le_of_ble_eq_true rfl, Nat.le_of_ble_eq_true rfl⟩) ⟨fun a U g mk q => by obtain ⟨q0, q1, qP, qK, qD⟩ := q; exact ⟨q0, q1, qP, va_K.moved (u := U) (U := U.calling g mk a) (Vm.Alike.refl U.vm) qK, qD⟩, va_recv hK hPc (ci := 6) (q0 := 0) rfl rfl, fun U hU hW => ⟨rfl, by rw [hU], by rw [hU]; exact hPc, va_K.moved hW.alike hK, hDc.weaken (fun _ _ _ _ => trivial)⟩⟩ rfl rfl hl.1 rfl (lv_room (Nat.le_of_ble_eq_true rfl)) d_Gp_feed_23 ⟨Nat.le_of_ble_eq_true rfl, Nat.le_of_ble_eq_true rfl⟩) hS (fun q _ h => hFc q h) hFc (fun u t H1 locs ht hvm hw hB hz1 hk1 hS => ?_)
    obtain ⟨hP1, hK1, hD1⟩ := hB
    rw [ht] at hP1
    obtain ⟨hP, hD⟩ := va_join (wr := []) (w1 := [(o, .inr (6, [.ref o_page, .ref o_shape, .ref o_curves, .ref o_lines, .ref o_tape, .ref o_spare, .int n_4, va_rf o_face, .int o_pixels])), (o_tape, .inl (cy 1, 4096, .inl n_5))]) hP hD [0, 1] [] rfl rfl (by decide) (by decide) hk1 hFc hP1 hD1
    generalize H1 = H at hP hS ⊢
    have hP := hP.sub (ws' := [(o, .inr (6, [.ref o_page, .ref o_shape, .ref o_curves, .ref o_lines, .ref o_tape, .ref o_spare, .int n_4, va_rf o_face, .int o_pixels])), (o_tape, .inl (cy 1, 4096, .inl n_5))]) [0, 1] rfl
    have hD := hD.sub (ws' := [(o, .inr (6, [.ref o_page, .ref o_shape, .ref o_curves, .ref o_lines, .ref o_tape, .ref o_spare, .int n_4, va_rf o_face, .int o_pixels])), (o_tape, .inl (cy 1, 4096, .inl n_5))]) [0, 1] (by decide) rfl
    refine W.widen (k := 0) (n := 0) (by decide) (by decide) ?_
    refine lv_aload_n hx hb d_Gp_feed_26 rfl (lv_at hl 0 rfl) ?_
    refine lv_iload_n hx hb d_Gp_feed_27 rfl (lv_at hl 3 rfl) ?_
    obtain ⟨⟨n_6, n_7⟩, hq, h⟩ := Option.bind_eq_some_iff.mp h
    dsimp only [unp] at h
    have hPc := hP.sub (ws' := [(o, .inr (6, [.ref o_page, .ref o_shape, .ref o_curves, .ref o_lines, .ref o_tape, .ref o_spare, .int n_4, va_rf o_face, .int o_pixels])), (o_tape, .inl (cy 1, 4096, .inl n_5))]) [0, 1] rfl
    have hDc := hD.sub (ws' := [(o, .inr (6, [.ref o_page, .ref o_shape, .ref o_curves, .ref o_lines, .ref o_tape, .ref o_spare, .int n_4, va_rf o_face, .int o_pixels])), (o_tape, .inl (cy 1, 4096, .inl n_5))]) [0, 1] (by decide) rfl
    have hFc := va_free (wc := [(o, .inr (6, [.ref o_page, .ref o_shape, .ref o_curves, .ref o_lines, .ref o_tape, .ref o_spare, .int n_4, va_rf o_face, .int o_pixels])), (o_tape, .inl (cy 1, 4096, .inl n_5))]) hD hS hA [0, 1] rfl
    refine va_callv (va_runV (As := [.int a3]) (rest := []) ⟨hx, hb, hml, hown, htsG⟩ (c_Gp_append l dC dI cy H.size o o_page o_shape o_curves o_lines o_tape o_spare n_4 o_face o_pixels n_5 a3 (n_6, n_7) hq) (cwV 1 htsG (gV mW278 mW280 mS_Gp_append mW1 mW281) rfl rfl rfl (by decide +kernel) ⟨Nat.le_of_ble_eq_true rfl, Nat.le_of_ble_eq_true rfl⟩) ⟨fun a U g mk q => by obtain ⟨q0, q1, qP, qK, qD⟩ := q; exact ⟨q0, q1, qP, va_K.moved (u := U) (U := U.calling g mk a) (Vm.Alike.refl U.vm) qK, qD⟩, va_recv hK hPc (ci := 6) (q0 := 0) rfl rfl, fun U hU hW => ⟨rfl, by rw [hU], by rw [hU]; exact hPc, va_K.moved hW.alike hK, hDc.weaken (fun _ _ _ _ => trivial)⟩⟩ rfl rfl hl.1 rfl (lv_room (Nat.le_of_ble_eq_true rfl)) d_Gp_feed_28 ⟨Nat.le_of_ble_eq_true rfl, Nat.le_of_ble_eq_true rfl⟩) hS (fun q _ h => hFc q h) hFc (fun u t H1 locs ht hvm hw hB hz1 hk1 hS => ?_)
    obtain ⟨hP1, hK1, hD1⟩ := hB
    rw [ht] at hP1
    obtain ⟨hP, hD⟩ := va_join (wr := []) (w1 := [(o, .inr (6, [.ref o_page, .ref o_shape, .ref o_curves, .ref o_lines, .ref o_tape, .ref o_spare, .int n_6, va_rf o_face, .int o_pixels])), (o_tape, .inl (cy 1, 4096, .inl n_7))]) hP hD [0, 1] [] rfl rfl (by decide) (by decide) hk1 hFc hP1 hD1
    generalize H1 = H at hP hS ⊢
    have hP := hP.sub (ws' := [(o, .inr (6, [.ref o_page, .ref o_shape, .ref o_curves, .ref o_lines, .ref o_tape, .ref o_spare, .int n_6, va_rf o_face, .int o_pixels])), (o_tape, .inl (cy 1, 4096, .inl n_7))]) [0, 1] rfl
    have hD := hD.sub (ws' := [(o, .inr (6, [.ref o_page, .ref o_shape, .ref o_curves, .ref o_lines, .ref o_tape, .ref o_spare, .int n_6, va_rf o_face, .int o_pixels])), (o_tape, .inl (cy 1, 4096, .inl n_7))]) [0, 1] (by decide) rfl
    refine W.widen (k := 0) (n := 0) (by decide) (by decide) ?_
    refine lv_aload_n hx hb d_Gp_feed_31 rfl (lv_at hl 0 rfl) ?_
    refine lv_iload hx hb d_Gp_feed_32 (lv_at hl 4 rfl) ?_
    obtain ⟨⟨n_8, n_9⟩, hq, h⟩ := Option.bind_eq_some_iff.mp h
    dsimp only [unp] at h
    have hPc := hP.sub (ws' := [(o, .inr (6, [.ref o_page, .ref o_shape, .ref o_curves, .ref o_lines, .ref o_tape, .ref o_spare, .int n_6, va_rf o_face, .int o_pixels])), (o_tape, .inl (cy 1, 4096, .inl n_7))]) [0, 1] rfl
    have hDc := hD.sub (ws' := [(o, .inr (6, [.ref o_page, .ref o_shape, .ref o_curves, .ref o_lines, .ref o_tape, .ref o_spare, .int n_6, va_rf o_face, .int o_pixels])), (o_tape, .inl (cy 1, 4096, .inl n_7))]) [0, 1] (by decide) rfl
    have hFc := va_free (wc := [(o, .inr (6, [.ref o_page, .ref o_shape, .ref o_curves, .ref o_lines, .ref o_tape, .ref o_spare, .int n_6, va_rf o_face, .int o_pixels])), (o_tape, .inl (cy 1, 4096, .inl n_7))]) hD hS hA [0, 1] rfl
    refine va_callv (va_runV (As := [.int a4]) (rest := []) ⟨hx, hb, hml, hown, htsG⟩ (c_Gp_append l dC dI cy H.size o o_page o_shape o_curves o_lines o_tape o_spare n_6 o_face o_pixels n_7 a4 (n_8, n_9) hq) (cwV 1 htsG (gV mW278 mW280 mS_Gp_append mW1 mW281) rfl rfl rfl (by decide +kernel) ⟨Nat.le_of_ble_eq_true rfl, Nat.le_of_ble_eq_true rfl⟩) ⟨fun a U g mk q => by obtain ⟨q0, q1, qP, qK, qD⟩ := q; exact ⟨q0, q1, qP, va_K.moved (u := U) (U := U.calling g mk a) (Vm.Alike.refl U.vm) qK, qD⟩, va_recv hK hPc (ci := 6) (q0 := 0) rfl rfl, fun U hU hW => ⟨rfl, by rw [hU], by rw [hU]; exact hPc, va_K.moved hW.alike hK, hDc.weaken (fun _ _ _ _ => trivial)⟩⟩ rfl rfl hl.1 rfl (lv_room (Nat.le_of_ble_eq_true rfl)) d_Gp_feed_34 ⟨Nat.le_of_ble_eq_true rfl, Nat.le_of_ble_eq_true rfl⟩) hS (fun q _ h => hFc q h) hFc (fun u t H1 locs ht hvm hw hB hz1 hk1 hS => ?_)
    obtain ⟨hP1, hK1, hD1⟩ := hB
    rw [ht] at hP1
    obtain ⟨hP, hD⟩ := va_join (wr := []) (w1 := [(o, .inr (6, [.ref o_page, .ref o_shape, .ref o_curves, .ref o_lines, .ref o_tape, .ref o_spare, .int n_8, va_rf o_face, .int o_pixels])), (o_tape, .inl (cy 1, 4096, .inl n_9))]) hP hD [0, 1] [] rfl rfl (by decide) (by decide) hk1 hFc hP1 hD1
    generalize H1 = H at hP hS ⊢
    have hP := hP.sub (ws' := [(o, .inr (6, [.ref o_page, .ref o_shape, .ref o_curves, .ref o_lines, .ref o_tape, .ref o_spare, .int n_8, va_rf o_face, .int o_pixels])), (o_tape, .inl (cy 1, 4096, .inl n_9))]) [0, 1] rfl
    have hD := hD.sub (ws' := [(o, .inr (6, [.ref o_page, .ref o_shape, .ref o_curves, .ref o_lines, .ref o_tape, .ref o_spare, .int n_8, va_rf o_face, .int o_pixels])), (o_tape, .inl (cy 1, 4096, .inl n_9))]) [0, 1] (by decide) rfl
    refine W.widen (k := 0) (n := 0) (by decide) (by decide) ?_
    refine lv_aload_n hx hb d_Gp_feed_37 rfl (lv_at hl 0 rfl) ?_
    refine lv_iload hx hb d_Gp_feed_38 (lv_at hl 5 rfl) ?_
    obtain ⟨⟨n_10, n_11⟩, hq, h⟩ := Option.bind_eq_some_iff.mp h
    dsimp only [unp] at h
    have hPc := hP.sub (ws' := [(o, .inr (6, [.ref o_page, .ref o_shape, .ref o_curves, .ref o_lines, .ref o_tape, .ref o_spare, .int n_8, va_rf o_face, .int o_pixels])), (o_tape, .inl (cy 1, 4096, .inl n_9))]) [0, 1] rfl
    have hDc := hD.sub (ws' := [(o, .inr (6, [.ref o_page, .ref o_shape, .ref o_curves, .ref o_lines, .ref o_tape, .ref o_spare, .int n_8, va_rf o_face, .int o_pixels])), (o_tape, .inl (cy 1, 4096, .inl n_9))]) [0, 1] (by decide) rfl
    have hFc := va_free (wc := [(o, .inr (6, [.ref o_page, .ref o_shape, .ref o_curves, .ref o_lines, .ref o_tape, .ref o_spare, .int n_8, va_rf o_face, .int o_pixels])), (o_tape, .inl (cy 1, 4096, .inl n_9))]) hD hS hA [0, 1] rfl
    refine va_callv (va_runV (As := [.int a5]) (rest := []) ⟨hx, hb, hml, hown, htsG⟩ (c_Gp_append l dC dI cy H.size o o_page o_shape o_curves o_lines o_tape o_spare n_8 o_face o_pixels n_9 a5 (n_10, n_11) hq) (cwV 1 htsG (gV mW278 mW280 mS_Gp_append mW1 mW281) rfl rfl rfl (by decide +kernel) ⟨Nat.le_of_ble_eq_true rfl, Nat.le_of_ble_eq_true rfl⟩) ⟨fun a U g mk q => by obtain ⟨q0, q1, qP, qK, qD⟩ := q; exact ⟨q0, q1, qP, va_K.moved (u := U) (U := U.calling g mk a) (Vm.Alike.refl U.vm) qK, qD⟩, va_recv hK hPc (ci := 6) (q0 := 0) rfl rfl, fun U hU hW => ⟨rfl, by rw [hU], by rw [hU]; exact hPc, va_K.moved hW.alike hK, hDc.weaken (fun _ _ _ _ => trivial)⟩⟩ rfl rfl hl.1 rfl (lv_room (Nat.le_of_ble_eq_true rfl)) d_Gp_feed_40 ⟨Nat.le_of_ble_eq_true rfl, Nat.le_of_ble_eq_true rfl⟩) hS (fun q _ h => hFc q h) hFc (fun u t H1 locs ht hvm hw hB hz1 hk1 hS => ?_)
    obtain ⟨hP1, hK1, hD1⟩ := hB
    rw [ht] at hP1
    obtain ⟨hP, hD⟩ := va_join (wr := []) (w1 := [(o, .inr (6, [.ref o_page, .ref o_shape, .ref o_curves, .ref o_lines, .ref o_tape, .ref o_spare, .int n_10, va_rf o_face, .int o_pixels])), (o_tape, .inl (cy 1, 4096, .inl n_11))]) hP hD [0, 1] [] rfl rfl (by decide) (by decide) hk1 hFc hP1 hD1
    generalize H1 = H at hP hS ⊢
    have hP := hP.sub (ws' := [(o, .inr (6, [.ref o_page, .ref o_shape, .ref o_curves, .ref o_lines, .ref o_tape, .ref o_spare, .int n_10, va_rf o_face, .int o_pixels])), (o_tape, .inl (cy 1, 4096, .inl n_11))]) [0, 1] rfl
    have hD := hD.sub (ws' := [(o, .inr (6, [.ref o_page, .ref o_shape, .ref o_curves, .ref o_lines, .ref o_tape, .ref o_spare, .int n_10, va_rf o_face, .int o_pixels])), (o_tape, .inl (cy 1, 4096, .inl n_11))]) [0, 1] (by decide) rfl
    refine W.widen (k := 0) (n := 0) (by decide) (by decide) ?_
    refine lv_aload_n hx hb d_Gp_feed_43 rfl (lv_at hl 0 rfl) ?_
    refine va_get (D := (dC, dI)) (ci := 6) (v := .int n_10) (C := "GlyphPage") (T := F_Gp) (N := 9) hx hb htsG iG_Gp hown hK hP 0 rfl rfl 6 (by decide) (htsG _ mW252) (fun _ h9 => h9) rfl d_Gp_feed_44 ?_
    cases h
    exact W.iret hx hb hr (fun t ht hW => ⟨⟨_, (), rfl, rfl, by rw [ht]; exact hP, va_K.moved hW.alike hK, hD⟩, hS.F ht⟩) hS.2.2 d_Gp_feed_47 hlocks
  · replace h := (if_neg c_1).symm.trans h
    refine lv_bipush (v := (-3 : Int32)) hx hb d_Gp_feed_13 (by decide) ?_
    cases h
    exact W.iret hx hb hr (fun t ht hW => ⟨⟨_, (), rfl, rfl, by rw [ht]; exact hP, va_K.moved hW.alike hK, hD⟩, hS.F ht⟩) hS.2.2 d_Gp_feed_15 hlocks
def P_Gp_end (o_tapeLength : Int32) (a1 : Int32) : Option (Int32 × Int32) :=
  if a1 < 0 then (some ((-1 : Int32), o_tapeLength)) else (if a1 ≤ o_tapeLength then (some (a1, a1)) else (some ((-1 : Int32), o_tapeLength)))
set_option maxHeartbeats 4000000 in
set_option maxRecDepth 100000 in
theorem c_Gp_end (l : Launch) (dC : Nat → ClassId) (dI : Nat → Nat → Nat) (cy : Nat → ClassId) (sz : Nat) (o : Nat) (o_page : Nat) (o_shape : Nat) (o_curves : Nat) (o_lines : Nat) (o_tape : Nat) (o_spare : Nat) (o_tapeLength : Int32) (o_face : Option Nat) (o_pixels : Int32) (a1 : Int32) (uu : Int32 × Int32) (h : P_Gp_end o_tapeLength a1 = some uu) : Met l y_Gp_end (Cond.code y_Gp_end b_Gp_end 2 (some .int) :: G) ({ frames := 0, cells := 0, slots := 0, locals := 0 } : Room) (va_Pc [.ref o, .int a1] (fun U => U.heap.size = sz ∧ va_P (dC, dI) classes [(o, .inr (6, [.ref o_page, .ref o_shape, .ref o_curves, .ref o_lines, .ref o_tape, .ref o_spare, .int o_tapeLength, va_rf o_face, .int o_pixels]))] U.heap ∧ va_K (dC, dI) classes (TY cy) U ∧ va_D (fun _ => True) [(o, .inr (6, [.ref o_page, .ref o_shape, .ref o_curves, .ref o_lines, .ref o_tape, .ref o_spare, .int o_tapeLength, va_rf o_face, .int o_pixels]))])) (va_Qi (fun r (_ : Unit) => r = uu.1) (fun _ t => va_P (dC, dI) classes [(o, .inr (6, [.ref o_page, .ref o_shape, .ref o_curves, .ref o_lines, .ref o_tape, .ref o_spare, .int uu.2, va_rf o_face, .int o_pixels]))] t.heap ∧ va_K (dC, dI) classes (TY cy) t ∧ va_D (va_A [(o, .inr (6, [.ref o_page, .ref o_shape, .ref o_curves, .ref o_lines, .ref o_tape, .ref o_spare, .int o_tapeLength, va_rf o_face, .int o_pixels]))] sz) [(o, .inr (6, [.ref o_page, .ref o_shape, .ref o_curves, .ref o_lines, .ref o_tape, .ref o_spare, .int uu.2, va_rf o_face, .int o_pixels]))]) (va_A [(o, .inr (6, [.ref o_page, .ref o_shape, .ref o_curves, .ref o_lines, .ref o_tape, .ref o_spare, .int o_tapeLength, va_rf o_face, .int o_pixels]))] sz)) 0 0 (va_A [(o, .inr (6, [.ref o_page, .ref o_shape, .ref o_curves, .ref o_lines, .ref o_tape, .ref o_spare, .int o_tapeLength, va_rf o_face, .int o_pixels]))] sz) := by
  refine Met.ofW (cc := b_Gp_end) (maxL := 2) (ret := (some .int)) (by decide) rfl ?_
  intro p e s m args below meth c s₁ B hml hv
  obtain ⟨rfl, hsz, hP, hK, hD0⟩ := hv
  have hx := B.exec
  have hb := B.bytes
  have hr := B.returns
  have hts := atoms_spec (ws := Cond.code y_Gp_end b_Gp_end 2 (some .int) :: G) B.pre
  have htsG : ∀ w ∈ G, w.before _ s = true := fun w hw => hts w (List.mem_cons_of_mem _ hw)
  have hown : s.vm.findClass "GlyphPage" = some m.cls := findClass_of_methodNamed B.named
  have hlocks := B.notSynchronized
  subst hsz
  have hD := hD0.self (sz := s.heap.size)
  generalize hAe : va_A [(o, .inr (6, [.ref o_page, .ref o_shape, .ref o_curves, .ref o_lines, .ref o_tape, .ref o_spare, .int o_tapeLength, va_rf o_face, .int o_pixels]))] s.heap.size = A at hD ⊢
  have hA : ∀ q : Nat, s.heap.size ≤ q → A q := fun q h => by rw [← hAe]; exact Or.inr h
  have hS : va_S A s.heap s.heap [] := va_S.rf
  have hl := lv_entry ([.ref o, .int a1]) (n := 2) (Nat.le_of_ble_eq_true rfl)
  rw [lg_entry_eq]
  generalize (lg_sl ([.ref o, .int a1]) ++ List.replicate (2 - (lg_sl ([.ref o, .int a1])).length) Slot.unset).toArray = ls at hl ⊢
  have hl : lv_has ls 2 [(0, .ref o), (1, .int a1)] := hl
  have C0 : Cx p s m _ meth c A dC dI cy b_Gp_end 2 (some .int) "GlyphPage" := ⟨hx, hb, hr, hlocks, hml, hown, htsG, hA, hK⟩
  unfold P_Gp_end at h
  refine lv_iload_n hx hb d_Gp_end_0 rfl (lv_at hl 1 rfl) ?_
  refine lv_if_lt (tgt := 12) hx hb d_Gp_end_1 (by decide) (fun c_1 => ?_) (fun c_1 => ?_)
  · replace h := (if_pos c_1).symm.trans h
    refine lv_iconst (v := (-1 : Int32)) hx hb d_Gp_end_12 (by decide) ?_
    cases h
    exact W.iret hx hb hr (fun t ht hW => ⟨⟨_, (), rfl, rfl, by rw [ht]; exact hP, va_K.moved hW.alike hK, hD⟩, hS.F ht⟩) hS.2.2 d_Gp_end_13 hlocks
  · replace h := (if_neg c_1).symm.trans h
    refine lv_iload_n hx hb d_Gp_end_4 rfl (lv_at hl 1 rfl) ?_
    refine lv_aload_n hx hb d_Gp_end_5 rfl (lv_at hl 0 rfl) ?_
    refine va_get (D := (dC, dI)) (ci := 6) (v := .int o_tapeLength) (C := "GlyphPage") (T := F_Gp) (N := 9) hx hb htsG iG_Gp hown hK hP 0 rfl rfl 6 (by decide) (htsG _ mW252) (fun _ h9 => h9) rfl d_Gp_end_6 ?_
    refine lv_icmp_le (tgt := 14) hx hb d_Gp_end_9 (by decide) (fun c_2 => ?_) (fun c_2 => ?_)
    · replace h := (if_pos c_2).symm.trans h
      refine lv_aload_n hx hb d_Gp_end_14 rfl (lv_at hl 0 rfl) ?_
      refine lv_iload_n hx hb d_Gp_end_15 rfl (lv_at hl 1 rfl) ?_
      refine va_put (D := (dC, dI)) (ci := 6) (v := .int a1) (ty := .int) (C := "GlyphPage") (T := F_Gp) (N := 9) hx hb htsG iG_Gp t_Gp t_Gp_ok n_Gp hown hK hP hD hS 0 rfl rfl 6 (by decide) (htsG _ mW252) (fun _ h9 => h9) rfl (by decide +kernel) rfl rfl (Nat.le_of_ble_eq_true rfl) d_Gp_end_16 (fun H locs hP hD hS => ?_)
      have hP : va_P (dC, dI) classes [(o, .inr (6, [.ref o_page, .ref o_shape, .ref o_curves, .ref o_lines, .ref o_tape, .ref o_spare, .int a1, va_rf o_face, .int o_pixels]))] H := hP
      have hD : va_D A [(o, .inr (6, [.ref o_page, .ref o_shape, .ref o_curves, .ref o_lines, .ref o_tape, .ref o_spare, .int a1, va_rf o_face, .int o_pixels]))] := hD
      refine lv_iload_n hx hb d_Gp_end_19 rfl (lv_at hl 1 rfl) ?_
      cases h
      exact W.iret hx hb hr (fun t ht hW => ⟨⟨_, (), rfl, rfl, by rw [ht]; exact hP, va_K.moved hW.alike hK, hD⟩, hS.F ht⟩) hS.2.2 d_Gp_end_20 hlocks
    · replace h := (if_neg c_2).symm.trans h
      refine lv_iconst (v := (-1 : Int32)) hx hb d_Gp_end_12 (by decide) ?_
      cases h
      exact W.iret hx hb hr (fun t ht hW => ⟨⟨_, (), rfl, rfl, by rw [ht]; exact hP, va_K.moved hW.alike hK, hD⟩, hS.F ht⟩) hS.2.2 d_Gp_end_13 hlocks
def P_Gp_size (o_pixels : Int32) (a1 : Int32) : Option (Int32 × Int32) :=
  if a1 < (4 : Int32) then (some ((-1 : Int32), o_pixels)) else (if a1 ≤ (64 : Int32) then (some (o_pixels, a1)) else (some ((-1 : Int32), o_pixels)))
set_option maxHeartbeats 4000000 in
set_option maxRecDepth 100000 in
theorem c_Gp_size (l : Launch) (dC : Nat → ClassId) (dI : Nat → Nat → Nat) (cy : Nat → ClassId) (sz : Nat) (o : Nat) (o_page : Nat) (o_shape : Nat) (o_curves : Nat) (o_lines : Nat) (o_tape : Nat) (o_spare : Nat) (o_tapeLength : Int32) (o_face : Option Nat) (o_pixels : Int32) (a1 : Int32) (uu : Int32 × Int32) (h : P_Gp_size o_pixels a1 = some uu) : Met l y_Gp_size (Cond.code y_Gp_size b_Gp_size 3 (some .int) :: G) ({ frames := 0, cells := 0, slots := 0, locals := 0 } : Room) (va_Pc [.ref o, .int a1] (fun U => U.heap.size = sz ∧ va_P (dC, dI) classes [(o, .inr (6, [.ref o_page, .ref o_shape, .ref o_curves, .ref o_lines, .ref o_tape, .ref o_spare, .int o_tapeLength, va_rf o_face, .int o_pixels]))] U.heap ∧ va_K (dC, dI) classes (TY cy) U ∧ va_D (fun _ => True) [(o, .inr (6, [.ref o_page, .ref o_shape, .ref o_curves, .ref o_lines, .ref o_tape, .ref o_spare, .int o_tapeLength, va_rf o_face, .int o_pixels]))])) (va_Qi (fun r (_ : Unit) => r = uu.1) (fun _ t => va_P (dC, dI) classes [(o, .inr (6, [.ref o_page, .ref o_shape, .ref o_curves, .ref o_lines, .ref o_tape, .ref o_spare, .int o_tapeLength, va_rf o_face, .int uu.2]))] t.heap ∧ va_K (dC, dI) classes (TY cy) t ∧ va_D (va_A [(o, .inr (6, [.ref o_page, .ref o_shape, .ref o_curves, .ref o_lines, .ref o_tape, .ref o_spare, .int o_tapeLength, va_rf o_face, .int o_pixels]))] sz) [(o, .inr (6, [.ref o_page, .ref o_shape, .ref o_curves, .ref o_lines, .ref o_tape, .ref o_spare, .int o_tapeLength, va_rf o_face, .int uu.2]))]) (va_A [(o, .inr (6, [.ref o_page, .ref o_shape, .ref o_curves, .ref o_lines, .ref o_tape, .ref o_spare, .int o_tapeLength, va_rf o_face, .int o_pixels]))] sz)) 0 0 (va_A [(o, .inr (6, [.ref o_page, .ref o_shape, .ref o_curves, .ref o_lines, .ref o_tape, .ref o_spare, .int o_tapeLength, va_rf o_face, .int o_pixels]))] sz) := by
  refine Met.ofW (cc := b_Gp_size) (maxL := 3) (ret := (some .int)) (by decide) rfl ?_
  intro p e s m args below meth c s₁ B hml hv
  obtain ⟨rfl, hsz, hP, hK, hD0⟩ := hv
  have hx := B.exec
  have hb := B.bytes
  have hr := B.returns
  have hts := atoms_spec (ws := Cond.code y_Gp_size b_Gp_size 3 (some .int) :: G) B.pre
  have htsG : ∀ w ∈ G, w.before _ s = true := fun w hw => hts w (List.mem_cons_of_mem _ hw)
  have hown : s.vm.findClass "GlyphPage" = some m.cls := findClass_of_methodNamed B.named
  have hlocks := B.notSynchronized
  subst hsz
  have hD := hD0.self (sz := s.heap.size)
  generalize hAe : va_A [(o, .inr (6, [.ref o_page, .ref o_shape, .ref o_curves, .ref o_lines, .ref o_tape, .ref o_spare, .int o_tapeLength, va_rf o_face, .int o_pixels]))] s.heap.size = A at hD ⊢
  have hA : ∀ q : Nat, s.heap.size ≤ q → A q := fun q h => by rw [← hAe]; exact Or.inr h
  have hS : va_S A s.heap s.heap [] := va_S.rf
  have hl := lv_entry ([.ref o, .int a1]) (n := 3) (Nat.le_of_ble_eq_true rfl)
  rw [lg_entry_eq]
  generalize (lg_sl ([.ref o, .int a1]) ++ List.replicate (3 - (lg_sl ([.ref o, .int a1])).length) Slot.unset).toArray = ls at hl ⊢
  have hl : lv_has ls 3 [(0, .ref o), (1, .int a1)] := hl
  have C0 : Cx p s m _ meth c A dC dI cy b_Gp_size 3 (some .int) "GlyphPage" := ⟨hx, hb, hr, hlocks, hml, hown, htsG, hA, hK⟩
  unfold P_Gp_size at h
  refine lv_iload_n hx hb d_Gp_size_0 rfl (lv_at hl 1 rfl) ?_
  refine lv_iconst (v := (4 : Int32)) hx hb d_Gp_size_1 (by decide) ?_
  refine lv_icmp_lt (tgt := 11) hx hb d_Gp_size_2 (by decide) (fun c_1 => ?_) (fun c_1 => ?_)
  · replace h := (if_pos c_1).symm.trans h
    refine lv_iconst (v := (-1 : Int32)) hx hb d_Gp_size_11 (by decide) ?_
    cases h
    exact W.iret hx hb hr (fun t ht hW => ⟨⟨_, (), rfl, rfl, by rw [ht]; exact hP, va_K.moved hW.alike hK, hD⟩, hS.F ht⟩) hS.2.2 d_Gp_size_12 hlocks
  · replace h := (if_neg c_1).symm.trans h
    refine lv_iload_n hx hb d_Gp_size_5 rfl (lv_at hl 1 rfl) ?_
    refine lv_bipush (v := (64 : Int32)) hx hb d_Gp_size_6 (by decide) ?_
    refine lv_icmp_le (tgt := 13) hx hb d_Gp_size_8 (by decide) (fun c_2 => ?_) (fun c_2 => ?_)
    · replace h := (if_pos c_2).symm.trans h
      refine lv_aload_n hx hb d_Gp_size_13 rfl (lv_at hl 0 rfl) ?_
      refine va_get (D := (dC, dI)) (ci := 6) (v := .int o_pixels) (C := "GlyphPage") (T := F_Gp) (N := 9) hx hb htsG iG_Gp hown hK hP 0 rfl rfl 8 (by decide) (htsG _ mW254) (fun _ h9 => h9) rfl d_Gp_size_14 ?_
      refine lv_istore_n (lv' := [(2, .int o_pixels), (0, .ref o), (1, .int a1)]) hx hb d_Gp_size_17 rfl hl (by decide) rfl (fun ls hl => ?_)
      refine lv_aload_n hx hb d_Gp_size_18 rfl (lv_at hl 1 rfl) ?_
      refine lv_iload_n hx hb d_Gp_size_19 rfl (lv_at hl 2 rfl) ?_
      refine va_put (D := (dC, dI)) (ci := 6) (v := .int a1) (ty := .int) (C := "GlyphPage") (T := F_Gp) (N := 9) hx hb htsG iG_Gp t_Gp t_Gp_ok n_Gp hown hK hP hD hS 0 rfl rfl 8 (by decide) (htsG _ mW254) (fun _ h9 => h9) rfl (by decide +kernel) rfl rfl (Nat.le_of_ble_eq_true rfl) d_Gp_size_20 (fun H locs hP hD hS => ?_)
      have hP : va_P (dC, dI) classes [(o, .inr (6, [.ref o_page, .ref o_shape, .ref o_curves, .ref o_lines, .ref o_tape, .ref o_spare, .int o_tapeLength, va_rf o_face, .int a1]))] H := hP
      have hD : va_D A [(o, .inr (6, [.ref o_page, .ref o_shape, .ref o_curves, .ref o_lines, .ref o_tape, .ref o_spare, .int o_tapeLength, va_rf o_face, .int a1]))] := hD
      refine lv_iload_n hx hb d_Gp_size_23 rfl (lv_at hl 0 rfl) ?_
      cases h
      exact W.iret hx hb hr (fun t ht hW => ⟨⟨_, (), rfl, rfl, by rw [ht]; exact hP, va_K.moved hW.alike hK, hD⟩, hS.F ht⟩) hS.2.2 d_Gp_size_24 hlocks
    · replace h := (if_neg c_2).symm.trans h
      refine lv_iconst (v := (-1 : Int32)) hx hb d_Gp_size_11 (by decide) ?_
      cases h
      exact W.iret hx hb hr (fun t ht hW => ⟨⟨_, (), rfl, rfl, by rw [ht]; exact hP, va_K.moved hW.alike hK, hD⟩, hS.F ht⟩) hS.2.2 d_Gp_size_12 hlocks
def P_Gp_glyph (o_face_length : Int32) (o_face_glyphs : Int32) (o_face_codes : Int32) (o_face_codesSize : Int32) (o_face_segments : Int32) (o_spare_f : Nat → Int32) (a1 : Int32) : Option (Int32) :=
  if a1 < 0 then (some (-1 : Int32)) else (if a1 ≤ (65535 : Int32) then ((P_Ff_glyphOf o_face_length o_face_glyphs o_face_codes o_face_codesSize o_face_segments o_spare_f a1).bind fun r_3 => some r_3) else (some (-1 : Int32)))
set_option maxHeartbeats 4000000 in
set_option maxRecDepth 100000 in
theorem c_Gp_glyph (l : Launch) (dC : Nat → ClassId) (dI : Nat → Nat → Nat) (cy : Nat → ClassId) (sz : Nat) (o : Nat) (o_page : Nat) (o_shape : Nat) (o_curves : Nat) (o_lines : Nat) (o_tape : Nat) (o_spare : Nat) (o_face : Nat) (o_face_starts : Nat) (o_face_sizes : Nat) (o_face_glyphStarts : Nat) (o_tapeLength : Int32) (o_pixels : Int32) (o_face_length : Int32) (o_face_units : Int32) (o_face_glyphs : Int32) (o_face_ascent : Int32) (o_face_descent : Int32) (o_face_gap : Int32) (o_face_longLoca : Int32) (o_face_metrics : Int32) (o_face_codes : Int32) (o_face_codesSize : Int32) (o_face_segments : Int32) (o_face_pairs : Int32) (o_spare_f : Nat → Int32) (o_face_starts_f : Nat → Int32) (o_face_sizes_f : Nat → Int32) (o_face_glyphStarts_f : Nat → Int32) (a1 : Int32) (uu : Int32) (h : P_Gp_glyph o_face_length o_face_glyphs o_face_codes o_face_codesSize o_face_segments o_spare_f a1 = some uu) : Met l y_Gp_glyph (Cond.code y_Gp_glyph b_Gp_glyph 2 (some .int) :: G) ({ frames := 3, cells := 0, slots := 0, locals := 72 } : Room) (va_Pc [.ref o, .int a1] (fun U => U.heap.size = sz ∧ va_P (dC, dI) classes [(o, .inr (6, [.ref o_page, .ref o_shape, .ref o_curves, .ref o_lines, .ref o_tape, .ref o_spare, .int o_tapeLength, .ref o_face, .int o_pixels])), (o_face, .inr (7, [.ref o_spare, .int o_face_length, .ref o_face_starts, .ref o_face_sizes, .ref o_face_glyphStarts, .int o_face_units, .int o_face_glyphs, .int o_face_ascent, .int o_face_descent, .int o_face_gap, .int o_face_longLoca, .int o_face_metrics, .int o_face_codes, .int o_face_codesSize, .int o_face_segments, .int o_face_pairs])), (o_spare, .inl (cy 1, 4096, .inl o_spare_f)), (o_face_starts, .inl (cy 0, 8, .inl o_face_starts_f)), (o_face_sizes, .inl (cy 0, 8, .inl o_face_sizes_f)), (o_face_glyphStarts, .inl (cy 0, 65, .inl o_face_glyphStarts_f))] U.heap ∧ va_K (dC, dI) classes (TY cy) U ∧ va_D (fun _ => True) [(o, .inr (6, [.ref o_page, .ref o_shape, .ref o_curves, .ref o_lines, .ref o_tape, .ref o_spare, .int o_tapeLength, .ref o_face, .int o_pixels])), (o_face, .inr (7, [.ref o_spare, .int o_face_length, .ref o_face_starts, .ref o_face_sizes, .ref o_face_glyphStarts, .int o_face_units, .int o_face_glyphs, .int o_face_ascent, .int o_face_descent, .int o_face_gap, .int o_face_longLoca, .int o_face_metrics, .int o_face_codes, .int o_face_codesSize, .int o_face_segments, .int o_face_pairs])), (o_spare, .inl (cy 1, 4096, .inl o_spare_f)), (o_face_starts, .inl (cy 0, 8, .inl o_face_starts_f)), (o_face_sizes, .inl (cy 0, 8, .inl o_face_sizes_f)), (o_face_glyphStarts, .inl (cy 0, 65, .inl o_face_glyphStarts_f))])) (va_Qi (fun r (_ : Unit) => r = uu) (fun _ t => va_P (dC, dI) classes [(o, .inr (6, [.ref o_page, .ref o_shape, .ref o_curves, .ref o_lines, .ref o_tape, .ref o_spare, .int o_tapeLength, .ref o_face, .int o_pixels])), (o_face, .inr (7, [.ref o_spare, .int o_face_length, .ref o_face_starts, .ref o_face_sizes, .ref o_face_glyphStarts, .int o_face_units, .int o_face_glyphs, .int o_face_ascent, .int o_face_descent, .int o_face_gap, .int o_face_longLoca, .int o_face_metrics, .int o_face_codes, .int o_face_codesSize, .int o_face_segments, .int o_face_pairs])), (o_spare, .inl (cy 1, 4096, .inl o_spare_f)), (o_face_starts, .inl (cy 0, 8, .inl o_face_starts_f)), (o_face_sizes, .inl (cy 0, 8, .inl o_face_sizes_f)), (o_face_glyphStarts, .inl (cy 0, 65, .inl o_face_glyphStarts_f))] t.heap ∧ va_K (dC, dI) classes (TY cy) t ∧ va_D (va_A [(o, .inr (6, [.ref o_page, .ref o_shape, .ref o_curves, .ref o_lines, .ref o_tape, .ref o_spare, .int o_tapeLength, .ref o_face, .int o_pixels])), (o_face, .inr (7, [.ref o_spare, .int o_face_length, .ref o_face_starts, .ref o_face_sizes, .ref o_face_glyphStarts, .int o_face_units, .int o_face_glyphs, .int o_face_ascent, .int o_face_descent, .int o_face_gap, .int o_face_longLoca, .int o_face_metrics, .int o_face_codes, .int o_face_codesSize, .int o_face_segments, .int o_face_pairs])), (o_spare, .inl (cy 1, 4096, .inl o_spare_f)), (o_face_starts, .inl (cy 0, 8, .inl o_face_starts_f)), (o_face_sizes, .inl (cy 0, 8, .inl o_face_sizes_f)), (o_face_glyphStarts, .inl (cy 0, 65, .inl o_face_glyphStarts_f))] sz) [(o, .inr (6, [.ref o_page, .ref o_shape, .ref o_curves, .ref o_lines, .ref o_tape, .ref o_spare, .int o_tapeLength, .ref o_face, .int o_pixels])), (o_face, .inr (7, [.ref o_spare, .int o_face_length, .ref o_face_starts, .ref o_face_sizes, .ref o_face_glyphStarts, .int o_face_units, .int o_face_glyphs, .int o_face_ascent, .int o_face_descent, .int o_face_gap, .int o_face_longLoca, .int o_face_metrics, .int o_face_codes, .int o_face_codesSize, .int o_face_segments, .int o_face_pairs])), (o_spare, .inl (cy 1, 4096, .inl o_spare_f)), (o_face_starts, .inl (cy 0, 8, .inl o_face_starts_f)), (o_face_sizes, .inl (cy 0, 8, .inl o_face_sizes_f)), (o_face_glyphStarts, .inl (cy 0, 65, .inl o_face_glyphStarts_f))]) (va_A [(o, .inr (6, [.ref o_page, .ref o_shape, .ref o_curves, .ref o_lines, .ref o_tape, .ref o_spare, .int o_tapeLength, .ref o_face, .int o_pixels])), (o_face, .inr (7, [.ref o_spare, .int o_face_length, .ref o_face_starts, .ref o_face_sizes, .ref o_face_glyphStarts, .int o_face_units, .int o_face_glyphs, .int o_face_ascent, .int o_face_descent, .int o_face_gap, .int o_face_longLoca, .int o_face_metrics, .int o_face_codes, .int o_face_codesSize, .int o_face_segments, .int o_face_pairs])), (o_spare, .inl (cy 1, 4096, .inl o_spare_f)), (o_face_starts, .inl (cy 0, 8, .inl o_face_starts_f)), (o_face_sizes, .inl (cy 0, 8, .inl o_face_sizes_f)), (o_face_glyphStarts, .inl (cy 0, 65, .inl o_face_glyphStarts_f))] sz)) 0 0 (va_A [(o, .inr (6, [.ref o_page, .ref o_shape, .ref o_curves, .ref o_lines, .ref o_tape, .ref o_spare, .int o_tapeLength, .ref o_face, .int o_pixels])), (o_face, .inr (7, [.ref o_spare, .int o_face_length, .ref o_face_starts, .ref o_face_sizes, .ref o_face_glyphStarts, .int o_face_units, .int o_face_glyphs, .int o_face_ascent, .int o_face_descent, .int o_face_gap, .int o_face_longLoca, .int o_face_metrics, .int o_face_codes, .int o_face_codesSize, .int o_face_segments, .int o_face_pairs])), (o_spare, .inl (cy 1, 4096, .inl o_spare_f)), (o_face_starts, .inl (cy 0, 8, .inl o_face_starts_f)), (o_face_sizes, .inl (cy 0, 8, .inl o_face_sizes_f)), (o_face_glyphStarts, .inl (cy 0, 65, .inl o_face_glyphStarts_f))] sz) := by
  refine Met.ofW (cc := b_Gp_glyph) (maxL := 2) (ret := (some .int)) (by decide) rfl ?_
  intro p e s m args below meth c s₁ B hml hv
  obtain ⟨rfl, hsz, hP, hK, hD0⟩ := hv
  have hx := B.exec
  have hb := B.bytes
  have hr := B.returns
  have hts := atoms_spec (ws := Cond.code y_Gp_glyph b_Gp_glyph 2 (some .int) :: G) B.pre
  have htsG : ∀ w ∈ G, w.before _ s = true := fun w hw => hts w (List.mem_cons_of_mem _ hw)
  have hown : s.vm.findClass "GlyphPage" = some m.cls := findClass_of_methodNamed B.named
  have hlocks := B.notSynchronized
  subst hsz
  have hD := hD0.self (sz := s.heap.size)
  generalize hAe : va_A [(o, .inr (6, [.ref o_page, .ref o_shape, .ref o_curves, .ref o_lines, .ref o_tape, .ref o_spare, .int o_tapeLength, .ref o_face, .int o_pixels])), (o_face, .inr (7, [.ref o_spare, .int o_face_length, .ref o_face_starts, .ref o_face_sizes, .ref o_face_glyphStarts, .int o_face_units, .int o_face_glyphs, .int o_face_ascent, .int o_face_descent, .int o_face_gap, .int o_face_longLoca, .int o_face_metrics, .int o_face_codes, .int o_face_codesSize, .int o_face_segments, .int o_face_pairs])), (o_spare, .inl (cy 1, 4096, .inl o_spare_f)), (o_face_starts, .inl (cy 0, 8, .inl o_face_starts_f)), (o_face_sizes, .inl (cy 0, 8, .inl o_face_sizes_f)), (o_face_glyphStarts, .inl (cy 0, 65, .inl o_face_glyphStarts_f))] s.heap.size = A at hD ⊢
  have hA : ∀ q : Nat, s.heap.size ≤ q → A q := fun q h => by rw [← hAe]; exact Or.inr h
  have hS : va_S A s.heap s.heap [] := va_S.rf
  have hl := lv_entry ([.ref o, .int a1]) (n := 2) (Nat.le_of_ble_eq_true rfl)
  rw [lg_entry_eq]
  generalize (lg_sl ([.ref o, .int a1]) ++ List.replicate (2 - (lg_sl ([.ref o, .int a1])).length) Slot.unset).toArray = ls at hl ⊢
  have hl : lv_has ls 2 [(0, .ref o), (1, .int a1)] := hl
  have C0 : Cx p s m _ meth c A dC dI cy b_Gp_glyph 2 (some .int) "GlyphPage" := ⟨hx, hb, hr, hlocks, hml, hown, htsG, hA, hK⟩
  unfold P_Gp_glyph at h
  refine lv_iload_n hx hb d_Gp_glyph_0 rfl (lv_at hl 1 rfl) ?_
  refine lv_if_lt (tgt := 10) hx hb d_Gp_glyph_1 (by decide) (fun c_1 => ?_) (fun c_1 => ?_)
  · replace h := (if_pos c_1).symm.trans h
    refine lv_iconst (v := (-1 : Int32)) hx hb d_Gp_glyph_10 (by decide) ?_
    cases h
    exact W.iret hx hb hr (fun t ht hW => ⟨⟨_, (), rfl, rfl, by rw [ht]; exact hP, va_K.moved hW.alike hK, hD⟩, hS.F ht⟩) hS.2.2 d_Gp_glyph_11 hlocks
  · replace h := (if_neg c_1).symm.trans h
    refine lv_iload_n hx hb d_Gp_glyph_4 rfl (lv_at hl 1 rfl) ?_
    refine lv_ldc hx hb hown (htsG _ mW524) d_Gp_glyph_5 ?_
    refine lv_icmp_le (tgt := 12) hx hb d_Gp_glyph_7 (by decide) (fun c_2 => ?_) (fun c_2 => ?_)
    · replace h := (if_pos c_2).symm.trans h
      refine lv_aload_n hx hb d_Gp_glyph_12 rfl (lv_at hl 0 rfl) ?_
      refine va_get (D := (dC, dI)) (ci := 6) (v := .ref o_face) (C := "GlyphPage") (T := F_Gp) (N := 9) hx hb htsG iG_Gp hown hK hP 0 rfl rfl 7 (by decide) (htsG _ mW253) (fun _ h9 => h9) rfl d_Gp_glyph_13 ?_
      refine lv_ifnonnull (tgt := 24) hx hb d_Gp_glyph_16 (by decide) ?_
      refine lv_aload_n hx hb d_Gp_glyph_24 rfl (lv_at hl 0 rfl) ?_
      refine va_get (D := (dC, dI)) (ci := 6) (v := .ref o_face) (C := "GlyphPage") (T := F_Gp) (N := 9) hx hb htsG iG_Gp hown hK hP 0 rfl rfl 7 (by decide) (htsG _ mW253) (fun _ h9 => h9) rfl d_Gp_glyph_25 ?_
      refine lv_iload_n hx hb d_Gp_glyph_28 rfl (lv_at hl 1 rfl) ?_
      obtain ⟨r_3, hq, h⟩ := Option.bind_eq_some_iff.mp h
      try dsimp only at h
      have hPc := hP.sub (ws' := [(o_face, .inr (7, [.ref o_spare, .int o_face_length, .ref o_face_starts, .ref o_face_sizes, .ref o_face_glyphStarts, .int o_face_units, .int o_face_glyphs, .int o_face_ascent, .int o_face_descent, .int o_face_gap, .int o_face_longLoca, .int o_face_metrics, .int o_face_codes, .int o_face_codesSize, .int o_face_segments, .int o_face_pairs])), (o_spare, .inl (cy 1, 4096, .inl o_spare_f)), (o_face_starts, .inl (cy 0, 8, .inl o_face_starts_f)), (o_face_sizes, .inl (cy 0, 8, .inl o_face_sizes_f)), (o_face_glyphStarts, .inl (cy 0, 65, .inl o_face_glyphStarts_f))]) [1, 2, 3, 4, 5] rfl
      have hDc := hD.sub (ws' := [(o_face, .inr (7, [.ref o_spare, .int o_face_length, .ref o_face_starts, .ref o_face_sizes, .ref o_face_glyphStarts, .int o_face_units, .int o_face_glyphs, .int o_face_ascent, .int o_face_descent, .int o_face_gap, .int o_face_longLoca, .int o_face_metrics, .int o_face_codes, .int o_face_codesSize, .int o_face_segments, .int o_face_pairs])), (o_spare, .inl (cy 1, 4096, .inl o_spare_f)), (o_face_starts, .inl (cy 0, 8, .inl o_face_starts_f)), (o_face_sizes, .inl (cy 0, 8, .inl o_face_sizes_f)), (o_face_glyphStarts, .inl (cy 0, 65, .inl o_face_glyphStarts_f))]) [1, 2, 3, 4, 5] (by decide) rfl
      have hFc := va_free (wc := [(o_face, .inr (7, [.ref o_spare, .int o_face_length, .ref o_face_starts, .ref o_face_sizes, .ref o_face_glyphStarts, .int o_face_units, .int o_face_glyphs, .int o_face_ascent, .int o_face_descent, .int o_face_gap, .int o_face_longLoca, .int o_face_metrics, .int o_face_codes, .int o_face_codesSize, .int o_face_segments, .int o_face_pairs])), (o_spare, .inl (cy 1, 4096, .inl o_spare_f)), (o_face_starts, .inl (cy 0, 8, .inl o_face_starts_f)), (o_face_sizes, .inl (cy 0, 8, .inl o_face_sizes_f)), (o_face_glyphStarts, .inl (cy 0, 65, .inl o_face_glyphStarts_f))]) hD hS hA [1, 2, 3, 4, 5] rfl
      refine va_calli (va_runV (As := [.int a1]) (rest := []) ⟨hx, hb, hml, hown, htsG⟩ (c_Ff_glyphOf l dC dI cy s.heap.size o_face o_spare o_face_starts o_face_sizes o_face_glyphStarts o_face_length o_face_units o_face_glyphs o_face_ascent o_face_descent o_face_gap o_face_longLoca o_face_metrics o_face_codes o_face_codesSize o_face_segments o_face_pairs o_spare_f o_face_starts_f o_face_sizes_f o_face_glyphStarts_f a1 r_3 hq) (cwV 1 htsG (gV mW525 mW526 mW527 mW11 mW528) rfl rfl rfl (by decide +kernel) ⟨Nat.le_of_ble_eq_true rfl, Nat.le_of_ble_eq_true rfl⟩) ⟨fun a U g mk q => by obtain ⟨q0, q1, qP, qK, qD⟩ := q; exact ⟨q0, q1, qP, va_K.moved (u := U) (U := U.calling g mk a) (Vm.Alike.refl U.vm) qK, qD⟩, va_recv hK hPc (ci := 7) (q0 := 0) rfl rfl, fun U hU hW => ⟨rfl, by rw [hU], by rw [hU]; exact hPc, va_K.moved hW.alike hK, hDc.weaken (fun _ _ _ _ => trivial)⟩⟩ rfl rfl hl.1 rfl (lv_room (Nat.le_of_ble_eq_true rfl)) d_Gp_glyph_29 ⟨Nat.le_of_ble_eq_true rfl, Nat.le_of_ble_eq_true rfl⟩) hS (fun q _ h => hFc q h) hFc (fun rr u t H1 locs ht hvm hw hB hz1 hk1 hS => ?_)
      obtain ⟨hP1, hK1, hD1⟩ := hB
      rw [ht] at hP1
      replace hw : r_3 = rr := hw.symm
      subst hw
      obtain ⟨hP, hD⟩ := va_join (wr := [(o, .inr (6, [.ref o_page, .ref o_shape, .ref o_curves, .ref o_lines, .ref o_tape, .ref o_spare, .int o_tapeLength, .ref o_face, .int o_pixels]))]) (w1 := [(o_face, .inr (7, [.ref o_spare, .int o_face_length, .ref o_face_starts, .ref o_face_sizes, .ref o_face_glyphStarts, .int o_face_units, .int o_face_glyphs, .int o_face_ascent, .int o_face_descent, .int o_face_gap, .int o_face_longLoca, .int o_face_metrics, .int o_face_codes, .int o_face_codesSize, .int o_face_segments, .int o_face_pairs])), (o_spare, .inl (cy 1, 4096, .inl o_spare_f)), (o_face_starts, .inl (cy 0, 8, .inl o_face_starts_f)), (o_face_sizes, .inl (cy 0, 8, .inl o_face_sizes_f)), (o_face_glyphStarts, .inl (cy 0, 65, .inl o_face_glyphStarts_f))]) hP hD [1, 2, 3, 4, 5] [0] rfl rfl (by decide) (by decide) hk1 hFc hP1 hD1
      generalize H1 = H at hP hS ⊢
      have hP := hP.sub (ws' := [(o, .inr (6, [.ref o_page, .ref o_shape, .ref o_curves, .ref o_lines, .ref o_tape, .ref o_spare, .int o_tapeLength, .ref o_face, .int o_pixels])), (o_face, .inr (7, [.ref o_spare, .int o_face_length, .ref o_face_starts, .ref o_face_sizes, .ref o_face_glyphStarts, .int o_face_units, .int o_face_glyphs, .int o_face_ascent, .int o_face_descent, .int o_face_gap, .int o_face_longLoca, .int o_face_metrics, .int o_face_codes, .int o_face_codesSize, .int o_face_segments, .int o_face_pairs])), (o_spare, .inl (cy 1, 4096, .inl o_spare_f)), (o_face_starts, .inl (cy 0, 8, .inl o_face_starts_f)), (o_face_sizes, .inl (cy 0, 8, .inl o_face_sizes_f)), (o_face_glyphStarts, .inl (cy 0, 65, .inl o_face_glyphStarts_f))]) [0, 1, 2, 3, 4, 5] rfl
      have hD := hD.sub (ws' := [(o, .inr (6, [.ref o_page, .ref o_shape, .ref o_curves, .ref o_lines, .ref o_tape, .ref o_spare, .int o_tapeLength, .ref o_face, .int o_pixels])), (o_face, .inr (7, [.ref o_spare, .int o_face_length, .ref o_face_starts, .ref o_face_sizes, .ref o_face_glyphStarts, .int o_face_units, .int o_face_glyphs, .int o_face_ascent, .int o_face_descent, .int o_face_gap, .int o_face_longLoca, .int o_face_metrics, .int o_face_codes, .int o_face_codesSize, .int o_face_segments, .int o_face_pairs])), (o_spare, .inl (cy 1, 4096, .inl o_spare_f)), (o_face_starts, .inl (cy 0, 8, .inl o_face_starts_f)), (o_face_sizes, .inl (cy 0, 8, .inl o_face_sizes_f)), (o_face_glyphStarts, .inl (cy 0, 65, .inl o_face_glyphStarts_f))]) [0, 1, 2, 3, 4, 5] (by decide) rfl
      refine W.widen (k := 0) (n := 0) (by decide) (by decide) ?_
      cases h
      exact W.iret hx hb hr (fun t ht hW => ⟨⟨_, (), rfl, rfl, by rw [ht]; exact hP, va_K.moved hW.alike hK, hD⟩, hS.F ht⟩) hS.2.2 d_Gp_glyph_32 hlocks
    · replace h := (if_neg c_2).symm.trans h
      refine lv_iconst (v := (-1 : Int32)) hx hb d_Gp_glyph_10 (by decide) ?_
      cases h
      exact W.iret hx hb hr (fun t ht hW => ⟨⟨_, (), rfl, rfl, by rw [ht]; exact hP, va_K.moved hW.alike hK, hD⟩, hS.F ht⟩) hS.2.2 d_Gp_glyph_11 hlocks
def P_Gp_glyph_N  (a1 : Int32) : Option (Int32) :=
  if a1 < 0 then (some (-1 : Int32)) else (if a1 ≤ (65535 : Int32) then (some (-2 : Int32)) else (some (-1 : Int32)))
set_option maxHeartbeats 4000000 in
set_option maxRecDepth 100000 in
theorem c_Gp_glyph_N (l : Launch) (dC : Nat → ClassId) (dI : Nat → Nat → Nat) (cy : Nat → ClassId) (sz : Nat) (o : Nat) (o_page : Nat) (o_shape : Nat) (o_curves : Nat) (o_lines : Nat) (o_tape : Nat) (o_spare : Nat) (o_tapeLength : Int32) (o_pixels : Int32) (a1 : Int32) (uu : Int32) (h : P_Gp_glyph_N a1 = some uu) : Met l y_Gp_glyph (Cond.code y_Gp_glyph b_Gp_glyph 2 (some .int) :: G) ({ frames := 0, cells := 0, slots := 0, locals := 0 } : Room) (va_Pc [.ref o, .int a1] (fun U => U.heap.size = sz ∧ va_P (dC, dI) classes [(o, .inr (6, [.ref o_page, .ref o_shape, .ref o_curves, .ref o_lines, .ref o_tape, .ref o_spare, .int o_tapeLength, .null, .int o_pixels]))] U.heap ∧ va_K (dC, dI) classes (TY cy) U ∧ va_D (fun _ => True) [(o, .inr (6, [.ref o_page, .ref o_shape, .ref o_curves, .ref o_lines, .ref o_tape, .ref o_spare, .int o_tapeLength, .null, .int o_pixels]))])) (va_Qi (fun r (_ : Unit) => r = uu) (fun _ t => va_P (dC, dI) classes [(o, .inr (6, [.ref o_page, .ref o_shape, .ref o_curves, .ref o_lines, .ref o_tape, .ref o_spare, .int o_tapeLength, .null, .int o_pixels]))] t.heap ∧ va_K (dC, dI) classes (TY cy) t ∧ va_D (va_A [(o, .inr (6, [.ref o_page, .ref o_shape, .ref o_curves, .ref o_lines, .ref o_tape, .ref o_spare, .int o_tapeLength, .null, .int o_pixels]))] sz) [(o, .inr (6, [.ref o_page, .ref o_shape, .ref o_curves, .ref o_lines, .ref o_tape, .ref o_spare, .int o_tapeLength, .null, .int o_pixels]))]) (va_A [(o, .inr (6, [.ref o_page, .ref o_shape, .ref o_curves, .ref o_lines, .ref o_tape, .ref o_spare, .int o_tapeLength, .null, .int o_pixels]))] sz)) 0 0 (va_A [(o, .inr (6, [.ref o_page, .ref o_shape, .ref o_curves, .ref o_lines, .ref o_tape, .ref o_spare, .int o_tapeLength, .null, .int o_pixels]))] sz) := by
  refine Met.ofW (cc := b_Gp_glyph) (maxL := 2) (ret := (some .int)) (by decide) rfl ?_
  intro p e s m args below meth c s₁ B hml hv
  obtain ⟨rfl, hsz, hP, hK, hD0⟩ := hv
  have hx := B.exec
  have hb := B.bytes
  have hr := B.returns
  have hts := atoms_spec (ws := Cond.code y_Gp_glyph b_Gp_glyph 2 (some .int) :: G) B.pre
  have htsG : ∀ w ∈ G, w.before _ s = true := fun w hw => hts w (List.mem_cons_of_mem _ hw)
  have hown : s.vm.findClass "GlyphPage" = some m.cls := findClass_of_methodNamed B.named
  have hlocks := B.notSynchronized
  subst hsz
  have hD := hD0.self (sz := s.heap.size)
  generalize hAe : va_A [(o, .inr (6, [.ref o_page, .ref o_shape, .ref o_curves, .ref o_lines, .ref o_tape, .ref o_spare, .int o_tapeLength, .null, .int o_pixels]))] s.heap.size = A at hD ⊢
  have hA : ∀ q : Nat, s.heap.size ≤ q → A q := fun q h => by rw [← hAe]; exact Or.inr h
  have hS : va_S A s.heap s.heap [] := va_S.rf
  have hl := lv_entry ([.ref o, .int a1]) (n := 2) (Nat.le_of_ble_eq_true rfl)
  rw [lg_entry_eq]
  generalize (lg_sl ([.ref o, .int a1]) ++ List.replicate (2 - (lg_sl ([.ref o, .int a1])).length) Slot.unset).toArray = ls at hl ⊢
  have hl : lv_has ls 2 [(0, .ref o), (1, .int a1)] := hl
  have C0 : Cx p s m _ meth c A dC dI cy b_Gp_glyph 2 (some .int) "GlyphPage" := ⟨hx, hb, hr, hlocks, hml, hown, htsG, hA, hK⟩
  unfold P_Gp_glyph_N at h
  refine lv_iload_n hx hb d_Gp_glyph_0 rfl (lv_at hl 1 rfl) ?_
  refine lv_if_lt (tgt := 10) hx hb d_Gp_glyph_1 (by decide) (fun c_1 => ?_) (fun c_1 => ?_)
  · replace h := (if_pos c_1).symm.trans h
    refine lv_iconst (v := (-1 : Int32)) hx hb d_Gp_glyph_10 (by decide) ?_
    cases h
    exact W.iret hx hb hr (fun t ht hW => ⟨⟨_, (), rfl, rfl, by rw [ht]; exact hP, va_K.moved hW.alike hK, hD⟩, hS.F ht⟩) hS.2.2 d_Gp_glyph_11 hlocks
  · replace h := (if_neg c_1).symm.trans h
    refine lv_iload_n hx hb d_Gp_glyph_4 rfl (lv_at hl 1 rfl) ?_
    refine lv_ldc hx hb hown (htsG _ mW524) d_Gp_glyph_5 ?_
    refine lv_icmp_le (tgt := 12) hx hb d_Gp_glyph_7 (by decide) (fun c_2 => ?_) (fun c_2 => ?_)
    · replace h := (if_pos c_2).symm.trans h
      refine lv_aload_n hx hb d_Gp_glyph_12 rfl (lv_at hl 0 rfl) ?_
      refine va_get (D := (dC, dI)) (ci := 6) (v := .null) (C := "GlyphPage") (T := F_Gp) (N := 9) hx hb htsG iG_Gp hown hK hP 0 rfl rfl 7 (by decide) (htsG _ mW253) (fun _ h9 => h9) rfl d_Gp_glyph_13 ?_
      refine lv_ifnonnullN hx hb d_Gp_glyph_16 ?_
      refine lv_bipush (v := (-2 : Int32)) hx hb d_Gp_glyph_19 (by decide) ?_
      refine lv_goto (tgt := 32) hx hb d_Gp_glyph_21 (by decide) ?_
      cases h
      exact W.iret hx hb hr (fun t ht hW => ⟨⟨_, (), rfl, rfl, by rw [ht]; exact hP, va_K.moved hW.alike hK, hD⟩, hS.F ht⟩) hS.2.2 d_Gp_glyph_32 hlocks
    · replace h := (if_neg c_2).symm.trans h
      refine lv_iconst (v := (-1 : Int32)) hx hb d_Gp_glyph_10 (by decide) ?_
      cases h
      exact W.iret hx hb hr (fun t ht hW => ⟨⟨_, (), rfl, rfl, by rw [ht]; exact hP, va_K.moved hW.alike hK, hD⟩, hS.F ht⟩) hS.2.2 d_Gp_glyph_11 hlocks
def P_Gp_metric (o_face_units : Int32) (o_face_glyphs : Int32) (o_face_ascent : Int32) (o_face_descent : Int32) (o_face_gap : Int32) (a1 : Int32) : Option (Int32) :=
  if a1 < 0 then (some (-1 : Int32)) else (if a1 ≤ (4 : Int32) then (if a1 = (0 : Int32) then (some o_face_units) else (if a1 = (1 : Int32) then (some o_face_glyphs) else (if a1 = (2 : Int32) then (some o_face_ascent) else (if a1 = (3 : Int32) then (some o_face_descent) else (some o_face_gap))))) else (some (-1 : Int32)))
set_option maxHeartbeats 4000000 in
set_option maxRecDepth 100000 in
theorem c_Gp_metric (l : Launch) (dC : Nat → ClassId) (dI : Nat → Nat → Nat) (cy : Nat → ClassId) (sz : Nat) (o : Nat) (o_page : Nat) (o_shape : Nat) (o_curves : Nat) (o_lines : Nat) (o_tape : Nat) (o_spare : Nat) (o_face : Nat) (o_face_starts : Nat) (o_face_sizes : Nat) (o_face_glyphStarts : Nat) (o_tapeLength : Int32) (o_pixels : Int32) (o_face_length : Int32) (o_face_units : Int32) (o_face_glyphs : Int32) (o_face_ascent : Int32) (o_face_descent : Int32) (o_face_gap : Int32) (o_face_longLoca : Int32) (o_face_metrics : Int32) (o_face_codes : Int32) (o_face_codesSize : Int32) (o_face_segments : Int32) (o_face_pairs : Int32) (o_spare_f : Nat → Int32) (o_face_starts_f : Nat → Int32) (o_face_sizes_f : Nat → Int32) (o_face_glyphStarts_f : Nat → Int32) (a1 : Int32) (uu : Int32) (h : P_Gp_metric o_face_units o_face_glyphs o_face_ascent o_face_descent o_face_gap a1 = some uu) : Met l y_Gp_metric (Cond.code y_Gp_metric b_Gp_metric 2 (some .int) :: G) ({ frames := 0, cells := 0, slots := 0, locals := 0 } : Room) (va_Pc [.ref o, .int a1] (fun U => U.heap.size = sz ∧ va_P (dC, dI) classes [(o, .inr (6, [.ref o_page, .ref o_shape, .ref o_curves, .ref o_lines, .ref o_tape, .ref o_spare, .int o_tapeLength, .ref o_face, .int o_pixels])), (o_face, .inr (7, [.ref o_spare, .int o_face_length, .ref o_face_starts, .ref o_face_sizes, .ref o_face_glyphStarts, .int o_face_units, .int o_face_glyphs, .int o_face_ascent, .int o_face_descent, .int o_face_gap, .int o_face_longLoca, .int o_face_metrics, .int o_face_codes, .int o_face_codesSize, .int o_face_segments, .int o_face_pairs])), (o_spare, .inl (cy 1, 4096, .inl o_spare_f)), (o_face_starts, .inl (cy 0, 8, .inl o_face_starts_f)), (o_face_sizes, .inl (cy 0, 8, .inl o_face_sizes_f)), (o_face_glyphStarts, .inl (cy 0, 65, .inl o_face_glyphStarts_f))] U.heap ∧ va_K (dC, dI) classes (TY cy) U ∧ va_D (fun _ => True) [(o, .inr (6, [.ref o_page, .ref o_shape, .ref o_curves, .ref o_lines, .ref o_tape, .ref o_spare, .int o_tapeLength, .ref o_face, .int o_pixels])), (o_face, .inr (7, [.ref o_spare, .int o_face_length, .ref o_face_starts, .ref o_face_sizes, .ref o_face_glyphStarts, .int o_face_units, .int o_face_glyphs, .int o_face_ascent, .int o_face_descent, .int o_face_gap, .int o_face_longLoca, .int o_face_metrics, .int o_face_codes, .int o_face_codesSize, .int o_face_segments, .int o_face_pairs])), (o_spare, .inl (cy 1, 4096, .inl o_spare_f)), (o_face_starts, .inl (cy 0, 8, .inl o_face_starts_f)), (o_face_sizes, .inl (cy 0, 8, .inl o_face_sizes_f)), (o_face_glyphStarts, .inl (cy 0, 65, .inl o_face_glyphStarts_f))])) (va_Qi (fun r (_ : Unit) => r = uu) (fun _ t => va_P (dC, dI) classes [(o, .inr (6, [.ref o_page, .ref o_shape, .ref o_curves, .ref o_lines, .ref o_tape, .ref o_spare, .int o_tapeLength, .ref o_face, .int o_pixels])), (o_face, .inr (7, [.ref o_spare, .int o_face_length, .ref o_face_starts, .ref o_face_sizes, .ref o_face_glyphStarts, .int o_face_units, .int o_face_glyphs, .int o_face_ascent, .int o_face_descent, .int o_face_gap, .int o_face_longLoca, .int o_face_metrics, .int o_face_codes, .int o_face_codesSize, .int o_face_segments, .int o_face_pairs])), (o_spare, .inl (cy 1, 4096, .inl o_spare_f)), (o_face_starts, .inl (cy 0, 8, .inl o_face_starts_f)), (o_face_sizes, .inl (cy 0, 8, .inl o_face_sizes_f)), (o_face_glyphStarts, .inl (cy 0, 65, .inl o_face_glyphStarts_f))] t.heap ∧ va_K (dC, dI) classes (TY cy) t ∧ va_D (va_A [(o, .inr (6, [.ref o_page, .ref o_shape, .ref o_curves, .ref o_lines, .ref o_tape, .ref o_spare, .int o_tapeLength, .ref o_face, .int o_pixels])), (o_face, .inr (7, [.ref o_spare, .int o_face_length, .ref o_face_starts, .ref o_face_sizes, .ref o_face_glyphStarts, .int o_face_units, .int o_face_glyphs, .int o_face_ascent, .int o_face_descent, .int o_face_gap, .int o_face_longLoca, .int o_face_metrics, .int o_face_codes, .int o_face_codesSize, .int o_face_segments, .int o_face_pairs])), (o_spare, .inl (cy 1, 4096, .inl o_spare_f)), (o_face_starts, .inl (cy 0, 8, .inl o_face_starts_f)), (o_face_sizes, .inl (cy 0, 8, .inl o_face_sizes_f)), (o_face_glyphStarts, .inl (cy 0, 65, .inl o_face_glyphStarts_f))] sz) [(o, .inr (6, [.ref o_page, .ref o_shape, .ref o_curves, .ref o_lines, .ref o_tape, .ref o_spare, .int o_tapeLength, .ref o_face, .int o_pixels])), (o_face, .inr (7, [.ref o_spare, .int o_face_length, .ref o_face_starts, .ref o_face_sizes, .ref o_face_glyphStarts, .int o_face_units, .int o_face_glyphs, .int o_face_ascent, .int o_face_descent, .int o_face_gap, .int o_face_longLoca, .int o_face_metrics, .int o_face_codes, .int o_face_codesSize, .int o_face_segments, .int o_face_pairs])), (o_spare, .inl (cy 1, 4096, .inl o_spare_f)), (o_face_starts, .inl (cy 0, 8, .inl o_face_starts_f)), (o_face_sizes, .inl (cy 0, 8, .inl o_face_sizes_f)), (o_face_glyphStarts, .inl (cy 0, 65, .inl o_face_glyphStarts_f))]) (va_A [(o, .inr (6, [.ref o_page, .ref o_shape, .ref o_curves, .ref o_lines, .ref o_tape, .ref o_spare, .int o_tapeLength, .ref o_face, .int o_pixels])), (o_face, .inr (7, [.ref o_spare, .int o_face_length, .ref o_face_starts, .ref o_face_sizes, .ref o_face_glyphStarts, .int o_face_units, .int o_face_glyphs, .int o_face_ascent, .int o_face_descent, .int o_face_gap, .int o_face_longLoca, .int o_face_metrics, .int o_face_codes, .int o_face_codesSize, .int o_face_segments, .int o_face_pairs])), (o_spare, .inl (cy 1, 4096, .inl o_spare_f)), (o_face_starts, .inl (cy 0, 8, .inl o_face_starts_f)), (o_face_sizes, .inl (cy 0, 8, .inl o_face_sizes_f)), (o_face_glyphStarts, .inl (cy 0, 65, .inl o_face_glyphStarts_f))] sz)) 0 0 (va_A [(o, .inr (6, [.ref o_page, .ref o_shape, .ref o_curves, .ref o_lines, .ref o_tape, .ref o_spare, .int o_tapeLength, .ref o_face, .int o_pixels])), (o_face, .inr (7, [.ref o_spare, .int o_face_length, .ref o_face_starts, .ref o_face_sizes, .ref o_face_glyphStarts, .int o_face_units, .int o_face_glyphs, .int o_face_ascent, .int o_face_descent, .int o_face_gap, .int o_face_longLoca, .int o_face_metrics, .int o_face_codes, .int o_face_codesSize, .int o_face_segments, .int o_face_pairs])), (o_spare, .inl (cy 1, 4096, .inl o_spare_f)), (o_face_starts, .inl (cy 0, 8, .inl o_face_starts_f)), (o_face_sizes, .inl (cy 0, 8, .inl o_face_sizes_f)), (o_face_glyphStarts, .inl (cy 0, 65, .inl o_face_glyphStarts_f))] sz) := by
  refine Met.ofW (cc := b_Gp_metric) (maxL := 2) (ret := (some .int)) (by decide) rfl ?_
  intro p e s m args below meth c s₁ B hml hv
  obtain ⟨rfl, hsz, hP, hK, hD0⟩ := hv
  have hx := B.exec
  have hb := B.bytes
  have hr := B.returns
  have hts := atoms_spec (ws := Cond.code y_Gp_metric b_Gp_metric 2 (some .int) :: G) B.pre
  have htsG : ∀ w ∈ G, w.before _ s = true := fun w hw => hts w (List.mem_cons_of_mem _ hw)
  have hown : s.vm.findClass "GlyphPage" = some m.cls := findClass_of_methodNamed B.named
  have hlocks := B.notSynchronized
  subst hsz
  have hD := hD0.self (sz := s.heap.size)
  generalize hAe : va_A [(o, .inr (6, [.ref o_page, .ref o_shape, .ref o_curves, .ref o_lines, .ref o_tape, .ref o_spare, .int o_tapeLength, .ref o_face, .int o_pixels])), (o_face, .inr (7, [.ref o_spare, .int o_face_length, .ref o_face_starts, .ref o_face_sizes, .ref o_face_glyphStarts, .int o_face_units, .int o_face_glyphs, .int o_face_ascent, .int o_face_descent, .int o_face_gap, .int o_face_longLoca, .int o_face_metrics, .int o_face_codes, .int o_face_codesSize, .int o_face_segments, .int o_face_pairs])), (o_spare, .inl (cy 1, 4096, .inl o_spare_f)), (o_face_starts, .inl (cy 0, 8, .inl o_face_starts_f)), (o_face_sizes, .inl (cy 0, 8, .inl o_face_sizes_f)), (o_face_glyphStarts, .inl (cy 0, 65, .inl o_face_glyphStarts_f))] s.heap.size = A at hD ⊢
  have hA : ∀ q : Nat, s.heap.size ≤ q → A q := fun q h => by rw [← hAe]; exact Or.inr h
  have hS : va_S A s.heap s.heap [] := va_S.rf
  have hl := lv_entry ([.ref o, .int a1]) (n := 2) (Nat.le_of_ble_eq_true rfl)
  rw [lg_entry_eq]
  generalize (lg_sl ([.ref o, .int a1]) ++ List.replicate (2 - (lg_sl ([.ref o, .int a1])).length) Slot.unset).toArray = ls at hl ⊢
  have hl : lv_has ls 2 [(0, .ref o), (1, .int a1)] := hl
  have C0 : Cx p s m _ meth c A dC dI cy b_Gp_metric 2 (some .int) "GlyphPage" := ⟨hx, hb, hr, hlocks, hml, hown, htsG, hA, hK⟩
  unfold P_Gp_metric at h
  refine lv_iload_n hx hb d_Gp_metric_0 rfl (lv_at hl 1 rfl) ?_
  refine lv_if_lt (tgt := 9) hx hb d_Gp_metric_1 (by decide) (fun c_1 => ?_) (fun c_1 => ?_)
  · replace h := (if_pos c_1).symm.trans h
    refine lv_iconst (v := (-1 : Int32)) hx hb d_Gp_metric_9 (by decide) ?_
    cases h
    exact W.iret hx hb hr (fun t ht hW => ⟨⟨_, (), rfl, rfl, by rw [ht]; exact hP, va_K.moved hW.alike hK, hD⟩, hS.F ht⟩) hS.2.2 d_Gp_metric_10 hlocks
  · replace h := (if_neg c_1).symm.trans h
    refine lv_iload_n hx hb d_Gp_metric_4 rfl (lv_at hl 1 rfl) ?_
    refine lv_iconst (v := (4 : Int32)) hx hb d_Gp_metric_5 (by decide) ?_
    refine lv_icmp_le (tgt := 11) hx hb d_Gp_metric_6 (by decide) (fun c_2 => ?_) (fun c_2 => ?_)
    · replace h := (if_pos c_2).symm.trans h
      refine lv_aload_n hx hb d_Gp_metric_11 rfl (lv_at hl 0 rfl) ?_
      refine va_get (D := (dC, dI)) (ci := 6) (v := .ref o_face) (C := "GlyphPage") (T := F_Gp) (N := 9) hx hb htsG iG_Gp hown hK hP 0 rfl rfl 7 (by decide) (htsG _ mW253) (fun _ h9 => h9) rfl d_Gp_metric_12 ?_
      refine lv_ifnonnull (tgt := 30) hx hb d_Gp_metric_15 (by decide) ?_
      refine lv_iload_n hx hb d_Gp_metric_30 rfl (lv_at hl 1 rfl) ?_
      by_cases c_3 : a1 = (0 : Int32)
      · replace h := (if_pos c_3).symm.trans h
        refine lv_tableIn (off := 29) (tgt := 60) hx hb d_Gp_metric_31 (by rw [c_3]; decide) (by rw [c_3]; decide) (by rw [c_3]; rfl) (by decide) ?_
        refine lv_aload_n hx hb d_Gp_metric_60 rfl (lv_at hl 0 rfl) ?_
        refine va_get (D := (dC, dI)) (ci := 6) (v := .ref o_face) (C := "GlyphPage") (T := F_Gp) (N := 9) hx hb htsG iG_Gp hown hK hP 0 rfl rfl 7 (by decide) (htsG _ mW253) (fun _ h9 => h9) rfl d_Gp_metric_61 ?_
        refine va_get (D := (dC, dI)) (ci := 7) (v := .int o_face_units) (C := "GlyphPage$FontFile") (T := F_Ff) (N := 16) hx hb htsG iG_Ff hown hK hP 1 rfl rfl 5 (by decide) (htsG _ mW308) (fun _ h9 => h9) rfl d_Gp_metric_64 ?_
        cases h
        exact W.iret hx hb hr (fun t ht hW => ⟨⟨_, (), rfl, rfl, by rw [ht]; exact hP, va_K.moved hW.alike hK, hD⟩, hS.F ht⟩) hS.2.2 d_Gp_metric_67 hlocks
      · replace h := (if_neg c_3).symm.trans h
        by_cases c_4 : a1 = (1 : Int32)
        · replace h := (if_pos c_4).symm.trans h
          refine lv_tableIn (off := 37) (tgt := 68) hx hb d_Gp_metric_31 (by rw [c_4]; decide) (by rw [c_4]; decide) (by rw [c_4]; rfl) (by decide) ?_
          refine lv_aload_n hx hb d_Gp_metric_68 rfl (lv_at hl 0 rfl) ?_
          refine va_get (D := (dC, dI)) (ci := 6) (v := .ref o_face) (C := "GlyphPage") (T := F_Gp) (N := 9) hx hb htsG iG_Gp hown hK hP 0 rfl rfl 7 (by decide) (htsG _ mW253) (fun _ h9 => h9) rfl d_Gp_metric_69 ?_
          refine va_get (D := (dC, dI)) (ci := 7) (v := .int o_face_glyphs) (C := "GlyphPage$FontFile") (T := F_Ff) (N := 16) hx hb htsG iG_Ff hown hK hP 1 rfl rfl 6 (by decide) (htsG _ mW311) (fun _ h9 => h9) rfl d_Gp_metric_72 ?_
          cases h
          exact W.iret hx hb hr (fun t ht hW => ⟨⟨_, (), rfl, rfl, by rw [ht]; exact hP, va_K.moved hW.alike hK, hD⟩, hS.F ht⟩) hS.2.2 d_Gp_metric_75 hlocks
        · replace h := (if_neg c_4).symm.trans h
          by_cases c_5 : a1 = (2 : Int32)
          · replace h := (if_pos c_5).symm.trans h
            refine lv_tableIn (off := 45) (tgt := 76) hx hb d_Gp_metric_31 (by rw [c_5]; decide) (by rw [c_5]; decide) (by rw [c_5]; rfl) (by decide) ?_
            refine lv_aload_n hx hb d_Gp_metric_76 rfl (lv_at hl 0 rfl) ?_
            refine va_get (D := (dC, dI)) (ci := 6) (v := .ref o_face) (C := "GlyphPage") (T := F_Gp) (N := 9) hx hb htsG iG_Gp hown hK hP 0 rfl rfl 7 (by decide) (htsG _ mW253) (fun _ h9 => h9) rfl d_Gp_metric_77 ?_
            refine va_get (D := (dC, dI)) (ci := 7) (v := .int o_face_ascent) (C := "GlyphPage$FontFile") (T := F_Ff) (N := 16) hx hb htsG iG_Ff hown hK hP 1 rfl rfl 7 (by decide) (htsG _ mW313) (fun _ h9 => h9) rfl d_Gp_metric_80 ?_
            cases h
            exact W.iret hx hb hr (fun t ht hW => ⟨⟨_, (), rfl, rfl, by rw [ht]; exact hP, va_K.moved hW.alike hK, hD⟩, hS.F ht⟩) hS.2.2 d_Gp_metric_83 hlocks
          · replace h := (if_neg c_5).symm.trans h
            by_cases c_6 : a1 = (3 : Int32)
            · replace h := (if_pos c_6).symm.trans h
              refine lv_tableIn (off := 53) (tgt := 84) hx hb d_Gp_metric_31 (by rw [c_6]; decide) (by rw [c_6]; decide) (by rw [c_6]; rfl) (by decide) ?_
              refine lv_aload_n hx hb d_Gp_metric_84 rfl (lv_at hl 0 rfl) ?_
              refine va_get (D := (dC, dI)) (ci := 6) (v := .ref o_face) (C := "GlyphPage") (T := F_Gp) (N := 9) hx hb htsG iG_Gp hown hK hP 0 rfl rfl 7 (by decide) (htsG _ mW253) (fun _ h9 => h9) rfl d_Gp_metric_85 ?_
              refine va_get (D := (dC, dI)) (ci := 7) (v := .int o_face_descent) (C := "GlyphPage$FontFile") (T := F_Ff) (N := 16) hx hb htsG iG_Ff hown hK hP 1 rfl rfl 8 (by decide) (htsG _ mW315) (fun _ h9 => h9) rfl d_Gp_metric_88 ?_
              cases h
              exact W.iret hx hb hr (fun t ht hW => ⟨⟨_, (), rfl, rfl, by rw [ht]; exact hP, va_K.moved hW.alike hK, hD⟩, hS.F ht⟩) hS.2.2 d_Gp_metric_91 hlocks
            · replace h := (if_neg c_6).symm.trans h
              refine lv_tableOut (tgt := 92) hx hb d_Gp_metric_31 (by have e0 := lv_neT (a := 0) c_3 (by decide); have e1 := lv_neT (a := 1) c_4 (by decide); have e2 := lv_neT (a := 2) c_5 (by decide); have e3 := lv_neT (a := 3) c_6 (by decide); omega) (by decide) ?_
              refine lv_aload_n hx hb d_Gp_metric_92 rfl (lv_at hl 0 rfl) ?_
              refine va_get (D := (dC, dI)) (ci := 6) (v := .ref o_face) (C := "GlyphPage") (T := F_Gp) (N := 9) hx hb htsG iG_Gp hown hK hP 0 rfl rfl 7 (by decide) (htsG _ mW253) (fun _ h9 => h9) rfl d_Gp_metric_93 ?_
              refine va_get (D := (dC, dI)) (ci := 7) (v := .int o_face_gap) (C := "GlyphPage$FontFile") (T := F_Ff) (N := 16) hx hb htsG iG_Ff hown hK hP 1 rfl rfl 9 (by decide) (htsG _ mW317) (fun _ h9 => h9) rfl d_Gp_metric_96 ?_
              cases h
              exact W.iret hx hb hr (fun t ht hW => ⟨⟨_, (), rfl, rfl, by rw [ht]; exact hP, va_K.moved hW.alike hK, hD⟩, hS.F ht⟩) hS.2.2 d_Gp_metric_99 hlocks
    · replace h := (if_neg c_2).symm.trans h
      refine lv_iconst (v := (-1 : Int32)) hx hb d_Gp_metric_9 (by decide) ?_
      cases h
      exact W.iret hx hb hr (fun t ht hW => ⟨⟨_, (), rfl, rfl, by rw [ht]; exact hP, va_K.moved hW.alike hK, hD⟩, hS.F ht⟩) hS.2.2 d_Gp_metric_10 hlocks
def P_Gp_metric_N  (a1 : Int32) : Option (Int32) :=
  if a1 < 0 then (some (-1 : Int32)) else (if a1 ≤ (4 : Int32) then (if (2 : Int32) ≤ a1 then (some (0 : Int32)) else (some (-2 : Int32))) else (some (-1 : Int32)))
set_option maxHeartbeats 4000000 in
set_option maxRecDepth 100000 in
theorem c_Gp_metric_N (l : Launch) (dC : Nat → ClassId) (dI : Nat → Nat → Nat) (cy : Nat → ClassId) (sz : Nat) (o : Nat) (o_page : Nat) (o_shape : Nat) (o_curves : Nat) (o_lines : Nat) (o_tape : Nat) (o_spare : Nat) (o_tapeLength : Int32) (o_pixels : Int32) (a1 : Int32) (uu : Int32) (h : P_Gp_metric_N a1 = some uu) : Met l y_Gp_metric (Cond.code y_Gp_metric b_Gp_metric 2 (some .int) :: G) ({ frames := 0, cells := 0, slots := 0, locals := 0 } : Room) (va_Pc [.ref o, .int a1] (fun U => U.heap.size = sz ∧ va_P (dC, dI) classes [(o, .inr (6, [.ref o_page, .ref o_shape, .ref o_curves, .ref o_lines, .ref o_tape, .ref o_spare, .int o_tapeLength, .null, .int o_pixels]))] U.heap ∧ va_K (dC, dI) classes (TY cy) U ∧ va_D (fun _ => True) [(o, .inr (6, [.ref o_page, .ref o_shape, .ref o_curves, .ref o_lines, .ref o_tape, .ref o_spare, .int o_tapeLength, .null, .int o_pixels]))])) (va_Qi (fun r (_ : Unit) => r = uu) (fun _ t => va_P (dC, dI) classes [(o, .inr (6, [.ref o_page, .ref o_shape, .ref o_curves, .ref o_lines, .ref o_tape, .ref o_spare, .int o_tapeLength, .null, .int o_pixels]))] t.heap ∧ va_K (dC, dI) classes (TY cy) t ∧ va_D (va_A [(o, .inr (6, [.ref o_page, .ref o_shape, .ref o_curves, .ref o_lines, .ref o_tape, .ref o_spare, .int o_tapeLength, .null, .int o_pixels]))] sz) [(o, .inr (6, [.ref o_page, .ref o_shape, .ref o_curves, .ref o_lines, .ref o_tape, .ref o_spare, .int o_tapeLength, .null, .int o_pixels]))]) (va_A [(o, .inr (6, [.ref o_page, .ref o_shape, .ref o_curves, .ref o_lines, .ref o_tape, .ref o_spare, .int o_tapeLength, .null, .int o_pixels]))] sz)) 0 0 (va_A [(o, .inr (6, [.ref o_page, .ref o_shape, .ref o_curves, .ref o_lines, .ref o_tape, .ref o_spare, .int o_tapeLength, .null, .int o_pixels]))] sz) := by
  refine Met.ofW (cc := b_Gp_metric) (maxL := 2) (ret := (some .int)) (by decide) rfl ?_
  intro p e s m args below meth c s₁ B hml hv
  obtain ⟨rfl, hsz, hP, hK, hD0⟩ := hv
  have hx := B.exec
  have hb := B.bytes
  have hr := B.returns
  have hts := atoms_spec (ws := Cond.code y_Gp_metric b_Gp_metric 2 (some .int) :: G) B.pre
  have htsG : ∀ w ∈ G, w.before _ s = true := fun w hw => hts w (List.mem_cons_of_mem _ hw)
  have hown : s.vm.findClass "GlyphPage" = some m.cls := findClass_of_methodNamed B.named
  have hlocks := B.notSynchronized
  subst hsz
  have hD := hD0.self (sz := s.heap.size)
  generalize hAe : va_A [(o, .inr (6, [.ref o_page, .ref o_shape, .ref o_curves, .ref o_lines, .ref o_tape, .ref o_spare, .int o_tapeLength, .null, .int o_pixels]))] s.heap.size = A at hD ⊢
  have hA : ∀ q : Nat, s.heap.size ≤ q → A q := fun q h => by rw [← hAe]; exact Or.inr h
  have hS : va_S A s.heap s.heap [] := va_S.rf
  have hl := lv_entry ([.ref o, .int a1]) (n := 2) (Nat.le_of_ble_eq_true rfl)
  rw [lg_entry_eq]
  generalize (lg_sl ([.ref o, .int a1]) ++ List.replicate (2 - (lg_sl ([.ref o, .int a1])).length) Slot.unset).toArray = ls at hl ⊢
  have hl : lv_has ls 2 [(0, .ref o), (1, .int a1)] := hl
  have C0 : Cx p s m _ meth c A dC dI cy b_Gp_metric 2 (some .int) "GlyphPage" := ⟨hx, hb, hr, hlocks, hml, hown, htsG, hA, hK⟩
  unfold P_Gp_metric_N at h
  refine lv_iload_n hx hb d_Gp_metric_0 rfl (lv_at hl 1 rfl) ?_
  refine lv_if_lt (tgt := 9) hx hb d_Gp_metric_1 (by decide) (fun c_1 => ?_) (fun c_1 => ?_)
  · replace h := (if_pos c_1).symm.trans h
    refine lv_iconst (v := (-1 : Int32)) hx hb d_Gp_metric_9 (by decide) ?_
    cases h
    exact W.iret hx hb hr (fun t ht hW => ⟨⟨_, (), rfl, rfl, by rw [ht]; exact hP, va_K.moved hW.alike hK, hD⟩, hS.F ht⟩) hS.2.2 d_Gp_metric_10 hlocks
  · replace h := (if_neg c_1).symm.trans h
    refine lv_iload_n hx hb d_Gp_metric_4 rfl (lv_at hl 1 rfl) ?_
    refine lv_iconst (v := (4 : Int32)) hx hb d_Gp_metric_5 (by decide) ?_
    refine lv_icmp_le (tgt := 11) hx hb d_Gp_metric_6 (by decide) (fun c_2 => ?_) (fun c_2 => ?_)
    · replace h := (if_pos c_2).symm.trans h
      refine lv_aload_n hx hb d_Gp_metric_11 rfl (lv_at hl 0 rfl) ?_
      refine va_get (D := (dC, dI)) (ci := 6) (v := .null) (C := "GlyphPage") (T := F_Gp) (N := 9) hx hb htsG iG_Gp hown hK hP 0 rfl rfl 7 (by decide) (htsG _ mW253) (fun _ h9 => h9) rfl d_Gp_metric_12 ?_
      refine lv_ifnonnullN hx hb d_Gp_metric_15 ?_
      refine lv_iload_n hx hb d_Gp_metric_18 rfl (lv_at hl 1 rfl) ?_
      refine lv_iconst (v := (2 : Int32)) hx hb d_Gp_metric_19 (by decide) ?_
      refine lv_icmp_ge (tgt := 28) hx hb d_Gp_metric_20 (by decide) (fun c_3 => ?_) (fun c_3 => ?_)
      · replace h := (if_pos c_3).symm.trans h
        refine lv_iconst (v := (0 : Int32)) hx hb d_Gp_metric_28 (by decide) ?_
        cases h
        exact W.iret hx hb hr (fun t ht hW => ⟨⟨_, (), rfl, rfl, by rw [ht]; exact hP, va_K.moved hW.alike hK, hD⟩, hS.F ht⟩) hS.2.2 d_Gp_metric_29 hlocks
      · replace h := (if_neg c_3).symm.trans h
        refine lv_bipush (v := (-2 : Int32)) hx hb d_Gp_metric_23 (by decide) ?_
        refine lv_goto (tgt := 29) hx hb d_Gp_metric_25 (by decide) ?_
        cases h
        exact W.iret hx hb hr (fun t ht hW => ⟨⟨_, (), rfl, rfl, by rw [ht]; exact hP, va_K.moved hW.alike hK, hD⟩, hS.F ht⟩) hS.2.2 d_Gp_metric_29 hlocks
    · replace h := (if_neg c_2).symm.trans h
      refine lv_iconst (v := (-1 : Int32)) hx hb d_Gp_metric_9 (by decide) ?_
      cases h
      exact W.iret hx hb hr (fun t ht hW => ⟨⟨_, (), rfl, rfl, by rw [ht]; exact hP, va_K.moved hW.alike hK, hD⟩, hS.F ht⟩) hS.2.2 d_Gp_metric_10 hlocks
def P_Gp_kern (o_face_length : Int32) (o_face_pairs : Int32) (o_spare_f : Nat → Int32) (o_face_starts_f : Nat → Int32) (a1 : Int32) (a2 : Int32) : Option (Int32) :=
  (P_Ff_kernOf o_face_length o_face_pairs o_spare_f o_face_starts_f a1 a2).bind fun r_1 => some r_1
set_option maxHeartbeats 4000000 in
set_option maxRecDepth 100000 in
theorem c_Gp_kern (l : Launch) (dC : Nat → ClassId) (dI : Nat → Nat → Nat) (cy : Nat → ClassId) (sz : Nat) (o : Nat) (o_page : Nat) (o_shape : Nat) (o_curves : Nat) (o_lines : Nat) (o_tape : Nat) (o_spare : Nat) (o_face : Nat) (o_face_starts : Nat) (o_face_sizes : Nat) (o_face_glyphStarts : Nat) (o_tapeLength : Int32) (o_pixels : Int32) (o_face_length : Int32) (o_face_units : Int32) (o_face_glyphs : Int32) (o_face_ascent : Int32) (o_face_descent : Int32) (o_face_gap : Int32) (o_face_longLoca : Int32) (o_face_metrics : Int32) (o_face_codes : Int32) (o_face_codesSize : Int32) (o_face_segments : Int32) (o_face_pairs : Int32) (o_spare_f : Nat → Int32) (o_face_starts_f : Nat → Int32) (o_face_sizes_f : Nat → Int32) (o_face_glyphStarts_f : Nat → Int32) (a1 : Int32) (a2 : Int32) (uu : Int32) (h : P_Gp_kern o_face_length o_face_pairs o_spare_f o_face_starts_f a1 a2 = some uu) : Met l y_Gp_kern (Cond.code y_Gp_kern b_Gp_kern 3 (some .int) :: G) ({ frames := 4, cells := 0, slots := 0, locals := 89 } : Room) (va_Pc [.ref o, .int a1, .int a2] (fun U => U.heap.size = sz ∧ va_P (dC, dI) classes [(o, .inr (6, [.ref o_page, .ref o_shape, .ref o_curves, .ref o_lines, .ref o_tape, .ref o_spare, .int o_tapeLength, .ref o_face, .int o_pixels])), (o_face, .inr (7, [.ref o_spare, .int o_face_length, .ref o_face_starts, .ref o_face_sizes, .ref o_face_glyphStarts, .int o_face_units, .int o_face_glyphs, .int o_face_ascent, .int o_face_descent, .int o_face_gap, .int o_face_longLoca, .int o_face_metrics, .int o_face_codes, .int o_face_codesSize, .int o_face_segments, .int o_face_pairs])), (o_spare, .inl (cy 1, 4096, .inl o_spare_f)), (o_face_starts, .inl (cy 0, 8, .inl o_face_starts_f)), (o_face_sizes, .inl (cy 0, 8, .inl o_face_sizes_f)), (o_face_glyphStarts, .inl (cy 0, 65, .inl o_face_glyphStarts_f))] U.heap ∧ va_K (dC, dI) classes (TY cy) U ∧ va_D (fun _ => True) [(o, .inr (6, [.ref o_page, .ref o_shape, .ref o_curves, .ref o_lines, .ref o_tape, .ref o_spare, .int o_tapeLength, .ref o_face, .int o_pixels])), (o_face, .inr (7, [.ref o_spare, .int o_face_length, .ref o_face_starts, .ref o_face_sizes, .ref o_face_glyphStarts, .int o_face_units, .int o_face_glyphs, .int o_face_ascent, .int o_face_descent, .int o_face_gap, .int o_face_longLoca, .int o_face_metrics, .int o_face_codes, .int o_face_codesSize, .int o_face_segments, .int o_face_pairs])), (o_spare, .inl (cy 1, 4096, .inl o_spare_f)), (o_face_starts, .inl (cy 0, 8, .inl o_face_starts_f)), (o_face_sizes, .inl (cy 0, 8, .inl o_face_sizes_f)), (o_face_glyphStarts, .inl (cy 0, 65, .inl o_face_glyphStarts_f))])) (va_Qi (fun r (_ : Unit) => r = uu) (fun _ t => va_P (dC, dI) classes [(o, .inr (6, [.ref o_page, .ref o_shape, .ref o_curves, .ref o_lines, .ref o_tape, .ref o_spare, .int o_tapeLength, .ref o_face, .int o_pixels])), (o_face, .inr (7, [.ref o_spare, .int o_face_length, .ref o_face_starts, .ref o_face_sizes, .ref o_face_glyphStarts, .int o_face_units, .int o_face_glyphs, .int o_face_ascent, .int o_face_descent, .int o_face_gap, .int o_face_longLoca, .int o_face_metrics, .int o_face_codes, .int o_face_codesSize, .int o_face_segments, .int o_face_pairs])), (o_spare, .inl (cy 1, 4096, .inl o_spare_f)), (o_face_starts, .inl (cy 0, 8, .inl o_face_starts_f)), (o_face_sizes, .inl (cy 0, 8, .inl o_face_sizes_f)), (o_face_glyphStarts, .inl (cy 0, 65, .inl o_face_glyphStarts_f))] t.heap ∧ va_K (dC, dI) classes (TY cy) t ∧ va_D (va_A [(o, .inr (6, [.ref o_page, .ref o_shape, .ref o_curves, .ref o_lines, .ref o_tape, .ref o_spare, .int o_tapeLength, .ref o_face, .int o_pixels])), (o_face, .inr (7, [.ref o_spare, .int o_face_length, .ref o_face_starts, .ref o_face_sizes, .ref o_face_glyphStarts, .int o_face_units, .int o_face_glyphs, .int o_face_ascent, .int o_face_descent, .int o_face_gap, .int o_face_longLoca, .int o_face_metrics, .int o_face_codes, .int o_face_codesSize, .int o_face_segments, .int o_face_pairs])), (o_spare, .inl (cy 1, 4096, .inl o_spare_f)), (o_face_starts, .inl (cy 0, 8, .inl o_face_starts_f)), (o_face_sizes, .inl (cy 0, 8, .inl o_face_sizes_f)), (o_face_glyphStarts, .inl (cy 0, 65, .inl o_face_glyphStarts_f))] sz) [(o, .inr (6, [.ref o_page, .ref o_shape, .ref o_curves, .ref o_lines, .ref o_tape, .ref o_spare, .int o_tapeLength, .ref o_face, .int o_pixels])), (o_face, .inr (7, [.ref o_spare, .int o_face_length, .ref o_face_starts, .ref o_face_sizes, .ref o_face_glyphStarts, .int o_face_units, .int o_face_glyphs, .int o_face_ascent, .int o_face_descent, .int o_face_gap, .int o_face_longLoca, .int o_face_metrics, .int o_face_codes, .int o_face_codesSize, .int o_face_segments, .int o_face_pairs])), (o_spare, .inl (cy 1, 4096, .inl o_spare_f)), (o_face_starts, .inl (cy 0, 8, .inl o_face_starts_f)), (o_face_sizes, .inl (cy 0, 8, .inl o_face_sizes_f)), (o_face_glyphStarts, .inl (cy 0, 65, .inl o_face_glyphStarts_f))]) (va_A [(o, .inr (6, [.ref o_page, .ref o_shape, .ref o_curves, .ref o_lines, .ref o_tape, .ref o_spare, .int o_tapeLength, .ref o_face, .int o_pixels])), (o_face, .inr (7, [.ref o_spare, .int o_face_length, .ref o_face_starts, .ref o_face_sizes, .ref o_face_glyphStarts, .int o_face_units, .int o_face_glyphs, .int o_face_ascent, .int o_face_descent, .int o_face_gap, .int o_face_longLoca, .int o_face_metrics, .int o_face_codes, .int o_face_codesSize, .int o_face_segments, .int o_face_pairs])), (o_spare, .inl (cy 1, 4096, .inl o_spare_f)), (o_face_starts, .inl (cy 0, 8, .inl o_face_starts_f)), (o_face_sizes, .inl (cy 0, 8, .inl o_face_sizes_f)), (o_face_glyphStarts, .inl (cy 0, 65, .inl o_face_glyphStarts_f))] sz)) 0 0 (va_A [(o, .inr (6, [.ref o_page, .ref o_shape, .ref o_curves, .ref o_lines, .ref o_tape, .ref o_spare, .int o_tapeLength, .ref o_face, .int o_pixels])), (o_face, .inr (7, [.ref o_spare, .int o_face_length, .ref o_face_starts, .ref o_face_sizes, .ref o_face_glyphStarts, .int o_face_units, .int o_face_glyphs, .int o_face_ascent, .int o_face_descent, .int o_face_gap, .int o_face_longLoca, .int o_face_metrics, .int o_face_codes, .int o_face_codesSize, .int o_face_segments, .int o_face_pairs])), (o_spare, .inl (cy 1, 4096, .inl o_spare_f)), (o_face_starts, .inl (cy 0, 8, .inl o_face_starts_f)), (o_face_sizes, .inl (cy 0, 8, .inl o_face_sizes_f)), (o_face_glyphStarts, .inl (cy 0, 65, .inl o_face_glyphStarts_f))] sz) := by
  refine Met.ofW (cc := b_Gp_kern) (maxL := 3) (ret := (some .int)) (by decide) rfl ?_
  intro p e s m args below meth c s₁ B hml hv
  obtain ⟨rfl, hsz, hP, hK, hD0⟩ := hv
  have hx := B.exec
  have hb := B.bytes
  have hr := B.returns
  have hts := atoms_spec (ws := Cond.code y_Gp_kern b_Gp_kern 3 (some .int) :: G) B.pre
  have htsG : ∀ w ∈ G, w.before _ s = true := fun w hw => hts w (List.mem_cons_of_mem _ hw)
  have hown : s.vm.findClass "GlyphPage" = some m.cls := findClass_of_methodNamed B.named
  have hlocks := B.notSynchronized
  subst hsz
  have hD := hD0.self (sz := s.heap.size)
  generalize hAe : va_A [(o, .inr (6, [.ref o_page, .ref o_shape, .ref o_curves, .ref o_lines, .ref o_tape, .ref o_spare, .int o_tapeLength, .ref o_face, .int o_pixels])), (o_face, .inr (7, [.ref o_spare, .int o_face_length, .ref o_face_starts, .ref o_face_sizes, .ref o_face_glyphStarts, .int o_face_units, .int o_face_glyphs, .int o_face_ascent, .int o_face_descent, .int o_face_gap, .int o_face_longLoca, .int o_face_metrics, .int o_face_codes, .int o_face_codesSize, .int o_face_segments, .int o_face_pairs])), (o_spare, .inl (cy 1, 4096, .inl o_spare_f)), (o_face_starts, .inl (cy 0, 8, .inl o_face_starts_f)), (o_face_sizes, .inl (cy 0, 8, .inl o_face_sizes_f)), (o_face_glyphStarts, .inl (cy 0, 65, .inl o_face_glyphStarts_f))] s.heap.size = A at hD ⊢
  have hA : ∀ q : Nat, s.heap.size ≤ q → A q := fun q h => by rw [← hAe]; exact Or.inr h
  have hS : va_S A s.heap s.heap [] := va_S.rf
  have hl := lv_entry ([.ref o, .int a1, .int a2]) (n := 3) (Nat.le_of_ble_eq_true rfl)
  rw [lg_entry_eq]
  generalize (lg_sl ([.ref o, .int a1, .int a2]) ++ List.replicate (3 - (lg_sl ([.ref o, .int a1, .int a2])).length) Slot.unset).toArray = ls at hl ⊢
  have hl : lv_has ls 3 [(0, .ref o), (1, .int a1), (2, .int a2)] := hl
  have C0 : Cx p s m _ meth c A dC dI cy b_Gp_kern 3 (some .int) "GlyphPage" := ⟨hx, hb, hr, hlocks, hml, hown, htsG, hA, hK⟩
  unfold P_Gp_kern at h
  refine lv_aload_n hx hb d_Gp_kern_0 rfl (lv_at hl 0 rfl) ?_
  refine va_get (D := (dC, dI)) (ci := 6) (v := .ref o_face) (C := "GlyphPage") (T := F_Gp) (N := 9) hx hb htsG iG_Gp hown hK hP 0 rfl rfl 7 (by decide) (htsG _ mW253) (fun _ h9 => h9) rfl d_Gp_kern_1 ?_
  refine lv_ifnonnull (tgt := 11) hx hb d_Gp_kern_4 (by decide) ?_
  refine lv_aload_n hx hb d_Gp_kern_11 rfl (lv_at hl 0 rfl) ?_
  refine va_get (D := (dC, dI)) (ci := 6) (v := .ref o_face) (C := "GlyphPage") (T := F_Gp) (N := 9) hx hb htsG iG_Gp hown hK hP 0 rfl rfl 7 (by decide) (htsG _ mW253) (fun _ h9 => h9) rfl d_Gp_kern_12 ?_
  refine lv_iload_n hx hb d_Gp_kern_15 rfl (lv_at hl 1 rfl) ?_
  refine lv_iload_n hx hb d_Gp_kern_16 rfl (lv_at hl 2 rfl) ?_
  obtain ⟨r_1, hq, h⟩ := Option.bind_eq_some_iff.mp h
  try dsimp only at h
  have hPc := hP.sub (ws' := [(o_face, .inr (7, [.ref o_spare, .int o_face_length, .ref o_face_starts, .ref o_face_sizes, .ref o_face_glyphStarts, .int o_face_units, .int o_face_glyphs, .int o_face_ascent, .int o_face_descent, .int o_face_gap, .int o_face_longLoca, .int o_face_metrics, .int o_face_codes, .int o_face_codesSize, .int o_face_segments, .int o_face_pairs])), (o_spare, .inl (cy 1, 4096, .inl o_spare_f)), (o_face_starts, .inl (cy 0, 8, .inl o_face_starts_f)), (o_face_sizes, .inl (cy 0, 8, .inl o_face_sizes_f)), (o_face_glyphStarts, .inl (cy 0, 65, .inl o_face_glyphStarts_f))]) [1, 2, 3, 4, 5] rfl
  have hDc := hD.sub (ws' := [(o_face, .inr (7, [.ref o_spare, .int o_face_length, .ref o_face_starts, .ref o_face_sizes, .ref o_face_glyphStarts, .int o_face_units, .int o_face_glyphs, .int o_face_ascent, .int o_face_descent, .int o_face_gap, .int o_face_longLoca, .int o_face_metrics, .int o_face_codes, .int o_face_codesSize, .int o_face_segments, .int o_face_pairs])), (o_spare, .inl (cy 1, 4096, .inl o_spare_f)), (o_face_starts, .inl (cy 0, 8, .inl o_face_starts_f)), (o_face_sizes, .inl (cy 0, 8, .inl o_face_sizes_f)), (o_face_glyphStarts, .inl (cy 0, 65, .inl o_face_glyphStarts_f))]) [1, 2, 3, 4, 5] (by decide) rfl
  have hFc := va_free (wc := [(o_face, .inr (7, [.ref o_spare, .int o_face_length, .ref o_face_starts, .ref o_face_sizes, .ref o_face_glyphStarts, .int o_face_units, .int o_face_glyphs, .int o_face_ascent, .int o_face_descent, .int o_face_gap, .int o_face_longLoca, .int o_face_metrics, .int o_face_codes, .int o_face_codesSize, .int o_face_segments, .int o_face_pairs])), (o_spare, .inl (cy 1, 4096, .inl o_spare_f)), (o_face_starts, .inl (cy 0, 8, .inl o_face_starts_f)), (o_face_sizes, .inl (cy 0, 8, .inl o_face_sizes_f)), (o_face_glyphStarts, .inl (cy 0, 65, .inl o_face_glyphStarts_f))]) hD hS hA [1, 2, 3, 4, 5] rfl
  refine va_calli (va_runV (As := [.int a1, .int a2]) (rest := []) ⟨hx, hb, hml, hown, htsG⟩ (c_Ff_kernOf l dC dI cy s.heap.size o_face o_spare o_face_starts o_face_sizes o_face_glyphStarts o_face_length o_face_units o_face_glyphs o_face_ascent o_face_descent o_face_gap o_face_longLoca o_face_metrics o_face_codes o_face_codesSize o_face_segments o_face_pairs o_spare_f o_face_starts_f o_face_sizes_f o_face_glyphStarts_f a1 a2 r_1 hq) (cwV 2 htsG (gV mW561 mW562 mW563 mW11 mW564) rfl rfl rfl (by decide +kernel) ⟨Nat.le_of_ble_eq_true rfl, Nat.le_of_ble_eq_true rfl⟩) ⟨fun a U g mk q => by obtain ⟨q0, q1, qP, qK, qD⟩ := q; exact ⟨q0, q1, qP, va_K.moved (u := U) (U := U.calling g mk a) (Vm.Alike.refl U.vm) qK, qD⟩, va_recv hK hPc (ci := 7) (q0 := 0) rfl rfl, fun U hU hW => ⟨rfl, by rw [hU], by rw [hU]; exact hPc, va_K.moved hW.alike hK, hDc.weaken (fun _ _ _ _ => trivial)⟩⟩ rfl rfl hl.1 rfl (lv_room (Nat.le_of_ble_eq_true rfl)) d_Gp_kern_17 ⟨Nat.le_of_ble_eq_true rfl, Nat.le_of_ble_eq_true rfl⟩) hS (fun q _ h => hFc q h) hFc (fun rr u t H1 locs ht hvm hw hB hz1 hk1 hS => ?_)
  obtain ⟨hP1, hK1, hD1⟩ := hB
  rw [ht] at hP1
  replace hw : r_1 = rr := hw.symm
  subst hw
  obtain ⟨hP, hD⟩ := va_join (wr := [(o, .inr (6, [.ref o_page, .ref o_shape, .ref o_curves, .ref o_lines, .ref o_tape, .ref o_spare, .int o_tapeLength, .ref o_face, .int o_pixels]))]) (w1 := [(o_face, .inr (7, [.ref o_spare, .int o_face_length, .ref o_face_starts, .ref o_face_sizes, .ref o_face_glyphStarts, .int o_face_units, .int o_face_glyphs, .int o_face_ascent, .int o_face_descent, .int o_face_gap, .int o_face_longLoca, .int o_face_metrics, .int o_face_codes, .int o_face_codesSize, .int o_face_segments, .int o_face_pairs])), (o_spare, .inl (cy 1, 4096, .inl o_spare_f)), (o_face_starts, .inl (cy 0, 8, .inl o_face_starts_f)), (o_face_sizes, .inl (cy 0, 8, .inl o_face_sizes_f)), (o_face_glyphStarts, .inl (cy 0, 65, .inl o_face_glyphStarts_f))]) hP hD [1, 2, 3, 4, 5] [0] rfl rfl (by decide) (by decide) hk1 hFc hP1 hD1
  generalize H1 = H at hP hS ⊢
  have hP := hP.sub (ws' := [(o, .inr (6, [.ref o_page, .ref o_shape, .ref o_curves, .ref o_lines, .ref o_tape, .ref o_spare, .int o_tapeLength, .ref o_face, .int o_pixels])), (o_face, .inr (7, [.ref o_spare, .int o_face_length, .ref o_face_starts, .ref o_face_sizes, .ref o_face_glyphStarts, .int o_face_units, .int o_face_glyphs, .int o_face_ascent, .int o_face_descent, .int o_face_gap, .int o_face_longLoca, .int o_face_metrics, .int o_face_codes, .int o_face_codesSize, .int o_face_segments, .int o_face_pairs])), (o_spare, .inl (cy 1, 4096, .inl o_spare_f)), (o_face_starts, .inl (cy 0, 8, .inl o_face_starts_f)), (o_face_sizes, .inl (cy 0, 8, .inl o_face_sizes_f)), (o_face_glyphStarts, .inl (cy 0, 65, .inl o_face_glyphStarts_f))]) [0, 1, 2, 3, 4, 5] rfl
  have hD := hD.sub (ws' := [(o, .inr (6, [.ref o_page, .ref o_shape, .ref o_curves, .ref o_lines, .ref o_tape, .ref o_spare, .int o_tapeLength, .ref o_face, .int o_pixels])), (o_face, .inr (7, [.ref o_spare, .int o_face_length, .ref o_face_starts, .ref o_face_sizes, .ref o_face_glyphStarts, .int o_face_units, .int o_face_glyphs, .int o_face_ascent, .int o_face_descent, .int o_face_gap, .int o_face_longLoca, .int o_face_metrics, .int o_face_codes, .int o_face_codesSize, .int o_face_segments, .int o_face_pairs])), (o_spare, .inl (cy 1, 4096, .inl o_spare_f)), (o_face_starts, .inl (cy 0, 8, .inl o_face_starts_f)), (o_face_sizes, .inl (cy 0, 8, .inl o_face_sizes_f)), (o_face_glyphStarts, .inl (cy 0, 65, .inl o_face_glyphStarts_f))]) [0, 1, 2, 3, 4, 5] (by decide) rfl
  refine W.widen (k := 0) (n := 0) (by decide) (by decide) ?_
  cases h
  exact W.iret hx hb hr (fun t ht hW => ⟨⟨_, (), rfl, rfl, by rw [ht]; exact hP, va_K.moved hW.alike hK, hD⟩, hS.F ht⟩) hS.2.2 d_Gp_kern_20 hlocks
def P_Gp_kern_N  (a1 : Int32) (a2 : Int32) : Option (Int32) :=
  some (0 : Int32)
set_option maxHeartbeats 4000000 in
set_option maxRecDepth 100000 in
theorem c_Gp_kern_N (l : Launch) (dC : Nat → ClassId) (dI : Nat → Nat → Nat) (cy : Nat → ClassId) (sz : Nat) (o : Nat) (o_page : Nat) (o_shape : Nat) (o_curves : Nat) (o_lines : Nat) (o_tape : Nat) (o_spare : Nat) (o_tapeLength : Int32) (o_pixels : Int32) (a1 : Int32) (a2 : Int32) (uu : Int32) (h : P_Gp_kern_N a1 a2 = some uu) : Met l y_Gp_kern (Cond.code y_Gp_kern b_Gp_kern 3 (some .int) :: G) ({ frames := 0, cells := 0, slots := 0, locals := 0 } : Room) (va_Pc [.ref o, .int a1, .int a2] (fun U => U.heap.size = sz ∧ va_P (dC, dI) classes [(o, .inr (6, [.ref o_page, .ref o_shape, .ref o_curves, .ref o_lines, .ref o_tape, .ref o_spare, .int o_tapeLength, .null, .int o_pixels]))] U.heap ∧ va_K (dC, dI) classes (TY cy) U ∧ va_D (fun _ => True) [(o, .inr (6, [.ref o_page, .ref o_shape, .ref o_curves, .ref o_lines, .ref o_tape, .ref o_spare, .int o_tapeLength, .null, .int o_pixels]))])) (va_Qi (fun r (_ : Unit) => r = uu) (fun _ t => va_P (dC, dI) classes [(o, .inr (6, [.ref o_page, .ref o_shape, .ref o_curves, .ref o_lines, .ref o_tape, .ref o_spare, .int o_tapeLength, .null, .int o_pixels]))] t.heap ∧ va_K (dC, dI) classes (TY cy) t ∧ va_D (va_A [(o, .inr (6, [.ref o_page, .ref o_shape, .ref o_curves, .ref o_lines, .ref o_tape, .ref o_spare, .int o_tapeLength, .null, .int o_pixels]))] sz) [(o, .inr (6, [.ref o_page, .ref o_shape, .ref o_curves, .ref o_lines, .ref o_tape, .ref o_spare, .int o_tapeLength, .null, .int o_pixels]))]) (va_A [(o, .inr (6, [.ref o_page, .ref o_shape, .ref o_curves, .ref o_lines, .ref o_tape, .ref o_spare, .int o_tapeLength, .null, .int o_pixels]))] sz)) 0 0 (va_A [(o, .inr (6, [.ref o_page, .ref o_shape, .ref o_curves, .ref o_lines, .ref o_tape, .ref o_spare, .int o_tapeLength, .null, .int o_pixels]))] sz) := by
  refine Met.ofW (cc := b_Gp_kern) (maxL := 3) (ret := (some .int)) (by decide) rfl ?_
  intro p e s m args below meth c s₁ B hml hv
  obtain ⟨rfl, hsz, hP, hK, hD0⟩ := hv
  have hx := B.exec
  have hb := B.bytes
  have hr := B.returns
  have hts := atoms_spec (ws := Cond.code y_Gp_kern b_Gp_kern 3 (some .int) :: G) B.pre
  have htsG : ∀ w ∈ G, w.before _ s = true := fun w hw => hts w (List.mem_cons_of_mem _ hw)
  have hown : s.vm.findClass "GlyphPage" = some m.cls := findClass_of_methodNamed B.named
  have hlocks := B.notSynchronized
  subst hsz
  have hD := hD0.self (sz := s.heap.size)
  generalize hAe : va_A [(o, .inr (6, [.ref o_page, .ref o_shape, .ref o_curves, .ref o_lines, .ref o_tape, .ref o_spare, .int o_tapeLength, .null, .int o_pixels]))] s.heap.size = A at hD ⊢
  have hA : ∀ q : Nat, s.heap.size ≤ q → A q := fun q h => by rw [← hAe]; exact Or.inr h
  have hS : va_S A s.heap s.heap [] := va_S.rf
  have hl := lv_entry ([.ref o, .int a1, .int a2]) (n := 3) (Nat.le_of_ble_eq_true rfl)
  rw [lg_entry_eq]
  generalize (lg_sl ([.ref o, .int a1, .int a2]) ++ List.replicate (3 - (lg_sl ([.ref o, .int a1, .int a2])).length) Slot.unset).toArray = ls at hl ⊢
  have hl : lv_has ls 3 [(0, .ref o), (1, .int a1), (2, .int a2)] := hl
  have C0 : Cx p s m _ meth c A dC dI cy b_Gp_kern 3 (some .int) "GlyphPage" := ⟨hx, hb, hr, hlocks, hml, hown, htsG, hA, hK⟩
  unfold P_Gp_kern_N at h
  refine lv_aload_n hx hb d_Gp_kern_0 rfl (lv_at hl 0 rfl) ?_
  refine va_get (D := (dC, dI)) (ci := 6) (v := .null) (C := "GlyphPage") (T := F_Gp) (N := 9) hx hb htsG iG_Gp hown hK hP 0 rfl rfl 7 (by decide) (htsG _ mW253) (fun _ h9 => h9) rfl d_Gp_kern_1 ?_
  refine lv_ifnonnullN hx hb d_Gp_kern_4 ?_
  refine lv_iconst (v := (0 : Int32)) hx hb d_Gp_kern_7 (by decide) ?_
  refine lv_goto (tgt := 20) hx hb d_Gp_kern_8 (by decide) ?_
  cases h
  exact W.iret hx hb hr (fun t ht hW => ⟨⟨_, (), rfl, rfl, by rw [ht]; exact hP, va_K.moved hW.alike hK, hD⟩, hS.F ht⟩) hS.2.2 d_Gp_kern_20 hlocks
def P_Gp_line (o_lines_count : Int32) (o_lines_begins_f : Nat → Int32) (o_lines_ends_f : Nat → Int32) (o_lines_widths_f : Nat → Int32) (a1 : Int32) (a2 : Int32) : Option (Int32) :=
  if a2 < 0 then (some (-1 : Int32)) else (if a2 ≤ (2 : Int32) then (if a1 < 0 then (some (-2 : Int32)) else (if a1 < o_lines_count then (if a2 = 0 then (bd a1 200 <| some (o_lines_begins_f a1.toNatClampNeg)) else (if a2 = (1 : Int32) then (bd a1 200 <| some (o_lines_ends_f a1.toNatClampNeg)) else (bd a1 200 <| some (o_lines_widths_f a1.toNatClampNeg)))) else (some (-2 : Int32)))) else (some (-1 : Int32)))
set_option maxHeartbeats 4000000 in
set_option maxRecDepth 100000 in
theorem c_Gp_line (l : Launch) (dC : Nat → ClassId) (dI : Nat → Nat → Nat) (cy : Nat → ClassId) (sz : Nat) (o : Nat) (o_page : Nat) (o_shape : Nat) (o_curves : Nat) (o_lines : Nat) (o_tape : Nat) (o_spare : Nat) (o_lines_begins : Nat) (o_lines_ends : Nat) (o_lines_widths : Nat) (o_lines_glyphs : Nat) (o_lines_places : Nat) (o_lines_advances : Nat) (o_tapeLength : Int32) (o_face : Option Nat) (o_pixels : Int32) (o_lines_count : Int32) (o_lines_begins_f : Nat → Int32) (o_lines_ends_f : Nat → Int32) (o_lines_widths_f : Nat → Int32) (o_lines_glyphs_f : Nat → Int32) (o_lines_places_f : Nat → Int32) (o_lines_advances_f : Nat → Int32) (a1 : Int32) (a2 : Int32) (uu : Int32) (h : P_Gp_line o_lines_count o_lines_begins_f o_lines_ends_f o_lines_widths_f a1 a2 = some uu) : Met l y_Gp_line (Cond.code y_Gp_line b_Gp_line 3 (some .int) :: G) ({ frames := 0, cells := 0, slots := 0, locals := 0 } : Room) (va_Pc [.ref o, .int a1, .int a2] (fun U => U.heap.size = sz ∧ va_P (dC, dI) classes [(o, .inr (6, [.ref o_page, .ref o_shape, .ref o_curves, .ref o_lines, .ref o_tape, .ref o_spare, .int o_tapeLength, va_rf o_face, .int o_pixels])), (o_lines, .inr (4, [.ref o_lines_begins, .ref o_lines_ends, .ref o_lines_widths, .int o_lines_count, .ref o_lines_glyphs, .ref o_lines_places, .ref o_lines_advances])), (o_lines_begins, .inl (cy 0, 200, .inl o_lines_begins_f)), (o_lines_ends, .inl (cy 0, 200, .inl o_lines_ends_f)), (o_lines_widths, .inl (cy 0, 200, .inl o_lines_widths_f)), (o_lines_glyphs, .inl (cy 0, 200, .inl o_lines_glyphs_f)), (o_lines_places, .inl (cy 0, 200, .inl o_lines_places_f)), (o_lines_advances, .inl (cy 0, 200, .inl o_lines_advances_f))] U.heap ∧ va_K (dC, dI) classes (TY cy) U ∧ va_D (fun _ => True) [(o, .inr (6, [.ref o_page, .ref o_shape, .ref o_curves, .ref o_lines, .ref o_tape, .ref o_spare, .int o_tapeLength, va_rf o_face, .int o_pixels])), (o_lines, .inr (4, [.ref o_lines_begins, .ref o_lines_ends, .ref o_lines_widths, .int o_lines_count, .ref o_lines_glyphs, .ref o_lines_places, .ref o_lines_advances])), (o_lines_begins, .inl (cy 0, 200, .inl o_lines_begins_f)), (o_lines_ends, .inl (cy 0, 200, .inl o_lines_ends_f)), (o_lines_widths, .inl (cy 0, 200, .inl o_lines_widths_f)), (o_lines_glyphs, .inl (cy 0, 200, .inl o_lines_glyphs_f)), (o_lines_places, .inl (cy 0, 200, .inl o_lines_places_f)), (o_lines_advances, .inl (cy 0, 200, .inl o_lines_advances_f))])) (va_Qi (fun r (_ : Unit) => r = uu) (fun _ t => va_P (dC, dI) classes [(o, .inr (6, [.ref o_page, .ref o_shape, .ref o_curves, .ref o_lines, .ref o_tape, .ref o_spare, .int o_tapeLength, va_rf o_face, .int o_pixels])), (o_lines, .inr (4, [.ref o_lines_begins, .ref o_lines_ends, .ref o_lines_widths, .int o_lines_count, .ref o_lines_glyphs, .ref o_lines_places, .ref o_lines_advances])), (o_lines_begins, .inl (cy 0, 200, .inl o_lines_begins_f)), (o_lines_ends, .inl (cy 0, 200, .inl o_lines_ends_f)), (o_lines_widths, .inl (cy 0, 200, .inl o_lines_widths_f)), (o_lines_glyphs, .inl (cy 0, 200, .inl o_lines_glyphs_f)), (o_lines_places, .inl (cy 0, 200, .inl o_lines_places_f)), (o_lines_advances, .inl (cy 0, 200, .inl o_lines_advances_f))] t.heap ∧ va_K (dC, dI) classes (TY cy) t ∧ va_D (va_A [(o, .inr (6, [.ref o_page, .ref o_shape, .ref o_curves, .ref o_lines, .ref o_tape, .ref o_spare, .int o_tapeLength, va_rf o_face, .int o_pixels])), (o_lines, .inr (4, [.ref o_lines_begins, .ref o_lines_ends, .ref o_lines_widths, .int o_lines_count, .ref o_lines_glyphs, .ref o_lines_places, .ref o_lines_advances])), (o_lines_begins, .inl (cy 0, 200, .inl o_lines_begins_f)), (o_lines_ends, .inl (cy 0, 200, .inl o_lines_ends_f)), (o_lines_widths, .inl (cy 0, 200, .inl o_lines_widths_f)), (o_lines_glyphs, .inl (cy 0, 200, .inl o_lines_glyphs_f)), (o_lines_places, .inl (cy 0, 200, .inl o_lines_places_f)), (o_lines_advances, .inl (cy 0, 200, .inl o_lines_advances_f))] sz) [(o, .inr (6, [.ref o_page, .ref o_shape, .ref o_curves, .ref o_lines, .ref o_tape, .ref o_spare, .int o_tapeLength, va_rf o_face, .int o_pixels])), (o_lines, .inr (4, [.ref o_lines_begins, .ref o_lines_ends, .ref o_lines_widths, .int o_lines_count, .ref o_lines_glyphs, .ref o_lines_places, .ref o_lines_advances])), (o_lines_begins, .inl (cy 0, 200, .inl o_lines_begins_f)), (o_lines_ends, .inl (cy 0, 200, .inl o_lines_ends_f)), (o_lines_widths, .inl (cy 0, 200, .inl o_lines_widths_f)), (o_lines_glyphs, .inl (cy 0, 200, .inl o_lines_glyphs_f)), (o_lines_places, .inl (cy 0, 200, .inl o_lines_places_f)), (o_lines_advances, .inl (cy 0, 200, .inl o_lines_advances_f))]) (va_A [(o, .inr (6, [.ref o_page, .ref o_shape, .ref o_curves, .ref o_lines, .ref o_tape, .ref o_spare, .int o_tapeLength, va_rf o_face, .int o_pixels])), (o_lines, .inr (4, [.ref o_lines_begins, .ref o_lines_ends, .ref o_lines_widths, .int o_lines_count, .ref o_lines_glyphs, .ref o_lines_places, .ref o_lines_advances])), (o_lines_begins, .inl (cy 0, 200, .inl o_lines_begins_f)), (o_lines_ends, .inl (cy 0, 200, .inl o_lines_ends_f)), (o_lines_widths, .inl (cy 0, 200, .inl o_lines_widths_f)), (o_lines_glyphs, .inl (cy 0, 200, .inl o_lines_glyphs_f)), (o_lines_places, .inl (cy 0, 200, .inl o_lines_places_f)), (o_lines_advances, .inl (cy 0, 200, .inl o_lines_advances_f))] sz)) 0 0 (va_A [(o, .inr (6, [.ref o_page, .ref o_shape, .ref o_curves, .ref o_lines, .ref o_tape, .ref o_spare, .int o_tapeLength, va_rf o_face, .int o_pixels])), (o_lines, .inr (4, [.ref o_lines_begins, .ref o_lines_ends, .ref o_lines_widths, .int o_lines_count, .ref o_lines_glyphs, .ref o_lines_places, .ref o_lines_advances])), (o_lines_begins, .inl (cy 0, 200, .inl o_lines_begins_f)), (o_lines_ends, .inl (cy 0, 200, .inl o_lines_ends_f)), (o_lines_widths, .inl (cy 0, 200, .inl o_lines_widths_f)), (o_lines_glyphs, .inl (cy 0, 200, .inl o_lines_glyphs_f)), (o_lines_places, .inl (cy 0, 200, .inl o_lines_places_f)), (o_lines_advances, .inl (cy 0, 200, .inl o_lines_advances_f))] sz) := by
  refine Met.ofW (cc := b_Gp_line) (maxL := 3) (ret := (some .int)) (by decide) rfl ?_
  intro p e s m args below meth c s₁ B hml hv
  obtain ⟨rfl, hsz, hP, hK, hD0⟩ := hv
  have hx := B.exec
  have hb := B.bytes
  have hr := B.returns
  have hts := atoms_spec (ws := Cond.code y_Gp_line b_Gp_line 3 (some .int) :: G) B.pre
  have htsG : ∀ w ∈ G, w.before _ s = true := fun w hw => hts w (List.mem_cons_of_mem _ hw)
  have hown : s.vm.findClass "GlyphPage" = some m.cls := findClass_of_methodNamed B.named
  have hlocks := B.notSynchronized
  subst hsz
  have hD := hD0.self (sz := s.heap.size)
  generalize hAe : va_A [(o, .inr (6, [.ref o_page, .ref o_shape, .ref o_curves, .ref o_lines, .ref o_tape, .ref o_spare, .int o_tapeLength, va_rf o_face, .int o_pixels])), (o_lines, .inr (4, [.ref o_lines_begins, .ref o_lines_ends, .ref o_lines_widths, .int o_lines_count, .ref o_lines_glyphs, .ref o_lines_places, .ref o_lines_advances])), (o_lines_begins, .inl (cy 0, 200, .inl o_lines_begins_f)), (o_lines_ends, .inl (cy 0, 200, .inl o_lines_ends_f)), (o_lines_widths, .inl (cy 0, 200, .inl o_lines_widths_f)), (o_lines_glyphs, .inl (cy 0, 200, .inl o_lines_glyphs_f)), (o_lines_places, .inl (cy 0, 200, .inl o_lines_places_f)), (o_lines_advances, .inl (cy 0, 200, .inl o_lines_advances_f))] s.heap.size = A at hD ⊢
  have hA : ∀ q : Nat, s.heap.size ≤ q → A q := fun q h => by rw [← hAe]; exact Or.inr h
  have hS : va_S A s.heap s.heap [] := va_S.rf
  have hl := lv_entry ([.ref o, .int a1, .int a2]) (n := 3) (Nat.le_of_ble_eq_true rfl)
  rw [lg_entry_eq]
  generalize (lg_sl ([.ref o, .int a1, .int a2]) ++ List.replicate (3 - (lg_sl ([.ref o, .int a1, .int a2])).length) Slot.unset).toArray = ls at hl ⊢
  have hl : lv_has ls 3 [(0, .ref o), (1, .int a1), (2, .int a2)] := hl
  have C0 : Cx p s m _ meth c A dC dI cy b_Gp_line 3 (some .int) "GlyphPage" := ⟨hx, hb, hr, hlocks, hml, hown, htsG, hA, hK⟩
  unfold P_Gp_line at h
  refine lv_iload_n hx hb d_Gp_line_0 rfl (lv_at hl 2 rfl) ?_
  refine lv_if_lt (tgt := 9) hx hb d_Gp_line_1 (by decide) (fun c_1 => ?_) (fun c_1 => ?_)
  · replace h := (if_pos c_1).symm.trans h
    refine lv_iconst (v := (-1 : Int32)) hx hb d_Gp_line_9 (by decide) ?_
    cases h
    exact W.iret hx hb hr (fun t ht hW => ⟨⟨_, (), rfl, rfl, by rw [ht]; exact hP, va_K.moved hW.alike hK, hD⟩, hS.F ht⟩) hS.2.2 d_Gp_line_10 hlocks
  · replace h := (if_neg c_1).symm.trans h
    refine lv_iload_n hx hb d_Gp_line_4 rfl (lv_at hl 2 rfl) ?_
    refine lv_iconst (v := (2 : Int32)) hx hb d_Gp_line_5 (by decide) ?_
    refine lv_icmp_le (tgt := 11) hx hb d_Gp_line_6 (by decide) (fun c_2 => ?_) (fun c_2 => ?_)
    · replace h := (if_pos c_2).symm.trans h
      refine lv_iload_n hx hb d_Gp_line_11 rfl (lv_at hl 1 rfl) ?_
      refine lv_if_lt (tgt := 26) hx hb d_Gp_line_12 (by decide) (fun c_3 => ?_) (fun c_3 => ?_)
      · replace h := (if_pos c_3).symm.trans h
        refine lv_bipush (v := (-2 : Int32)) hx hb d_Gp_line_26 (by decide) ?_
        cases h
        exact W.iret hx hb hr (fun t ht hW => ⟨⟨_, (), rfl, rfl, by rw [ht]; exact hP, va_K.moved hW.alike hK, hD⟩, hS.F ht⟩) hS.2.2 d_Gp_line_28 hlocks
      · replace h := (if_neg c_3).symm.trans h
        refine lv_iload_n hx hb d_Gp_line_15 rfl (lv_at hl 1 rfl) ?_
        refine lv_aload_n hx hb d_Gp_line_16 rfl (lv_at hl 0 rfl) ?_
        refine va_get (D := (dC, dI)) (ci := 6) (v := .ref o_lines) (C := "GlyphPage") (T := F_Gp) (N := 9) hx hb htsG iG_Gp hown hK hP 0 rfl rfl 3 (by decide) (htsG _ mW249) (fun _ h9 => h9) rfl d_Gp_line_17 ?_
        refine va_get (D := (dC, dI)) (ci := 4) (v := .int o_lines_count) (C := "GlyphPage$Lines") (T := F_Ln) (N := 7) hx hb htsG iG_Ln hown hK hP 1 rfl rfl 3 (by decide) (htsG _ mW192) (fun _ h9 => h9) rfl d_Gp_line_20 ?_
        refine lv_icmp_lt (tgt := 29) hx hb d_Gp_line_23 (by decide) (fun c_4 => ?_) (fun c_4 => ?_)
        · replace h := (if_pos c_4).symm.trans h
          refine lv_iload_n hx hb d_Gp_line_29 rfl (lv_at hl 2 rfl) ?_
          refine lv_if_ne (tgt := 43) hx hb d_Gp_line_30 (by decide) (fun c_5 => ?_) (fun c_5 => ?_)
          · replace h := (if_neg c_5).symm.trans h
            refine lv_iload_n hx hb d_Gp_line_43 rfl (lv_at hl 2 rfl) ?_
            refine lv_iconst (v := (1 : Int32)) hx hb d_Gp_line_44 (by decide) ?_
            refine lv_icmp_ne (tgt := 60) hx hb d_Gp_line_45 (by decide) (fun c_6 => ?_) (fun c_6 => ?_)
            · replace h := (if_neg c_6).symm.trans h
              refine lv_aload_n hx hb d_Gp_line_60 rfl (lv_at hl 0 rfl) ?_
              refine va_get (D := (dC, dI)) (ci := 6) (v := .ref o_lines) (C := "GlyphPage") (T := F_Gp) (N := 9) hx hb htsG iG_Gp hown hK hP 0 rfl rfl 3 (by decide) (htsG _ mW249) (fun _ h9 => h9) rfl d_Gp_line_61 ?_
              refine va_get (D := (dC, dI)) (ci := 4) (v := .ref o_lines_widths) (C := "GlyphPage$Lines") (T := F_Ln) (N := 7) hx hb htsG iG_Ln hown hK hP 1 rfl rfl 2 (by decide) (htsG _ mW190) (fun _ h9 => h9) rfl d_Gp_line_64 ?_
              refine lv_iload_n hx hb d_Gp_line_67 rfl (lv_at hl 1 rfl) ?_
              obtain ⟨hin_7, h⟩ := bd_some h
              refine va_iald hx hb hK hP 4 0 rfl rfl hin_7 d_Gp_line_68 ?_
              cases h
              exact W.iret hx hb hr (fun t ht hW => ⟨⟨_, (), rfl, rfl, by rw [ht]; exact hP, va_K.moved hW.alike hK, hD⟩, hS.F ht⟩) hS.2.2 d_Gp_line_69 hlocks
            · replace h := (if_pos c_6).symm.trans h
              refine lv_aload_n hx hb d_Gp_line_48 rfl (lv_at hl 0 rfl) ?_
              refine va_get (D := (dC, dI)) (ci := 6) (v := .ref o_lines) (C := "GlyphPage") (T := F_Gp) (N := 9) hx hb htsG iG_Gp hown hK hP 0 rfl rfl 3 (by decide) (htsG _ mW249) (fun _ h9 => h9) rfl d_Gp_line_49 ?_
              refine va_get (D := (dC, dI)) (ci := 4) (v := .ref o_lines_ends) (C := "GlyphPage$Lines") (T := F_Ln) (N := 7) hx hb htsG iG_Ln hown hK hP 1 rfl rfl 1 (by decide) (htsG _ mW188) (fun _ h9 => h9) rfl d_Gp_line_52 ?_
              refine lv_iload_n hx hb d_Gp_line_55 rfl (lv_at hl 1 rfl) ?_
              obtain ⟨hin_8, h⟩ := bd_some h
              refine va_iald hx hb hK hP 3 0 rfl rfl hin_8 d_Gp_line_56 ?_
              refine lv_goto (tgt := 69) hx hb d_Gp_line_57 (by decide) ?_
              cases h
              exact W.iret hx hb hr (fun t ht hW => ⟨⟨_, (), rfl, rfl, by rw [ht]; exact hP, va_K.moved hW.alike hK, hD⟩, hS.F ht⟩) hS.2.2 d_Gp_line_69 hlocks
          · replace h := (if_pos c_5).symm.trans h
            refine lv_aload_n hx hb d_Gp_line_33 rfl (lv_at hl 0 rfl) ?_
            refine va_get (D := (dC, dI)) (ci := 6) (v := .ref o_lines) (C := "GlyphPage") (T := F_Gp) (N := 9) hx hb htsG iG_Gp hown hK hP 0 rfl rfl 3 (by decide) (htsG _ mW249) (fun _ h9 => h9) rfl d_Gp_line_34 ?_
            refine va_get (D := (dC, dI)) (ci := 4) (v := .ref o_lines_begins) (C := "GlyphPage$Lines") (T := F_Ln) (N := 7) hx hb htsG iG_Ln hown hK hP 1 rfl rfl 0 (by decide) (htsG _ mW186) (fun _ h9 => h9) rfl d_Gp_line_37 ?_
            refine lv_iload_n hx hb d_Gp_line_40 rfl (lv_at hl 1 rfl) ?_
            obtain ⟨hin_9, h⟩ := bd_some h
            refine va_iald hx hb hK hP 2 0 rfl rfl hin_9 d_Gp_line_41 ?_
            cases h
            exact W.iret hx hb hr (fun t ht hW => ⟨⟨_, (), rfl, rfl, by rw [ht]; exact hP, va_K.moved hW.alike hK, hD⟩, hS.F ht⟩) hS.2.2 d_Gp_line_42 hlocks
        · replace h := (if_neg c_4).symm.trans h
          refine lv_bipush (v := (-2 : Int32)) hx hb d_Gp_line_26 (by decide) ?_
          cases h
          exact W.iret hx hb hr (fun t ht hW => ⟨⟨_, (), rfl, rfl, by rw [ht]; exact hP, va_K.moved hW.alike hK, hD⟩, hS.F ht⟩) hS.2.2 d_Gp_line_28 hlocks
    · replace h := (if_neg c_2).symm.trans h
      refine lv_iconst (v := (-1 : Int32)) hx hb d_Gp_line_9 (by decide) ?_
      cases h
      exact W.iret hx hb hr (fun t ht hW => ⟨⟨_, (), rfl, rfl, by rw [ht]; exact hP, va_K.moved hW.alike hK, hD⟩, hS.F ht⟩) hS.2.2 d_Gp_line_10 hlocks
def P_Gp_pixel (o_page_width : Int32) (o_page_height : Int32) (o_page_rows_n : Nat) (o_page_rows_f : Nat → Int64) (a1 : Int32) (a2 : Int32) : Option (Int32) :=
  if a1 < 0 then (some (-2 : Int32)) else (if o_page_width ≤ a1 then (some (-2 : Int32)) else (if a2 < 0 then (some (-2 : Int32)) else (if a2 < o_page_height then (bd a2 o_page_rows_n <| some (((((o_page_rows_f a2.toNatClampNeg).toUInt64 >>> (a1.toInt64.toUInt64 &&& Int64.toUInt64 63)).toInt64) &&& (1 : Int64)).toInt32)) else (some (-2 : Int32)))))
set_option maxHeartbeats 4000000 in
set_option maxRecDepth 100000 in
theorem c_Gp_pixel (l : Launch) (dC : Nat → ClassId) (dI : Nat → Nat → Nat) (cy : Nat → ClassId) (sz : Nat) (o : Nat) (o_page : Nat) (o_shape : Nat) (o_curves : Nat) (o_lines : Nat) (o_tape : Nat) (o_spare : Nat) (o_page_rows : Nat) (o_page_turns : Nat) (o_tapeLength : Int32) (o_face : Option Nat) (o_pixels : Int32) (o_page_width : Int32) (o_page_height : Int32) (o_page_touched : Int64) (o_page_rows_n : Nat) (o_page_rows_f : Nat → Int64) (o_page_turns_n : Nat) (o_page_turns_f : Nat → Int32) (a1 : Int32) (a2 : Int32) (uu : Int32) (h : P_Gp_pixel o_page_width o_page_height o_page_rows_n o_page_rows_f a1 a2 = some uu) : Met l y_Gp_pixel (Cond.code y_Gp_pixel b_Gp_pixel 3 (some .int) :: G) ({ frames := 0, cells := 0, slots := 0, locals := 0 } : Room) (va_Pc [.ref o, .int a1, .int a2] (fun U => U.heap.size = sz ∧ va_P (dC, dI) classes [(o, .inr (6, [.ref o_page, .ref o_shape, .ref o_curves, .ref o_lines, .ref o_tape, .ref o_spare, .int o_tapeLength, va_rf o_face, .int o_pixels])), (o_page, .inr (5, [.int o_page_width, .int o_page_height, .ref o_page_rows, .ref o_page_turns, .long o_page_touched])), (o_page_rows, .inl (cy 3, o_page_rows_n, .inr (.inl o_page_rows_f))), (o_page_turns, .inl (cy 0, o_page_turns_n, .inl o_page_turns_f))] U.heap ∧ va_K (dC, dI) classes (TY cy) U ∧ va_D (fun _ => True) [(o, .inr (6, [.ref o_page, .ref o_shape, .ref o_curves, .ref o_lines, .ref o_tape, .ref o_spare, .int o_tapeLength, va_rf o_face, .int o_pixels])), (o_page, .inr (5, [.int o_page_width, .int o_page_height, .ref o_page_rows, .ref o_page_turns, .long o_page_touched])), (o_page_rows, .inl (cy 3, o_page_rows_n, .inr (.inl o_page_rows_f))), (o_page_turns, .inl (cy 0, o_page_turns_n, .inl o_page_turns_f))])) (va_Qi (fun r (_ : Unit) => r = uu) (fun _ t => va_P (dC, dI) classes [(o, .inr (6, [.ref o_page, .ref o_shape, .ref o_curves, .ref o_lines, .ref o_tape, .ref o_spare, .int o_tapeLength, va_rf o_face, .int o_pixels])), (o_page, .inr (5, [.int o_page_width, .int o_page_height, .ref o_page_rows, .ref o_page_turns, .long o_page_touched])), (o_page_rows, .inl (cy 3, o_page_rows_n, .inr (.inl o_page_rows_f))), (o_page_turns, .inl (cy 0, o_page_turns_n, .inl o_page_turns_f))] t.heap ∧ va_K (dC, dI) classes (TY cy) t ∧ va_D (va_A [(o, .inr (6, [.ref o_page, .ref o_shape, .ref o_curves, .ref o_lines, .ref o_tape, .ref o_spare, .int o_tapeLength, va_rf o_face, .int o_pixels])), (o_page, .inr (5, [.int o_page_width, .int o_page_height, .ref o_page_rows, .ref o_page_turns, .long o_page_touched])), (o_page_rows, .inl (cy 3, o_page_rows_n, .inr (.inl o_page_rows_f))), (o_page_turns, .inl (cy 0, o_page_turns_n, .inl o_page_turns_f))] sz) [(o, .inr (6, [.ref o_page, .ref o_shape, .ref o_curves, .ref o_lines, .ref o_tape, .ref o_spare, .int o_tapeLength, va_rf o_face, .int o_pixels])), (o_page, .inr (5, [.int o_page_width, .int o_page_height, .ref o_page_rows, .ref o_page_turns, .long o_page_touched])), (o_page_rows, .inl (cy 3, o_page_rows_n, .inr (.inl o_page_rows_f))), (o_page_turns, .inl (cy 0, o_page_turns_n, .inl o_page_turns_f))]) (va_A [(o, .inr (6, [.ref o_page, .ref o_shape, .ref o_curves, .ref o_lines, .ref o_tape, .ref o_spare, .int o_tapeLength, va_rf o_face, .int o_pixels])), (o_page, .inr (5, [.int o_page_width, .int o_page_height, .ref o_page_rows, .ref o_page_turns, .long o_page_touched])), (o_page_rows, .inl (cy 3, o_page_rows_n, .inr (.inl o_page_rows_f))), (o_page_turns, .inl (cy 0, o_page_turns_n, .inl o_page_turns_f))] sz)) 0 0 (va_A [(o, .inr (6, [.ref o_page, .ref o_shape, .ref o_curves, .ref o_lines, .ref o_tape, .ref o_spare, .int o_tapeLength, va_rf o_face, .int o_pixels])), (o_page, .inr (5, [.int o_page_width, .int o_page_height, .ref o_page_rows, .ref o_page_turns, .long o_page_touched])), (o_page_rows, .inl (cy 3, o_page_rows_n, .inr (.inl o_page_rows_f))), (o_page_turns, .inl (cy 0, o_page_turns_n, .inl o_page_turns_f))] sz) := by
  refine Met.ofW (cc := b_Gp_pixel) (maxL := 3) (ret := (some .int)) (by decide) rfl ?_
  intro p e s m args below meth c s₁ B hml hv
  obtain ⟨rfl, hsz, hP, hK, hD0⟩ := hv
  have hx := B.exec
  have hb := B.bytes
  have hr := B.returns
  have hts := atoms_spec (ws := Cond.code y_Gp_pixel b_Gp_pixel 3 (some .int) :: G) B.pre
  have htsG : ∀ w ∈ G, w.before _ s = true := fun w hw => hts w (List.mem_cons_of_mem _ hw)
  have hown : s.vm.findClass "GlyphPage" = some m.cls := findClass_of_methodNamed B.named
  have hlocks := B.notSynchronized
  subst hsz
  have hD := hD0.self (sz := s.heap.size)
  generalize hAe : va_A [(o, .inr (6, [.ref o_page, .ref o_shape, .ref o_curves, .ref o_lines, .ref o_tape, .ref o_spare, .int o_tapeLength, va_rf o_face, .int o_pixels])), (o_page, .inr (5, [.int o_page_width, .int o_page_height, .ref o_page_rows, .ref o_page_turns, .long o_page_touched])), (o_page_rows, .inl (cy 3, o_page_rows_n, .inr (.inl o_page_rows_f))), (o_page_turns, .inl (cy 0, o_page_turns_n, .inl o_page_turns_f))] s.heap.size = A at hD ⊢
  have hA : ∀ q : Nat, s.heap.size ≤ q → A q := fun q h => by rw [← hAe]; exact Or.inr h
  have hS : va_S A s.heap s.heap [] := va_S.rf
  have hl := lv_entry ([.ref o, .int a1, .int a2]) (n := 3) (Nat.le_of_ble_eq_true rfl)
  rw [lg_entry_eq]
  generalize (lg_sl ([.ref o, .int a1, .int a2]) ++ List.replicate (3 - (lg_sl ([.ref o, .int a1, .int a2])).length) Slot.unset).toArray = ls at hl ⊢
  have hl : lv_has ls 3 [(0, .ref o), (1, .int a1), (2, .int a2)] := hl
  have C0 : Cx p s m _ meth c A dC dI cy b_Gp_pixel 3 (some .int) "GlyphPage" := ⟨hx, hb, hr, hlocks, hml, hown, htsG, hA, hK⟩
  unfold P_Gp_pixel at h
  refine lv_iload_n hx hb d_Gp_pixel_0 rfl (lv_at hl 1 rfl) ?_
  refine lv_if_lt (tgt := 30) hx hb d_Gp_pixel_1 (by decide) (fun c_1 => ?_) (fun c_1 => ?_)
  · replace h := (if_pos c_1).symm.trans h
    refine lv_bipush (v := (-2 : Int32)) hx hb d_Gp_pixel_30 (by decide) ?_
    cases h
    exact W.iret hx hb hr (fun t ht hW => ⟨⟨_, (), rfl, rfl, by rw [ht]; exact hP, va_K.moved hW.alike hK, hD⟩, hS.F ht⟩) hS.2.2 d_Gp_pixel_32 hlocks
  · replace h := (if_neg c_1).symm.trans h
    refine lv_iload_n hx hb d_Gp_pixel_4 rfl (lv_at hl 1 rfl) ?_
    refine lv_aload_n hx hb d_Gp_pixel_5 rfl (lv_at hl 0 rfl) ?_
    refine va_get (D := (dC, dI)) (ci := 6) (v := .ref o_page) (C := "GlyphPage") (T := F_Gp) (N := 9) hx hb htsG iG_Gp hown hK hP 0 rfl rfl 0 (by decide) (htsG _ mW246) (fun _ h9 => h9) rfl d_Gp_pixel_6 ?_
    refine va_get (D := (dC, dI)) (ci := 5) (v := .int o_page_width) (C := "GlyphPage$Page") (T := F_Pg) (N := 5) hx hb htsG iG_Pg hown hK hP 1 rfl rfl 0 (by decide) (htsG _ mW226) (fun _ h9 => h9) rfl d_Gp_pixel_9 ?_
    refine lv_icmp_ge (tgt := 30) hx hb d_Gp_pixel_12 (by decide) (fun c_2 => ?_) (fun c_2 => ?_)
    · replace h := (if_pos c_2).symm.trans h
      refine lv_bipush (v := (-2 : Int32)) hx hb d_Gp_pixel_30 (by decide) ?_
      cases h
      exact W.iret hx hb hr (fun t ht hW => ⟨⟨_, (), rfl, rfl, by rw [ht]; exact hP, va_K.moved hW.alike hK, hD⟩, hS.F ht⟩) hS.2.2 d_Gp_pixel_32 hlocks
    · replace h := (if_neg c_2).symm.trans h
      refine lv_iload_n hx hb d_Gp_pixel_15 rfl (lv_at hl 2 rfl) ?_
      refine lv_if_lt (tgt := 30) hx hb d_Gp_pixel_16 (by decide) (fun c_3 => ?_) (fun c_3 => ?_)
      · replace h := (if_pos c_3).symm.trans h
        refine lv_bipush (v := (-2 : Int32)) hx hb d_Gp_pixel_30 (by decide) ?_
        cases h
        exact W.iret hx hb hr (fun t ht hW => ⟨⟨_, (), rfl, rfl, by rw [ht]; exact hP, va_K.moved hW.alike hK, hD⟩, hS.F ht⟩) hS.2.2 d_Gp_pixel_32 hlocks
      · replace h := (if_neg c_3).symm.trans h
        refine lv_iload_n hx hb d_Gp_pixel_19 rfl (lv_at hl 2 rfl) ?_
        refine lv_aload_n hx hb d_Gp_pixel_20 rfl (lv_at hl 0 rfl) ?_
        refine va_get (D := (dC, dI)) (ci := 6) (v := .ref o_page) (C := "GlyphPage") (T := F_Gp) (N := 9) hx hb htsG iG_Gp hown hK hP 0 rfl rfl 0 (by decide) (htsG _ mW246) (fun _ h9 => h9) rfl d_Gp_pixel_21 ?_
        refine va_get (D := (dC, dI)) (ci := 5) (v := .int o_page_height) (C := "GlyphPage$Page") (T := F_Pg) (N := 5) hx hb htsG iG_Pg hown hK hP 1 rfl rfl 1 (by decide) (htsG _ mW228) (fun _ h9 => h9) rfl d_Gp_pixel_24 ?_
        refine lv_icmp_lt (tgt := 33) hx hb d_Gp_pixel_27 (by decide) (fun c_4 => ?_) (fun c_4 => ?_)
        · replace h := (if_pos c_4).symm.trans h
          refine lv_aload_n hx hb d_Gp_pixel_33 rfl (lv_at hl 0 rfl) ?_
          refine va_get (D := (dC, dI)) (ci := 6) (v := .ref o_page) (C := "GlyphPage") (T := F_Gp) (N := 9) hx hb htsG iG_Gp hown hK hP 0 rfl rfl 0 (by decide) (htsG _ mW246) (fun _ h9 => h9) rfl d_Gp_pixel_34 ?_
          refine va_get (D := (dC, dI)) (ci := 5) (v := .ref o_page_rows) (C := "GlyphPage$Page") (T := F_Pg) (N := 5) hx hb htsG iG_Pg hown hK hP 1 rfl rfl 2 (by decide) (htsG _ mW230) (fun _ h9 => h9) rfl d_Gp_pixel_37 ?_
          refine lv_iload_n hx hb d_Gp_pixel_40 rfl (lv_at hl 2 rfl) ?_
          obtain ⟨hin_5, h⟩ := bd_some h
          refine va_lald hx hb hK hP 2 3 rfl rfl hin_5 d_Gp_pixel_41 ?_
          refine lv_iload_n hx hb d_Gp_pixel_42 rfl (lv_at hl 1 rfl) ?_
          refine lv_lushr hx hb d_Gp_pixel_43 rfl ?_
          refine lv_lconst (v := (1 : Int64)) hx hb d_Gp_pixel_44 (by decide) ?_
          refine lv_land hx hb d_Gp_pixel_45 ?_
          refine lv_l2i hx hb d_Gp_pixel_46 rfl ?_
          cases h
          exact W.iret hx hb hr (fun t ht hW => ⟨⟨_, (), rfl, rfl, by rw [ht]; exact hP, va_K.moved hW.alike hK, hD⟩, hS.F ht⟩) hS.2.2 d_Gp_pixel_47 hlocks
        · replace h := (if_neg c_4).symm.trans h
          refine lv_bipush (v := (-2 : Int32)) hx hb d_Gp_pixel_30 (by decide) ?_
          cases h
          exact W.iret hx hb hr (fun t ht hW => ⟨⟨_, (), rfl, rfl, by rw [ht]; exact hP, va_K.moved hW.alike hK, hD⟩, hS.F ht⟩) hS.2.2 d_Gp_pixel_32 hlocks
def P_Gp_row (o_page_height : Int32) (o_page_rows_n : Nat) (o_page_rows_f : Nat → Int64) (a1 : Int32) : Option (Int64) :=
  if a1 < 0 then (some (0 : Int64)) else (if a1 < o_page_height then (bd a1 o_page_rows_n <| some (o_page_rows_f a1.toNatClampNeg)) else (some (0 : Int64)))
set_option maxHeartbeats 4000000 in
set_option maxRecDepth 100000 in
theorem c_Gp_row (l : Launch) (dC : Nat → ClassId) (dI : Nat → Nat → Nat) (cy : Nat → ClassId) (sz : Nat) (o : Nat) (o_page : Nat) (o_shape : Nat) (o_curves : Nat) (o_lines : Nat) (o_tape : Nat) (o_spare : Nat) (o_page_rows : Nat) (o_page_turns : Nat) (o_tapeLength : Int32) (o_face : Option Nat) (o_pixels : Int32) (o_page_width : Int32) (o_page_height : Int32) (o_page_touched : Int64) (o_page_rows_n : Nat) (o_page_rows_f : Nat → Int64) (o_page_turns_n : Nat) (o_page_turns_f : Nat → Int32) (a1 : Int32) (uu : Int64) (h : P_Gp_row o_page_height o_page_rows_n o_page_rows_f a1 = some uu) : Met l y_Gp_row (Cond.code y_Gp_row b_Gp_row 2 (some .long) :: G) ({ frames := 0, cells := 0, slots := 0, locals := 0 } : Room) (va_Pc [.ref o, .int a1] (fun U => U.heap.size = sz ∧ va_P (dC, dI) classes [(o, .inr (6, [.ref o_page, .ref o_shape, .ref o_curves, .ref o_lines, .ref o_tape, .ref o_spare, .int o_tapeLength, va_rf o_face, .int o_pixels])), (o_page, .inr (5, [.int o_page_width, .int o_page_height, .ref o_page_rows, .ref o_page_turns, .long o_page_touched])), (o_page_rows, .inl (cy 3, o_page_rows_n, .inr (.inl o_page_rows_f))), (o_page_turns, .inl (cy 0, o_page_turns_n, .inl o_page_turns_f))] U.heap ∧ va_K (dC, dI) classes (TY cy) U ∧ va_D (fun _ => True) [(o, .inr (6, [.ref o_page, .ref o_shape, .ref o_curves, .ref o_lines, .ref o_tape, .ref o_spare, .int o_tapeLength, va_rf o_face, .int o_pixels])), (o_page, .inr (5, [.int o_page_width, .int o_page_height, .ref o_page_rows, .ref o_page_turns, .long o_page_touched])), (o_page_rows, .inl (cy 3, o_page_rows_n, .inr (.inl o_page_rows_f))), (o_page_turns, .inl (cy 0, o_page_turns_n, .inl o_page_turns_f))])) (va_Ql (fun r (_ : Unit) => r = uu) (fun _ t => va_P (dC, dI) classes [(o, .inr (6, [.ref o_page, .ref o_shape, .ref o_curves, .ref o_lines, .ref o_tape, .ref o_spare, .int o_tapeLength, va_rf o_face, .int o_pixels])), (o_page, .inr (5, [.int o_page_width, .int o_page_height, .ref o_page_rows, .ref o_page_turns, .long o_page_touched])), (o_page_rows, .inl (cy 3, o_page_rows_n, .inr (.inl o_page_rows_f))), (o_page_turns, .inl (cy 0, o_page_turns_n, .inl o_page_turns_f))] t.heap ∧ va_K (dC, dI) classes (TY cy) t ∧ va_D (va_A [(o, .inr (6, [.ref o_page, .ref o_shape, .ref o_curves, .ref o_lines, .ref o_tape, .ref o_spare, .int o_tapeLength, va_rf o_face, .int o_pixels])), (o_page, .inr (5, [.int o_page_width, .int o_page_height, .ref o_page_rows, .ref o_page_turns, .long o_page_touched])), (o_page_rows, .inl (cy 3, o_page_rows_n, .inr (.inl o_page_rows_f))), (o_page_turns, .inl (cy 0, o_page_turns_n, .inl o_page_turns_f))] sz) [(o, .inr (6, [.ref o_page, .ref o_shape, .ref o_curves, .ref o_lines, .ref o_tape, .ref o_spare, .int o_tapeLength, va_rf o_face, .int o_pixels])), (o_page, .inr (5, [.int o_page_width, .int o_page_height, .ref o_page_rows, .ref o_page_turns, .long o_page_touched])), (o_page_rows, .inl (cy 3, o_page_rows_n, .inr (.inl o_page_rows_f))), (o_page_turns, .inl (cy 0, o_page_turns_n, .inl o_page_turns_f))]) (va_A [(o, .inr (6, [.ref o_page, .ref o_shape, .ref o_curves, .ref o_lines, .ref o_tape, .ref o_spare, .int o_tapeLength, va_rf o_face, .int o_pixels])), (o_page, .inr (5, [.int o_page_width, .int o_page_height, .ref o_page_rows, .ref o_page_turns, .long o_page_touched])), (o_page_rows, .inl (cy 3, o_page_rows_n, .inr (.inl o_page_rows_f))), (o_page_turns, .inl (cy 0, o_page_turns_n, .inl o_page_turns_f))] sz)) 0 0 (va_A [(o, .inr (6, [.ref o_page, .ref o_shape, .ref o_curves, .ref o_lines, .ref o_tape, .ref o_spare, .int o_tapeLength, va_rf o_face, .int o_pixels])), (o_page, .inr (5, [.int o_page_width, .int o_page_height, .ref o_page_rows, .ref o_page_turns, .long o_page_touched])), (o_page_rows, .inl (cy 3, o_page_rows_n, .inr (.inl o_page_rows_f))), (o_page_turns, .inl (cy 0, o_page_turns_n, .inl o_page_turns_f))] sz) := by
  refine Met.ofW (cc := b_Gp_row) (maxL := 2) (ret := (some .long)) (by decide) rfl ?_
  intro p e s m args below meth c s₁ B hml hv
  obtain ⟨rfl, hsz, hP, hK, hD0⟩ := hv
  have hx := B.exec
  have hb := B.bytes
  have hr := B.returns
  have hts := atoms_spec (ws := Cond.code y_Gp_row b_Gp_row 2 (some .long) :: G) B.pre
  have htsG : ∀ w ∈ G, w.before _ s = true := fun w hw => hts w (List.mem_cons_of_mem _ hw)
  have hown : s.vm.findClass "GlyphPage" = some m.cls := findClass_of_methodNamed B.named
  have hlocks := B.notSynchronized
  subst hsz
  have hD := hD0.self (sz := s.heap.size)
  generalize hAe : va_A [(o, .inr (6, [.ref o_page, .ref o_shape, .ref o_curves, .ref o_lines, .ref o_tape, .ref o_spare, .int o_tapeLength, va_rf o_face, .int o_pixels])), (o_page, .inr (5, [.int o_page_width, .int o_page_height, .ref o_page_rows, .ref o_page_turns, .long o_page_touched])), (o_page_rows, .inl (cy 3, o_page_rows_n, .inr (.inl o_page_rows_f))), (o_page_turns, .inl (cy 0, o_page_turns_n, .inl o_page_turns_f))] s.heap.size = A at hD ⊢
  have hA : ∀ q : Nat, s.heap.size ≤ q → A q := fun q h => by rw [← hAe]; exact Or.inr h
  have hS : va_S A s.heap s.heap [] := va_S.rf
  have hl := lv_entry ([.ref o, .int a1]) (n := 2) (Nat.le_of_ble_eq_true rfl)
  rw [lg_entry_eq]
  generalize (lg_sl ([.ref o, .int a1]) ++ List.replicate (2 - (lg_sl ([.ref o, .int a1])).length) Slot.unset).toArray = ls at hl ⊢
  have hl : lv_has ls 2 [(0, .ref o), (1, .int a1)] := hl
  have C0 : Cx p s m _ meth c A dC dI cy b_Gp_row 2 (some .long) "GlyphPage" := ⟨hx, hb, hr, hlocks, hml, hown, htsG, hA, hK⟩
  unfold P_Gp_row at h
  refine lv_iload_n hx hb d_Gp_row_0 rfl (lv_at hl 1 rfl) ?_
  refine lv_if_lt (tgt := 15) hx hb d_Gp_row_1 (by decide) (fun c_1 => ?_) (fun c_1 => ?_)
  · replace h := (if_pos c_1).symm.trans h
    refine lv_lconst (v := (0 : Int64)) hx hb d_Gp_row_15 (by decide) ?_
    refine lv_goto (tgt := 28) hx hb d_Gp_row_16 (by decide) ?_
    cases h
    exact W.lret hx hb hr (fun t ht hW => ⟨⟨_, (), rfl, rfl, by rw [ht]; exact hP, va_K.moved hW.alike hK, hD⟩, hS.F ht⟩) hS.2.2 d_Gp_row_28 hlocks
  · replace h := (if_neg c_1).symm.trans h
    refine lv_iload_n hx hb d_Gp_row_4 rfl (lv_at hl 1 rfl) ?_
    refine lv_aload_n hx hb d_Gp_row_5 rfl (lv_at hl 0 rfl) ?_
    refine va_get (D := (dC, dI)) (ci := 6) (v := .ref o_page) (C := "GlyphPage") (T := F_Gp) (N := 9) hx hb htsG iG_Gp hown hK hP 0 rfl rfl 0 (by decide) (htsG _ mW246) (fun _ h9 => h9) rfl d_Gp_row_6 ?_
    refine va_get (D := (dC, dI)) (ci := 5) (v := .int o_page_height) (C := "GlyphPage$Page") (T := F_Pg) (N := 5) hx hb htsG iG_Pg hown hK hP 1 rfl rfl 1 (by decide) (htsG _ mW228) (fun _ h9 => h9) rfl d_Gp_row_9 ?_
    refine lv_icmp_lt (tgt := 19) hx hb d_Gp_row_12 (by decide) (fun c_2 => ?_) (fun c_2 => ?_)
    · replace h := (if_pos c_2).symm.trans h
      refine lv_aload_n hx hb d_Gp_row_19 rfl (lv_at hl 0 rfl) ?_
      refine va_get (D := (dC, dI)) (ci := 6) (v := .ref o_page) (C := "GlyphPage") (T := F_Gp) (N := 9) hx hb htsG iG_Gp hown hK hP 0 rfl rfl 0 (by decide) (htsG _ mW246) (fun _ h9 => h9) rfl d_Gp_row_20 ?_
      refine va_get (D := (dC, dI)) (ci := 5) (v := .ref o_page_rows) (C := "GlyphPage$Page") (T := F_Pg) (N := 5) hx hb htsG iG_Pg hown hK hP 1 rfl rfl 2 (by decide) (htsG _ mW230) (fun _ h9 => h9) rfl d_Gp_row_23 ?_
      refine lv_iload_n hx hb d_Gp_row_26 rfl (lv_at hl 1 rfl) ?_
      obtain ⟨hin_3, h⟩ := bd_some h
      refine va_lald hx hb hK hP 2 3 rfl rfl hin_3 d_Gp_row_27 ?_
      cases h
      exact W.lret hx hb hr (fun t ht hW => ⟨⟨_, (), rfl, rfl, by rw [ht]; exact hP, va_K.moved hW.alike hK, hD⟩, hS.F ht⟩) hS.2.2 d_Gp_row_28 hlocks
    · replace h := (if_neg c_2).symm.trans h
      refine lv_lconst (v := (0 : Int64)) hx hb d_Gp_row_15 (by decide) ?_
      refine lv_goto (tgt := 28) hx hb d_Gp_row_16 (by decide) ?_
      cases h
      exact W.lret hx hb hr (fun t ht hW => ⟨⟨_, (), rfl, rfl, by rw [ht]; exact hP, va_K.moved hW.alike hK, hD⟩, hS.F ht⟩) hS.2.2 d_Gp_row_28 hlocks
def P_Gp_inked (o_page_height : Int32) (o_page_rows_n : Nat) (o_page_rows_f : Nat → Int64)  : Option (Int32) :=
  (P_Pg_countSet o_page_height o_page_rows_n o_page_rows_f).bind fun r_1 => some r_1
set_option maxHeartbeats 4000000 in
set_option maxRecDepth 100000 in
theorem c_Gp_inked (l : Launch) (dC : Nat → ClassId) (dI : Nat → Nat → Nat) (cy : Nat → ClassId) (sz : Nat) (o : Nat) (o_page : Nat) (o_shape : Nat) (o_curves : Nat) (o_lines : Nat) (o_tape : Nat) (o_spare : Nat) (o_page_rows : Nat) (o_page_turns : Nat) (o_tapeLength : Int32) (o_face : Option Nat) (o_pixels : Int32) (o_page_width : Int32) (o_page_height : Int32) (o_page_touched : Int64) (o_page_rows_n : Nat) (o_page_rows_f : Nat → Int64) (o_page_turns_n : Nat) (o_page_turns_f : Nat → Int32)  (uu : Int32) (h : P_Gp_inked o_page_height o_page_rows_n o_page_rows_f = some uu) : Met l y_Gp_inked (Cond.code y_Gp_inked b_Gp_inked 1 (some .int) :: G) ({ frames := 2, cells := 0, slots := 0, locals := 43 } : Room) (va_Pc [.ref o] (fun U => U.heap.size = sz ∧ va_P (dC, dI) classes [(o, .inr (6, [.ref o_page, .ref o_shape, .ref o_curves, .ref o_lines, .ref o_tape, .ref o_spare, .int o_tapeLength, va_rf o_face, .int o_pixels])), (o_page, .inr (5, [.int o_page_width, .int o_page_height, .ref o_page_rows, .ref o_page_turns, .long o_page_touched])), (o_page_rows, .inl (cy 3, o_page_rows_n, .inr (.inl o_page_rows_f))), (o_page_turns, .inl (cy 0, o_page_turns_n, .inl o_page_turns_f))] U.heap ∧ va_K (dC, dI) classes (TY cy) U ∧ va_D (fun _ => True) [(o, .inr (6, [.ref o_page, .ref o_shape, .ref o_curves, .ref o_lines, .ref o_tape, .ref o_spare, .int o_tapeLength, va_rf o_face, .int o_pixels])), (o_page, .inr (5, [.int o_page_width, .int o_page_height, .ref o_page_rows, .ref o_page_turns, .long o_page_touched])), (o_page_rows, .inl (cy 3, o_page_rows_n, .inr (.inl o_page_rows_f))), (o_page_turns, .inl (cy 0, o_page_turns_n, .inl o_page_turns_f))])) (va_Qi (fun r (_ : Unit) => r = uu) (fun _ t => va_P (dC, dI) classes [(o, .inr (6, [.ref o_page, .ref o_shape, .ref o_curves, .ref o_lines, .ref o_tape, .ref o_spare, .int o_tapeLength, va_rf o_face, .int o_pixels])), (o_page, .inr (5, [.int o_page_width, .int o_page_height, .ref o_page_rows, .ref o_page_turns, .long o_page_touched])), (o_page_rows, .inl (cy 3, o_page_rows_n, .inr (.inl o_page_rows_f))), (o_page_turns, .inl (cy 0, o_page_turns_n, .inl o_page_turns_f))] t.heap ∧ va_K (dC, dI) classes (TY cy) t ∧ va_D (va_A [(o, .inr (6, [.ref o_page, .ref o_shape, .ref o_curves, .ref o_lines, .ref o_tape, .ref o_spare, .int o_tapeLength, va_rf o_face, .int o_pixels])), (o_page, .inr (5, [.int o_page_width, .int o_page_height, .ref o_page_rows, .ref o_page_turns, .long o_page_touched])), (o_page_rows, .inl (cy 3, o_page_rows_n, .inr (.inl o_page_rows_f))), (o_page_turns, .inl (cy 0, o_page_turns_n, .inl o_page_turns_f))] sz) [(o, .inr (6, [.ref o_page, .ref o_shape, .ref o_curves, .ref o_lines, .ref o_tape, .ref o_spare, .int o_tapeLength, va_rf o_face, .int o_pixels])), (o_page, .inr (5, [.int o_page_width, .int o_page_height, .ref o_page_rows, .ref o_page_turns, .long o_page_touched])), (o_page_rows, .inl (cy 3, o_page_rows_n, .inr (.inl o_page_rows_f))), (o_page_turns, .inl (cy 0, o_page_turns_n, .inl o_page_turns_f))]) (va_A [(o, .inr (6, [.ref o_page, .ref o_shape, .ref o_curves, .ref o_lines, .ref o_tape, .ref o_spare, .int o_tapeLength, va_rf o_face, .int o_pixels])), (o_page, .inr (5, [.int o_page_width, .int o_page_height, .ref o_page_rows, .ref o_page_turns, .long o_page_touched])), (o_page_rows, .inl (cy 3, o_page_rows_n, .inr (.inl o_page_rows_f))), (o_page_turns, .inl (cy 0, o_page_turns_n, .inl o_page_turns_f))] sz)) 0 0 (va_A [(o, .inr (6, [.ref o_page, .ref o_shape, .ref o_curves, .ref o_lines, .ref o_tape, .ref o_spare, .int o_tapeLength, va_rf o_face, .int o_pixels])), (o_page, .inr (5, [.int o_page_width, .int o_page_height, .ref o_page_rows, .ref o_page_turns, .long o_page_touched])), (o_page_rows, .inl (cy 3, o_page_rows_n, .inr (.inl o_page_rows_f))), (o_page_turns, .inl (cy 0, o_page_turns_n, .inl o_page_turns_f))] sz) := by
  refine Met.ofW (cc := b_Gp_inked) (maxL := 1) (ret := (some .int)) (by decide) rfl ?_
  intro p e s m args below meth c s₁ B hml hv
  obtain ⟨rfl, hsz, hP, hK, hD0⟩ := hv
  have hx := B.exec
  have hb := B.bytes
  have hr := B.returns
  have hts := atoms_spec (ws := Cond.code y_Gp_inked b_Gp_inked 1 (some .int) :: G) B.pre
  have htsG : ∀ w ∈ G, w.before _ s = true := fun w hw => hts w (List.mem_cons_of_mem _ hw)
  have hown : s.vm.findClass "GlyphPage" = some m.cls := findClass_of_methodNamed B.named
  have hlocks := B.notSynchronized
  subst hsz
  have hD := hD0.self (sz := s.heap.size)
  generalize hAe : va_A [(o, .inr (6, [.ref o_page, .ref o_shape, .ref o_curves, .ref o_lines, .ref o_tape, .ref o_spare, .int o_tapeLength, va_rf o_face, .int o_pixels])), (o_page, .inr (5, [.int o_page_width, .int o_page_height, .ref o_page_rows, .ref o_page_turns, .long o_page_touched])), (o_page_rows, .inl (cy 3, o_page_rows_n, .inr (.inl o_page_rows_f))), (o_page_turns, .inl (cy 0, o_page_turns_n, .inl o_page_turns_f))] s.heap.size = A at hD ⊢
  have hA : ∀ q : Nat, s.heap.size ≤ q → A q := fun q h => by rw [← hAe]; exact Or.inr h
  have hS : va_S A s.heap s.heap [] := va_S.rf
  have hl := lv_entry ([.ref o]) (n := 1) (Nat.le_of_ble_eq_true rfl)
  rw [lg_entry_eq]
  generalize (lg_sl ([.ref o]) ++ List.replicate (1 - (lg_sl ([.ref o])).length) Slot.unset).toArray = ls at hl ⊢
  have hl : lv_has ls 1 [(0, .ref o)] := hl
  have C0 : Cx p s m _ meth c A dC dI cy b_Gp_inked 1 (some .int) "GlyphPage" := ⟨hx, hb, hr, hlocks, hml, hown, htsG, hA, hK⟩
  unfold P_Gp_inked at h
  refine lv_aload_n hx hb d_Gp_inked_0 rfl (lv_at hl 0 rfl) ?_
  refine va_get (D := (dC, dI)) (ci := 6) (v := .ref o_page) (C := "GlyphPage") (T := F_Gp) (N := 9) hx hb htsG iG_Gp hown hK hP 0 rfl rfl 0 (by decide) (htsG _ mW246) (fun _ h9 => h9) rfl d_Gp_inked_1 ?_
  obtain ⟨r_1, hq, h⟩ := Option.bind_eq_some_iff.mp h
  try dsimp only at h
  have hPc := hP.sub (ws' := [(o_page, .inr (5, [.int o_page_width, .int o_page_height, .ref o_page_rows, .ref o_page_turns, .long o_page_touched])), (o_page_rows, .inl (cy 3, o_page_rows_n, .inr (.inl o_page_rows_f))), (o_page_turns, .inl (cy 0, o_page_turns_n, .inl o_page_turns_f))]) [1, 2, 3] rfl
  have hDc := hD.sub (ws' := [(o_page, .inr (5, [.int o_page_width, .int o_page_height, .ref o_page_rows, .ref o_page_turns, .long o_page_touched])), (o_page_rows, .inl (cy 3, o_page_rows_n, .inr (.inl o_page_rows_f))), (o_page_turns, .inl (cy 0, o_page_turns_n, .inl o_page_turns_f))]) [1, 2, 3] (by decide) rfl
  have hFc := va_free (wc := [(o_page, .inr (5, [.int o_page_width, .int o_page_height, .ref o_page_rows, .ref o_page_turns, .long o_page_touched])), (o_page_rows, .inl (cy 3, o_page_rows_n, .inr (.inl o_page_rows_f))), (o_page_turns, .inl (cy 0, o_page_turns_n, .inl o_page_turns_f))]) hD hS hA [1, 2, 3] rfl
  refine va_calli (va_runV (As := []) (rest := []) ⟨hx, hb, hml, hown, htsG⟩ (c_Pg_countSet l dC dI cy s.heap.size o_page o_page_rows o_page_turns o_page_width o_page_height o_page_touched o_page_rows_n o_page_rows_f o_page_turns_n o_page_turns_f r_1 hq) (cwV 0 htsG (gV mW744 mW745 mW746 mW7 mW747) rfl rfl rfl (by decide +kernel) ⟨Nat.le_of_ble_eq_true rfl, Nat.le_of_ble_eq_true rfl⟩) ⟨fun a U g mk q => by obtain ⟨q0, q1, qP, qK, qD⟩ := q; exact ⟨q0, q1, qP, va_K.moved (u := U) (U := U.calling g mk a) (Vm.Alike.refl U.vm) qK, qD⟩, va_recv hK hPc (ci := 5) (q0 := 0) rfl rfl, fun U hU hW => ⟨rfl, by rw [hU], by rw [hU]; exact hPc, va_K.moved hW.alike hK, hDc.weaken (fun _ _ _ _ => trivial)⟩⟩ rfl rfl hl.1 rfl (lv_room (Nat.le_of_ble_eq_true rfl)) d_Gp_inked_4 ⟨Nat.le_of_ble_eq_true rfl, Nat.le_of_ble_eq_true rfl⟩) hS (fun q _ h => hFc q h) hFc (fun rr u t H1 locs ht hvm hw hB hz1 hk1 hS => ?_)
  obtain ⟨hP1, hK1, hD1⟩ := hB
  rw [ht] at hP1
  replace hw : r_1 = rr := hw.symm
  subst hw
  obtain ⟨hP, hD⟩ := va_join (wr := [(o, .inr (6, [.ref o_page, .ref o_shape, .ref o_curves, .ref o_lines, .ref o_tape, .ref o_spare, .int o_tapeLength, va_rf o_face, .int o_pixels]))]) (w1 := [(o_page, .inr (5, [.int o_page_width, .int o_page_height, .ref o_page_rows, .ref o_page_turns, .long o_page_touched])), (o_page_rows, .inl (cy 3, o_page_rows_n, .inr (.inl o_page_rows_f))), (o_page_turns, .inl (cy 0, o_page_turns_n, .inl o_page_turns_f))]) hP hD [1, 2, 3] [0] rfl rfl (by decide) (by decide) hk1 hFc hP1 hD1
  generalize H1 = H at hP hS ⊢
  have hP := hP.sub (ws' := [(o, .inr (6, [.ref o_page, .ref o_shape, .ref o_curves, .ref o_lines, .ref o_tape, .ref o_spare, .int o_tapeLength, va_rf o_face, .int o_pixels])), (o_page, .inr (5, [.int o_page_width, .int o_page_height, .ref o_page_rows, .ref o_page_turns, .long o_page_touched])), (o_page_rows, .inl (cy 3, o_page_rows_n, .inr (.inl o_page_rows_f))), (o_page_turns, .inl (cy 0, o_page_turns_n, .inl o_page_turns_f))]) [0, 1, 2, 3] rfl
  have hD := hD.sub (ws' := [(o, .inr (6, [.ref o_page, .ref o_shape, .ref o_curves, .ref o_lines, .ref o_tape, .ref o_spare, .int o_tapeLength, va_rf o_face, .int o_pixels])), (o_page, .inr (5, [.int o_page_width, .int o_page_height, .ref o_page_rows, .ref o_page_turns, .long o_page_touched])), (o_page_rows, .inl (cy 3, o_page_rows_n, .inr (.inl o_page_rows_f))), (o_page_turns, .inl (cy 0, o_page_turns_n, .inl o_page_turns_f))]) [0, 1, 2, 3] (by decide) rfl
  refine W.widen (k := 0) (n := 0) (by decide) (by decide) ?_
  cases h
  exact W.iret hx hb hr (fun t ht hW => ⟨⟨_, (), rfl, rfl, by rw [ht]; exact hP, va_K.moved hW.alike hK, hD⟩, hS.F ht⟩) hS.2.2 d_Gp_inked_7 hlocks
def P_Gp_clear (o_page_height : Int32) (o_page_rows_n : Nat) (o_page_rows_f : Nat → Int64)  : Option (Int32 × (Nat → Int64)) :=
  (P_Pg_countSet o_page_height o_page_rows_n o_page_rows_f).bind fun r_1 => (P_Pg_wipe o_page_rows_n o_page_rows_f).bind fun n_2 => some (r_1, n_2)
set_option maxHeartbeats 4000000 in
set_option maxRecDepth 100000 in
theorem c_Gp_clear (l : Launch) (dC : Nat → ClassId) (dI : Nat → Nat → Nat) (cy : Nat → ClassId) (sz : Nat) (o : Nat) (o_page : Nat) (o_shape : Nat) (o_curves : Nat) (o_lines : Nat) (o_tape : Nat) (o_spare : Nat) (o_page_rows : Nat) (o_page_turns : Nat) (o_tapeLength : Int32) (o_face : Option Nat) (o_pixels : Int32) (o_page_width : Int32) (o_page_height : Int32) (o_page_touched : Int64) (o_page_rows_n : Nat) (o_page_rows_f : Nat → Int64) (o_page_turns_n : Nat) (o_page_turns_f : Nat → Int32)  (uu : Int32 × (Nat → Int64)) (h : P_Gp_clear o_page_height o_page_rows_n o_page_rows_f = some uu) : Met l y_Gp_clear (Cond.code y_Gp_clear b_Gp_clear 2 (some .int) :: G) ({ frames := 2, cells := 0, slots := 0, locals := 44 } : Room) (va_Pc [.ref o] (fun U => U.heap.size = sz ∧ va_P (dC, dI) classes [(o, .inr (6, [.ref o_page, .ref o_shape, .ref o_curves, .ref o_lines, .ref o_tape, .ref o_spare, .int o_tapeLength, va_rf o_face, .int o_pixels])), (o_page, .inr (5, [.int o_page_width, .int o_page_height, .ref o_page_rows, .ref o_page_turns, .long o_page_touched])), (o_page_rows, .inl (cy 3, o_page_rows_n, .inr (.inl o_page_rows_f))), (o_page_turns, .inl (cy 0, o_page_turns_n, .inl o_page_turns_f))] U.heap ∧ va_K (dC, dI) classes (TY cy) U ∧ va_D (fun _ => True) [(o, .inr (6, [.ref o_page, .ref o_shape, .ref o_curves, .ref o_lines, .ref o_tape, .ref o_spare, .int o_tapeLength, va_rf o_face, .int o_pixels])), (o_page, .inr (5, [.int o_page_width, .int o_page_height, .ref o_page_rows, .ref o_page_turns, .long o_page_touched])), (o_page_rows, .inl (cy 3, o_page_rows_n, .inr (.inl o_page_rows_f))), (o_page_turns, .inl (cy 0, o_page_turns_n, .inl o_page_turns_f))])) (va_Qi (fun r (_ : Unit) => r = uu.1) (fun _ t => va_P (dC, dI) classes [(o, .inr (6, [.ref o_page, .ref o_shape, .ref o_curves, .ref o_lines, .ref o_tape, .ref o_spare, .int o_tapeLength, va_rf o_face, .int o_pixels])), (o_page, .inr (5, [.int o_page_width, .int o_page_height, .ref o_page_rows, .ref o_page_turns, .long o_page_touched])), (o_page_rows, .inl (cy 3, o_page_rows_n, .inr (.inl uu.2))), (o_page_turns, .inl (cy 0, o_page_turns_n, .inl o_page_turns_f))] t.heap ∧ va_K (dC, dI) classes (TY cy) t ∧ va_D (va_A [(o, .inr (6, [.ref o_page, .ref o_shape, .ref o_curves, .ref o_lines, .ref o_tape, .ref o_spare, .int o_tapeLength, va_rf o_face, .int o_pixels])), (o_page, .inr (5, [.int o_page_width, .int o_page_height, .ref o_page_rows, .ref o_page_turns, .long o_page_touched])), (o_page_rows, .inl (cy 3, o_page_rows_n, .inr (.inl o_page_rows_f))), (o_page_turns, .inl (cy 0, o_page_turns_n, .inl o_page_turns_f))] sz) [(o, .inr (6, [.ref o_page, .ref o_shape, .ref o_curves, .ref o_lines, .ref o_tape, .ref o_spare, .int o_tapeLength, va_rf o_face, .int o_pixels])), (o_page, .inr (5, [.int o_page_width, .int o_page_height, .ref o_page_rows, .ref o_page_turns, .long o_page_touched])), (o_page_rows, .inl (cy 3, o_page_rows_n, .inr (.inl uu.2))), (o_page_turns, .inl (cy 0, o_page_turns_n, .inl o_page_turns_f))]) (va_A [(o, .inr (6, [.ref o_page, .ref o_shape, .ref o_curves, .ref o_lines, .ref o_tape, .ref o_spare, .int o_tapeLength, va_rf o_face, .int o_pixels])), (o_page, .inr (5, [.int o_page_width, .int o_page_height, .ref o_page_rows, .ref o_page_turns, .long o_page_touched])), (o_page_rows, .inl (cy 3, o_page_rows_n, .inr (.inl o_page_rows_f))), (o_page_turns, .inl (cy 0, o_page_turns_n, .inl o_page_turns_f))] sz)) 0 0 (va_A [(o, .inr (6, [.ref o_page, .ref o_shape, .ref o_curves, .ref o_lines, .ref o_tape, .ref o_spare, .int o_tapeLength, va_rf o_face, .int o_pixels])), (o_page, .inr (5, [.int o_page_width, .int o_page_height, .ref o_page_rows, .ref o_page_turns, .long o_page_touched])), (o_page_rows, .inl (cy 3, o_page_rows_n, .inr (.inl o_page_rows_f))), (o_page_turns, .inl (cy 0, o_page_turns_n, .inl o_page_turns_f))] sz) := by
  refine Met.ofW (cc := b_Gp_clear) (maxL := 2) (ret := (some .int)) (by decide) rfl ?_
  intro p e s m args below meth c s₁ B hml hv
  obtain ⟨rfl, hsz, hP, hK, hD0⟩ := hv
  have hx := B.exec
  have hb := B.bytes
  have hr := B.returns
  have hts := atoms_spec (ws := Cond.code y_Gp_clear b_Gp_clear 2 (some .int) :: G) B.pre
  have htsG : ∀ w ∈ G, w.before _ s = true := fun w hw => hts w (List.mem_cons_of_mem _ hw)
  have hown : s.vm.findClass "GlyphPage" = some m.cls := findClass_of_methodNamed B.named
  have hlocks := B.notSynchronized
  subst hsz
  have hD := hD0.self (sz := s.heap.size)
  generalize hAe : va_A [(o, .inr (6, [.ref o_page, .ref o_shape, .ref o_curves, .ref o_lines, .ref o_tape, .ref o_spare, .int o_tapeLength, va_rf o_face, .int o_pixels])), (o_page, .inr (5, [.int o_page_width, .int o_page_height, .ref o_page_rows, .ref o_page_turns, .long o_page_touched])), (o_page_rows, .inl (cy 3, o_page_rows_n, .inr (.inl o_page_rows_f))), (o_page_turns, .inl (cy 0, o_page_turns_n, .inl o_page_turns_f))] s.heap.size = A at hD ⊢
  have hA : ∀ q : Nat, s.heap.size ≤ q → A q := fun q h => by rw [← hAe]; exact Or.inr h
  have hS : va_S A s.heap s.heap [] := va_S.rf
  have hl := lv_entry ([.ref o]) (n := 2) (Nat.le_of_ble_eq_true rfl)
  rw [lg_entry_eq]
  generalize (lg_sl ([.ref o]) ++ List.replicate (2 - (lg_sl ([.ref o])).length) Slot.unset).toArray = ls at hl ⊢
  have hl : lv_has ls 2 [(0, .ref o)] := hl
  have C0 : Cx p s m _ meth c A dC dI cy b_Gp_clear 2 (some .int) "GlyphPage" := ⟨hx, hb, hr, hlocks, hml, hown, htsG, hA, hK⟩
  unfold P_Gp_clear at h
  refine lv_aload_n hx hb d_Gp_clear_0 rfl (lv_at hl 0 rfl) ?_
  refine va_get (D := (dC, dI)) (ci := 6) (v := .ref o_page) (C := "GlyphPage") (T := F_Gp) (N := 9) hx hb htsG iG_Gp hown hK hP 0 rfl rfl 0 (by decide) (htsG _ mW246) (fun _ h9 => h9) rfl d_Gp_clear_1 ?_
  obtain ⟨r_1, hq, h⟩ := Option.bind_eq_some_iff.mp h
  try dsimp only at h
  have hPc := hP.sub (ws' := [(o_page, .inr (5, [.int o_page_width, .int o_page_height, .ref o_page_rows, .ref o_page_turns, .long o_page_touched])), (o_page_rows, .inl (cy 3, o_page_rows_n, .inr (.inl o_page_rows_f))), (o_page_turns, .inl (cy 0, o_page_turns_n, .inl o_page_turns_f))]) [1, 2, 3] rfl
  have hDc := hD.sub (ws' := [(o_page, .inr (5, [.int o_page_width, .int o_page_height, .ref o_page_rows, .ref o_page_turns, .long o_page_touched])), (o_page_rows, .inl (cy 3, o_page_rows_n, .inr (.inl o_page_rows_f))), (o_page_turns, .inl (cy 0, o_page_turns_n, .inl o_page_turns_f))]) [1, 2, 3] (by decide) rfl
  have hFc := va_free (wc := [(o_page, .inr (5, [.int o_page_width, .int o_page_height, .ref o_page_rows, .ref o_page_turns, .long o_page_touched])), (o_page_rows, .inl (cy 3, o_page_rows_n, .inr (.inl o_page_rows_f))), (o_page_turns, .inl (cy 0, o_page_turns_n, .inl o_page_turns_f))]) hD hS hA [1, 2, 3] rfl
  refine va_calli (va_runV (As := []) (rest := []) ⟨hx, hb, hml, hown, htsG⟩ (c_Pg_countSet l dC dI cy s.heap.size o_page o_page_rows o_page_turns o_page_width o_page_height o_page_touched o_page_rows_n o_page_rows_f o_page_turns_n o_page_turns_f r_1 hq) (cwV 0 htsG (gV mW744 mW745 mW746 mW7 mW747) rfl rfl rfl (by decide +kernel) ⟨Nat.le_of_ble_eq_true rfl, Nat.le_of_ble_eq_true rfl⟩) ⟨fun a U g mk q => by obtain ⟨q0, q1, qP, qK, qD⟩ := q; exact ⟨q0, q1, qP, va_K.moved (u := U) (U := U.calling g mk a) (Vm.Alike.refl U.vm) qK, qD⟩, va_recv hK hPc (ci := 5) (q0 := 0) rfl rfl, fun U hU hW => ⟨rfl, by rw [hU], by rw [hU]; exact hPc, va_K.moved hW.alike hK, hDc.weaken (fun _ _ _ _ => trivial)⟩⟩ rfl rfl hl.1 rfl (lv_room (Nat.le_of_ble_eq_true rfl)) d_Gp_clear_4 ⟨Nat.le_of_ble_eq_true rfl, Nat.le_of_ble_eq_true rfl⟩) hS (fun q _ h => hFc q h) hFc (fun rr u t H1 locs ht hvm hw hB hz1 hk1 hS => ?_)
  obtain ⟨hP1, hK1, hD1⟩ := hB
  rw [ht] at hP1
  replace hw : r_1 = rr := hw.symm
  subst hw
  obtain ⟨hP, hD⟩ := va_join (wr := [(o, .inr (6, [.ref o_page, .ref o_shape, .ref o_curves, .ref o_lines, .ref o_tape, .ref o_spare, .int o_tapeLength, va_rf o_face, .int o_pixels]))]) (w1 := [(o_page, .inr (5, [.int o_page_width, .int o_page_height, .ref o_page_rows, .ref o_page_turns, .long o_page_touched])), (o_page_rows, .inl (cy 3, o_page_rows_n, .inr (.inl o_page_rows_f))), (o_page_turns, .inl (cy 0, o_page_turns_n, .inl o_page_turns_f))]) hP hD [1, 2, 3] [0] rfl rfl (by decide) (by decide) hk1 hFc hP1 hD1
  generalize H1 = H at hP hS ⊢
  have hP := hP.sub (ws' := [(o, .inr (6, [.ref o_page, .ref o_shape, .ref o_curves, .ref o_lines, .ref o_tape, .ref o_spare, .int o_tapeLength, va_rf o_face, .int o_pixels])), (o_page, .inr (5, [.int o_page_width, .int o_page_height, .ref o_page_rows, .ref o_page_turns, .long o_page_touched])), (o_page_rows, .inl (cy 3, o_page_rows_n, .inr (.inl o_page_rows_f))), (o_page_turns, .inl (cy 0, o_page_turns_n, .inl o_page_turns_f))]) [0, 1, 2, 3] rfl
  have hD := hD.sub (ws' := [(o, .inr (6, [.ref o_page, .ref o_shape, .ref o_curves, .ref o_lines, .ref o_tape, .ref o_spare, .int o_tapeLength, va_rf o_face, .int o_pixels])), (o_page, .inr (5, [.int o_page_width, .int o_page_height, .ref o_page_rows, .ref o_page_turns, .long o_page_touched])), (o_page_rows, .inl (cy 3, o_page_rows_n, .inr (.inl o_page_rows_f))), (o_page_turns, .inl (cy 0, o_page_turns_n, .inl o_page_turns_f))]) [0, 1, 2, 3] (by decide) rfl
  refine W.widen (k := 0) (n := 0) (by decide) (by decide) ?_
  refine lv_istore_n (lv' := [(1, .int r_1), (0, .ref o)]) hx hb d_Gp_clear_7 rfl hl (by decide) rfl (fun ls hl => ?_)
  refine lv_aload_n hx hb d_Gp_clear_8 rfl (lv_at hl 1 rfl) ?_
  refine va_get (D := (dC, dI)) (ci := 6) (v := .ref o_page) (C := "GlyphPage") (T := F_Gp) (N := 9) hx hb htsG iG_Gp hown hK hP 0 rfl rfl 0 (by decide) (htsG _ mW246) (fun _ h9 => h9) rfl d_Gp_clear_9 ?_
  obtain ⟨n_2, hq, h⟩ := Option.bind_eq_some_iff.mp h
  try dsimp only at h
  have hPc := hP.sub (ws' := [(o_page, .inr (5, [.int o_page_width, .int o_page_height, .ref o_page_rows, .ref o_page_turns, .long o_page_touched])), (o_page_rows, .inl (cy 3, o_page_rows_n, .inr (.inl o_page_rows_f))), (o_page_turns, .inl (cy 0, o_page_turns_n, .inl o_page_turns_f))]) [1, 2, 3] rfl
  have hDc := hD.sub (ws' := [(o_page, .inr (5, [.int o_page_width, .int o_page_height, .ref o_page_rows, .ref o_page_turns, .long o_page_touched])), (o_page_rows, .inl (cy 3, o_page_rows_n, .inr (.inl o_page_rows_f))), (o_page_turns, .inl (cy 0, o_page_turns_n, .inl o_page_turns_f))]) [1, 2, 3] (by decide) rfl
  have hFc := va_free (wc := [(o_page, .inr (5, [.int o_page_width, .int o_page_height, .ref o_page_rows, .ref o_page_turns, .long o_page_touched])), (o_page_rows, .inl (cy 3, o_page_rows_n, .inr (.inl o_page_rows_f))), (o_page_turns, .inl (cy 0, o_page_turns_n, .inl o_page_turns_f))]) hD hS hA [1, 2, 3] rfl
  refine va_callv (va_runV (As := []) (rest := []) ⟨hx, hb, hml, hown, htsG⟩ (c_Pg_wipe l dC dI cy H.size o_page o_page_rows o_page_turns o_page_width o_page_height o_page_touched o_page_rows_n o_page_rows_f o_page_turns_n o_page_turns_f n_2 hq) (cwV 0 htsG (gV mW752 mW753 mW754 mW7 mW755) rfl rfl rfl (by decide +kernel) ⟨Nat.le_of_ble_eq_true rfl, Nat.le_of_ble_eq_true rfl⟩) ⟨fun a U g mk q => by obtain ⟨q0, q1, qP, qK, qD⟩ := q; exact ⟨q0, q1, qP, va_K.moved (u := U) (U := U.calling g mk a) (Vm.Alike.refl U.vm) qK, qD⟩, va_recv hK hPc (ci := 5) (q0 := 0) rfl rfl, fun U hU hW => ⟨rfl, by rw [hU], by rw [hU]; exact hPc, va_K.moved hW.alike hK, hDc.weaken (fun _ _ _ _ => trivial)⟩⟩ rfl rfl hl.1 rfl (lv_room (Nat.le_of_ble_eq_true rfl)) d_Gp_clear_12 ⟨Nat.le_of_ble_eq_true rfl, Nat.le_of_ble_eq_true rfl⟩) hS (fun q _ h => hFc q h) hFc (fun u t H1 locs ht hvm hw hB hz1 hk1 hS => ?_)
  obtain ⟨hP1, hK1, hD1⟩ := hB
  rw [ht] at hP1
  obtain ⟨hP, hD⟩ := va_join (wr := [(o, .inr (6, [.ref o_page, .ref o_shape, .ref o_curves, .ref o_lines, .ref o_tape, .ref o_spare, .int o_tapeLength, va_rf o_face, .int o_pixels]))]) (w1 := [(o_page, .inr (5, [.int o_page_width, .int o_page_height, .ref o_page_rows, .ref o_page_turns, .long o_page_touched])), (o_page_rows, .inl (cy 3, o_page_rows_n, .inr (.inl n_2))), (o_page_turns, .inl (cy 0, o_page_turns_n, .inl o_page_turns_f))]) hP hD [1, 2, 3] [0] rfl rfl (by decide) (by decide) hk1 hFc hP1 hD1
  generalize H1 = H at hP hS ⊢
  have hP := hP.sub (ws' := [(o, .inr (6, [.ref o_page, .ref o_shape, .ref o_curves, .ref o_lines, .ref o_tape, .ref o_spare, .int o_tapeLength, va_rf o_face, .int o_pixels])), (o_page, .inr (5, [.int o_page_width, .int o_page_height, .ref o_page_rows, .ref o_page_turns, .long o_page_touched])), (o_page_rows, .inl (cy 3, o_page_rows_n, .inr (.inl n_2))), (o_page_turns, .inl (cy 0, o_page_turns_n, .inl o_page_turns_f))]) [0, 1, 2, 3] rfl
  have hD := hD.sub (ws' := [(o, .inr (6, [.ref o_page, .ref o_shape, .ref o_curves, .ref o_lines, .ref o_tape, .ref o_spare, .int o_tapeLength, va_rf o_face, .int o_pixels])), (o_page, .inr (5, [.int o_page_width, .int o_page_height, .ref o_page_rows, .ref o_page_turns, .long o_page_touched])), (o_page_rows, .inl (cy 3, o_page_rows_n, .inr (.inl n_2))), (o_page_turns, .inl (cy 0, o_page_turns_n, .inl o_page_turns_f))]) [0, 1, 2, 3] (by decide) rfl
  refine W.widen (k := 0) (n := 0) (by decide) (by decide) ?_
  refine lv_iload_n hx hb d_Gp_clear_15 rfl (lv_at hl 0 rfl) ?_
  cases h
  exact W.iret hx hb hr (fun t ht hW => ⟨⟨_, (), rfl, rfl, by rw [ht]; exact hP, va_K.moved hW.alike hK, hD⟩, hS.F ht⟩) hS.2.2 d_Gp_clear_16 hlocks
def P_Gp_takesShape_N  (a1 : Int32) : Option (Int32) :=
  some (0 : Int32)
set_option maxHeartbeats 4000000 in
set_option maxRecDepth 100000 in
theorem c_Gp_takesShape_N (l : Launch) (dC : Nat → ClassId) (dI : Nat → Nat → Nat) (cy : Nat → ClassId) (sz : Nat) (o : Nat) (o_page : Nat) (o_shape : Nat) (o_curves : Nat) (o_lines : Nat) (o_tape : Nat) (o_spare : Nat) (o_tapeLength : Int32) (o_pixels : Int32) (a1 : Int32) (uu : Int32) (h : P_Gp_takesShape_N a1 = some uu) : Met l y_Gp_takesShape (Cond.code y_Gp_takesShape b_Gp_takesShape 2 (some .boolean) :: G) ({ frames := 0, cells := 0, slots := 0, locals := 0 } : Room) (va_Pc [.ref o, .int a1] (fun U => U.heap.size = sz ∧ va_P (dC, dI) classes [(o, .inr (6, [.ref o_page, .ref o_shape, .ref o_curves, .ref o_lines, .ref o_tape, .ref o_spare, .int o_tapeLength, .null, .int o_pixels]))] U.heap ∧ va_K (dC, dI) classes (TY cy) U ∧ va_D (fun _ => True) [(o, .inr (6, [.ref o_page, .ref o_shape, .ref o_curves, .ref o_lines, .ref o_tape, .ref o_spare, .int o_tapeLength, .null, .int o_pixels]))])) (va_Qi (fun r (_ : Unit) => r = uu) (fun _ t => va_P (dC, dI) classes [(o, .inr (6, [.ref o_page, .ref o_shape, .ref o_curves, .ref o_lines, .ref o_tape, .ref o_spare, .int o_tapeLength, .null, .int o_pixels]))] t.heap ∧ va_K (dC, dI) classes (TY cy) t ∧ va_D (va_A [(o, .inr (6, [.ref o_page, .ref o_shape, .ref o_curves, .ref o_lines, .ref o_tape, .ref o_spare, .int o_tapeLength, .null, .int o_pixels]))] sz) [(o, .inr (6, [.ref o_page, .ref o_shape, .ref o_curves, .ref o_lines, .ref o_tape, .ref o_spare, .int o_tapeLength, .null, .int o_pixels]))]) (va_A [(o, .inr (6, [.ref o_page, .ref o_shape, .ref o_curves, .ref o_lines, .ref o_tape, .ref o_spare, .int o_tapeLength, .null, .int o_pixels]))] sz)) 0 0 (va_A [(o, .inr (6, [.ref o_page, .ref o_shape, .ref o_curves, .ref o_lines, .ref o_tape, .ref o_spare, .int o_tapeLength, .null, .int o_pixels]))] sz) := by
  refine Met.ofW (cc := b_Gp_takesShape) (maxL := 2) (ret := (some .boolean)) (by decide) rfl ?_
  intro p e s m args below meth c s₁ B hml hv
  obtain ⟨rfl, hsz, hP, hK, hD0⟩ := hv
  have hx := B.exec
  have hb := B.bytes
  have hr := B.returns
  have hts := atoms_spec (ws := Cond.code y_Gp_takesShape b_Gp_takesShape 2 (some .boolean) :: G) B.pre
  have htsG : ∀ w ∈ G, w.before _ s = true := fun w hw => hts w (List.mem_cons_of_mem _ hw)
  have hown : s.vm.findClass "GlyphPage" = some m.cls := findClass_of_methodNamed B.named
  have hlocks := B.notSynchronized
  subst hsz
  have hD := hD0.self (sz := s.heap.size)
  generalize hAe : va_A [(o, .inr (6, [.ref o_page, .ref o_shape, .ref o_curves, .ref o_lines, .ref o_tape, .ref o_spare, .int o_tapeLength, .null, .int o_pixels]))] s.heap.size = A at hD ⊢
  have hA : ∀ q : Nat, s.heap.size ≤ q → A q := fun q h => by rw [← hAe]; exact Or.inr h
  have hS : va_S A s.heap s.heap [] := va_S.rf
  have hl := lv_entry ([.ref o, .int a1]) (n := 2) (Nat.le_of_ble_eq_true rfl)
  rw [lg_entry_eq]
  generalize (lg_sl ([.ref o, .int a1]) ++ List.replicate (2 - (lg_sl ([.ref o, .int a1])).length) Slot.unset).toArray = ls at hl ⊢
  have hl : lv_has ls 2 [(0, .ref o), (1, .int a1)] := hl
  have C0 : Cx p s m _ meth c A dC dI cy b_Gp_takesShape 2 (some .boolean) "GlyphPage" := ⟨hx, hb, hr, hlocks, hml, hown, htsG, hA, hK⟩
  unfold P_Gp_takesShape_N at h
  refine lv_aload_n hx hb d_Gp_takesShape_0 rfl (lv_at hl 0 rfl) ?_
  refine va_get (D := (dC, dI)) (ci := 6) (v := .null) (C := "GlyphPage") (T := F_Gp) (N := 9) hx hb htsG iG_Gp hown hK hP 0 rfl rfl 7 (by decide) (htsG _ mW253) (fun _ h9 => h9) rfl d_Gp_takesShape_1 ?_
  refine lv_ifnullN (tgt := 41) hx hb d_Gp_takesShape_4 (by decide) ?_
  refine lv_iconst (v := (0 : Int32)) hx hb d_Gp_takesShape_41 (by decide) ?_
  cases h
  exact W.zret (ty := .boolean) hx hb hr rfl (fun t ht hW => ⟨⟨_, (), rfl, rfl, by rw [ht]; exact hP, va_K.moved hW.alike hK, hD⟩, hS.F ht⟩) hS.2.2 d_Gp_takesShape_42 hlocks
def P_Gp_look_N  (a1 : Int32) (a2 : Int32) : Option (Int32) :=
  if a2 < 0 then (some (-1 : Int32)) else (if a2 ≤ (2 : Int32) then (some (-2 : Int32)) else (some (-1 : Int32)))
set_option maxHeartbeats 4000000 in
set_option maxRecDepth 100000 in
theorem c_Gp_look_N (l : Launch) (dC : Nat → ClassId) (dI : Nat → Nat → Nat) (cy : Nat → ClassId) (sz : Nat) (o : Nat) (o_page : Nat) (o_shape : Nat) (o_curves : Nat) (o_lines : Nat) (o_tape : Nat) (o_spare : Nat) (o_tapeLength : Int32) (o_pixels : Int32) (a1 : Int32) (a2 : Int32) (uu : Int32) (h : P_Gp_look_N a1 a2 = some uu) : Met l y_Gp_look (Cond.code y_Gp_look b_Gp_look 3 (some .int) :: G) ({ frames := 1, cells := 0, slots := 0, locals := 21 } : Room) (va_Pc [.ref o, .int a1, .int a2] (fun U => U.heap.size = sz ∧ va_P (dC, dI) classes [(o, .inr (6, [.ref o_page, .ref o_shape, .ref o_curves, .ref o_lines, .ref o_tape, .ref o_spare, .int o_tapeLength, .null, .int o_pixels]))] U.heap ∧ va_K (dC, dI) classes (TY cy) U ∧ va_D (fun _ => True) [(o, .inr (6, [.ref o_page, .ref o_shape, .ref o_curves, .ref o_lines, .ref o_tape, .ref o_spare, .int o_tapeLength, .null, .int o_pixels]))])) (va_Qi (fun r (_ : Unit) => r = uu) (fun _ t => va_P (dC, dI) classes [(o, .inr (6, [.ref o_page, .ref o_shape, .ref o_curves, .ref o_lines, .ref o_tape, .ref o_spare, .int o_tapeLength, .null, .int o_pixels]))] t.heap ∧ va_K (dC, dI) classes (TY cy) t ∧ va_D (va_A [(o, .inr (6, [.ref o_page, .ref o_shape, .ref o_curves, .ref o_lines, .ref o_tape, .ref o_spare, .int o_tapeLength, .null, .int o_pixels]))] sz) [(o, .inr (6, [.ref o_page, .ref o_shape, .ref o_curves, .ref o_lines, .ref o_tape, .ref o_spare, .int o_tapeLength, .null, .int o_pixels]))]) (va_A [(o, .inr (6, [.ref o_page, .ref o_shape, .ref o_curves, .ref o_lines, .ref o_tape, .ref o_spare, .int o_tapeLength, .null, .int o_pixels]))] sz)) 0 0 (va_A [(o, .inr (6, [.ref o_page, .ref o_shape, .ref o_curves, .ref o_lines, .ref o_tape, .ref o_spare, .int o_tapeLength, .null, .int o_pixels]))] sz) := by
  refine Met.ofW (cc := b_Gp_look) (maxL := 3) (ret := (some .int)) (by decide) rfl ?_
  intro p e s m args below meth c s₁ B hml hv
  obtain ⟨rfl, hsz, hP, hK, hD0⟩ := hv
  have hx := B.exec
  have hb := B.bytes
  have hr := B.returns
  have hts := atoms_spec (ws := Cond.code y_Gp_look b_Gp_look 3 (some .int) :: G) B.pre
  have htsG : ∀ w ∈ G, w.before _ s = true := fun w hw => hts w (List.mem_cons_of_mem _ hw)
  have hown : s.vm.findClass "GlyphPage" = some m.cls := findClass_of_methodNamed B.named
  have hlocks := B.notSynchronized
  subst hsz
  have hD := hD0.self (sz := s.heap.size)
  generalize hAe : va_A [(o, .inr (6, [.ref o_page, .ref o_shape, .ref o_curves, .ref o_lines, .ref o_tape, .ref o_spare, .int o_tapeLength, .null, .int o_pixels]))] s.heap.size = A at hD ⊢
  have hA : ∀ q : Nat, s.heap.size ≤ q → A q := fun q h => by rw [← hAe]; exact Or.inr h
  have hS : va_S A s.heap s.heap [] := va_S.rf
  have hl := lv_entry ([.ref o, .int a1, .int a2]) (n := 3) (Nat.le_of_ble_eq_true rfl)
  rw [lg_entry_eq]
  generalize (lg_sl ([.ref o, .int a1, .int a2]) ++ List.replicate (3 - (lg_sl ([.ref o, .int a1, .int a2])).length) Slot.unset).toArray = ls at hl ⊢
  have hl : lv_has ls 3 [(0, .ref o), (1, .int a1), (2, .int a2)] := hl
  have C0 : Cx p s m _ meth c A dC dI cy b_Gp_look 3 (some .int) "GlyphPage" := ⟨hx, hb, hr, hlocks, hml, hown, htsG, hA, hK⟩
  unfold P_Gp_look_N at h
  refine lv_iload_n hx hb d_Gp_look_0 rfl (lv_at hl 2 rfl) ?_
  refine lv_if_lt (tgt := 9) hx hb d_Gp_look_1 (by decide) (fun c_1 => ?_) (fun c_1 => ?_)
  · replace h := (if_pos c_1).symm.trans h
    refine lv_iconst (v := (-1 : Int32)) hx hb d_Gp_look_9 (by decide) ?_
    cases h
    exact W.iret hx hb hr (fun t ht hW => ⟨⟨_, (), rfl, rfl, by rw [ht]; exact hP, va_K.moved hW.alike hK, hD⟩, hS.F ht⟩) hS.2.2 d_Gp_look_10 hlocks
  · replace h := (if_neg c_1).symm.trans h
    refine lv_iload_n hx hb d_Gp_look_4 rfl (lv_at hl 2 rfl) ?_
    refine lv_iconst (v := (2 : Int32)) hx hb d_Gp_look_5 (by decide) ?_
    refine lv_icmp_le (tgt := 11) hx hb d_Gp_look_6 (by decide) (fun c_2 => ?_) (fun c_2 => ?_)
    · replace h := (if_pos c_2).symm.trans h
      refine lv_aload_n hx hb d_Gp_look_11 rfl (lv_at hl 0 rfl) ?_
      refine lv_iload_n hx hb d_Gp_look_12 rfl (lv_at hl 1 rfl) ?_
      have hq : P_Gp_takesShape_N a1 = some (0 : Int32) := rfl
      have hPc := hP.sub (ws' := [(o, .inr (6, [.ref o_page, .ref o_shape, .ref o_curves, .ref o_lines, .ref o_tape, .ref o_spare, .int o_tapeLength, .null, .int o_pixels]))]) [0] rfl
      have hDc := hD.sub (ws' := [(o, .inr (6, [.ref o_page, .ref o_shape, .ref o_curves, .ref o_lines, .ref o_tape, .ref o_spare, .int o_tapeLength, .null, .int o_pixels]))]) [0] (by decide) rfl
      have hFc := va_free (wc := [(o, .inr (6, [.ref o_page, .ref o_shape, .ref o_curves, .ref o_lines, .ref o_tape, .ref o_spare, .int o_tapeLength, .null, .int o_pixels]))]) hD hS hA [0] rfl
      refine va_calli (va_runV (As := [.int a1]) (rest := []) ⟨hx, hb, hml, hown, htsG⟩ (c_Gp_takesShape_N l dC dI cy s.heap.size o o_page o_shape o_curves o_lines o_tape o_spare o_tapeLength o_pixels a1 (0 : Int32) hq) (cwV 1 htsG (gV mW542 mW544 mS_Gp_takesShape mW1 mW545) rfl rfl rfl (by decide +kernel) ⟨Nat.le_of_ble_eq_true rfl, Nat.le_of_ble_eq_true rfl⟩) ⟨fun a U g mk q => by obtain ⟨q0, q1, qP, qK, qD⟩ := q; exact ⟨q0, q1, qP, va_K.moved (u := U) (U := U.calling g mk a) (Vm.Alike.refl U.vm) qK, qD⟩, va_recv hK hPc (ci := 6) (q0 := 0) rfl rfl, fun U hU hW => ⟨rfl, by rw [hU], by rw [hU]; exact hPc, va_K.moved hW.alike hK, hDc.weaken (fun _ _ _ _ => trivial)⟩⟩ rfl rfl hl.1 rfl (lv_room (Nat.le_of_ble_eq_true rfl)) d_Gp_look_13 ⟨Nat.le_of_ble_eq_true rfl, Nat.le_of_ble_eq_true rfl⟩) hS (fun q _ h => hFc q h) hFc (fun rr u t H1 locs ht hvm hw hB hz1 hk1 hS => ?_)
      obtain ⟨hP1, hK1, hD1⟩ := hB
      rw [ht] at hP1
      replace hw : (0 : Int32) = rr := hw.symm
      subst hw
      obtain ⟨hP, hD⟩ := va_join (wr := []) (w1 := [(o, .inr (6, [.ref o_page, .ref o_shape, .ref o_curves, .ref o_lines, .ref o_tape, .ref o_spare, .int o_tapeLength, .null, .int o_pixels]))]) hP hD [0] [] rfl rfl (by decide) (by decide) hk1 hFc hP1 hD1
      generalize H1 = H at hP hS ⊢
      have hP := hP.sub (ws' := [(o, .inr (6, [.ref o_page, .ref o_shape, .ref o_curves, .ref o_lines, .ref o_tape, .ref o_spare, .int o_tapeLength, .null, .int o_pixels]))]) [0] rfl
      have hD := hD.sub (ws' := [(o, .inr (6, [.ref o_page, .ref o_shape, .ref o_curves, .ref o_lines, .ref o_tape, .ref o_spare, .int o_tapeLength, .null, .int o_pixels]))]) [0] (by decide) rfl
      refine W.widen (k := 0) (n := 0) (by decide) (by decide) ?_
      refine lv_if_ne (tgt := 22) hx hb d_Gp_look_16 (by decide) (fun c_3 => absurd c_3 (by decide)) (fun c_3 => ?_)
      refine lv_bipush (v := (-2 : Int32)) hx hb d_Gp_look_19 (by decide) ?_
      cases h
      exact W.iret hx hb hr (fun t ht hW => ⟨⟨_, (), rfl, rfl, by rw [ht]; exact hP, va_K.moved hW.alike hK, hD⟩, hS.F ht⟩) hS.2.2 d_Gp_look_21 hlocks
    · replace h := (if_neg c_2).symm.trans h
      refine lv_iconst (v := (-1 : Int32)) hx hb d_Gp_look_9 (by decide) ?_
      cases h
      exact W.iret hx hb hr (fun t ht hW => ⟨⟨_, (), rfl, rfl, by rw [ht]; exact hP, va_K.moved hW.alike hK, hD⟩, hS.F ht⟩) hS.2.2 d_Gp_look_10 hlocks
def P_Gp_point_N  (a1 : Int32) (a2 : Int32) (a3 : Int32) : Option (Int32) :=
  if a3 < 0 then (some (-1 : Int32)) else (if a3 ≤ (3 : Int32) then (some (100000 : Int32)) else (some (-1 : Int32)))
set_option maxHeartbeats 4000000 in
set_option maxRecDepth 100000 in
theorem c_Gp_point_N (l : Launch) (dC : Nat → ClassId) (dI : Nat → Nat → Nat) (cy : Nat → ClassId) (sz : Nat) (o : Nat) (o_page : Nat) (o_shape : Nat) (o_curves : Nat) (o_lines : Nat) (o_tape : Nat) (o_spare : Nat) (o_tapeLength : Int32) (o_pixels : Int32) (a1 : Int32) (a2 : Int32) (a3 : Int32) (uu : Int32) (h : P_Gp_point_N a1 a2 a3 = some uu) : Met l y_Gp_point (Cond.code y_Gp_point b_Gp_point 4 (some .int) :: G) ({ frames := 1, cells := 0, slots := 0, locals := 21 } : Room) (va_Pc [.ref o, .int a1, .int a2, .int a3] (fun U => U.heap.size = sz ∧ va_P (dC, dI) classes [(o, .inr (6, [.ref o_page, .ref o_shape, .ref o_curves, .ref o_lines, .ref o_tape, .ref o_spare, .int o_tapeLength, .null, .int o_pixels]))] U.heap ∧ va_K (dC, dI) classes (TY cy) U ∧ va_D (fun _ => True) [(o, .inr (6, [.ref o_page, .ref o_shape, .ref o_curves, .ref o_lines, .ref o_tape, .ref o_spare, .int o_tapeLength, .null, .int o_pixels]))])) (va_Qi (fun r (_ : Unit) => r = uu) (fun _ t => va_P (dC, dI) classes [(o, .inr (6, [.ref o_page, .ref o_shape, .ref o_curves, .ref o_lines, .ref o_tape, .ref o_spare, .int o_tapeLength, .null, .int o_pixels]))] t.heap ∧ va_K (dC, dI) classes (TY cy) t ∧ va_D (va_A [(o, .inr (6, [.ref o_page, .ref o_shape, .ref o_curves, .ref o_lines, .ref o_tape, .ref o_spare, .int o_tapeLength, .null, .int o_pixels]))] sz) [(o, .inr (6, [.ref o_page, .ref o_shape, .ref o_curves, .ref o_lines, .ref o_tape, .ref o_spare, .int o_tapeLength, .null, .int o_pixels]))]) (va_A [(o, .inr (6, [.ref o_page, .ref o_shape, .ref o_curves, .ref o_lines, .ref o_tape, .ref o_spare, .int o_tapeLength, .null, .int o_pixels]))] sz)) 0 0 (va_A [(o, .inr (6, [.ref o_page, .ref o_shape, .ref o_curves, .ref o_lines, .ref o_tape, .ref o_spare, .int o_tapeLength, .null, .int o_pixels]))] sz) := by
  refine Met.ofW (cc := b_Gp_point) (maxL := 4) (ret := (some .int)) (by decide) rfl ?_
  intro p e s m args below meth c s₁ B hml hv
  obtain ⟨rfl, hsz, hP, hK, hD0⟩ := hv
  have hx := B.exec
  have hb := B.bytes
  have hr := B.returns
  have hts := atoms_spec (ws := Cond.code y_Gp_point b_Gp_point 4 (some .int) :: G) B.pre
  have htsG : ∀ w ∈ G, w.before _ s = true := fun w hw => hts w (List.mem_cons_of_mem _ hw)
  have hown : s.vm.findClass "GlyphPage" = some m.cls := findClass_of_methodNamed B.named
  have hlocks := B.notSynchronized
  subst hsz
  have hD := hD0.self (sz := s.heap.size)
  generalize hAe : va_A [(o, .inr (6, [.ref o_page, .ref o_shape, .ref o_curves, .ref o_lines, .ref o_tape, .ref o_spare, .int o_tapeLength, .null, .int o_pixels]))] s.heap.size = A at hD ⊢
  have hA : ∀ q : Nat, s.heap.size ≤ q → A q := fun q h => by rw [← hAe]; exact Or.inr h
  have hS : va_S A s.heap s.heap [] := va_S.rf
  have hl := lv_entry ([.ref o, .int a1, .int a2, .int a3]) (n := 4) (Nat.le_of_ble_eq_true rfl)
  rw [lg_entry_eq]
  generalize (lg_sl ([.ref o, .int a1, .int a2, .int a3]) ++ List.replicate (4 - (lg_sl ([.ref o, .int a1, .int a2, .int a3])).length) Slot.unset).toArray = ls at hl ⊢
  have hl : lv_has ls 4 [(0, .ref o), (1, .int a1), (2, .int a2), (3, .int a3)] := hl
  have C0 : Cx p s m _ meth c A dC dI cy b_Gp_point 4 (some .int) "GlyphPage" := ⟨hx, hb, hr, hlocks, hml, hown, htsG, hA, hK⟩
  unfold P_Gp_point_N at h
  refine lv_iload_n hx hb d_Gp_point_0 rfl (lv_at hl 3 rfl) ?_
  refine lv_if_lt (tgt := 9) hx hb d_Gp_point_1 (by decide) (fun c_1 => ?_) (fun c_1 => ?_)
  · replace h := (if_pos c_1).symm.trans h
    refine lv_iconst (v := (-1 : Int32)) hx hb d_Gp_point_9 (by decide) ?_
    cases h
    exact W.iret hx hb hr (fun t ht hW => ⟨⟨_, (), rfl, rfl, by rw [ht]; exact hP, va_K.moved hW.alike hK, hD⟩, hS.F ht⟩) hS.2.2 d_Gp_point_10 hlocks
  · replace h := (if_neg c_1).symm.trans h
    refine lv_iload_n hx hb d_Gp_point_4 rfl (lv_at hl 3 rfl) ?_
    refine lv_iconst (v := (3 : Int32)) hx hb d_Gp_point_5 (by decide) ?_
    refine lv_icmp_le (tgt := 11) hx hb d_Gp_point_6 (by decide) (fun c_2 => ?_) (fun c_2 => ?_)
    · replace h := (if_pos c_2).symm.trans h
      refine lv_aload_n hx hb d_Gp_point_11 rfl (lv_at hl 0 rfl) ?_
      refine lv_iload_n hx hb d_Gp_point_12 rfl (lv_at hl 1 rfl) ?_
      have hq : P_Gp_takesShape_N a1 = some (0 : Int32) := rfl
      have hPc := hP.sub (ws' := [(o, .inr (6, [.ref o_page, .ref o_shape, .ref o_curves, .ref o_lines, .ref o_tape, .ref o_spare, .int o_tapeLength, .null, .int o_pixels]))]) [0] rfl
      have hDc := hD.sub (ws' := [(o, .inr (6, [.ref o_page, .ref o_shape, .ref o_curves, .ref o_lines, .ref o_tape, .ref o_spare, .int o_tapeLength, .null, .int o_pixels]))]) [0] (by decide) rfl
      have hFc := va_free (wc := [(o, .inr (6, [.ref o_page, .ref o_shape, .ref o_curves, .ref o_lines, .ref o_tape, .ref o_spare, .int o_tapeLength, .null, .int o_pixels]))]) hD hS hA [0] rfl
      refine va_calli (va_runV (As := [.int a1]) (rest := []) ⟨hx, hb, hml, hown, htsG⟩ (c_Gp_takesShape_N l dC dI cy s.heap.size o o_page o_shape o_curves o_lines o_tape o_spare o_tapeLength o_pixels a1 (0 : Int32) hq) (cwV 1 htsG (gV mW542 mW544 mS_Gp_takesShape mW1 mW545) rfl rfl rfl (by decide +kernel) ⟨Nat.le_of_ble_eq_true rfl, Nat.le_of_ble_eq_true rfl⟩) ⟨fun a U g mk q => by obtain ⟨q0, q1, qP, qK, qD⟩ := q; exact ⟨q0, q1, qP, va_K.moved (u := U) (U := U.calling g mk a) (Vm.Alike.refl U.vm) qK, qD⟩, va_recv hK hPc (ci := 6) (q0 := 0) rfl rfl, fun U hU hW => ⟨rfl, by rw [hU], by rw [hU]; exact hPc, va_K.moved hW.alike hK, hDc.weaken (fun _ _ _ _ => trivial)⟩⟩ rfl rfl hl.1 rfl (lv_room (Nat.le_of_ble_eq_true rfl)) d_Gp_point_13 ⟨Nat.le_of_ble_eq_true rfl, Nat.le_of_ble_eq_true rfl⟩) hS (fun q _ h => hFc q h) hFc (fun rr u t H1 locs ht hvm hw hB hz1 hk1 hS => ?_)
      obtain ⟨hP1, hK1, hD1⟩ := hB
      rw [ht] at hP1
      replace hw : (0 : Int32) = rr := hw.symm
      subst hw
      obtain ⟨hP, hD⟩ := va_join (wr := []) (w1 := [(o, .inr (6, [.ref o_page, .ref o_shape, .ref o_curves, .ref o_lines, .ref o_tape, .ref o_spare, .int o_tapeLength, .null, .int o_pixels]))]) hP hD [0] [] rfl rfl (by decide) (by decide) hk1 hFc hP1 hD1
      generalize H1 = H at hP hS ⊢
      have hP := hP.sub (ws' := [(o, .inr (6, [.ref o_page, .ref o_shape, .ref o_curves, .ref o_lines, .ref o_tape, .ref o_spare, .int o_tapeLength, .null, .int o_pixels]))]) [0] rfl
      have hD := hD.sub (ws' := [(o, .inr (6, [.ref o_page, .ref o_shape, .ref o_curves, .ref o_lines, .ref o_tape, .ref o_spare, .int o_tapeLength, .null, .int o_pixels]))]) [0] (by decide) rfl
      refine W.widen (k := 0) (n := 0) (by decide) (by decide) ?_
      refine lv_if_eq (tgt := 34) hx hb d_Gp_point_16 (by decide) (fun c_3 => ?_) (fun c_3 => absurd c_3 (by decide))
      refine lv_ldc hx hb hown (htsG _ mW552) d_Gp_point_34 ?_
      cases h
      exact W.iret hx hb hr (fun t ht hW => ⟨⟨_, (), rfl, rfl, by rw [ht]; exact hP, va_K.moved hW.alike hK, hD⟩, hS.F ht⟩) hS.2.2 d_Gp_point_36 hlocks
    · replace h := (if_neg c_2).symm.trans h
      refine lv_iconst (v := (-1 : Int32)) hx hb d_Gp_point_9 (by decide) ?_
      cases h
      exact W.iret hx hb hr (fun t ht hW => ⟨⟨_, (), rfl, rfl, by rw [ht]; exact hP, va_K.moved hW.alike hK, hD⟩, hS.F ht⟩) hS.2.2 d_Gp_point_10 hlocks
def P_Gp_winding_N  (a1 : Int32) (a2 : Int32) (a3 : Int32) : Option (Int32) :=
  some (2000 : Int32)
set_option maxHeartbeats 4000000 in
set_option maxRecDepth 100000 in
theorem c_Gp_winding_N (l : Launch) (dC : Nat → ClassId) (dI : Nat → Nat → Nat) (cy : Nat → ClassId) (sz : Nat) (o : Nat) (o_page : Nat) (o_shape : Nat) (o_curves : Nat) (o_lines : Nat) (o_tape : Nat) (o_spare : Nat) (o_tapeLength : Int32) (o_pixels : Int32) (a1 : Int32) (a2 : Int32) (a3 : Int32) (uu : Int32) (h : P_Gp_winding_N a1 a2 a3 = some uu) : Met l y_Gp_winding (Cond.code y_Gp_winding b_Gp_winding 4 (some .int) :: G) ({ frames := 1, cells := 0, slots := 0, locals := 21 } : Room) (va_Pc [.ref o, .int a1, .int a2, .int a3] (fun U => U.heap.size = sz ∧ va_P (dC, dI) classes [(o, .inr (6, [.ref o_page, .ref o_shape, .ref o_curves, .ref o_lines, .ref o_tape, .ref o_spare, .int o_tapeLength, .null, .int o_pixels]))] U.heap ∧ va_K (dC, dI) classes (TY cy) U ∧ va_D (fun _ => True) [(o, .inr (6, [.ref o_page, .ref o_shape, .ref o_curves, .ref o_lines, .ref o_tape, .ref o_spare, .int o_tapeLength, .null, .int o_pixels]))])) (va_Qi (fun r (_ : Unit) => r = uu) (fun _ t => va_P (dC, dI) classes [(o, .inr (6, [.ref o_page, .ref o_shape, .ref o_curves, .ref o_lines, .ref o_tape, .ref o_spare, .int o_tapeLength, .null, .int o_pixels]))] t.heap ∧ va_K (dC, dI) classes (TY cy) t ∧ va_D (va_A [(o, .inr (6, [.ref o_page, .ref o_shape, .ref o_curves, .ref o_lines, .ref o_tape, .ref o_spare, .int o_tapeLength, .null, .int o_pixels]))] sz) [(o, .inr (6, [.ref o_page, .ref o_shape, .ref o_curves, .ref o_lines, .ref o_tape, .ref o_spare, .int o_tapeLength, .null, .int o_pixels]))]) (va_A [(o, .inr (6, [.ref o_page, .ref o_shape, .ref o_curves, .ref o_lines, .ref o_tape, .ref o_spare, .int o_tapeLength, .null, .int o_pixels]))] sz)) 0 0 (va_A [(o, .inr (6, [.ref o_page, .ref o_shape, .ref o_curves, .ref o_lines, .ref o_tape, .ref o_spare, .int o_tapeLength, .null, .int o_pixels]))] sz) := by
  refine Met.ofW (cc := b_Gp_winding) (maxL := 4) (ret := (some .int)) (by decide) rfl ?_
  intro p e s m args below meth c s₁ B hml hv
  obtain ⟨rfl, hsz, hP, hK, hD0⟩ := hv
  have hx := B.exec
  have hb := B.bytes
  have hr := B.returns
  have hts := atoms_spec (ws := Cond.code y_Gp_winding b_Gp_winding 4 (some .int) :: G) B.pre
  have htsG : ∀ w ∈ G, w.before _ s = true := fun w hw => hts w (List.mem_cons_of_mem _ hw)
  have hown : s.vm.findClass "GlyphPage" = some m.cls := findClass_of_methodNamed B.named
  have hlocks := B.notSynchronized
  subst hsz
  have hD := hD0.self (sz := s.heap.size)
  generalize hAe : va_A [(o, .inr (6, [.ref o_page, .ref o_shape, .ref o_curves, .ref o_lines, .ref o_tape, .ref o_spare, .int o_tapeLength, .null, .int o_pixels]))] s.heap.size = A at hD ⊢
  have hA : ∀ q : Nat, s.heap.size ≤ q → A q := fun q h => by rw [← hAe]; exact Or.inr h
  have hS : va_S A s.heap s.heap [] := va_S.rf
  have hl := lv_entry ([.ref o, .int a1, .int a2, .int a3]) (n := 4) (Nat.le_of_ble_eq_true rfl)
  rw [lg_entry_eq]
  generalize (lg_sl ([.ref o, .int a1, .int a2, .int a3]) ++ List.replicate (4 - (lg_sl ([.ref o, .int a1, .int a2, .int a3])).length) Slot.unset).toArray = ls at hl ⊢
  have hl : lv_has ls 4 [(0, .ref o), (1, .int a1), (2, .int a2), (3, .int a3)] := hl
  have C0 : Cx p s m _ meth c A dC dI cy b_Gp_winding 4 (some .int) "GlyphPage" := ⟨hx, hb, hr, hlocks, hml, hown, htsG, hA, hK⟩
  unfold P_Gp_winding_N at h
  refine lv_aload_n hx hb d_Gp_winding_0 rfl (lv_at hl 0 rfl) ?_
  refine lv_iload_n hx hb d_Gp_winding_1 rfl (lv_at hl 1 rfl) ?_
  have hq : P_Gp_takesShape_N a1 = some (0 : Int32) := rfl
  have hPc := hP.sub (ws' := [(o, .inr (6, [.ref o_page, .ref o_shape, .ref o_curves, .ref o_lines, .ref o_tape, .ref o_spare, .int o_tapeLength, .null, .int o_pixels]))]) [0] rfl
  have hDc := hD.sub (ws' := [(o, .inr (6, [.ref o_page, .ref o_shape, .ref o_curves, .ref o_lines, .ref o_tape, .ref o_spare, .int o_tapeLength, .null, .int o_pixels]))]) [0] (by decide) rfl
  have hFc := va_free (wc := [(o, .inr (6, [.ref o_page, .ref o_shape, .ref o_curves, .ref o_lines, .ref o_tape, .ref o_spare, .int o_tapeLength, .null, .int o_pixels]))]) hD hS hA [0] rfl
  refine va_calli (va_runV (As := [.int a1]) (rest := []) ⟨hx, hb, hml, hown, htsG⟩ (c_Gp_takesShape_N l dC dI cy s.heap.size o o_page o_shape o_curves o_lines o_tape o_spare o_tapeLength o_pixels a1 (0 : Int32) hq) (cwV 1 htsG (gV mW542 mW544 mS_Gp_takesShape mW1 mW545) rfl rfl rfl (by decide +kernel) ⟨Nat.le_of_ble_eq_true rfl, Nat.le_of_ble_eq_true rfl⟩) ⟨fun a U g mk q => by obtain ⟨q0, q1, qP, qK, qD⟩ := q; exact ⟨q0, q1, qP, va_K.moved (u := U) (U := U.calling g mk a) (Vm.Alike.refl U.vm) qK, qD⟩, va_recv hK hPc (ci := 6) (q0 := 0) rfl rfl, fun U hU hW => ⟨rfl, by rw [hU], by rw [hU]; exact hPc, va_K.moved hW.alike hK, hDc.weaken (fun _ _ _ _ => trivial)⟩⟩ rfl rfl hl.1 rfl (lv_room (Nat.le_of_ble_eq_true rfl)) d_Gp_winding_2 ⟨Nat.le_of_ble_eq_true rfl, Nat.le_of_ble_eq_true rfl⟩) hS (fun q _ h => hFc q h) hFc (fun rr u t H1 locs ht hvm hw hB hz1 hk1 hS => ?_)
  obtain ⟨hP1, hK1, hD1⟩ := hB
  rw [ht] at hP1
  replace hw : (0 : Int32) = rr := hw.symm
  subst hw
  obtain ⟨hP, hD⟩ := va_join (wr := []) (w1 := [(o, .inr (6, [.ref o_page, .ref o_shape, .ref o_curves, .ref o_lines, .ref o_tape, .ref o_spare, .int o_tapeLength, .null, .int o_pixels]))]) hP hD [0] [] rfl rfl (by decide) (by decide) hk1 hFc hP1 hD1
  generalize H1 = H at hP hS ⊢
  have hP := hP.sub (ws' := [(o, .inr (6, [.ref o_page, .ref o_shape, .ref o_curves, .ref o_lines, .ref o_tape, .ref o_spare, .int o_tapeLength, .null, .int o_pixels]))]) [0] rfl
  have hD := hD.sub (ws' := [(o, .inr (6, [.ref o_page, .ref o_shape, .ref o_curves, .ref o_lines, .ref o_tape, .ref o_spare, .int o_tapeLength, .null, .int o_pixels]))]) [0] (by decide) rfl
  refine W.widen (k := 0) (n := 0) (by decide) (by decide) ?_
  refine lv_if_eq (tgt := 46) hx hb d_Gp_winding_5 (by decide) (fun c_1 => ?_) (fun c_1 => absurd c_1 (by decide))
  refine lv_sipush (v := (2000 : Int32)) hx hb d_Gp_winding_46 (by decide) ?_
  cases h
  exact W.iret hx hb hr (fun t ht hW => ⟨⟨_, (), rfl, rfl, by rw [ht]; exact hP, va_K.moved hW.alike hK, hD⟩, hS.F ht⟩) hS.2.2 d_Gp_winding_49 hlocks
def P_Gp_stamp_N  (a1 : Int32) (a2 : Int32) (a3 : Int32) : Option (Int32) :=
  some (-2 : Int32)
set_option maxHeartbeats 4000000 in
set_option maxRecDepth 100000 in
theorem c_Gp_stamp_N (l : Launch) (dC : Nat → ClassId) (dI : Nat → Nat → Nat) (cy : Nat → ClassId) (sz : Nat) (o : Nat) (o_page : Nat) (o_shape : Nat) (o_curves : Nat) (o_lines : Nat) (o_tape : Nat) (o_spare : Nat) (o_tapeLength : Int32) (o_pixels : Int32) (a1 : Int32) (a2 : Int32) (a3 : Int32) (uu : Int32) (h : P_Gp_stamp_N a1 a2 a3 = some uu) : Met l y_Gp_stamp (Cond.code y_Gp_stamp b_Gp_stamp 4 (some .int) :: G) ({ frames := 1, cells := 0, slots := 0, locals := 21 } : Room) (va_Pc [.ref o, .int a1, .int a2, .int a3] (fun U => U.heap.size = sz ∧ va_P (dC, dI) classes [(o, .inr (6, [.ref o_page, .ref o_shape, .ref o_curves, .ref o_lines, .ref o_tape, .ref o_spare, .int o_tapeLength, .null, .int o_pixels]))] U.heap ∧ va_K (dC, dI) classes (TY cy) U ∧ va_D (fun _ => True) [(o, .inr (6, [.ref o_page, .ref o_shape, .ref o_curves, .ref o_lines, .ref o_tape, .ref o_spare, .int o_tapeLength, .null, .int o_pixels]))])) (va_Qi (fun r (_ : Unit) => r = uu) (fun _ t => va_P (dC, dI) classes [(o, .inr (6, [.ref o_page, .ref o_shape, .ref o_curves, .ref o_lines, .ref o_tape, .ref o_spare, .int o_tapeLength, .null, .int o_pixels]))] t.heap ∧ va_K (dC, dI) classes (TY cy) t ∧ va_D (va_A [(o, .inr (6, [.ref o_page, .ref o_shape, .ref o_curves, .ref o_lines, .ref o_tape, .ref o_spare, .int o_tapeLength, .null, .int o_pixels]))] sz) [(o, .inr (6, [.ref o_page, .ref o_shape, .ref o_curves, .ref o_lines, .ref o_tape, .ref o_spare, .int o_tapeLength, .null, .int o_pixels]))]) (va_A [(o, .inr (6, [.ref o_page, .ref o_shape, .ref o_curves, .ref o_lines, .ref o_tape, .ref o_spare, .int o_tapeLength, .null, .int o_pixels]))] sz)) 0 0 (va_A [(o, .inr (6, [.ref o_page, .ref o_shape, .ref o_curves, .ref o_lines, .ref o_tape, .ref o_spare, .int o_tapeLength, .null, .int o_pixels]))] sz) := by
  refine Met.ofW (cc := b_Gp_stamp) (maxL := 4) (ret := (some .int)) (by decide) rfl ?_
  intro p e s m args below meth c s₁ B hml hv
  obtain ⟨rfl, hsz, hP, hK, hD0⟩ := hv
  have hx := B.exec
  have hb := B.bytes
  have hr := B.returns
  have hts := atoms_spec (ws := Cond.code y_Gp_stamp b_Gp_stamp 4 (some .int) :: G) B.pre
  have htsG : ∀ w ∈ G, w.before _ s = true := fun w hw => hts w (List.mem_cons_of_mem _ hw)
  have hown : s.vm.findClass "GlyphPage" = some m.cls := findClass_of_methodNamed B.named
  have hlocks := B.notSynchronized
  subst hsz
  have hD := hD0.self (sz := s.heap.size)
  generalize hAe : va_A [(o, .inr (6, [.ref o_page, .ref o_shape, .ref o_curves, .ref o_lines, .ref o_tape, .ref o_spare, .int o_tapeLength, .null, .int o_pixels]))] s.heap.size = A at hD ⊢
  have hA : ∀ q : Nat, s.heap.size ≤ q → A q := fun q h => by rw [← hAe]; exact Or.inr h
  have hS : va_S A s.heap s.heap [] := va_S.rf
  have hl := lv_entry ([.ref o, .int a1, .int a2, .int a3]) (n := 4) (Nat.le_of_ble_eq_true rfl)
  rw [lg_entry_eq]
  generalize (lg_sl ([.ref o, .int a1, .int a2, .int a3]) ++ List.replicate (4 - (lg_sl ([.ref o, .int a1, .int a2, .int a3])).length) Slot.unset).toArray = ls at hl ⊢
  have hl : lv_has ls 4 [(0, .ref o), (1, .int a1), (2, .int a2), (3, .int a3)] := hl
  have C0 : Cx p s m _ meth c A dC dI cy b_Gp_stamp 4 (some .int) "GlyphPage" := ⟨hx, hb, hr, hlocks, hml, hown, htsG, hA, hK⟩
  unfold P_Gp_stamp_N at h
  refine lv_aload_n hx hb d_Gp_stamp_0 rfl (lv_at hl 0 rfl) ?_
  refine lv_iload_n hx hb d_Gp_stamp_1 rfl (lv_at hl 1 rfl) ?_
  have hq : P_Gp_takesShape_N a1 = some (0 : Int32) := rfl
  have hPc := hP.sub (ws' := [(o, .inr (6, [.ref o_page, .ref o_shape, .ref o_curves, .ref o_lines, .ref o_tape, .ref o_spare, .int o_tapeLength, .null, .int o_pixels]))]) [0] rfl
  have hDc := hD.sub (ws' := [(o, .inr (6, [.ref o_page, .ref o_shape, .ref o_curves, .ref o_lines, .ref o_tape, .ref o_spare, .int o_tapeLength, .null, .int o_pixels]))]) [0] (by decide) rfl
  have hFc := va_free (wc := [(o, .inr (6, [.ref o_page, .ref o_shape, .ref o_curves, .ref o_lines, .ref o_tape, .ref o_spare, .int o_tapeLength, .null, .int o_pixels]))]) hD hS hA [0] rfl
  refine va_calli (va_runV (As := [.int a1]) (rest := []) ⟨hx, hb, hml, hown, htsG⟩ (c_Gp_takesShape_N l dC dI cy s.heap.size o o_page o_shape o_curves o_lines o_tape o_spare o_tapeLength o_pixels a1 (0 : Int32) hq) (cwV 1 htsG (gV mW542 mW544 mS_Gp_takesShape mW1 mW545) rfl rfl rfl (by decide +kernel) ⟨Nat.le_of_ble_eq_true rfl, Nat.le_of_ble_eq_true rfl⟩) ⟨fun a U g mk q => by obtain ⟨q0, q1, qP, qK, qD⟩ := q; exact ⟨q0, q1, qP, va_K.moved (u := U) (U := U.calling g mk a) (Vm.Alike.refl U.vm) qK, qD⟩, va_recv hK hPc (ci := 6) (q0 := 0) rfl rfl, fun U hU hW => ⟨rfl, by rw [hU], by rw [hU]; exact hPc, va_K.moved hW.alike hK, hDc.weaken (fun _ _ _ _ => trivial)⟩⟩ rfl rfl hl.1 rfl (lv_room (Nat.le_of_ble_eq_true rfl)) d_Gp_stamp_2 ⟨Nat.le_of_ble_eq_true rfl, Nat.le_of_ble_eq_true rfl⟩) hS (fun q _ h => hFc q h) hFc (fun rr u t H1 locs ht hvm hw hB hz1 hk1 hS => ?_)
  obtain ⟨hP1, hK1, hD1⟩ := hB
  rw [ht] at hP1
  replace hw : (0 : Int32) = rr := hw.symm
  subst hw
  obtain ⟨hP, hD⟩ := va_join (wr := []) (w1 := [(o, .inr (6, [.ref o_page, .ref o_shape, .ref o_curves, .ref o_lines, .ref o_tape, .ref o_spare, .int o_tapeLength, .null, .int o_pixels]))]) hP hD [0] [] rfl rfl (by decide) (by decide) hk1 hFc hP1 hD1
  generalize H1 = H at hP hS ⊢
  have hP := hP.sub (ws' := [(o, .inr (6, [.ref o_page, .ref o_shape, .ref o_curves, .ref o_lines, .ref o_tape, .ref o_spare, .int o_tapeLength, .null, .int o_pixels]))]) [0] rfl
  have hD := hD.sub (ws' := [(o, .inr (6, [.ref o_page, .ref o_shape, .ref o_curves, .ref o_lines, .ref o_tape, .ref o_spare, .int o_tapeLength, .null, .int o_pixels]))]) [0] (by decide) rfl
  refine W.widen (k := 0) (n := 0) (by decide) (by decide) ?_
  refine lv_if_eq (tgt := 17) hx hb d_Gp_stamp_5 (by decide) (fun c_1 => ?_) (fun c_1 => absurd c_1 (by decide))
  refine lv_bipush (v := (-2 : Int32)) hx hb d_Gp_stamp_17 (by decide) ?_
  cases h
  exact W.iret hx hb hr (fun t ht hW => ⟨⟨_, (), rfl, rfl, by rw [ht]; exact hP, va_K.moved hW.alike hK, hD⟩, hS.F ht⟩) hS.2.2 d_Gp_stamp_19 hlocks
def P_Gp_text_N (o_tapeLength : Int32) (a1 : Int32) (a2 : Int32) (a3 : Int32) : Option (Int32 × Int32) :=
  if (200 : Int32) < o_tapeLength then (some ((-1 : Int32), o_tapeLength)) else ((P_Cv_isNear a1).bind fun r_2 => if r_2 = 0 then (some ((-1 : Int32), o_tapeLength)) else ((P_Cv_isNear a2).bind fun r_4 => if r_4 = 0 then (some ((-1 : Int32), o_tapeLength)) else (if a3 < 0 then (some ((-1 : Int32), o_tapeLength)) else (if a3 ≤ (20000 : Int32) then (some ((-2 : Int32), (0 : Int32))) else (some ((-1 : Int32), o_tapeLength))))))
set_option maxHeartbeats 4000000 in
set_option maxRecDepth 100000 in
theorem c_Gp_text_N (l : Launch) (dC : Nat → ClassId) (dI : Nat → Nat → Nat) (cy : Nat → ClassId) (sz : Nat) (o : Nat) (o_page : Nat) (o_shape : Nat) (o_curves : Nat) (o_lines : Nat) (o_tape : Nat) (o_spare : Nat) (o_tapeLength : Int32) (o_pixels : Int32) (a1 : Int32) (a2 : Int32) (a3 : Int32) (uu : Int32 × Int32) (h : P_Gp_text_N o_tapeLength a1 a2 a3 = some uu) : Met l y_Gp_text (Cond.code y_Gp_text b_Gp_text 9 (some .int) :: G) ({ frames := 1, cells := 0, slots := 0, locals := 20 } : Room) (va_Pc [.ref o, .int a1, .int a2, .int a3] (fun U => U.heap.size = sz ∧ va_P (dC, dI) classes [(o, .inr (6, [.ref o_page, .ref o_shape, .ref o_curves, .ref o_lines, .ref o_tape, .ref o_spare, .int o_tapeLength, .null, .int o_pixels]))] U.heap ∧ va_K (dC, dI) classes (TY cy) U ∧ va_D (fun _ => True) [(o, .inr (6, [.ref o_page, .ref o_shape, .ref o_curves, .ref o_lines, .ref o_tape, .ref o_spare, .int o_tapeLength, .null, .int o_pixels]))])) (va_Qi (fun r (_ : Unit) => r = uu.1) (fun _ t => va_P (dC, dI) classes [(o, .inr (6, [.ref o_page, .ref o_shape, .ref o_curves, .ref o_lines, .ref o_tape, .ref o_spare, .int uu.2, .null, .int o_pixels]))] t.heap ∧ va_K (dC, dI) classes (TY cy) t ∧ va_D (va_A [(o, .inr (6, [.ref o_page, .ref o_shape, .ref o_curves, .ref o_lines, .ref o_tape, .ref o_spare, .int o_tapeLength, .null, .int o_pixels]))] sz) [(o, .inr (6, [.ref o_page, .ref o_shape, .ref o_curves, .ref o_lines, .ref o_tape, .ref o_spare, .int uu.2, .null, .int o_pixels]))]) (va_A [(o, .inr (6, [.ref o_page, .ref o_shape, .ref o_curves, .ref o_lines, .ref o_tape, .ref o_spare, .int o_tapeLength, .null, .int o_pixels]))] sz)) 0 0 (va_A [(o, .inr (6, [.ref o_page, .ref o_shape, .ref o_curves, .ref o_lines, .ref o_tape, .ref o_spare, .int o_tapeLength, .null, .int o_pixels]))] sz) := by
  refine Met.ofW (cc := b_Gp_text) (maxL := 9) (ret := (some .int)) (by decide) rfl ?_
  intro p e s m args below meth c s₁ B hml hv
  obtain ⟨rfl, hsz, hP, hK, hD0⟩ := hv
  have hx := B.exec
  have hb := B.bytes
  have hr := B.returns
  have hts := atoms_spec (ws := Cond.code y_Gp_text b_Gp_text 9 (some .int) :: G) B.pre
  have htsG : ∀ w ∈ G, w.before _ s = true := fun w hw => hts w (List.mem_cons_of_mem _ hw)
  have hown : s.vm.findClass "GlyphPage" = some m.cls := findClass_of_methodNamed B.named
  have hlocks := B.notSynchronized
  subst hsz
  have hD := hD0.self (sz := s.heap.size)
  generalize hAe : va_A [(o, .inr (6, [.ref o_page, .ref o_shape, .ref o_curves, .ref o_lines, .ref o_tape, .ref o_spare, .int o_tapeLength, .null, .int o_pixels]))] s.heap.size = A at hD ⊢
  have hA : ∀ q : Nat, s.heap.size ≤ q → A q := fun q h => by rw [← hAe]; exact Or.inr h
  have hS : va_S A s.heap s.heap [] := va_S.rf
  have hl := lv_entry ([.ref o, .int a1, .int a2, .int a3]) (n := 9) (Nat.le_of_ble_eq_true rfl)
  rw [lg_entry_eq]
  generalize (lg_sl ([.ref o, .int a1, .int a2, .int a3]) ++ List.replicate (9 - (lg_sl ([.ref o, .int a1, .int a2, .int a3])).length) Slot.unset).toArray = ls at hl ⊢
  have hl : lv_has ls 9 [(0, .ref o), (1, .int a1), (2, .int a2), (3, .int a3)] := hl
  have C0 : Cx p s m _ meth c A dC dI cy b_Gp_text 9 (some .int) "GlyphPage" := ⟨hx, hb, hr, hlocks, hml, hown, htsG, hA, hK⟩
  unfold P_Gp_text_N at h
  refine lv_aload_n hx hb d_Gp_text_0 rfl (lv_at hl 0 rfl) ?_
  refine va_get (D := (dC, dI)) (ci := 6) (v := .int o_tapeLength) (C := "GlyphPage") (T := F_Gp) (N := 9) hx hb htsG iG_Gp hown hK hP 0 rfl rfl 6 (by decide) (htsG _ mW252) (fun _ h9 => h9) rfl d_Gp_text_1 ?_
  refine lv_sipush (v := (200 : Int32)) hx hb d_Gp_text_4 (by decide) ?_
  refine lv_icmp_gt (tgt := 35) hx hb d_Gp_text_7 (by decide) (fun c_1 => ?_) (fun c_1 => ?_)
  · replace h := (if_pos c_1).symm.trans h
    refine lv_iconst (v := (-1 : Int32)) hx hb d_Gp_text_35 (by decide) ?_
    cases h
    exact W.iret hx hb hr (fun t ht hW => ⟨⟨_, (), rfl, rfl, by rw [ht]; exact hP, va_K.moved hW.alike hK, hD⟩, hS.F ht⟩) hS.2.2 d_Gp_text_36 hlocks
  · replace h := (if_neg c_1).symm.trans h
    refine lv_iload_n hx hb d_Gp_text_10 rfl (lv_at hl 1 rfl) ?_
    obtain ⟨r_2, hq, h⟩ := Option.bind_eq_some_iff.mp h
    try dsimp only at h
    have hPc := hP.sub (ws' := []) [] rfl
    have hDc := hD.sub (ws' := []) [] (by decide) rfl
    have hFc := va_free (wc := []) hD hS hA [] rfl
    refine va_calli (va_runS (As := [.int a1]) (rest := []) ⟨hx, hb, hml, hown, htsG⟩ (c_Cv_isNear l dC dI cy s.heap.size a1 r_2 hq) (va_cwS 1 htsG (gS mW569 mW570 mW5 mW571) rfl rfl rfl (by decide +kernel) ⟨Nat.le_of_ble_eq_true rfl, Nat.le_of_ble_eq_true rfl⟩) ⟨fun a U g mk q => by obtain ⟨q0, q1, qP, qK, qD⟩ := q; exact ⟨q0, q1, qP, va_K.moved (u := U) (U := U.calling g mk a) (Vm.Alike.refl U.vm) qK, qD⟩, fun U hU hW => ⟨rfl, by rw [hU], by rw [hU]; exact hPc, va_K.moved hW.alike hK, hDc.weaken (fun _ _ _ _ => trivial)⟩⟩ rfl rfl hl.1 rfl (lv_room (Nat.le_of_ble_eq_true rfl)) d_Gp_text_11 ⟨Nat.le_of_ble_eq_true rfl, Nat.le_of_ble_eq_true rfl⟩) hS (fun q _ h => hFc q h) hFc (fun rr u t H1 locs ht hvm hw hB hz1 hk1 hS => ?_)
    obtain ⟨hP1, hK1, hD1⟩ := hB
    rw [ht] at hP1
    replace hw : r_2 = rr := hw.symm
    subst hw
    obtain ⟨hP, hD⟩ := va_join (wr := [(o, .inr (6, [.ref o_page, .ref o_shape, .ref o_curves, .ref o_lines, .ref o_tape, .ref o_spare, .int o_tapeLength, .null, .int o_pixels]))]) (w1 := []) hP hD [] [0] rfl rfl (by decide) (by decide) hk1 hFc hP1 hD1
    generalize H1 = H at hP hS ⊢
    have hP := hP.sub (ws' := [(o, .inr (6, [.ref o_page, .ref o_shape, .ref o_curves, .ref o_lines, .ref o_tape, .ref o_spare, .int o_tapeLength, .null, .int o_pixels]))]) [0] rfl
    have hD := hD.sub (ws' := [(o, .inr (6, [.ref o_page, .ref o_shape, .ref o_curves, .ref o_lines, .ref o_tape, .ref o_spare, .int o_tapeLength, .null, .int o_pixels]))]) [0] (by decide) rfl
    refine W.widen (k := 0) (n := 0) (by decide) (by decide) ?_
    refine lv_if_eq (tgt := 35) hx hb d_Gp_text_14 (by decide) (fun c_3 => ?_) (fun c_3 => ?_)
    · replace h := (if_pos c_3).symm.trans h
      refine lv_iconst (v := (-1 : Int32)) hx hb d_Gp_text_35 (by decide) ?_
      cases h
      exact W.iret hx hb hr (fun t ht hW => ⟨⟨_, (), rfl, rfl, by rw [ht]; exact hP, va_K.moved hW.alike hK, hD⟩, hS.F ht⟩) hS.2.2 d_Gp_text_36 hlocks
    · replace h := (if_neg c_3).symm.trans h
      refine lv_iload_n hx hb d_Gp_text_17 rfl (lv_at hl 2 rfl) ?_
      obtain ⟨r_4, hq, h⟩ := Option.bind_eq_some_iff.mp h
      try dsimp only at h
      have hPc := hP.sub (ws' := []) [] rfl
      have hDc := hD.sub (ws' := []) [] (by decide) rfl
      have hFc := va_free (wc := []) hD hS hA [] rfl
      refine va_calli (va_runS (As := [.int a2]) (rest := []) ⟨hx, hb, hml, hown, htsG⟩ (c_Cv_isNear l dC dI cy H.size a2 r_4 hq) (va_cwS 1 htsG (gS mW569 mW570 mW5 mW571) rfl rfl rfl (by decide +kernel) ⟨Nat.le_of_ble_eq_true rfl, Nat.le_of_ble_eq_true rfl⟩) ⟨fun a U g mk q => by obtain ⟨q0, q1, qP, qK, qD⟩ := q; exact ⟨q0, q1, qP, va_K.moved (u := U) (U := U.calling g mk a) (Vm.Alike.refl U.vm) qK, qD⟩, fun U hU hW => ⟨rfl, by rw [hU], by rw [hU]; exact hPc, va_K.moved hW.alike hK, hDc.weaken (fun _ _ _ _ => trivial)⟩⟩ rfl rfl hl.1 rfl (lv_room (Nat.le_of_ble_eq_true rfl)) d_Gp_text_18 ⟨Nat.le_of_ble_eq_true rfl, Nat.le_of_ble_eq_true rfl⟩) hS (fun q _ h => hFc q h) hFc (fun rr u t H1 locs ht hvm hw hB hz1 hk1 hS => ?_)
      obtain ⟨hP1, hK1, hD1⟩ := hB
      rw [ht] at hP1
      replace hw : r_4 = rr := hw.symm
      subst hw
      obtain ⟨hP, hD⟩ := va_join (wr := [(o, .inr (6, [.ref o_page, .ref o_shape, .ref o_curves, .ref o_lines, .ref o_tape, .ref o_spare, .int o_tapeLength, .null, .int o_pixels]))]) (w1 := []) hP hD [] [0] rfl rfl (by decide) (by decide) hk1 hFc hP1 hD1
      generalize H1 = H at hP hS ⊢
      have hP := hP.sub (ws' := [(o, .inr (6, [.ref o_page, .ref o_shape, .ref o_curves, .ref o_lines, .ref o_tape, .ref o_spare, .int o_tapeLength, .null, .int o_pixels]))]) [0] rfl
      have hD := hD.sub (ws' := [(o, .inr (6, [.ref o_page, .ref o_shape, .ref o_curves, .ref o_lines, .ref o_tape, .ref o_spare, .int o_tapeLength, .null, .int o_pixels]))]) [0] (by decide) rfl
      refine W.widen (k := 0) (n := 0) (by decide) (by decide) ?_
      refine lv_if_eq (tgt := 35) hx hb d_Gp_text_21 (by decide) (fun c_5 => ?_) (fun c_5 => ?_)
      · replace h := (if_pos c_5).symm.trans h
        refine lv_iconst (v := (-1 : Int32)) hx hb d_Gp_text_35 (by decide) ?_
        cases h
        exact W.iret hx hb hr (fun t ht hW => ⟨⟨_, (), rfl, rfl, by rw [ht]; exact hP, va_K.moved hW.alike hK, hD⟩, hS.F ht⟩) hS.2.2 d_Gp_text_36 hlocks
      · replace h := (if_neg c_5).symm.trans h
        refine lv_iload_n hx hb d_Gp_text_24 rfl (lv_at hl 3 rfl) ?_
        refine lv_if_lt (tgt := 35) hx hb d_Gp_text_25 (by decide) (fun c_6 => ?_) (fun c_6 => ?_)
        · replace h := (if_pos c_6).symm.trans h
          refine lv_iconst (v := (-1 : Int32)) hx hb d_Gp_text_35 (by decide) ?_
          cases h
          exact W.iret hx hb hr (fun t ht hW => ⟨⟨_, (), rfl, rfl, by rw [ht]; exact hP, va_K.moved hW.alike hK, hD⟩, hS.F ht⟩) hS.2.2 d_Gp_text_36 hlocks
        · replace h := (if_neg c_6).symm.trans h
          refine lv_iload_n hx hb d_Gp_text_28 rfl (lv_at hl 3 rfl) ?_
          refine lv_sipush (v := (20000 : Int32)) hx hb d_Gp_text_29 (by decide) ?_
          refine lv_icmp_le (tgt := 37) hx hb d_Gp_text_32 (by decide) (fun c_7 => ?_) (fun c_7 => ?_)
          · replace h := (if_pos c_7).symm.trans h
            refine lv_aload_n hx hb d_Gp_text_37 rfl (lv_at hl 0 rfl) ?_
            refine va_get (D := (dC, dI)) (ci := 6) (v := .int o_tapeLength) (C := "GlyphPage") (T := F_Gp) (N := 9) hx hb htsG iG_Gp hown hK hP 0 rfl rfl 6 (by decide) (htsG _ mW252) (fun _ h9 => h9) rfl d_Gp_text_38 ?_
            refine lv_istore (lv' := [(4, .int o_tapeLength), (0, .ref o), (1, .int a1), (2, .int a2), (3, .int a3)]) hx hb d_Gp_text_41 hl (by decide) rfl (fun ls hl => ?_)
            refine lv_aload_n hx hb d_Gp_text_43 rfl (lv_at hl 1 rfl) ?_
            refine lv_iconst (v := (0 : Int32)) hx hb d_Gp_text_44 (by decide) ?_
            refine va_put (D := (dC, dI)) (ci := 6) (v := .int (0 : Int32)) (ty := .int) (C := "GlyphPage") (T := F_Gp) (N := 9) hx hb htsG iG_Gp t_Gp t_Gp_ok n_Gp hown hK hP hD hS 0 rfl rfl 6 (by decide) (htsG _ mW252) (fun _ h9 => h9) rfl (by decide +kernel) rfl rfl (Nat.le_of_ble_eq_true rfl) d_Gp_text_45 (fun H locs hP hD hS => ?_)
            have hP : va_P (dC, dI) classes [(o, .inr (6, [.ref o_page, .ref o_shape, .ref o_curves, .ref o_lines, .ref o_tape, .ref o_spare, .int (0 : Int32), .null, .int o_pixels]))] H := hP
            have hD : va_D A [(o, .inr (6, [.ref o_page, .ref o_shape, .ref o_curves, .ref o_lines, .ref o_tape, .ref o_spare, .int (0 : Int32), .null, .int o_pixels]))] := hD
            refine lv_aload_n hx hb d_Gp_text_48 rfl (lv_at hl 1 rfl) ?_
            refine va_get (D := (dC, dI)) (ci := 6) (v := .null) (C := "GlyphPage") (T := F_Gp) (N := 9) hx hb htsG iG_Gp hown hK hP 0 rfl rfl 7 (by decide) (htsG _ mW253) (fun _ h9 => h9) rfl d_Gp_text_49 ?_
            refine lv_ifnonnullN hx hb d_Gp_text_52 ?_
            refine lv_bipush (v := (-2 : Int32)) hx hb d_Gp_text_55 (by decide) ?_
            cases h
            exact W.iret hx hb hr (fun t ht hW => ⟨⟨_, (), rfl, rfl, by rw [ht]; exact hP, va_K.moved hW.alike hK, hD⟩, hS.F ht⟩) hS.2.2 d_Gp_text_57 hlocks
          · replace h := (if_neg c_7).symm.trans h
            refine lv_iconst (v := (-1 : Int32)) hx hb d_Gp_text_35 (by decide) ?_
            cases h
            exact W.iret hx hb hr (fun t ht hW => ⟨⟨_, (), rfl, rfl, by rw [ht]; exact hP, va_K.moved hW.alike hK, hD⟩, hS.F ht⟩) hS.2.2 d_Gp_text_36 hlocks
end
