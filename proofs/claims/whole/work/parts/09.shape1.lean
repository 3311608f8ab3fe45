theorem mW2 : (Jvm.Cond.initialized "GlyphPage$Shape") ∈ G := inG (inT1 (List.mem_of_getElem? (i := 2) rfl)) rfl
theorem mW3 : (Jvm.Cond.initialized "GlyphPage$Reader") ∈ G := inG (inT1 (List.mem_of_getElem? (i := 3) rfl)) rfl
theorem mW4 : (Jvm.Cond.initialized "GlyphPage$Part") ∈ G := inG (inT1 (List.mem_of_getElem? (i := 4) rfl)) rfl
theorem mW57 : (Jvm.Cond.fieldLink "GlyphPage$Part" (7 : Nat) "GlyphPage$Part" "glyph" "I") ∈ G := inG (inT1 (List.mem_of_getElem? (i := 57) rfl)) rfl
theorem mW59 : (Jvm.Cond.fieldLink "GlyphPage$Part" (13 : Nat) "GlyphPage$Part" "isLast" "Z") ∈ G := inG (inT1 (List.mem_of_getElem? (i := 59) rfl)) rfl
theorem mW61 : (Jvm.Cond.fieldLink "GlyphPage$Part" (17 : Nat) "GlyphPage$Part" "dx" "I") ∈ G := inG (inT1 (List.mem_of_getElem? (i := 61) rfl)) rfl
theorem mW62 : (Jvm.Cond.fieldLink "GlyphPage$Part" (20 : Nat) "GlyphPage$Part" "dy" "I") ∈ G := inG (inT1 (List.mem_of_getElem? (i := 62) rfl)) rfl
theorem mW63 : (Jvm.Cond.fieldLink "GlyphPage$Part" (23 : Nat) "GlyphPage$Part" "a" "I") ∈ G := inG (inT1 (List.mem_of_getElem? (i := 63) rfl)) rfl
theorem mW64 : (Jvm.Cond.fieldLink "GlyphPage$Part" (26 : Nat) "GlyphPage$Part" "b" "I") ∈ G := inG (inT1 (List.mem_of_getElem? (i := 64) rfl)) rfl
theorem mW65 : (Jvm.Cond.fieldLink "GlyphPage$Part" (29 : Nat) "GlyphPage$Part" "c" "I") ∈ G := inG (inT1 (List.mem_of_getElem? (i := 65) rfl)) rfl
theorem mW66 : (Jvm.Cond.fieldLink "GlyphPage$Part" (32 : Nat) "GlyphPage$Part" "d" "I") ∈ G := inG (inT1 (List.mem_of_getElem? (i := 66) rfl)) rfl
theorem mW84 : (Jvm.Cond.fieldLink "GlyphPage$Shape" (9 : Nat) "GlyphPage$Shape" "xs" "[I") ∈ G := inG (inT1 (List.mem_of_getElem? (i := 84) rfl)) rfl
theorem mW87 : (Jvm.Cond.fieldLink "GlyphPage$Shape" (13 : Nat) "GlyphPage$Shape" "ys" "[I") ∈ G := inG (inT1 (List.mem_of_getElem? (i := 87) rfl)) rfl
theorem mW90 : (Jvm.Cond.fieldLink "GlyphPage$Shape" (16 : Nat) "GlyphPage$Shape" "on" "[Z") ∈ G := inG (inT1 (List.mem_of_getElem? (i := 90) rfl)) rfl
theorem mW93 : (Jvm.Cond.fieldLink "GlyphPage$Shape" (20 : Nat) "GlyphPage$Shape" "lasts" "[I") ∈ G := inG (inT1 (List.mem_of_getElem? (i := 93) rfl)) rfl
theorem mW95 : (Jvm.Cond.fieldLink "GlyphPage$Shape" (23 : Nat) "GlyphPage$Shape" "points" "I") ∈ G := inG (inT1 (List.mem_of_getElem? (i := 95) rfl)) rfl
theorem mW98 : (Jvm.Cond.fieldLink "GlyphPage$Shape" (27 : Nat) "GlyphPage$Shape" "contours" "I") ∈ G := inG (inT1 (List.mem_of_getElem? (i := 98) rfl)) rfl
theorem mW102 : (Jvm.Cond.fieldLink "GlyphPage$Shape" (33 : Nat) "GlyphPage$Shape" "flags" "[I") ∈ G := inG (inT1 (List.mem_of_getElem? (i := 102) rfl)) rfl
theorem mW300 : (Jvm.Cond.fieldLink "GlyphPage$Reader" (24 : Nat) "GlyphPage$FontFile" "bytes" "[B") ∈ G := inG (inT2 (List.mem_of_getElem? (i := 60) rfl)) rfl
theorem mW302 : (Jvm.Cond.fieldLink "GlyphPage$Reader" (33 : Nat) "GlyphPage$FontFile" "length" "I") ∈ G := inG (inT2 (List.mem_of_getElem? (i := 62) rfl)) rfl
theorem mW451 : (Jvm.Cond.methodLink "GlyphPage$Reader" (27 : Nat) ({ cls := "java/lang/Math", name := "max", desc := "(II)I" } : Jvm.MethodName)) ∈ G := inG (inT2 (List.mem_of_getElem? (i := 211) rfl)) rfl
theorem mW452 : (Jvm.Cond.methodLink "GlyphPage$Reader" (36 : Nat) ({ cls := "java/lang/Math", name := "min", desc := "(II)I" } : Jvm.MethodName)) ∈ G := inG (inT2 (List.mem_of_getElem? (i := 212) rfl)) rfl
theorem mW453 : (Jvm.Cond.methodLink "GlyphPage$Shape" (63 : Nat) ({ cls := "GlyphPage$Reader", name := "two", desc := "()I" } : Jvm.MethodName)) ∈ G := inG (inT2 (List.mem_of_getElem? (i := 213) rfl)) rfl
theorem mW454 : (Jvm.Cond.instanceMethod ({ cls := "GlyphPage$Reader", name := "two", desc := "()I" } : Jvm.MethodName)) ∈ G := inG (inT2 (List.mem_of_getElem? (i := 214) rfl)) rfl
theorem mW455 : (Jvm.Cond.selects "GlyphPage$Reader" ({ cls := "GlyphPage$Reader", name := "two", desc := "()I" } : Jvm.MethodName) ({ cls := "GlyphPage$Reader", name := "two", desc := "()I" } : Jvm.MethodName)) ∈ G := inG (inT2 (List.mem_of_getElem? (i := 215) rfl)) rfl
theorem mW456 : (Jvm.Cond.code ({ cls := "GlyphPage$Reader", name := "two", desc := "()I" } : Jvm.MethodName) prog_7_method_6_code (1 : Nat) (Option.some Jvm.ClassFile.FieldType.int)) ∈ G := inG (inT2 (List.mem_of_getElem? (i := 216) rfl)) rfl
theorem mW457 : (Jvm.Cond.methodLink "GlyphPage$Shape" (67 : Nat) ({ cls := "GlyphPage$Reader", name := "skip", desc := "(I)V" } : Jvm.MethodName)) ∈ G := inG (inT2 (List.mem_of_getElem? (i := 217) rfl)) rfl
theorem mW458 : (Jvm.Cond.instanceMethod ({ cls := "GlyphPage$Reader", name := "skip", desc := "(I)V" } : Jvm.MethodName)) ∈ G := inG (inT2 (List.mem_of_getElem? (i := 218) rfl)) rfl
theorem mW459 : (Jvm.Cond.selects "GlyphPage$Reader" ({ cls := "GlyphPage$Reader", name := "skip", desc := "(I)V" } : Jvm.MethodName) ({ cls := "GlyphPage$Reader", name := "skip", desc := "(I)V" } : Jvm.MethodName)) ∈ G := inG (inT2 (List.mem_of_getElem? (i := 219) rfl)) rfl
theorem mW460 : (Jvm.Cond.code ({ cls := "GlyphPage$Reader", name := "skip", desc := "(I)V" } : Jvm.MethodName) prog_7_method_4_code (2 : Nat) (Option.none : Option Jvm.ClassFile.FieldType)) ∈ G := inG (inT2 (List.mem_of_getElem? (i := 220) rfl)) rfl
theorem mW469 : (Jvm.Cond.methodLink "GlyphPage$Part" (35 : Nat) ({ cls := "GlyphPage$Reader", name := "two", desc := "()I" } : Jvm.MethodName)) ∈ G := inG (inT2 (List.mem_of_getElem? (i := 229) rfl)) rfl
theorem mW470 : (Jvm.Cond.methodLink "GlyphPage$Part" (41 : Nat) ({ cls := "GlyphPage$Reader", name := "one", desc := "()I" } : Jvm.MethodName)) ∈ G := inG (inT2 (List.mem_of_getElem? (i := 230) rfl)) rfl
theorem mW471 : (Jvm.Cond.instanceMethod ({ cls := "GlyphPage$Reader", name := "one", desc := "()I" } : Jvm.MethodName)) ∈ G := inG (inT2 (List.mem_of_getElem? (i := 231) rfl)) rfl
theorem mW472 : (Jvm.Cond.selects "GlyphPage$Reader" ({ cls := "GlyphPage$Reader", name := "one", desc := "()I" } : Jvm.MethodName) ({ cls := "GlyphPage$Reader", name := "one", desc := "()I" } : Jvm.MethodName)) ∈ G := inG (inT2 (List.mem_of_getElem? (i := 232) rfl)) rfl
theorem mW473 : (Jvm.Cond.code ({ cls := "GlyphPage$Reader", name := "one", desc := "()I" } : Jvm.MethodName) prog_7_method_5_code (1 : Nat) (Option.some Jvm.ClassFile.FieldType.int)) ∈ G := inG (inT2 (List.mem_of_getElem? (i := 233) rfl)) rfl
theorem mW474 : (Jvm.Cond.methodLink "GlyphPage$Part" (44 : Nat) ({ cls := "GlyphPage$Reader", name := "isWhole", desc := "()Z" } : Jvm.MethodName)) ∈ G := inG (inT2 (List.mem_of_getElem? (i := 234) rfl)) rfl
theorem mW475 : (Jvm.Cond.instanceMethod ({ cls := "GlyphPage$Reader", name := "isWhole", desc := "()Z" } : Jvm.MethodName)) ∈ G := inG (inT2 (List.mem_of_getElem? (i := 235) rfl)) rfl
theorem mW476 : (Jvm.Cond.selects "GlyphPage$Reader" ({ cls := "GlyphPage$Reader", name := "isWhole", desc := "()Z" } : Jvm.MethodName) ({ cls := "GlyphPage$Reader", name := "isWhole", desc := "()Z" } : Jvm.MethodName)) ∈ G := inG (inT2 (List.mem_of_getElem? (i := 236) rfl)) rfl
theorem mW477 : (Jvm.Cond.code ({ cls := "GlyphPage$Reader", name := "isWhole", desc := "()Z" } : Jvm.MethodName) prog_7_method_3_code (1 : Nat) (Option.some Jvm.ClassFile.FieldType.boolean)) ∈ G := inG (inT2 (List.mem_of_getElem? (i := 237) rfl)) rfl
theorem mW482 : (Jvm.Cond.methodLink "GlyphPage$Shape" (96 : Nat) ({ cls := "GlyphPage$Part", name := "movedX", desc := "(II)I" } : Jvm.MethodName)) ∈ G := inG (inT3 (List.mem_of_getElem? (i := 2) rfl)) rfl
theorem mW483 : (Jvm.Cond.instanceMethod ({ cls := "GlyphPage$Part", name := "movedX", desc := "(II)I" } : Jvm.MethodName)) ∈ G := inG (inT3 (List.mem_of_getElem? (i := 3) rfl)) rfl
theorem mW484 : (Jvm.Cond.selects "GlyphPage$Part" ({ cls := "GlyphPage$Part", name := "movedX", desc := "(II)I" } : Jvm.MethodName) ({ cls := "GlyphPage$Part", name := "movedX", desc := "(II)I" } : Jvm.MethodName)) ∈ G := inG (inT3 (List.mem_of_getElem? (i := 4) rfl)) rfl
theorem mW485 : (Jvm.Cond.code ({ cls := "GlyphPage$Part", name := "movedX", desc := "(II)I" } : Jvm.MethodName) prog_6_method_3_code (3 : Nat) (Option.some Jvm.ClassFile.FieldType.int)) ∈ G := inG (inT3 (List.mem_of_getElem? (i := 5) rfl)) rfl
theorem mW486 : (Jvm.Cond.constantLong "GlyphPage$Part" (48 : Nat) (8192 : Int64)) ∈ G := inG (inT3 (List.mem_of_getElem? (i := 6) rfl)) rfl
theorem mW487 : (Jvm.Cond.methodLink "GlyphPage$Shape" (100 : Nat) ({ cls := "GlyphPage$Part", name := "movedY", desc := "(II)I" } : Jvm.MethodName)) ∈ G := inG (inT3 (List.mem_of_getElem? (i := 7) rfl)) rfl
theorem mW488 : (Jvm.Cond.instanceMethod ({ cls := "GlyphPage$Part", name := "movedY", desc := "(II)I" } : Jvm.MethodName)) ∈ G := inG (inT3 (List.mem_of_getElem? (i := 8) rfl)) rfl
theorem mW489 : (Jvm.Cond.selects "GlyphPage$Part" ({ cls := "GlyphPage$Part", name := "movedY", desc := "(II)I" } : Jvm.MethodName) ({ cls := "GlyphPage$Part", name := "movedY", desc := "(II)I" } : Jvm.MethodName)) ∈ G := inG (inT3 (List.mem_of_getElem? (i := 9) rfl)) rfl
theorem mW490 : (Jvm.Cond.code ({ cls := "GlyphPage$Part", name := "movedY", desc := "(II)I" } : Jvm.MethodName) prog_6_method_4_code (3 : Nat) (Option.some Jvm.ClassFile.FieldType.int)) ∈ G := inG (inT3 (List.mem_of_getElem? (i := 10) rfl)) rfl
theorem mW491 : (Jvm.Cond.methodLink "GlyphPage$Shape" (103 : Nat) ({ cls := "GlyphPage$Shape", name := "isCoordinate", desc := "(I)Z" } : Jvm.MethodName)) ∈ G := inG (inT3 (List.mem_of_getElem? (i := 11) rfl)) rfl
theorem mW492 : (Jvm.Cond.static ({ cls := "GlyphPage$Shape", name := "isCoordinate", desc := "(I)Z" } : Jvm.MethodName)) ∈ G := inG (inT3 (List.mem_of_getElem? (i := 12) rfl)) rfl
theorem mW493 : (Jvm.Cond.code ({ cls := "GlyphPage$Shape", name := "isCoordinate", desc := "(I)Z" } : Jvm.MethodName) prog_8_method_7_code (1 : Nat) (Option.some Jvm.ClassFile.FieldType.boolean)) ∈ G := inG (inT3 (List.mem_of_getElem? (i := 13) rfl)) rfl
theorem mW498 : (Jvm.Cond.methodLink "GlyphPage$Shape" (107 : Nat) ({ cls := "GlyphPage$Shape", name := "readFlags", desc := "(LGlyphPage$Reader;I)Z" } : Jvm.MethodName)) ∈ G := inG (inT3 (List.mem_of_getElem? (i := 18) rfl)) rfl
theorem mW500 : (Jvm.Cond.instanceMethod ({ cls := "GlyphPage$Shape", name := "readFlags", desc := "(LGlyphPage$Reader;I)Z" } : Jvm.MethodName)) ∈ G := inG (inT3 (List.mem_of_getElem? (i := 20) rfl)) rfl
theorem mW501 : (Jvm.Cond.code ({ cls := "GlyphPage$Shape", name := "readFlags", desc := "(LGlyphPage$Reader;I)Z" } : Jvm.MethodName) prog_8_method_9_code (6 : Nat) (Option.some Jvm.ClassFile.FieldType.boolean)) ∈ G := inG (inT3 (List.mem_of_getElem? (i := 21) rfl)) rfl
theorem mW502 : (Jvm.Cond.methodLink "GlyphPage$Shape" (118 : Nat) ({ cls := "GlyphPage$Reader", name := "one", desc := "()I" } : Jvm.MethodName)) ∈ G := inG (inT3 (List.mem_of_getElem? (i := 22) rfl)) rfl
theorem mW503 : (Jvm.Cond.methodLink "GlyphPage$Shape" (110 : Nat) ({ cls := "GlyphPage$Shape", name := "readAxis", desc := "(LGlyphPage$Reader;I[III)Z" } : Jvm.MethodName)) ∈ G := inG (inT3 (List.mem_of_getElem? (i := 23) rfl)) rfl
theorem mW505 : (Jvm.Cond.instanceMethod ({ cls := "GlyphPage$Shape", name := "readAxis", desc := "(LGlyphPage$Reader;I[III)Z" } : Jvm.MethodName)) ∈ G := inG (inT3 (List.mem_of_getElem? (i := 25) rfl)) rfl
theorem mW506 : (Jvm.Cond.code ({ cls := "GlyphPage$Shape", name := "readAxis", desc := "(LGlyphPage$Reader;I[III)Z" } : Jvm.MethodName) prog_8_method_10_code (10 : Nat) (Option.some Jvm.ClassFile.FieldType.boolean)) ∈ G := inG (inT3 (List.mem_of_getElem? (i := 26) rfl)) rfl
theorem mW507 : (Jvm.Cond.methodLink "GlyphPage$Shape" (114 : Nat) ({ cls := "GlyphPage$Reader", name := "isWhole", desc := "()Z" } : Jvm.MethodName)) ∈ G := inG (inT3 (List.mem_of_getElem? (i := 27) rfl)) rfl
theorem mS_Sh_readAxis : Cond.selects "GlyphPage$Shape" ⟨"GlyphPage$Shape", "readAxis", "(LGlyphPage$Reader;I[III)Z"⟩ ⟨"GlyphPage$Shape", "readAxis", "(LGlyphPage$Reader;I[III)Z"⟩ ∈ G := inGp (q := (⟨"GlyphPage$Shape", "readAxis", "(LGlyphPage$Reader;I[III)Z"⟩, 10)) (List.mem_append_right _ (List.mem_append_left _ (List.mem_of_getElem? (i := 6) rfl))) rfl
theorem mS_Sh_readFlags : Cond.selects "GlyphPage$Shape" ⟨"GlyphPage$Shape", "readFlags", "(LGlyphPage$Reader;I)Z"⟩ ⟨"GlyphPage$Shape", "readFlags", "(LGlyphPage$Reader;I)Z"⟩ ∈ G := inGp (q := (⟨"GlyphPage$Shape", "readFlags", "(LGlyphPage$Reader;I)Z"⟩, 10)) (List.mem_append_right _ (List.mem_append_left _ (List.mem_of_getElem? (i := 5) rfl))) rfl
abbrev b_Rd_open : ByteArray := prog_7_method_2_code
def y_Rd_open : MethodName := ⟨"GlyphPage$Reader", "open", "(LGlyphPage$FontFile;II)V"⟩
theorem d_Rd_open_0 : decode b_Rd_open 0 = .ok (.aload_n 0, 1) := by decide +kernel
theorem d_Rd_open_1 : decode b_Rd_open 1 = .ok (.aload_n 1, 1) := by decide +kernel
theorem d_Rd_open_2 : decode b_Rd_open 2 = .ok (.getfield 24, 3) := by decide +kernel
theorem d_Rd_open_5 : decode b_Rd_open 5 = .ok (.putfield 7, 3) := by decide +kernel
theorem d_Rd_open_8 : decode b_Rd_open 8 = .ok (.aload_n 0, 1) := by decide +kernel
theorem d_Rd_open_9 : decode b_Rd_open 9 = .ok (.iconst 0, 1) := by decide +kernel
theorem d_Rd_open_10 : decode b_Rd_open 10 = .ok (.iload_n 2, 1) := by decide +kernel
theorem d_Rd_open_11 : decode b_Rd_open 11 = .ok (.invokestatic 27, 3) := by decide +kernel
theorem d_Rd_open_14 : decode b_Rd_open 14 = .ok (.putfield 13, 3) := by decide +kernel
theorem d_Rd_open_17 : decode b_Rd_open 17 = .ok (.aload_n 0, 1) := by decide +kernel
theorem d_Rd_open_18 : decode b_Rd_open 18 = .ok (.iload_n 3, 1) := by decide +kernel
theorem d_Rd_open_19 : decode b_Rd_open 19 = .ok (.aload_n 1, 1) := by decide +kernel
theorem d_Rd_open_20 : decode b_Rd_open 20 = .ok (.getfield 33, 3) := by decide +kernel
theorem d_Rd_open_23 : decode b_Rd_open 23 = .ok (.invokestatic 36, 3) := by decide +kernel
theorem d_Rd_open_26 : decode b_Rd_open 26 = .ok (.putfield 17, 3) := by decide +kernel
theorem d_Rd_open_29 : decode b_Rd_open 29 = .ok (.aload_n 0, 1) := by decide +kernel
theorem d_Rd_open_30 : decode b_Rd_open 30 = .ok (.iconst 1, 1) := by decide +kernel
theorem d_Rd_open_31 : decode b_Rd_open 31 = .ok (.putfield 20, 3) := by decide +kernel
theorem d_Rd_open_34 : decode b_Rd_open 34 = .ok (.return_, 1) := by decide +kernel
abbrev b_Pt_read : ByteArray := prog_6_method_2_code
def y_Pt_read : MethodName := ⟨"GlyphPage$Part", "read", "(LGlyphPage$Reader;I)Z"⟩
theorem d_Pt_read_0 : decode b_Pt_read 0 = .ok (.aload_n 1, 1) := by decide +kernel
theorem d_Pt_read_1 : decode b_Pt_read 1 = .ok (.invokevirtual 35, 3) := by decide +kernel
theorem d_Pt_read_4 : decode b_Pt_read 4 = .ok (.istore_n 3, 1) := by decide +kernel
theorem d_Pt_read_5 : decode b_Pt_read 5 = .ok (.aload_n 0, 1) := by decide +kernel
theorem d_Pt_read_6 : decode b_Pt_read 6 = .ok (.aload_n 1, 1) := by decide +kernel
theorem d_Pt_read_7 : decode b_Pt_read 7 = .ok (.invokevirtual 35, 3) := by decide +kernel
theorem d_Pt_read_10 : decode b_Pt_read 10 = .ok (.putfield 7, 3) := by decide +kernel
theorem d_Pt_read_13 : decode b_Pt_read 13 = .ok (.aload_n 0, 1) := by decide +kernel
theorem d_Pt_read_14 : decode b_Pt_read 14 = .ok (.iload_n 3, 1) := by decide +kernel
theorem d_Pt_read_15 : decode b_Pt_read 15 = .ok (.bipush 32, 2) := by decide +kernel
theorem d_Pt_read_17 : decode b_Pt_read 17 = .ok (.iand, 1) := by decide +kernel
theorem d_Pt_read_18 : decode b_Pt_read 18 = .ok (.ifCond .ne 7, 3) := by decide +kernel
theorem d_Pt_read_21 : decode b_Pt_read 21 = .ok (.iconst 1, 1) := by decide +kernel
theorem d_Pt_read_22 : decode b_Pt_read 22 = .ok (.goto 4, 3) := by decide +kernel
theorem d_Pt_read_25 : decode b_Pt_read 25 = .ok (.iconst 0, 1) := by decide +kernel
theorem d_Pt_read_26 : decode b_Pt_read 26 = .ok (.putfield 13, 3) := by decide +kernel
theorem d_Pt_read_29 : decode b_Pt_read 29 = .ok (.iload_n 3, 1) := by decide +kernel
theorem d_Pt_read_30 : decode b_Pt_read 30 = .ok (.iconst 1, 1) := by decide +kernel
theorem d_Pt_read_31 : decode b_Pt_read 31 = .ok (.iand, 1) := by decide +kernel
theorem d_Pt_read_32 : decode b_Pt_read 32 = .ok (.ifCond .eq 7, 3) := by decide +kernel
theorem d_Pt_read_35 : decode b_Pt_read 35 = .ok (.iconst 1, 1) := by decide +kernel
theorem d_Pt_read_36 : decode b_Pt_read 36 = .ok (.goto 4, 3) := by decide +kernel
theorem d_Pt_read_39 : decode b_Pt_read 39 = .ok (.iconst 0, 1) := by decide +kernel
theorem d_Pt_read_40 : decode b_Pt_read 40 = .ok (.istore 4, 2) := by decide +kernel
theorem d_Pt_read_42 : decode b_Pt_read 42 = .ok (.aload_n 0, 1) := by decide +kernel
theorem d_Pt_read_43 : decode b_Pt_read 43 = .ok (.iload 4, 2) := by decide +kernel
theorem d_Pt_read_45 : decode b_Pt_read 45 = .ok (.ifCond .eq 11, 3) := by decide +kernel
theorem d_Pt_read_48 : decode b_Pt_read 48 = .ok (.aload_n 1, 1) := by decide +kernel
theorem d_Pt_read_49 : decode b_Pt_read 49 = .ok (.invokevirtual 35, 3) := by decide +kernel
theorem d_Pt_read_52 : decode b_Pt_read 52 = .ok (.i2s, 1) := by decide +kernel
theorem d_Pt_read_53 : decode b_Pt_read 53 = .ok (.goto 8, 3) := by decide +kernel
theorem d_Pt_read_56 : decode b_Pt_read 56 = .ok (.aload_n 1, 1) := by decide +kernel
theorem d_Pt_read_57 : decode b_Pt_read 57 = .ok (.invokevirtual 41, 3) := by decide +kernel
theorem d_Pt_read_60 : decode b_Pt_read 60 = .ok (.i2b, 1) := by decide +kernel
theorem d_Pt_read_61 : decode b_Pt_read 61 = .ok (.putfield 17, 3) := by decide +kernel
theorem d_Pt_read_64 : decode b_Pt_read 64 = .ok (.aload_n 0, 1) := by decide +kernel
theorem d_Pt_read_65 : decode b_Pt_read 65 = .ok (.iload 4, 2) := by decide +kernel
theorem d_Pt_read_67 : decode b_Pt_read 67 = .ok (.ifCond .eq 11, 3) := by decide +kernel
theorem d_Pt_read_70 : decode b_Pt_read 70 = .ok (.aload_n 1, 1) := by decide +kernel
theorem d_Pt_read_71 : decode b_Pt_read 71 = .ok (.invokevirtual 35, 3) := by decide +kernel
theorem d_Pt_read_74 : decode b_Pt_read 74 = .ok (.i2s, 1) := by decide +kernel
theorem d_Pt_read_75 : decode b_Pt_read 75 = .ok (.goto 8, 3) := by decide +kernel
theorem d_Pt_read_78 : decode b_Pt_read 78 = .ok (.aload_n 1, 1) := by decide +kernel
theorem d_Pt_read_79 : decode b_Pt_read 79 = .ok (.invokevirtual 41, 3) := by decide +kernel
theorem d_Pt_read_82 : decode b_Pt_read 82 = .ok (.i2b, 1) := by decide +kernel
theorem d_Pt_read_83 : decode b_Pt_read 83 = .ok (.putfield 20, 3) := by decide +kernel
theorem d_Pt_read_86 : decode b_Pt_read 86 = .ok (.aload_n 0, 1) := by decide +kernel
theorem d_Pt_read_87 : decode b_Pt_read 87 = .ok (.sipush 16384, 3) := by decide +kernel
theorem d_Pt_read_90 : decode b_Pt_read 90 = .ok (.putfield 23, 3) := by decide +kernel
theorem d_Pt_read_93 : decode b_Pt_read 93 = .ok (.aload_n 0, 1) := by decide +kernel
theorem d_Pt_read_94 : decode b_Pt_read 94 = .ok (.iconst 0, 1) := by decide +kernel
theorem d_Pt_read_95 : decode b_Pt_read 95 = .ok (.putfield 26, 3) := by decide +kernel
theorem d_Pt_read_98 : decode b_Pt_read 98 = .ok (.aload_n 0, 1) := by decide +kernel
theorem d_Pt_read_99 : decode b_Pt_read 99 = .ok (.iconst 0, 1) := by decide +kernel
theorem d_Pt_read_100 : decode b_Pt_read 100 = .ok (.putfield 29, 3) := by decide +kernel
theorem d_Pt_read_103 : decode b_Pt_read 103 = .ok (.aload_n 0, 1) := by decide +kernel
theorem d_Pt_read_104 : decode b_Pt_read 104 = .ok (.sipush 16384, 3) := by decide +kernel
theorem d_Pt_read_107 : decode b_Pt_read 107 = .ok (.putfield 32, 3) := by decide +kernel
theorem d_Pt_read_110 : decode b_Pt_read 110 = .ok (.iload_n 3, 1) := by decide +kernel
theorem d_Pt_read_111 : decode b_Pt_read 111 = .ok (.bipush 8, 2) := by decide +kernel
theorem d_Pt_read_113 : decode b_Pt_read 113 = .ok (.iand, 1) := by decide +kernel
theorem d_Pt_read_114 : decode b_Pt_read 114 = .ok (.ifCond .eq 23, 3) := by decide +kernel
theorem d_Pt_read_117 : decode b_Pt_read 117 = .ok (.aload_n 0, 1) := by decide +kernel
theorem d_Pt_read_118 : decode b_Pt_read 118 = .ok (.aload_n 1, 1) := by decide +kernel
theorem d_Pt_read_119 : decode b_Pt_read 119 = .ok (.invokevirtual 35, 3) := by decide +kernel
theorem d_Pt_read_122 : decode b_Pt_read 122 = .ok (.i2s, 1) := by decide +kernel
theorem d_Pt_read_123 : decode b_Pt_read 123 = .ok (.putfield 23, 3) := by decide +kernel
theorem d_Pt_read_126 : decode b_Pt_read 126 = .ok (.aload_n 0, 1) := by decide +kernel
theorem d_Pt_read_127 : decode b_Pt_read 127 = .ok (.aload_n 0, 1) := by decide +kernel
theorem d_Pt_read_128 : decode b_Pt_read 128 = .ok (.getfield 23, 3) := by decide +kernel
theorem d_Pt_read_131 : decode b_Pt_read 131 = .ok (.putfield 32, 3) := by decide +kernel
theorem d_Pt_read_134 : decode b_Pt_read 134 = .ok (.goto 75, 3) := by decide +kernel
theorem d_Pt_read_137 : decode b_Pt_read 137 = .ok (.iload_n 3, 1) := by decide +kernel
theorem d_Pt_read_138 : decode b_Pt_read 138 = .ok (.bipush 64, 2) := by decide +kernel
theorem d_Pt_read_140 : decode b_Pt_read 140 = .ok (.iand, 1) := by decide +kernel
theorem d_Pt_read_141 : decode b_Pt_read 141 = .ok (.ifCond .eq 24, 3) := by decide +kernel
theorem d_Pt_read_144 : decode b_Pt_read 144 = .ok (.aload_n 0, 1) := by decide +kernel
theorem d_Pt_read_145 : decode b_Pt_read 145 = .ok (.aload_n 1, 1) := by decide +kernel
theorem d_Pt_read_146 : decode b_Pt_read 146 = .ok (.invokevirtual 35, 3) := by decide +kernel
theorem d_Pt_read_149 : decode b_Pt_read 149 = .ok (.i2s, 1) := by decide +kernel
theorem d_Pt_read_150 : decode b_Pt_read 150 = .ok (.putfield 23, 3) := by decide +kernel
theorem d_Pt_read_153 : decode b_Pt_read 153 = .ok (.aload_n 0, 1) := by decide +kernel
theorem d_Pt_read_154 : decode b_Pt_read 154 = .ok (.aload_n 1, 1) := by decide +kernel
theorem d_Pt_read_155 : decode b_Pt_read 155 = .ok (.invokevirtual 35, 3) := by decide +kernel
theorem d_Pt_read_158 : decode b_Pt_read 158 = .ok (.i2s, 1) := by decide +kernel
theorem d_Pt_read_159 : decode b_Pt_read 159 = .ok (.putfield 32, 3) := by decide +kernel
theorem d_Pt_read_162 : decode b_Pt_read 162 = .ok (.goto 47, 3) := by decide +kernel
theorem d_Pt_read_165 : decode b_Pt_read 165 = .ok (.iload_n 3, 1) := by decide +kernel
theorem d_Pt_read_166 : decode b_Pt_read 166 = .ok (.sipush 128, 3) := by decide +kernel
theorem d_Pt_read_169 : decode b_Pt_read 169 = .ok (.iand, 1) := by decide +kernel
theorem d_Pt_read_170 : decode b_Pt_read 170 = .ok (.ifCond .eq 39, 3) := by decide +kernel
theorem d_Pt_read_173 : decode b_Pt_read 173 = .ok (.aload_n 0, 1) := by decide +kernel
theorem d_Pt_read_174 : decode b_Pt_read 174 = .ok (.aload_n 1, 1) := by decide +kernel
theorem d_Pt_read_175 : decode b_Pt_read 175 = .ok (.invokevirtual 35, 3) := by decide +kernel
theorem d_Pt_read_178 : decode b_Pt_read 178 = .ok (.i2s, 1) := by decide +kernel
theorem d_Pt_read_179 : decode b_Pt_read 179 = .ok (.putfield 23, 3) := by decide +kernel
theorem d_Pt_read_182 : decode b_Pt_read 182 = .ok (.aload_n 0, 1) := by decide +kernel
theorem d_Pt_read_183 : decode b_Pt_read 183 = .ok (.aload_n 1, 1) := by decide +kernel
theorem d_Pt_read_184 : decode b_Pt_read 184 = .ok (.invokevirtual 35, 3) := by decide +kernel
theorem d_Pt_read_187 : decode b_Pt_read 187 = .ok (.i2s, 1) := by decide +kernel
theorem d_Pt_read_188 : decode b_Pt_read 188 = .ok (.putfield 26, 3) := by decide +kernel
theorem d_Pt_read_191 : decode b_Pt_read 191 = .ok (.aload_n 0, 1) := by decide +kernel
theorem d_Pt_read_192 : decode b_Pt_read 192 = .ok (.aload_n 1, 1) := by decide +kernel
theorem d_Pt_read_193 : decode b_Pt_read 193 = .ok (.invokevirtual 35, 3) := by decide +kernel
theorem d_Pt_read_196 : decode b_Pt_read 196 = .ok (.i2s, 1) := by decide +kernel
theorem d_Pt_read_197 : decode b_Pt_read 197 = .ok (.putfield 29, 3) := by decide +kernel
theorem d_Pt_read_200 : decode b_Pt_read 200 = .ok (.aload_n 0, 1) := by decide +kernel
theorem d_Pt_read_201 : decode b_Pt_read 201 = .ok (.aload_n 1, 1) := by decide +kernel
theorem d_Pt_read_202 : decode b_Pt_read 202 = .ok (.invokevirtual 35, 3) := by decide +kernel
theorem d_Pt_read_205 : decode b_Pt_read 205 = .ok (.i2s, 1) := by decide +kernel
theorem d_Pt_read_206 : decode b_Pt_read 206 = .ok (.putfield 32, 3) := by decide +kernel
theorem d_Pt_read_209 : decode b_Pt_read 209 = .ok (.aload_n 1, 1) := by decide +kernel
theorem d_Pt_read_210 : decode b_Pt_read 210 = .ok (.invokevirtual 44, 3) := by decide +kernel
theorem d_Pt_read_213 : decode b_Pt_read 213 = .ok (.ifCond .eq 21, 3) := by decide +kernel
theorem d_Pt_read_216 : decode b_Pt_read 216 = .ok (.iload_n 3, 1) := by decide +kernel
theorem d_Pt_read_217 : decode b_Pt_read 217 = .ok (.iconst 2, 1) := by decide +kernel
theorem d_Pt_read_218 : decode b_Pt_read 218 = .ok (.iand, 1) := by decide +kernel
theorem d_Pt_read_219 : decode b_Pt_read 219 = .ok (.ifCond .eq 15, 3) := by decide +kernel
theorem d_Pt_read_222 : decode b_Pt_read 222 = .ok (.aload_n 0, 1) := by decide +kernel
theorem d_Pt_read_223 : decode b_Pt_read 223 = .ok (.getfield 7, 3) := by decide +kernel
theorem d_Pt_read_226 : decode b_Pt_read 226 = .ok (.iload_n 2, 1) := by decide +kernel
theorem d_Pt_read_227 : decode b_Pt_read 227 = .ok (.if_icmp .ge 7, 3) := by decide +kernel
theorem d_Pt_read_230 : decode b_Pt_read 230 = .ok (.iconst 1, 1) := by decide +kernel
theorem d_Pt_read_231 : decode b_Pt_read 231 = .ok (.goto 4, 3) := by decide +kernel
theorem d_Pt_read_234 : decode b_Pt_read 234 = .ok (.iconst 0, 1) := by decide +kernel
theorem d_Pt_read_235 : decode b_Pt_read 235 = .ok (.ireturn, 1) := by decide +kernel
abbrev b_Pt_movedX : ByteArray := prog_6_method_3_code
def y_Pt_movedX : MethodName := ⟨"GlyphPage$Part", "movedX", "(II)I"⟩
theorem d_Pt_movedX_0 : decode b_Pt_movedX 0 = .ok (.aload_n 0, 1) := by decide +kernel
theorem d_Pt_movedX_1 : decode b_Pt_movedX 1 = .ok (.getfield 23, 3) := by decide +kernel
theorem d_Pt_movedX_4 : decode b_Pt_movedX 4 = .ok (.i2l, 1) := by decide +kernel
theorem d_Pt_movedX_5 : decode b_Pt_movedX 5 = .ok (.iload_n 1, 1) := by decide +kernel
theorem d_Pt_movedX_6 : decode b_Pt_movedX 6 = .ok (.i2l, 1) := by decide +kernel
theorem d_Pt_movedX_7 : decode b_Pt_movedX 7 = .ok (.lmul, 1) := by decide +kernel
theorem d_Pt_movedX_8 : decode b_Pt_movedX 8 = .ok (.aload_n 0, 1) := by decide +kernel
theorem d_Pt_movedX_9 : decode b_Pt_movedX 9 = .ok (.getfield 29, 3) := by decide +kernel
theorem d_Pt_movedX_12 : decode b_Pt_movedX 12 = .ok (.i2l, 1) := by decide +kernel
theorem d_Pt_movedX_13 : decode b_Pt_movedX 13 = .ok (.iload_n 2, 1) := by decide +kernel
theorem d_Pt_movedX_14 : decode b_Pt_movedX 14 = .ok (.i2l, 1) := by decide +kernel
theorem d_Pt_movedX_15 : decode b_Pt_movedX 15 = .ok (.lmul, 1) := by decide +kernel
theorem d_Pt_movedX_16 : decode b_Pt_movedX 16 = .ok (.ladd, 1) := by decide +kernel
theorem d_Pt_movedX_17 : decode b_Pt_movedX 17 = .ok (.ldc2_w 48, 3) := by decide +kernel
theorem d_Pt_movedX_20 : decode b_Pt_movedX 20 = .ok (.ladd, 1) := by decide +kernel
theorem d_Pt_movedX_21 : decode b_Pt_movedX 21 = .ok (.bipush 14, 2) := by decide +kernel
theorem d_Pt_movedX_23 : decode b_Pt_movedX 23 = .ok (.lshr, 1) := by decide +kernel
theorem d_Pt_movedX_24 : decode b_Pt_movedX 24 = .ok (.l2i, 1) := by decide +kernel
theorem d_Pt_movedX_25 : decode b_Pt_movedX 25 = .ok (.aload_n 0, 1) := by decide +kernel
theorem d_Pt_movedX_26 : decode b_Pt_movedX 26 = .ok (.getfield 17, 3) := by decide +kernel
theorem d_Pt_movedX_29 : decode b_Pt_movedX 29 = .ok (.iadd, 1) := by decide +kernel
theorem d_Pt_movedX_30 : decode b_Pt_movedX 30 = .ok (.ireturn, 1) := by decide +kernel
abbrev b_Pt_movedY : ByteArray := prog_6_method_4_code
def y_Pt_movedY : MethodName := ⟨"GlyphPage$Part", "movedY", "(II)I"⟩
theorem d_Pt_movedY_0 : decode b_Pt_movedY 0 = .ok (.aload_n 0, 1) := by decide +kernel
theorem d_Pt_movedY_1 : decode b_Pt_movedY 1 = .ok (.getfield 26, 3) := by decide +kernel
theorem d_Pt_movedY_4 : decode b_Pt_movedY 4 = .ok (.i2l, 1) := by decide +kernel
theorem d_Pt_movedY_5 : decode b_Pt_movedY 5 = .ok (.iload_n 1, 1) := by decide +kernel
theorem d_Pt_movedY_6 : decode b_Pt_movedY 6 = .ok (.i2l, 1) := by decide +kernel
theorem d_Pt_movedY_7 : decode b_Pt_movedY 7 = .ok (.lmul, 1) := by decide +kernel
theorem d_Pt_movedY_8 : decode b_Pt_movedY 8 = .ok (.aload_n 0, 1) := by decide +kernel
theorem d_Pt_movedY_9 : decode b_Pt_movedY 9 = .ok (.getfield 32, 3) := by decide +kernel
theorem d_Pt_movedY_12 : decode b_Pt_movedY 12 = .ok (.i2l, 1) := by decide +kernel
theorem d_Pt_movedY_13 : decode b_Pt_movedY 13 = .ok (.iload_n 2, 1) := by decide +kernel
theorem d_Pt_movedY_14 : decode b_Pt_movedY 14 = .ok (.i2l, 1) := by decide +kernel
theorem d_Pt_movedY_15 : decode b_Pt_movedY 15 = .ok (.lmul, 1) := by decide +kernel
theorem d_Pt_movedY_16 : decode b_Pt_movedY 16 = .ok (.ladd, 1) := by decide +kernel
theorem d_Pt_movedY_17 : decode b_Pt_movedY 17 = .ok (.ldc2_w 48, 3) := by decide +kernel
theorem d_Pt_movedY_20 : decode b_Pt_movedY 20 = .ok (.ladd, 1) := by decide +kernel
theorem d_Pt_movedY_21 : decode b_Pt_movedY 21 = .ok (.bipush 14, 2) := by decide +kernel
theorem d_Pt_movedY_23 : decode b_Pt_movedY 23 = .ok (.lshr, 1) := by decide +kernel
theorem d_Pt_movedY_24 : decode b_Pt_movedY 24 = .ok (.l2i, 1) := by decide +kernel
theorem d_Pt_movedY_25 : decode b_Pt_movedY 25 = .ok (.aload_n 0, 1) := by decide +kernel
theorem d_Pt_movedY_26 : decode b_Pt_movedY 26 = .ok (.getfield 20, 3) := by decide +kernel
theorem d_Pt_movedY_29 : decode b_Pt_movedY 29 = .ok (.iadd, 1) := by decide +kernel
theorem d_Pt_movedY_30 : decode b_Pt_movedY 30 = .ok (.ireturn, 1) := by decide +kernel
abbrev b_Sh_isCoordinate : ByteArray := prog_8_method_7_code
def y_Sh_isCoordinate : MethodName := ⟨"GlyphPage$Shape", "isCoordinate", "(I)Z"⟩
theorem d_Sh_isCoordinate_0 : decode b_Sh_isCoordinate 0 = .ok (.iload_n 0, 1) := by decide +kernel
theorem d_Sh_isCoordinate_1 : decode b_Sh_isCoordinate 1 = .ok (.sipush (-32768), 3) := by decide +kernel
theorem d_Sh_isCoordinate_4 : decode b_Sh_isCoordinate 4 = .ok (.if_icmp .lt 14, 3) := by decide +kernel
theorem d_Sh_isCoordinate_7 : decode b_Sh_isCoordinate 7 = .ok (.iload_n 0, 1) := by decide +kernel
theorem d_Sh_isCoordinate_8 : decode b_Sh_isCoordinate 8 = .ok (.sipush 32767, 3) := by decide +kernel
theorem d_Sh_isCoordinate_11 : decode b_Sh_isCoordinate 11 = .ok (.if_icmp .gt 7, 3) := by decide +kernel
theorem d_Sh_isCoordinate_14 : decode b_Sh_isCoordinate 14 = .ok (.iconst 1, 1) := by decide +kernel
theorem d_Sh_isCoordinate_15 : decode b_Sh_isCoordinate 15 = .ok (.goto 4, 3) := by decide +kernel
theorem d_Sh_isCoordinate_18 : decode b_Sh_isCoordinate 18 = .ok (.iconst 0, 1) := by decide +kernel
theorem d_Sh_isCoordinate_19 : decode b_Sh_isCoordinate 19 = .ok (.ireturn, 1) := by decide +kernel
abbrev b_Sh_contourOf : ByteArray := prog_8_method_2_code
def y_Sh_contourOf : MethodName := ⟨"GlyphPage$Shape", "contourOf", "(I)I"⟩
theorem d_Sh_contourOf_0 : decode b_Sh_contourOf 0 = .ok (.iconst 0, 1) := by decide +kernel
theorem d_Sh_contourOf_1 : decode b_Sh_contourOf 1 = .ok (.istore_n 2, 1) := by decide +kernel
theorem d_Sh_contourOf_2 : decode b_Sh_contourOf 2 = .ok (.iload_n 2, 1) := by decide +kernel
theorem d_Sh_contourOf_3 : decode b_Sh_contourOf 3 = .ok (.aload_n 0, 1) := by decide +kernel
theorem d_Sh_contourOf_4 : decode b_Sh_contourOf 4 = .ok (.getfield 27, 3) := by decide +kernel
theorem d_Sh_contourOf_7 : decode b_Sh_contourOf 7 = .ok (.if_icmp .ge 21, 3) := by decide +kernel
theorem d_Sh_contourOf_10 : decode b_Sh_contourOf 10 = .ok (.iload_n 1, 1) := by decide +kernel
theorem d_Sh_contourOf_11 : decode b_Sh_contourOf 11 = .ok (.aload_n 0, 1) := by decide +kernel
theorem d_Sh_contourOf_12 : decode b_Sh_contourOf 12 = .ok (.getfield 20, 3) := by decide +kernel
theorem d_Sh_contourOf_15 : decode b_Sh_contourOf 15 = .ok (.iload_n 2, 1) := by decide +kernel
theorem d_Sh_contourOf_16 : decode b_Sh_contourOf 16 = .ok (.iaload, 1) := by decide +kernel
theorem d_Sh_contourOf_17 : decode b_Sh_contourOf 17 = .ok (.if_icmp .gt 5, 3) := by decide +kernel
theorem d_Sh_contourOf_20 : decode b_Sh_contourOf 20 = .ok (.iload_n 2, 1) := by decide +kernel
theorem d_Sh_contourOf_21 : decode b_Sh_contourOf 21 = .ok (.ireturn, 1) := by decide +kernel
theorem d_Sh_contourOf_22 : decode b_Sh_contourOf 22 = .ok (.iinc 2 1, 3) := by decide +kernel
theorem d_Sh_contourOf_25 : decode b_Sh_contourOf 25 = .ok (.goto (-23), 3) := by decide +kernel
theorem d_Sh_contourOf_28 : decode b_Sh_contourOf 28 = .ok (.aload_n 0, 1) := by decide +kernel
theorem d_Sh_contourOf_29 : decode b_Sh_contourOf 29 = .ok (.getfield 27, 3) := by decide +kernel
theorem d_Sh_contourOf_32 : decode b_Sh_contourOf 32 = .ok (.ireturn, 1) := by decide +kernel
abbrev b_Sh_move : ByteArray := prog_8_method_6_code
def y_Sh_move : MethodName := ⟨"GlyphPage$Shape", "move", "(LGlyphPage$Part;I)Z"⟩
theorem d_Sh_move_0 : decode b_Sh_move 0 = .ok (.iload_n 2, 1) := by decide +kernel
theorem d_Sh_move_1 : decode b_Sh_move 1 = .ok (.istore_n 3, 1) := by decide +kernel
theorem d_Sh_move_2 : decode b_Sh_move 2 = .ok (.iload_n 3, 1) := by decide +kernel
theorem d_Sh_move_3 : decode b_Sh_move 3 = .ok (.aload_n 0, 1) := by decide +kernel
theorem d_Sh_move_4 : decode b_Sh_move 4 = .ok (.getfield 23, 3) := by decide +kernel
theorem d_Sh_move_7 : decode b_Sh_move 7 = .ok (.if_icmp .ge 83, 3) := by decide +kernel
theorem d_Sh_move_10 : decode b_Sh_move 10 = .ok (.aload_n 1, 1) := by decide +kernel
theorem d_Sh_move_11 : decode b_Sh_move 11 = .ok (.aload_n 0, 1) := by decide +kernel
theorem d_Sh_move_12 : decode b_Sh_move 12 = .ok (.getfield 9, 3) := by decide +kernel
theorem d_Sh_move_15 : decode b_Sh_move 15 = .ok (.iload_n 3, 1) := by decide +kernel
theorem d_Sh_move_16 : decode b_Sh_move 16 = .ok (.iaload, 1) := by decide +kernel
theorem d_Sh_move_17 : decode b_Sh_move 17 = .ok (.aload_n 0, 1) := by decide +kernel
theorem d_Sh_move_18 : decode b_Sh_move 18 = .ok (.getfield 13, 3) := by decide +kernel
theorem d_Sh_move_21 : decode b_Sh_move 21 = .ok (.iload_n 3, 1) := by decide +kernel
theorem d_Sh_move_22 : decode b_Sh_move 22 = .ok (.iaload, 1) := by decide +kernel
theorem d_Sh_move_23 : decode b_Sh_move 23 = .ok (.invokevirtual 96, 3) := by decide +kernel
theorem d_Sh_move_26 : decode b_Sh_move 26 = .ok (.istore 4, 2) := by decide +kernel
theorem d_Sh_move_28 : decode b_Sh_move 28 = .ok (.aload_n 0, 1) := by decide +kernel
theorem d_Sh_move_29 : decode b_Sh_move 29 = .ok (.getfield 13, 3) := by decide +kernel
theorem d_Sh_move_32 : decode b_Sh_move 32 = .ok (.iload_n 3, 1) := by decide +kernel
theorem d_Sh_move_33 : decode b_Sh_move 33 = .ok (.aload_n 1, 1) := by decide +kernel
theorem d_Sh_move_34 : decode b_Sh_move 34 = .ok (.aload_n 0, 1) := by decide +kernel
theorem d_Sh_move_35 : decode b_Sh_move 35 = .ok (.getfield 9, 3) := by decide +kernel
theorem d_Sh_move_38 : decode b_Sh_move 38 = .ok (.iload_n 3, 1) := by decide +kernel
theorem d_Sh_move_39 : decode b_Sh_move 39 = .ok (.iaload, 1) := by decide +kernel
theorem d_Sh_move_40 : decode b_Sh_move 40 = .ok (.aload_n 0, 1) := by decide +kernel
theorem d_Sh_move_41 : decode b_Sh_move 41 = .ok (.getfield 13, 3) := by decide +kernel
theorem d_Sh_move_44 : decode b_Sh_move 44 = .ok (.iload_n 3, 1) := by decide +kernel
theorem d_Sh_move_45 : decode b_Sh_move 45 = .ok (.iaload, 1) := by decide +kernel
theorem d_Sh_move_46 : decode b_Sh_move 46 = .ok (.invokevirtual 100, 3) := by decide +kernel
theorem d_Sh_move_49 : decode b_Sh_move 49 = .ok (.iastore, 1) := by decide +kernel
theorem d_Sh_move_50 : decode b_Sh_move 50 = .ok (.aload_n 0, 1) := by decide +kernel
theorem d_Sh_move_51 : decode b_Sh_move 51 = .ok (.getfield 9, 3) := by decide +kernel
theorem d_Sh_move_54 : decode b_Sh_move 54 = .ok (.iload_n 3, 1) := by decide +kernel
theorem d_Sh_move_55 : decode b_Sh_move 55 = .ok (.iload 4, 2) := by decide +kernel
theorem d_Sh_move_57 : decode b_Sh_move 57 = .ok (.iastore, 1) := by decide +kernel
theorem d_Sh_move_58 : decode b_Sh_move 58 = .ok (.aload_n 0, 1) := by decide +kernel
theorem d_Sh_move_59 : decode b_Sh_move 59 = .ok (.getfield 9, 3) := by decide +kernel
theorem d_Sh_move_62 : decode b_Sh_move 62 = .ok (.iload_n 3, 1) := by decide +kernel
theorem d_Sh_move_63 : decode b_Sh_move 63 = .ok (.iaload, 1) := by decide +kernel
theorem d_Sh_move_64 : decode b_Sh_move 64 = .ok (.invokestatic 103, 3) := by decide +kernel
theorem d_Sh_move_67 : decode b_Sh_move 67 = .ok (.ifCond .eq 15, 3) := by decide +kernel
theorem d_Sh_move_70 : decode b_Sh_move 70 = .ok (.aload_n 0, 1) := by decide +kernel
theorem d_Sh_move_71 : decode b_Sh_move 71 = .ok (.getfield 13, 3) := by decide +kernel
theorem d_Sh_move_74 : decode b_Sh_move 74 = .ok (.iload_n 3, 1) := by decide +kernel
theorem d_Sh_move_75 : decode b_Sh_move 75 = .ok (.iaload, 1) := by decide +kernel
theorem d_Sh_move_76 : decode b_Sh_move 76 = .ok (.invokestatic 103, 3) := by decide +kernel
theorem d_Sh_move_79 : decode b_Sh_move 79 = .ok (.ifCond .ne 5, 3) := by decide +kernel
theorem d_Sh_move_82 : decode b_Sh_move 82 = .ok (.iconst 0, 1) := by decide +kernel
theorem d_Sh_move_83 : decode b_Sh_move 83 = .ok (.ireturn, 1) := by decide +kernel
theorem d_Sh_move_84 : decode b_Sh_move 84 = .ok (.iinc 3 1, 3) := by decide +kernel
theorem d_Sh_move_87 : decode b_Sh_move 87 = .ok (.goto (-85), 3) := by decide +kernel
theorem d_Sh_move_90 : decode b_Sh_move 90 = .ok (.iconst 1, 1) := by decide +kernel
theorem d_Sh_move_91 : decode b_Sh_move 91 = .ok (.ireturn, 1) := by decide +kernel
abbrev b_Sh_readFlags : ByteArray := prog_8_method_9_code
def y_Sh_readFlags : MethodName := ⟨"GlyphPage$Shape", "readFlags", "(LGlyphPage$Reader;I)Z"⟩
theorem d_Sh_readFlags_0 : decode b_Sh_readFlags 0 = .ok (.iconst 0, 1) := by decide +kernel
theorem d_Sh_readFlags_1 : decode b_Sh_readFlags 1 = .ok (.istore_n 3, 1) := by decide +kernel
theorem d_Sh_readFlags_2 : decode b_Sh_readFlags 2 = .ok (.iconst 0, 1) := by decide +kernel
theorem d_Sh_readFlags_3 : decode b_Sh_readFlags 3 = .ok (.istore 4, 2) := by decide +kernel
theorem d_Sh_readFlags_5 : decode b_Sh_readFlags 5 = .ok (.iload_n 2, 1) := by decide +kernel
theorem d_Sh_readFlags_6 : decode b_Sh_readFlags 6 = .ok (.istore 5, 2) := by decide +kernel
theorem d_Sh_readFlags_8 : decode b_Sh_readFlags 8 = .ok (.iload 5, 2) := by decide +kernel
theorem d_Sh_readFlags_10 : decode b_Sh_readFlags 10 = .ok (.aload_n 0, 1) := by decide +kernel
theorem d_Sh_readFlags_11 : decode b_Sh_readFlags 11 = .ok (.getfield 23, 3) := by decide +kernel
theorem d_Sh_readFlags_14 : decode b_Sh_readFlags 14 = .ok (.if_icmp .ge 72, 3) := by decide +kernel
theorem d_Sh_readFlags_17 : decode b_Sh_readFlags 17 = .ok (.iload_n 3, 1) := by decide +kernel
theorem d_Sh_readFlags_18 : decode b_Sh_readFlags 18 = .ok (.ifCond .le 9, 3) := by decide +kernel
theorem d_Sh_readFlags_21 : decode b_Sh_readFlags 21 = .ok (.iinc 3 (-1), 3) := by decide +kernel
theorem d_Sh_readFlags_24 : decode b_Sh_readFlags 24 = .ok (.goto 26, 3) := by decide +kernel
theorem d_Sh_readFlags_27 : decode b_Sh_readFlags 27 = .ok (.aload_n 1, 1) := by decide +kernel
theorem d_Sh_readFlags_28 : decode b_Sh_readFlags 28 = .ok (.invokevirtual 118, 3) := by decide +kernel
theorem d_Sh_readFlags_31 : decode b_Sh_readFlags 31 = .ok (.istore 4, 2) := by decide +kernel
theorem d_Sh_readFlags_33 : decode b_Sh_readFlags 33 = .ok (.iload 4, 2) := by decide +kernel
theorem d_Sh_readFlags_35 : decode b_Sh_readFlags 35 = .ok (.bipush 8, 2) := by decide +kernel
theorem d_Sh_readFlags_37 : decode b_Sh_readFlags 37 = .ok (.iand, 1) := by decide +kernel
theorem d_Sh_readFlags_38 : decode b_Sh_readFlags 38 = .ok (.ifCond .eq 10, 3) := by decide +kernel
theorem d_Sh_readFlags_41 : decode b_Sh_readFlags 41 = .ok (.aload_n 1, 1) := by decide +kernel
theorem d_Sh_readFlags_42 : decode b_Sh_readFlags 42 = .ok (.invokevirtual 118, 3) := by decide +kernel
theorem d_Sh_readFlags_45 : decode b_Sh_readFlags 45 = .ok (.goto 4, 3) := by decide +kernel
theorem d_Sh_readFlags_48 : decode b_Sh_readFlags 48 = .ok (.iconst 0, 1) := by decide +kernel
theorem d_Sh_readFlags_49 : decode b_Sh_readFlags 49 = .ok (.istore_n 3, 1) := by decide +kernel
theorem d_Sh_readFlags_50 : decode b_Sh_readFlags 50 = .ok (.aload_n 0, 1) := by decide +kernel
theorem d_Sh_readFlags_51 : decode b_Sh_readFlags 51 = .ok (.getfield 33, 3) := by decide +kernel
theorem d_Sh_readFlags_54 : decode b_Sh_readFlags 54 = .ok (.iload 5, 2) := by decide +kernel
theorem d_Sh_readFlags_56 : decode b_Sh_readFlags 56 = .ok (.iload_n 2, 1) := by decide +kernel
theorem d_Sh_readFlags_57 : decode b_Sh_readFlags 57 = .ok (.isub, 1) := by decide +kernel
theorem d_Sh_readFlags_58 : decode b_Sh_readFlags 58 = .ok (.iload 4, 2) := by decide +kernel
theorem d_Sh_readFlags_60 : decode b_Sh_readFlags 60 = .ok (.iastore, 1) := by decide +kernel
theorem d_Sh_readFlags_61 : decode b_Sh_readFlags 61 = .ok (.aload_n 0, 1) := by decide +kernel
theorem d_Sh_readFlags_62 : decode b_Sh_readFlags 62 = .ok (.getfield 16, 3) := by decide +kernel
theorem d_Sh_readFlags_65 : decode b_Sh_readFlags 65 = .ok (.iload 5, 2) := by decide +kernel
theorem d_Sh_readFlags_67 : decode b_Sh_readFlags 67 = .ok (.iload 4, 2) := by decide +kernel
theorem d_Sh_readFlags_69 : decode b_Sh_readFlags 69 = .ok (.iconst 1, 1) := by decide +kernel
theorem d_Sh_readFlags_70 : decode b_Sh_readFlags 70 = .ok (.iand, 1) := by decide +kernel
theorem d_Sh_readFlags_71 : decode b_Sh_readFlags 71 = .ok (.ifCond .eq 7, 3) := by decide +kernel
theorem d_Sh_readFlags_74 : decode b_Sh_readFlags 74 = .ok (.iconst 1, 1) := by decide +kernel
theorem d_Sh_readFlags_75 : decode b_Sh_readFlags 75 = .ok (.goto 4, 3) := by decide +kernel
theorem d_Sh_readFlags_78 : decode b_Sh_readFlags 78 = .ok (.iconst 0, 1) := by decide +kernel
theorem d_Sh_readFlags_79 : decode b_Sh_readFlags 79 = .ok (.bastore, 1) := by decide +kernel
theorem d_Sh_readFlags_80 : decode b_Sh_readFlags 80 = .ok (.iinc 5 1, 3) := by decide +kernel
theorem d_Sh_readFlags_83 : decode b_Sh_readFlags 83 = .ok (.goto (-75), 3) := by decide +kernel
theorem d_Sh_readFlags_86 : decode b_Sh_readFlags 86 = .ok (.iload_n 3, 1) := by decide +kernel
theorem d_Sh_readFlags_87 : decode b_Sh_readFlags 87 = .ok (.ifCond .ne 7, 3) := by decide +kernel
theorem d_Sh_readFlags_90 : decode b_Sh_readFlags 90 = .ok (.iconst 1, 1) := by decide +kernel
theorem d_Sh_readFlags_91 : decode b_Sh_readFlags 91 = .ok (.goto 4, 3) := by decide +kernel
theorem d_Sh_readFlags_94 : decode b_Sh_readFlags 94 = .ok (.iconst 0, 1) := by decide +kernel
theorem d_Sh_readFlags_95 : decode b_Sh_readFlags 95 = .ok (.ireturn, 1) := by decide +kernel
abbrev b_Sh_readAxis : ByteArray := prog_8_method_10_code
def y_Sh_readAxis : MethodName := ⟨"GlyphPage$Shape", "readAxis", "(LGlyphPage$Reader;I[III)Z"⟩
theorem d_Sh_readAxis_0 : decode b_Sh_readAxis 0 = .ok (.iconst 0, 1) := by decide +kernel
theorem d_Sh_readAxis_1 : decode b_Sh_readAxis 1 = .ok (.istore 6, 2) := by decide +kernel
theorem d_Sh_readAxis_3 : decode b_Sh_readAxis 3 = .ok (.iload_n 2, 1) := by decide +kernel
theorem d_Sh_readAxis_4 : decode b_Sh_readAxis 4 = .ok (.istore 7, 2) := by decide +kernel
theorem d_Sh_readAxis_6 : decode b_Sh_readAxis 6 = .ok (.iload 7, 2) := by decide +kernel
theorem d_Sh_readAxis_8 : decode b_Sh_readAxis 8 = .ok (.aload_n 0, 1) := by decide +kernel
theorem d_Sh_readAxis_9 : decode b_Sh_readAxis 9 = .ok (.getfield 23, 3) := by decide +kernel
theorem d_Sh_readAxis_12 : decode b_Sh_readAxis 12 = .ok (.if_icmp .ge 104, 3) := by decide +kernel
theorem d_Sh_readAxis_15 : decode b_Sh_readAxis 15 = .ok (.aload_n 0, 1) := by decide +kernel
theorem d_Sh_readAxis_16 : decode b_Sh_readAxis 16 = .ok (.getfield 33, 3) := by decide +kernel
theorem d_Sh_readAxis_19 : decode b_Sh_readAxis 19 = .ok (.iload 7, 2) := by decide +kernel
theorem d_Sh_readAxis_21 : decode b_Sh_readAxis 21 = .ok (.iload_n 2, 1) := by decide +kernel
theorem d_Sh_readAxis_22 : decode b_Sh_readAxis 22 = .ok (.isub, 1) := by decide +kernel
theorem d_Sh_readAxis_23 : decode b_Sh_readAxis 23 = .ok (.iaload, 1) := by decide +kernel
theorem d_Sh_readAxis_24 : decode b_Sh_readAxis 24 = .ok (.iload 5, 2) := by decide +kernel
theorem d_Sh_readAxis_26 : decode b_Sh_readAxis 26 = .ok (.iand, 1) := by decide +kernel
theorem d_Sh_readAxis_27 : decode b_Sh_readAxis 27 = .ok (.ifCond .eq 7, 3) := by decide +kernel
theorem d_Sh_readAxis_30 : decode b_Sh_readAxis 30 = .ok (.iconst 1, 1) := by decide +kernel
theorem d_Sh_readAxis_31 : decode b_Sh_readAxis 31 = .ok (.goto 4, 3) := by decide +kernel
theorem d_Sh_readAxis_34 : decode b_Sh_readAxis 34 = .ok (.iconst 0, 1) := by decide +kernel
theorem d_Sh_readAxis_35 : decode b_Sh_readAxis 35 = .ok (.istore 8, 2) := by decide +kernel
theorem d_Sh_readAxis_37 : decode b_Sh_readAxis 37 = .ok (.aload_n 0, 1) := by decide +kernel
theorem d_Sh_readAxis_38 : decode b_Sh_readAxis 38 = .ok (.getfield 33, 3) := by decide +kernel
theorem d_Sh_readAxis_41 : decode b_Sh_readAxis 41 = .ok (.iload 7, 2) := by decide +kernel
theorem d_Sh_readAxis_43 : decode b_Sh_readAxis 43 = .ok (.iload_n 2, 1) := by decide +kernel
theorem d_Sh_readAxis_44 : decode b_Sh_readAxis 44 = .ok (.isub, 1) := by decide +kernel
theorem d_Sh_readAxis_45 : decode b_Sh_readAxis 45 = .ok (.iaload, 1) := by decide +kernel
theorem d_Sh_readAxis_46 : decode b_Sh_readAxis 46 = .ok (.iload 4, 2) := by decide +kernel
theorem d_Sh_readAxis_48 : decode b_Sh_readAxis 48 = .ok (.iand, 1) := by decide +kernel
theorem d_Sh_readAxis_49 : decode b_Sh_readAxis 49 = .ok (.ifCond .eq 30, 3) := by decide +kernel
theorem d_Sh_readAxis_52 : decode b_Sh_readAxis 52 = .ok (.aload_n 1, 1) := by decide +kernel
theorem d_Sh_readAxis_53 : decode b_Sh_readAxis 53 = .ok (.invokevirtual 118, 3) := by decide +kernel
theorem d_Sh_readAxis_56 : decode b_Sh_readAxis 56 = .ok (.istore 9, 2) := by decide +kernel
theorem d_Sh_readAxis_58 : decode b_Sh_readAxis 58 = .ok (.iload 6, 2) := by decide +kernel
theorem d_Sh_readAxis_60 : decode b_Sh_readAxis 60 = .ok (.iload 8, 2) := by decide +kernel
theorem d_Sh_readAxis_62 : decode b_Sh_readAxis 62 = .ok (.ifCond .eq 8, 3) := by decide +kernel
theorem d_Sh_readAxis_65 : decode b_Sh_readAxis 65 = .ok (.iload 9, 2) := by decide +kernel
theorem d_Sh_readAxis_67 : decode b_Sh_readAxis 67 = .ok (.goto 6, 3) := by decide +kernel
theorem d_Sh_readAxis_70 : decode b_Sh_readAxis 70 = .ok (.iload 9, 2) := by decide +kernel
theorem d_Sh_readAxis_72 : decode b_Sh_readAxis 72 = .ok (.ineg, 1) := by decide +kernel
theorem d_Sh_readAxis_73 : decode b_Sh_readAxis 73 = .ok (.iadd, 1) := by decide +kernel
theorem d_Sh_readAxis_74 : decode b_Sh_readAxis 74 = .ok (.istore 6, 2) := by decide +kernel
theorem d_Sh_readAxis_76 : decode b_Sh_readAxis 76 = .ok (.goto 18, 3) := by decide +kernel
theorem d_Sh_readAxis_79 : decode b_Sh_readAxis 79 = .ok (.iload 8, 2) := by decide +kernel
theorem d_Sh_readAxis_81 : decode b_Sh_readAxis 81 = .ok (.ifCond .ne 13, 3) := by decide +kernel
theorem d_Sh_readAxis_84 : decode b_Sh_readAxis 84 = .ok (.iload 6, 2) := by decide +kernel
theorem d_Sh_readAxis_86 : decode b_Sh_readAxis 86 = .ok (.aload_n 1, 1) := by decide +kernel
theorem d_Sh_readAxis_87 : decode b_Sh_readAxis 87 = .ok (.invokevirtual 63, 3) := by decide +kernel
theorem d_Sh_readAxis_90 : decode b_Sh_readAxis 90 = .ok (.i2s, 1) := by decide +kernel
theorem d_Sh_readAxis_91 : decode b_Sh_readAxis 91 = .ok (.iadd, 1) := by decide +kernel
theorem d_Sh_readAxis_92 : decode b_Sh_readAxis 92 = .ok (.istore 6, 2) := by decide +kernel
theorem d_Sh_readAxis_94 : decode b_Sh_readAxis 94 = .ok (.iload 6, 2) := by decide +kernel
theorem d_Sh_readAxis_96 : decode b_Sh_readAxis 96 = .ok (.invokestatic 103, 3) := by decide +kernel
theorem d_Sh_readAxis_99 : decode b_Sh_readAxis 99 = .ok (.ifCond .ne 5, 3) := by decide +kernel
theorem d_Sh_readAxis_102 : decode b_Sh_readAxis 102 = .ok (.iconst 0, 1) := by decide +kernel
theorem d_Sh_readAxis_103 : decode b_Sh_readAxis 103 = .ok (.ireturn, 1) := by decide +kernel
theorem d_Sh_readAxis_104 : decode b_Sh_readAxis 104 = .ok (.aload_n 3, 1) := by decide +kernel
theorem d_Sh_readAxis_105 : decode b_Sh_readAxis 105 = .ok (.iload 7, 2) := by decide +kernel
theorem d_Sh_readAxis_107 : decode b_Sh_readAxis 107 = .ok (.iload 6, 2) := by decide +kernel
theorem d_Sh_readAxis_109 : decode b_Sh_readAxis 109 = .ok (.iastore, 1) := by decide +kernel
theorem d_Sh_readAxis_110 : decode b_Sh_readAxis 110 = .ok (.iinc 7 1, 3) := by decide +kernel
theorem d_Sh_readAxis_113 : decode b_Sh_readAxis 113 = .ok (.goto (-107), 3) := by decide +kernel
theorem d_Sh_readAxis_116 : decode b_Sh_readAxis 116 = .ok (.iconst 1, 1) := by decide +kernel
theorem d_Sh_readAxis_117 : decode b_Sh_readAxis 117 = .ok (.ireturn, 1) := by decide +kernel
abbrev b_Sh_addContours : ByteArray := prog_8_method_8_code
def y_Sh_addContours : MethodName := ⟨"GlyphPage$Shape", "addContours", "(LGlyphPage$Reader;I)Z"⟩
theorem d_Sh_addContours_0 : decode b_Sh_addContours 0 = .ok (.iload_n 2, 1) := by decide +kernel
theorem d_Sh_addContours_1 : decode b_Sh_addContours 1 = .ok (.bipush 16, 2) := by decide +kernel
theorem d_Sh_addContours_3 : decode b_Sh_addContours 3 = .ok (.if_icmp .gt 14, 3) := by decide +kernel
theorem d_Sh_addContours_6 : decode b_Sh_addContours 6 = .ok (.aload_n 0, 1) := by decide +kernel
theorem d_Sh_addContours_7 : decode b_Sh_addContours 7 = .ok (.getfield 27, 3) := by decide +kernel
theorem d_Sh_addContours_10 : decode b_Sh_addContours 10 = .ok (.iload_n 2, 1) := by decide +kernel
theorem d_Sh_addContours_11 : decode b_Sh_addContours 11 = .ok (.iadd, 1) := by decide +kernel
theorem d_Sh_addContours_12 : decode b_Sh_addContours 12 = .ok (.bipush 32, 2) := by decide +kernel
theorem d_Sh_addContours_14 : decode b_Sh_addContours 14 = .ok (.if_icmp .le 5, 3) := by decide +kernel
theorem d_Sh_addContours_17 : decode b_Sh_addContours 17 = .ok (.iconst 0, 1) := by decide +kernel
theorem d_Sh_addContours_18 : decode b_Sh_addContours 18 = .ok (.ireturn, 1) := by decide +kernel
theorem d_Sh_addContours_19 : decode b_Sh_addContours 19 = .ok (.iconst (-1), 1) := by decide +kernel
theorem d_Sh_addContours_20 : decode b_Sh_addContours 20 = .ok (.istore_n 3, 1) := by decide +kernel
theorem d_Sh_addContours_21 : decode b_Sh_addContours 21 = .ok (.iconst 0, 1) := by decide +kernel
theorem d_Sh_addContours_22 : decode b_Sh_addContours 22 = .ok (.istore 4, 2) := by decide +kernel
theorem d_Sh_addContours_24 : decode b_Sh_addContours 24 = .ok (.iload 4, 2) := by decide +kernel
theorem d_Sh_addContours_26 : decode b_Sh_addContours 26 = .ok (.iload_n 2, 1) := by decide +kernel
theorem d_Sh_addContours_27 : decode b_Sh_addContours 27 = .ok (.if_icmp .ge 56, 3) := by decide +kernel
theorem d_Sh_addContours_30 : decode b_Sh_addContours 30 = .ok (.aload_n 1, 1) := by decide +kernel
theorem d_Sh_addContours_31 : decode b_Sh_addContours 31 = .ok (.invokevirtual 63, 3) := by decide +kernel
theorem d_Sh_addContours_34 : decode b_Sh_addContours 34 = .ok (.istore 5, 2) := by decide +kernel
theorem d_Sh_addContours_36 : decode b_Sh_addContours 36 = .ok (.iload 5, 2) := by decide +kernel
theorem d_Sh_addContours_38 : decode b_Sh_addContours 38 = .ok (.iload_n 3, 1) := by decide +kernel
theorem d_Sh_addContours_39 : decode b_Sh_addContours 39 = .ok (.if_icmp .le 11, 3) := by decide +kernel
theorem d_Sh_addContours_42 : decode b_Sh_addContours 42 = .ok (.iload 5, 2) := by decide +kernel
theorem d_Sh_addContours_44 : decode b_Sh_addContours 44 = .ok (.sipush 128, 3) := by decide +kernel
theorem d_Sh_addContours_47 : decode b_Sh_addContours 47 = .ok (.if_icmp .lt 5, 3) := by decide +kernel
theorem d_Sh_addContours_50 : decode b_Sh_addContours 50 = .ok (.iconst 0, 1) := by decide +kernel
theorem d_Sh_addContours_51 : decode b_Sh_addContours 51 = .ok (.ireturn, 1) := by decide +kernel
theorem d_Sh_addContours_52 : decode b_Sh_addContours 52 = .ok (.iload 5, 2) := by decide +kernel
theorem d_Sh_addContours_54 : decode b_Sh_addContours 54 = .ok (.istore_n 3, 1) := by decide +kernel
theorem d_Sh_addContours_55 : decode b_Sh_addContours 55 = .ok (.aload_n 0, 1) := by decide +kernel
theorem d_Sh_addContours_56 : decode b_Sh_addContours 56 = .ok (.getfield 20, 3) := by decide +kernel
theorem d_Sh_addContours_59 : decode b_Sh_addContours 59 = .ok (.aload_n 0, 1) := by decide +kernel
theorem d_Sh_addContours_60 : decode b_Sh_addContours 60 = .ok (.dup, 1) := by decide +kernel
theorem d_Sh_addContours_61 : decode b_Sh_addContours 61 = .ok (.getfield 27, 3) := by decide +kernel
theorem d_Sh_addContours_64 : decode b_Sh_addContours 64 = .ok (.dup_x1, 1) := by decide +kernel
theorem d_Sh_addContours_65 : decode b_Sh_addContours 65 = .ok (.iconst 1, 1) := by decide +kernel
theorem d_Sh_addContours_66 : decode b_Sh_addContours 66 = .ok (.iadd, 1) := by decide +kernel
theorem d_Sh_addContours_67 : decode b_Sh_addContours 67 = .ok (.putfield 27, 3) := by decide +kernel
theorem d_Sh_addContours_70 : decode b_Sh_addContours 70 = .ok (.aload_n 0, 1) := by decide +kernel
theorem d_Sh_addContours_71 : decode b_Sh_addContours 71 = .ok (.getfield 23, 3) := by decide +kernel
theorem d_Sh_addContours_74 : decode b_Sh_addContours 74 = .ok (.iload_n 3, 1) := by decide +kernel
theorem d_Sh_addContours_75 : decode b_Sh_addContours 75 = .ok (.iadd, 1) := by decide +kernel
theorem d_Sh_addContours_76 : decode b_Sh_addContours 76 = .ok (.iastore, 1) := by decide +kernel
theorem d_Sh_addContours_77 : decode b_Sh_addContours 77 = .ok (.iinc 4 1, 3) := by decide +kernel
theorem d_Sh_addContours_80 : decode b_Sh_addContours 80 = .ok (.goto (-56), 3) := by decide +kernel
theorem d_Sh_addContours_83 : decode b_Sh_addContours 83 = .ok (.aload_n 0, 1) := by decide +kernel
theorem d_Sh_addContours_84 : decode b_Sh_addContours 84 = .ok (.getfield 23, 3) := by decide +kernel
theorem d_Sh_addContours_87 : decode b_Sh_addContours 87 = .ok (.istore 4, 2) := by decide +kernel
theorem d_Sh_addContours_89 : decode b_Sh_addContours 89 = .ok (.iload 4, 2) := by decide +kernel
theorem d_Sh_addContours_91 : decode b_Sh_addContours 91 = .ok (.iload_n 3, 1) := by decide +kernel
theorem d_Sh_addContours_92 : decode b_Sh_addContours 92 = .ok (.iadd, 1) := by decide +kernel
theorem d_Sh_addContours_93 : decode b_Sh_addContours 93 = .ok (.iconst 1, 1) := by decide +kernel
theorem d_Sh_addContours_94 : decode b_Sh_addContours 94 = .ok (.iadd, 1) := by decide +kernel
theorem d_Sh_addContours_95 : decode b_Sh_addContours 95 = .ok (.sipush 256, 3) := by decide +kernel
theorem d_Sh_addContours_98 : decode b_Sh_addContours 98 = .ok (.if_icmp .le 5, 3) := by decide +kernel
theorem d_Sh_addContours_101 : decode b_Sh_addContours 101 = .ok (.iconst 0, 1) := by decide +kernel
theorem d_Sh_addContours_102 : decode b_Sh_addContours 102 = .ok (.ireturn, 1) := by decide +kernel
theorem d_Sh_addContours_103 : decode b_Sh_addContours 103 = .ok (.aload_n 0, 1) := by decide +kernel
theorem d_Sh_addContours_104 : decode b_Sh_addContours 104 = .ok (.iload 4, 2) := by decide +kernel
theorem d_Sh_addContours_106 : decode b_Sh_addContours 106 = .ok (.iload_n 3, 1) := by decide +kernel
theorem d_Sh_addContours_107 : decode b_Sh_addContours 107 = .ok (.iadd, 1) := by decide +kernel
theorem d_Sh_addContours_108 : decode b_Sh_addContours 108 = .ok (.iconst 1, 1) := by decide +kernel
theorem d_Sh_addContours_109 : decode b_Sh_addContours 109 = .ok (.iadd, 1) := by decide +kernel
theorem d_Sh_addContours_110 : decode b_Sh_addContours 110 = .ok (.putfield 23, 3) := by decide +kernel
theorem d_Sh_addContours_113 : decode b_Sh_addContours 113 = .ok (.aload_n 1, 1) := by decide +kernel
theorem d_Sh_addContours_114 : decode b_Sh_addContours 114 = .ok (.aload_n 1, 1) := by decide +kernel
theorem d_Sh_addContours_115 : decode b_Sh_addContours 115 = .ok (.invokevirtual 63, 3) := by decide +kernel
theorem d_Sh_addContours_118 : decode b_Sh_addContours 118 = .ok (.invokevirtual 67, 3) := by decide +kernel
theorem d_Sh_addContours_121 : decode b_Sh_addContours 121 = .ok (.aload_n 0, 1) := by decide +kernel
theorem d_Sh_addContours_122 : decode b_Sh_addContours 122 = .ok (.aload_n 1, 1) := by decide +kernel
theorem d_Sh_addContours_123 : decode b_Sh_addContours 123 = .ok (.iload 4, 2) := by decide +kernel
theorem d_Sh_addContours_125 : decode b_Sh_addContours 125 = .ok (.invokevirtual 107, 3) := by decide +kernel
theorem d_Sh_addContours_128 : decode b_Sh_addContours 128 = .ok (.ifCond .eq 48, 3) := by decide +kernel
theorem d_Sh_addContours_131 : decode b_Sh_addContours 131 = .ok (.aload_n 0, 1) := by decide +kernel
theorem d_Sh_addContours_132 : decode b_Sh_addContours 132 = .ok (.aload_n 1, 1) := by decide +kernel
theorem d_Sh_addContours_133 : decode b_Sh_addContours 133 = .ok (.iload 4, 2) := by decide +kernel
theorem d_Sh_addContours_135 : decode b_Sh_addContours 135 = .ok (.aload_n 0, 1) := by decide +kernel
theorem d_Sh_addContours_136 : decode b_Sh_addContours 136 = .ok (.getfield 9, 3) := by decide +kernel
theorem d_Sh_addContours_139 : decode b_Sh_addContours 139 = .ok (.iconst 2, 1) := by decide +kernel
theorem d_Sh_addContours_140 : decode b_Sh_addContours 140 = .ok (.bipush 16, 2) := by decide +kernel
theorem d_Sh_addContours_142 : decode b_Sh_addContours 142 = .ok (.invokevirtual 110, 3) := by decide +kernel
theorem d_Sh_addContours_145 : decode b_Sh_addContours 145 = .ok (.ifCond .eq 31, 3) := by decide +kernel
theorem d_Sh_addContours_148 : decode b_Sh_addContours 148 = .ok (.aload_n 0, 1) := by decide +kernel
theorem d_Sh_addContours_149 : decode b_Sh_addContours 149 = .ok (.aload_n 1, 1) := by decide +kernel
theorem d_Sh_addContours_150 : decode b_Sh_addContours 150 = .ok (.iload 4, 2) := by decide +kernel
theorem d_Sh_addContours_152 : decode b_Sh_addContours 152 = .ok (.aload_n 0, 1) := by decide +kernel
theorem d_Sh_addContours_153 : decode b_Sh_addContours 153 = .ok (.getfield 13, 3) := by decide +kernel
theorem d_Sh_addContours_156 : decode b_Sh_addContours 156 = .ok (.iconst 4, 1) := by decide +kernel
theorem d_Sh_addContours_157 : decode b_Sh_addContours 157 = .ok (.bipush 32, 2) := by decide +kernel
theorem d_Sh_addContours_159 : decode b_Sh_addContours 159 = .ok (.invokevirtual 110, 3) := by decide +kernel
theorem d_Sh_addContours_162 : decode b_Sh_addContours 162 = .ok (.ifCond .eq 14, 3) := by decide +kernel
theorem d_Sh_addContours_165 : decode b_Sh_addContours 165 = .ok (.aload_n 1, 1) := by decide +kernel
theorem d_Sh_addContours_166 : decode b_Sh_addContours 166 = .ok (.invokevirtual 114, 3) := by decide +kernel
theorem d_Sh_addContours_169 : decode b_Sh_addContours 169 = .ok (.ifCond .eq 7, 3) := by decide +kernel
theorem d_Sh_addContours_172 : decode b_Sh_addContours 172 = .ok (.iconst 1, 1) := by decide +kernel
theorem d_Sh_addContours_173 : decode b_Sh_addContours 173 = .ok (.goto 4, 3) := by decide +kernel
theorem d_Sh_addContours_176 : decode b_Sh_addContours 176 = .ok (.iconst 0, 1) := by decide +kernel
theorem d_Sh_addContours_177 : decode b_Sh_addContours 177 = .ok (.ireturn, 1) := by decide +kernel
section
variable {p : Program} {l : Launch} {e : Env} {s : State} {m : MethodId} {args : Array Value} {below : List Frame} {meth : Method} {c : Code} {A : Nat → Prop} {dC : Nat → ClassId} {dI : Nat → Nat → Nat} {cy : Nat → ClassId}
def P_Rd_open (o_place : Int32) (o_limit : Int32) (o_whole : Int32) (a1_length : Int32) (a2 : Int32) (a3 : Int32) : Option (Int32 × Int32 × Int32) :=
  (P_Jm_max (0 : Int32) a2).bind fun r_1 => (P_Jm_min a3 a1_length).bind fun r_2 => some (r_1, r_2, (1 : Int32))
set_option maxHeartbeats 4000000 in
set_option maxRecDepth 100000 in
theorem c_Rd_open (l : Launch) (dC : Nat → ClassId) (dI : Nat → Nat → Nat) (cy : Nat → ClassId) (sz : Nat) (o : Nat) (a1 : Nat) (a1_bytes : Nat) (a1_starts : Nat) (a1_sizes : Nat) (a1_glyphStarts : Nat) (o_bytes : Option Nat) (o_place : Int32) (o_limit : Int32) (o_whole : Int32) (a1_length : Int32) (a1_units : Int32) (a1_glyphs : Int32) (a1_ascent : Int32) (a1_descent : Int32) (a1_gap : Int32) (a1_longLoca : Int32) (a1_metrics : Int32) (a1_codes : Int32) (a1_codesSize : Int32) (a1_segments : Int32) (a1_pairs : Int32) (a2 : Int32) (a3 : Int32) (uu : Int32 × Int32 × Int32) (h : P_Rd_open o_place o_limit o_whole a1_length a2 a3 = some uu) : Met l y_Rd_open (Cond.code y_Rd_open b_Rd_open 4 none :: G) ({ frames := 1, cells := 0, slots := 0, locals := 21 } : Room) (va_Pc [.ref o, .ref a1, .int a2, .int a3] (fun U => U.heap.size = sz ∧ va_P (dC, dI) classes [(o, .inr (0, [va_rf o_bytes, .int o_place, .int o_limit, .int o_whole])), (a1, .inr (7, [.ref a1_bytes, .int a1_length, .ref a1_starts, .ref a1_sizes, .ref a1_glyphStarts, .int a1_units, .int a1_glyphs, .int a1_ascent, .int a1_descent, .int a1_gap, .int a1_longLoca, .int a1_metrics, .int a1_codes, .int a1_codesSize, .int a1_segments, .int a1_pairs]))] U.heap ∧ va_K (dC, dI) classes (TY cy) U ∧ va_D (fun _ => True) [(o, .inr (0, [va_rf o_bytes, .int o_place, .int o_limit, .int o_whole])), (a1, .inr (7, [.ref a1_bytes, .int a1_length, .ref a1_starts, .ref a1_sizes, .ref a1_glyphStarts, .int a1_units, .int a1_glyphs, .int a1_ascent, .int a1_descent, .int a1_gap, .int a1_longLoca, .int a1_metrics, .int a1_codes, .int a1_codesSize, .int a1_segments, .int a1_pairs]))])) (va_Qv (fun _ : Unit => True) (fun _ t => va_P (dC, dI) classes [(o, .inr (0, [.ref a1_bytes, .int uu.1, .int uu.2.1, .int uu.2.2])), (a1, .inr (7, [.ref a1_bytes, .int a1_length, .ref a1_starts, .ref a1_sizes, .ref a1_glyphStarts, .int a1_units, .int a1_glyphs, .int a1_ascent, .int a1_descent, .int a1_gap, .int a1_longLoca, .int a1_metrics, .int a1_codes, .int a1_codesSize, .int a1_segments, .int a1_pairs]))] t.heap ∧ va_K (dC, dI) classes (TY cy) t ∧ va_D (va_A [(o, .inr (0, [va_rf o_bytes, .int o_place, .int o_limit, .int o_whole])), (a1, .inr (7, [.ref a1_bytes, .int a1_length, .ref a1_starts, .ref a1_sizes, .ref a1_glyphStarts, .int a1_units, .int a1_glyphs, .int a1_ascent, .int a1_descent, .int a1_gap, .int a1_longLoca, .int a1_metrics, .int a1_codes, .int a1_codesSize, .int a1_segments, .int a1_pairs]))] sz) [(o, .inr (0, [.ref a1_bytes, .int uu.1, .int uu.2.1, .int uu.2.2])), (a1, .inr (7, [.ref a1_bytes, .int a1_length, .ref a1_starts, .ref a1_sizes, .ref a1_glyphStarts, .int a1_units, .int a1_glyphs, .int a1_ascent, .int a1_descent, .int a1_gap, .int a1_longLoca, .int a1_metrics, .int a1_codes, .int a1_codesSize, .int a1_segments, .int a1_pairs]))]) (va_A [(o, .inr (0, [va_rf o_bytes, .int o_place, .int o_limit, .int o_whole])), (a1, .inr (7, [.ref a1_bytes, .int a1_length, .ref a1_starts, .ref a1_sizes, .ref a1_glyphStarts, .int a1_units, .int a1_glyphs, .int a1_ascent, .int a1_descent, .int a1_gap, .int a1_longLoca, .int a1_metrics, .int a1_codes, .int a1_codesSize, .int a1_segments, .int a1_pairs]))] sz)) 0 0 (va_A [(o, .inr (0, [va_rf o_bytes, .int o_place, .int o_limit, .int o_whole])), (a1, .inr (7, [.ref a1_bytes, .int a1_length, .ref a1_starts, .ref a1_sizes, .ref a1_glyphStarts, .int a1_units, .int a1_glyphs, .int a1_ascent, .int a1_descent, .int a1_gap, .int a1_longLoca, .int a1_metrics, .int a1_codes, .int a1_codesSize, .int a1_segments, .int a1_pairs]))] sz) := by
  refine Met.ofW (cc := b_Rd_open) (maxL := 4) (ret := none) (by decide) rfl ?_
  intro p e s m args below meth c s₁ B hml hv
  obtain ⟨rfl, hsz, hP, hK, hD0⟩ := hv
  have hx := B.exec
  have hb := B.bytes
  have hr := B.returns
  have hts := atoms_spec (ws := Cond.code y_Rd_open b_Rd_open 4 none :: G) B.pre
  have htsG : ∀ w ∈ G, w.before _ s = true := fun w hw => hts w (List.mem_cons_of_mem _ hw)
  have hown : s.vm.findClass "GlyphPage$Reader" = some m.cls := findClass_of_methodNamed B.named
  have hlocks := B.notSynchronized
  subst hsz
  have hD := hD0.self (sz := s.heap.size)
  generalize hAe : va_A [(o, .inr (0, [va_rf o_bytes, .int o_place, .int o_limit, .int o_whole])), (a1, .inr (7, [.ref a1_bytes, .int a1_length, .ref a1_starts, .ref a1_sizes, .ref a1_glyphStarts, .int a1_units, .int a1_glyphs, .int a1_ascent, .int a1_descent, .int a1_gap, .int a1_longLoca, .int a1_metrics, .int a1_codes, .int a1_codesSize, .int a1_segments, .int a1_pairs]))] s.heap.size = A at hD ⊢
  have hA : ∀ q : Nat, s.heap.size ≤ q → A q := fun q h => by rw [← hAe]; exact Or.inr h
  have hS : va_S A s.heap s.heap [] := va_S.rf
  have hl := lv_entry ([.ref o, .ref a1, .int a2, .int a3]) (n := 4) (Nat.le_of_ble_eq_true rfl)
  rw [lg_entry_eq]
  generalize (lg_sl ([.ref o, .ref a1, .int a2, .int a3]) ++ List.replicate (4 - (lg_sl ([.ref o, .ref a1, .int a2, .int a3])).length) Slot.unset).toArray = ls at hl ⊢
  have hl : lv_has ls 4 [(0, .ref o), (1, .ref a1), (2, .int a2), (3, .int a3)] := hl
  have C0 : Cx p s m _ meth c A dC dI cy b_Rd_open 4 none "GlyphPage$Reader" := ⟨hx, hb, hr, hlocks, hml, hown, htsG, hA, hK⟩
  unfold P_Rd_open at h
  refine lv_aload_n hx hb d_Rd_open_0 rfl (lv_at hl 0 rfl) ?_
  refine lv_aload_n hx hb d_Rd_open_1 rfl (lv_at hl 1 rfl) ?_
  refine va_get (D := (dC, dI)) (ci := 7) (v := .ref a1_bytes) (C := "GlyphPage$FontFile") (T := F_Ff) (N := 16) hx hb htsG iG_Ff hown hK hP 1 rfl rfl 0 (by decide) (htsG _ mW300) (fun _ h9 => h9) rfl d_Rd_open_2 ?_
  refine va_put (D := (dC, dI)) (ci := 0) (v := .ref a1_bytes) (ty := .array .byte) (C := "GlyphPage$Reader") (T := F_Rd) (N := 4) hx hb htsG iG_Rd t_Rd t_Rd_ok n_Rd hown hK hP hD hS 0 rfl rfl 0 (by decide) (htsG _ mW37) (fun _ h9 => h9) rfl (by decide +kernel) rfl rfl (Nat.le_of_ble_eq_true rfl) d_Rd_open_5 (fun H locs hP hD hS => ?_)
  have hP : va_P (dC, dI) classes [(o, .inr (0, [.ref a1_bytes, .int o_place, .int o_limit, .int o_whole])), (a1, .inr (7, [.ref a1_bytes, .int a1_length, .ref a1_starts, .ref a1_sizes, .ref a1_glyphStarts, .int a1_units, .int a1_glyphs, .int a1_ascent, .int a1_descent, .int a1_gap, .int a1_longLoca, .int a1_metrics, .int a1_codes, .int a1_codesSize, .int a1_segments, .int a1_pairs]))] H := hP
  have hD : va_D A [(o, .inr (0, [.ref a1_bytes, .int o_place, .int o_limit, .int o_whole])), (a1, .inr (7, [.ref a1_bytes, .int a1_length, .ref a1_starts, .ref a1_sizes, .ref a1_glyphStarts, .int a1_units, .int a1_glyphs, .int a1_ascent, .int a1_descent, .int a1_gap, .int a1_longLoca, .int a1_metrics, .int a1_codes, .int a1_codesSize, .int a1_segments, .int a1_pairs]))] := hD
  refine lv_aload_n hx hb d_Rd_open_8 rfl (lv_at hl 0 rfl) ?_
  refine lv_iconst (v := (0 : Int32)) hx hb d_Rd_open_9 (by decide) ?_
  refine lv_iload_n hx hb d_Rd_open_10 rfl (lv_at hl 2 rfl) ?_
  obtain ⟨r_1, hq, h⟩ := Option.bind_eq_some_iff.mp h
  try dsimp only at h
  have hPc := hP.sub (ws' := []) [] rfl
  have hDc := hD.sub (ws' := []) [] (by decide) rfl
  have hFc := va_free (wc := []) hD hS hA [] rfl
  refine va_calli (va_runS (As := [.int (0 : Int32), .int a2]) (rest := [.ref o]) ⟨hx, hb, hml, hown, htsG⟩ (c_Jm_max l dC dI cy H.size (0 : Int32) a2 r_1 hq) (va_cwS 2 htsG (gS mW451 mW219 mW8 mW220) rfl rfl rfl (by decide +kernel) ⟨Nat.le_of_ble_eq_true rfl, Nat.le_of_ble_eq_true rfl⟩) ⟨fun a U g mk q => by obtain ⟨q0, q1, qP, qK, qD⟩ := q; exact ⟨q0, q1, qP, va_K.moved (u := U) (U := U.calling g mk a) (Vm.Alike.refl U.vm) qK, qD⟩, fun U hU hW => ⟨rfl, by rw [hU], by rw [hU]; exact hPc, va_K.moved hW.alike hK, hDc.weaken (fun _ _ _ _ => trivial)⟩⟩ rfl rfl hl.1 rfl (lv_room (Nat.le_of_ble_eq_true rfl)) d_Rd_open_11 ⟨Nat.le_of_ble_eq_true rfl, Nat.le_of_ble_eq_true rfl⟩) hS (fun q _ h => hFc q h) hFc (fun rr u t H1 locs ht hvm hw hB hz1 hk1 hS => ?_)
  obtain ⟨hP1, hK1, hD1⟩ := hB
  rw [ht] at hP1
  replace hw : r_1 = rr := hw.symm
  subst hw
  obtain ⟨hP, hD⟩ := va_join (wr := [(o, .inr (0, [.ref a1_bytes, .int o_place, .int o_limit, .int o_whole])), (a1, .inr (7, [.ref a1_bytes, .int a1_length, .ref a1_starts, .ref a1_sizes, .ref a1_glyphStarts, .int a1_units, .int a1_glyphs, .int a1_ascent, .int a1_descent, .int a1_gap, .int a1_longLoca, .int a1_metrics, .int a1_codes, .int a1_codesSize, .int a1_segments, .int a1_pairs]))]) (w1 := []) hP hD [] [0, 1] rfl rfl (by decide) (by decide) hk1 hFc hP1 hD1
  generalize H1 = H at hP hS ⊢
  have hP := hP.sub (ws' := [(o, .inr (0, [.ref a1_bytes, .int o_place, .int o_limit, .int o_whole])), (a1, .inr (7, [.ref a1_bytes, .int a1_length, .ref a1_starts, .ref a1_sizes, .ref a1_glyphStarts, .int a1_units, .int a1_glyphs, .int a1_ascent, .int a1_descent, .int a1_gap, .int a1_longLoca, .int a1_metrics, .int a1_codes, .int a1_codesSize, .int a1_segments, .int a1_pairs]))]) [0, 1] rfl
  have hD := hD.sub (ws' := [(o, .inr (0, [.ref a1_bytes, .int o_place, .int o_limit, .int o_whole])), (a1, .inr (7, [.ref a1_bytes, .int a1_length, .ref a1_starts, .ref a1_sizes, .ref a1_glyphStarts, .int a1_units, .int a1_glyphs, .int a1_ascent, .int a1_descent, .int a1_gap, .int a1_longLoca, .int a1_metrics, .int a1_codes, .int a1_codesSize, .int a1_segments, .int a1_pairs]))]) [0, 1] (by decide) rfl
  refine W.widen (k := 0) (n := 0) (by decide) (by decide) ?_
  refine va_put (D := (dC, dI)) (ci := 0) (v := .int r_1) (ty := .int) (C := "GlyphPage$Reader") (T := F_Rd) (N := 4) hx hb htsG iG_Rd t_Rd t_Rd_ok n_Rd hown hK hP hD hS 0 rfl rfl 1 (by decide) (htsG _ mW38) (fun _ h9 => h9) rfl (by decide +kernel) rfl rfl (Nat.le_of_ble_eq_true rfl) d_Rd_open_14 (fun H locs hP hD hS => ?_)
  have hP : va_P (dC, dI) classes [(o, .inr (0, [.ref a1_bytes, .int r_1, .int o_limit, .int o_whole])), (a1, .inr (7, [.ref a1_bytes, .int a1_length, .ref a1_starts, .ref a1_sizes, .ref a1_glyphStarts, .int a1_units, .int a1_glyphs, .int a1_ascent, .int a1_descent, .int a1_gap, .int a1_longLoca, .int a1_metrics, .int a1_codes, .int a1_codesSize, .int a1_segments, .int a1_pairs]))] H := hP
  have hD : va_D A [(o, .inr (0, [.ref a1_bytes, .int r_1, .int o_limit, .int o_whole])), (a1, .inr (7, [.ref a1_bytes, .int a1_length, .ref a1_starts, .ref a1_sizes, .ref a1_glyphStarts, .int a1_units, .int a1_glyphs, .int a1_ascent, .int a1_descent, .int a1_gap, .int a1_longLoca, .int a1_metrics, .int a1_codes, .int a1_codesSize, .int a1_segments, .int a1_pairs]))] := hD
  refine lv_aload_n hx hb d_Rd_open_17 rfl (lv_at hl 0 rfl) ?_
  refine lv_iload_n hx hb d_Rd_open_18 rfl (lv_at hl 3 rfl) ?_
  refine lv_aload_n hx hb d_Rd_open_19 rfl (lv_at hl 1 rfl) ?_
  refine va_get (D := (dC, dI)) (ci := 7) (v := .int a1_length) (C := "GlyphPage$FontFile") (T := F_Ff) (N := 16) hx hb htsG iG_Ff hown hK hP 1 rfl rfl 1 (by decide) (htsG _ mW302) (fun _ h9 => h9) rfl d_Rd_open_20 ?_
  obtain ⟨r_2, hq, h⟩ := Option.bind_eq_some_iff.mp h
  try dsimp only at h
  have hPc := hP.sub (ws' := []) [] rfl
  have hDc := hD.sub (ws' := []) [] (by decide) rfl
  have hFc := va_free (wc := []) hD hS hA [] rfl
  refine va_calli (va_runS (As := [.int a3, .int a1_length]) (rest := [.ref o]) ⟨hx, hb, hml, hown, htsG⟩ (c_Jm_min l dC dI cy H.size a3 a1_length r_2 hq) (va_cwS 2 htsG (gS mW452 mW216 mW8 mW217) rfl rfl rfl (by decide +kernel) ⟨Nat.le_of_ble_eq_true rfl, Nat.le_of_ble_eq_true rfl⟩) ⟨fun a U g mk q => by obtain ⟨q0, q1, qP, qK, qD⟩ := q; exact ⟨q0, q1, qP, va_K.moved (u := U) (U := U.calling g mk a) (Vm.Alike.refl U.vm) qK, qD⟩, fun U hU hW => ⟨rfl, by rw [hU], by rw [hU]; exact hPc, va_K.moved hW.alike hK, hDc.weaken (fun _ _ _ _ => trivial)⟩⟩ rfl rfl hl.1 rfl (lv_room (Nat.le_of_ble_eq_true rfl)) d_Rd_open_23 ⟨Nat.le_of_ble_eq_true rfl, Nat.le_of_ble_eq_true rfl⟩) hS (fun q _ h => hFc q h) hFc (fun rr u t H1 locs ht hvm hw hB hz1 hk1 hS => ?_)
  obtain ⟨hP1, hK1, hD1⟩ := hB
  rw [ht] at hP1
  replace hw : r_2 = rr := hw.symm
  subst hw
  obtain ⟨hP, hD⟩ := va_join (wr := [(o, .inr (0, [.ref a1_bytes, .int r_1, .int o_limit, .int o_whole])), (a1, .inr (7, [.ref a1_bytes, .int a1_length, .ref a1_starts, .ref a1_sizes, .ref a1_glyphStarts, .int a1_units, .int a1_glyphs, .int a1_ascent, .int a1_descent, .int a1_gap, .int a1_longLoca, .int a1_metrics, .int a1_codes, .int a1_codesSize, .int a1_segments, .int a1_pairs]))]) (w1 := []) hP hD [] [0, 1] rfl rfl (by decide) (by decide) hk1 hFc hP1 hD1
  generalize H1 = H at hP hS ⊢
  have hP := hP.sub (ws' := [(o, .inr (0, [.ref a1_bytes, .int r_1, .int o_limit, .int o_whole])), (a1, .inr (7, [.ref a1_bytes, .int a1_length, .ref a1_starts, .ref a1_sizes, .ref a1_glyphStarts, .int a1_units, .int a1_glyphs, .int a1_ascent, .int a1_descent, .int a1_gap, .int a1_longLoca, .int a1_metrics, .int a1_codes, .int a1_codesSize, .int a1_segments, .int a1_pairs]))]) [0, 1] rfl
  have hD := hD.sub (ws' := [(o, .inr (0, [.ref a1_bytes, .int r_1, .int o_limit, .int o_whole])), (a1, .inr (7, [.ref a1_bytes, .int a1_length, .ref a1_starts, .ref a1_sizes, .ref a1_glyphStarts, .int a1_units, .int a1_glyphs, .int a1_ascent, .int a1_descent, .int a1_gap, .int a1_longLoca, .int a1_metrics, .int a1_codes, .int a1_codesSize, .int a1_segments, .int a1_pairs]))]) [0, 1] (by decide) rfl
  refine W.widen (k := 0) (n := 0) (by decide) (by decide) ?_
  refine va_put (D := (dC, dI)) (ci := 0) (v := .int r_2) (ty := .int) (C := "GlyphPage$Reader") (T := F_Rd) (N := 4) hx hb htsG iG_Rd t_Rd t_Rd_ok n_Rd hown hK hP hD hS 0 rfl rfl 2 (by decide) (htsG _ mW39) (fun _ h9 => h9) rfl (by decide +kernel) rfl rfl (Nat.le_of_ble_eq_true rfl) d_Rd_open_26 (fun H locs hP hD hS => ?_)
  have hP : va_P (dC, dI) classes [(o, .inr (0, [.ref a1_bytes, .int r_1, .int r_2, .int o_whole])), (a1, .inr (7, [.ref a1_bytes, .int a1_length, .ref a1_starts, .ref a1_sizes, .ref a1_glyphStarts, .int a1_units, .int a1_glyphs, .int a1_ascent, .int a1_descent, .int a1_gap, .int a1_longLoca, .int a1_metrics, .int a1_codes, .int a1_codesSize, .int a1_segments, .int a1_pairs]))] H := hP
  have hD : va_D A [(o, .inr (0, [.ref a1_bytes, .int r_1, .int r_2, .int o_whole])), (a1, .inr (7, [.ref a1_bytes, .int a1_length, .ref a1_starts, .ref a1_sizes, .ref a1_glyphStarts, .int a1_units, .int a1_glyphs, .int a1_ascent, .int a1_descent, .int a1_gap, .int a1_longLoca, .int a1_metrics, .int a1_codes, .int a1_codesSize, .int a1_segments, .int a1_pairs]))] := hD
  refine lv_aload_n hx hb d_Rd_open_29 rfl (lv_at hl 0 rfl) ?_
  refine lv_iconst (v := (1 : Int32)) hx hb d_Rd_open_30 (by decide) ?_
  refine va_put (D := (dC, dI)) (ci := 0) (v := .int (1 : Int32)) (ty := .boolean) (C := "GlyphPage$Reader") (T := F_Rd) (N := 4) hx hb htsG iG_Rd t_Rd t_Rd_ok n_Rd hown hK hP hD hS 0 rfl rfl 3 (by decide) (htsG _ mW40) (fun _ h9 => h9) rfl (by decide +kernel) rfl rfl (Nat.le_of_ble_eq_true rfl) d_Rd_open_31 (fun H locs hP hD hS => ?_)
  have hP : va_P (dC, dI) classes [(o, .inr (0, [.ref a1_bytes, .int r_1, .int r_2, .int (1 : Int32)])), (a1, .inr (7, [.ref a1_bytes, .int a1_length, .ref a1_starts, .ref a1_sizes, .ref a1_glyphStarts, .int a1_units, .int a1_glyphs, .int a1_ascent, .int a1_descent, .int a1_gap, .int a1_longLoca, .int a1_metrics, .int a1_codes, .int a1_codesSize, .int a1_segments, .int a1_pairs]))] H := hP
  have hD : va_D A [(o, .inr (0, [.ref a1_bytes, .int r_1, .int r_2, .int (1 : Int32)])), (a1, .inr (7, [.ref a1_bytes, .int a1_length, .ref a1_starts, .ref a1_sizes, .ref a1_glyphStarts, .int a1_units, .int a1_glyphs, .int a1_ascent, .int a1_descent, .int a1_gap, .int a1_longLoca, .int a1_metrics, .int a1_codes, .int a1_codesSize, .int a1_segments, .int a1_pairs]))] := hD
  cases h
  exact W.vret hx hb hr (fun t ht hW => ⟨⟨(), rfl, trivial, by rw [ht]; exact hP, va_K.moved hW.alike hK, hD⟩, hS.F ht⟩) hS.2.2 d_Rd_open_34 hlocks
def P_Pt_read_209 (a1_limit : Int32) (a1_bytes_f : Nat → Int32)  (x2 : Int32) (x3 : Int32) (o_glyph : Int32) (o_isLast : Int32) (o_dx : Int32) (o_dy : Int32) (o_a : Int32) (o_b : Int32) (o_c : Int32) (o_d : Int32) (a1_place : Int32) (a1_whole : Int32) : Option (Int32 × Int32 × Int32 × Int32 × Int32 × Int32 × Int32 × Int32 × Int32 × Int32 × Int32) :=
  (P_Rd_isWhole a1_whole).bind fun r_1 => if r_1 = 0 then (some ((0 : Int32), o_glyph, o_isLast, o_dx, o_dy, o_a, o_b, o_c, o_d, a1_place, a1_whole)) else (if (x3 &&& (2 : Int32)) = 0 then (some ((0 : Int32), o_glyph, o_isLast, o_dx, o_dy, o_a, o_b, o_c, o_d, a1_place, a1_whole)) else (if x2 ≤ o_glyph then (some ((0 : Int32), o_glyph, o_isLast, o_dx, o_dy, o_a, o_b, o_c, o_d, a1_place, a1_whole)) else (some ((1 : Int32), o_glyph, o_isLast, o_dx, o_dy, o_a, o_b, o_c, o_d, a1_place, a1_whole))))
set_option maxHeartbeats 4000000 in
set_option maxRecDepth 100000 in
theorem w_Pt_read_209 (C0 : Cx p s m args meth c A dC dI cy b_Pt_read 5 (some .boolean) "GlyphPage$Part") (o : Nat) (a1 : Nat) (a1_bytes : Nat) (a1_limit : Int32) (a1_bytes_f : Nat → Int32) (a2 : Int32) (uu : Int32 × Int32 × Int32 × Int32 × Int32 × Int32 × Int32 × Int32 × Int32 × Int32 × Int32)  (x2 : Int32) (x3 : Int32) (o_glyph : Int32) (o_isLast : Int32) (o_dx : Int32) (o_dy : Int32) (o_a : Int32) (o_b : Int32) (o_c : Int32) (o_d : Int32) (a1_place : Int32) (a1_whole : Int32) {H : Heap} {locs : List Loc} {ls : Array Slot} (h : P_Pt_read_209 a1_limit a1_bytes_f x2 x3 o_glyph o_isLast o_dx o_dy o_a o_b o_c o_d a1_place a1_whole = some uu) : va_P (dC, dI) classes [(o, .inr (1, [.int o_glyph, .int o_isLast, .int o_dx, .int o_dy, .int o_a, .int o_b, .int o_c, .int o_d])), (a1, .inr (0, [.ref a1_bytes, .int a1_place, .int a1_limit, .int a1_whole])), (a1_bytes, .inl (cy 1, 4096, .inl a1_bytes_f))] H → va_D A [(o, .inr (1, [.int o_glyph, .int o_isLast, .int o_dx, .int o_dy, .int o_a, .int o_b, .int o_c, .int o_d])), (a1, .inr (0, [.ref a1_bytes, .int a1_place, .int a1_limit, .int a1_whole])), (a1_bytes, .inl (cy 1, 4096, .inl a1_bytes_f))] → va_S A s.heap H locs → lv_has ls 5 [(0, .ref o), (1, .ref a1), (2, .int x2), (3, .int x3)] → W p l e ({ frames := 1, cells := 0, slots := 0, locals := 20 } : Room) s m args below meth c H locs 0 0 (MQ below (va_Qi (fun r (_ : Unit) => r = uu.1) (fun _ t => va_P (dC, dI) classes [(o, .inr (1, [.int uu.2.1, .int uu.2.2.1, .int uu.2.2.2.1, .int uu.2.2.2.2.1, .int uu.2.2.2.2.2.1, .int uu.2.2.2.2.2.2.1, .int uu.2.2.2.2.2.2.2.1, .int uu.2.2.2.2.2.2.2.2.1])), (a1, .inr (0, [.ref a1_bytes, .int uu.2.2.2.2.2.2.2.2.2.1, .int a1_limit, .int uu.2.2.2.2.2.2.2.2.2.2])), (a1_bytes, .inl (cy 1, 4096, .inl a1_bytes_f))] t.heap ∧ va_K (dC, dI) classes (TY cy) t ∧ va_D A [(o, .inr (1, [.int uu.2.1, .int uu.2.2.1, .int uu.2.2.2.1, .int uu.2.2.2.2.1, .int uu.2.2.2.2.2.1, .int uu.2.2.2.2.2.2.1, .int uu.2.2.2.2.2.2.2.1, .int uu.2.2.2.2.2.2.2.2.1])), (a1, .inr (0, [.ref a1_bytes, .int uu.2.2.2.2.2.2.2.2.2.1, .int a1_limit, .int uu.2.2.2.2.2.2.2.2.2.2])), (a1_bytes, .inl (cy 1, 4096, .inl a1_bytes_f))]) A) args s 0 0 A) (F0 m 209 ls []) := by
  intro hP hD hS hl
  obtain ⟨hx, hb, hr, hlocks, hml, hown, htsG, hA, hK⟩ := id C0
  unfold P_Pt_read_209 at h
  refine lv_aload_n hx hb d_Pt_read_209 rfl (lv_at hl 1 rfl) ?_
  obtain ⟨r_1, hq, h⟩ := Option.bind_eq_some_iff.mp h
  try dsimp only at h
  have hPc := hP.sub (ws' := [(a1, .inr (0, [.ref a1_bytes, .int a1_place, .int a1_limit, .int a1_whole]))]) [1] rfl
  have hDc := hD.sub (ws' := [(a1, .inr (0, [.ref a1_bytes, .int a1_place, .int a1_limit, .int a1_whole]))]) [1] (by decide) rfl
  have hFc := va_free (wc := [(a1, .inr (0, [.ref a1_bytes, .int a1_place, .int a1_limit, .int a1_whole]))]) hD hS hA [1] rfl
  refine va_calli (va_runV (As := []) (rest := []) ⟨hx, hb, hml, hown, htsG⟩ (c_Rd_isWhole l dC dI cy H.size a1 (some a1_bytes) a1_place a1_limit a1_whole r_1 hq) (cwV 0 htsG (gV mW474 mW475 mW476 mW3 mW477) rfl rfl rfl (by decide +kernel) ⟨Nat.le_of_ble_eq_true rfl, Nat.le_of_ble_eq_true rfl⟩) ⟨fun a U g mk q => by obtain ⟨q0, q1, qP, qK, qD⟩ := q; exact ⟨q0, q1, qP, va_K.moved (u := U) (U := U.calling g mk a) (Vm.Alike.refl U.vm) qK, qD⟩, va_recv hK hPc (ci := 0) (q0 := 0) rfl rfl, fun U hU hW => ⟨rfl, by rw [hU], by rw [hU]; exact hPc, va_K.moved hW.alike hK, hDc.weaken (fun _ _ _ _ => trivial)⟩⟩ rfl rfl hl.1 rfl (lv_room (Nat.le_of_ble_eq_true rfl)) d_Pt_read_210 ⟨Nat.le_of_ble_eq_true rfl, Nat.le_of_ble_eq_true rfl⟩) hS (fun q _ h => hFc q h) hFc (fun rr u t H1 locs ht hvm hw hB hz1 hk1 hS => ?_)
  obtain ⟨hP1, hK1, hD1⟩ := hB
  rw [ht] at hP1
  replace hw : r_1 = rr := hw.symm
  subst hw
  obtain ⟨hP, hD⟩ := va_join (wr := [(o, .inr (1, [.int o_glyph, .int o_isLast, .int o_dx, .int o_dy, .int o_a, .int o_b, .int o_c, .int o_d])), (a1_bytes, .inl (cy 1, 4096, .inl a1_bytes_f))]) (w1 := [(a1, .inr (0, [.ref a1_bytes, .int a1_place, .int a1_limit, .int a1_whole]))]) hP hD [1] [0, 2] rfl rfl (by decide) (by decide) hk1 hFc hP1 hD1
  generalize H1 = H at hP hS ⊢
  have hP := hP.sub (ws' := [(o, .inr (1, [.int o_glyph, .int o_isLast, .int o_dx, .int o_dy, .int o_a, .int o_b, .int o_c, .int o_d])), (a1, .inr (0, [.ref a1_bytes, .int a1_place, .int a1_limit, .int a1_whole])), (a1_bytes, .inl (cy 1, 4096, .inl a1_bytes_f))]) [0, 2, 1] rfl
  have hD := hD.sub (ws' := [(o, .inr (1, [.int o_glyph, .int o_isLast, .int o_dx, .int o_dy, .int o_a, .int o_b, .int o_c, .int o_d])), (a1, .inr (0, [.ref a1_bytes, .int a1_place, .int a1_limit, .int a1_whole])), (a1_bytes, .inl (cy 1, 4096, .inl a1_bytes_f))]) [0, 2, 1] (by decide) rfl
  refine W.widen (k := 0) (n := 0) (by decide) (by decide) ?_
  refine lv_if_eq (tgt := 234) hx hb d_Pt_read_213 (by decide) (fun c_2 => ?_) (fun c_2 => ?_)
  · replace h := (if_pos c_2).symm.trans h
    refine lv_iconst (v := (0 : Int32)) hx hb d_Pt_read_234 (by decide) ?_
    cases h
    exact W.zret (ty := .boolean) hx hb hr rfl (fun t ht hW => ⟨⟨_, (), rfl, rfl, by rw [ht]; exact hP, va_K.moved hW.alike hK, hD⟩, hS.F ht⟩) hS.2.2 d_Pt_read_235 hlocks
  · replace h := (if_neg c_2).symm.trans h
    refine lv_iload_n hx hb d_Pt_read_216 rfl (lv_at hl 3 rfl) ?_
    refine lv_iconst (v := (2 : Int32)) hx hb d_Pt_read_217 (by decide) ?_
    refine lv_iand hx hb d_Pt_read_218 ?_
    refine lv_if_eq (tgt := 234) hx hb d_Pt_read_219 (by decide) (fun c_3 => ?_) (fun c_3 => ?_)
    · replace h := (if_pos c_3).symm.trans h
      refine lv_iconst (v := (0 : Int32)) hx hb d_Pt_read_234 (by decide) ?_
      cases h
      exact W.zret (ty := .boolean) hx hb hr rfl (fun t ht hW => ⟨⟨_, (), rfl, rfl, by rw [ht]; exact hP, va_K.moved hW.alike hK, hD⟩, hS.F ht⟩) hS.2.2 d_Pt_read_235 hlocks
    · replace h := (if_neg c_3).symm.trans h
      refine lv_aload_n hx hb d_Pt_read_222 rfl (lv_at hl 0 rfl) ?_
      refine va_get (D := (dC, dI)) (ci := 1) (v := .int o_glyph) (C := "GlyphPage$Part") (T := F_Pt) (N := 8) hx hb htsG iG_Pt hown hK hP 0 rfl rfl 0 (by decide) (htsG _ mW57) (fun _ h9 => h9) rfl d_Pt_read_223 ?_
      refine lv_iload_n hx hb d_Pt_read_226 rfl (lv_at hl 2 rfl) ?_
      refine lv_icmp_ge (tgt := 234) hx hb d_Pt_read_227 (by decide) (fun c_4 => ?_) (fun c_4 => ?_)
      · replace h := (if_pos c_4).symm.trans h
        refine lv_iconst (v := (0 : Int32)) hx hb d_Pt_read_234 (by decide) ?_
        cases h
        exact W.zret (ty := .boolean) hx hb hr rfl (fun t ht hW => ⟨⟨_, (), rfl, rfl, by rw [ht]; exact hP, va_K.moved hW.alike hK, hD⟩, hS.F ht⟩) hS.2.2 d_Pt_read_235 hlocks
      · replace h := (if_neg c_4).symm.trans h
        refine lv_iconst (v := (1 : Int32)) hx hb d_Pt_read_230 (by decide) ?_
        refine lv_goto (tgt := 235) hx hb d_Pt_read_231 (by decide) ?_
        cases h
        exact W.zret (ty := .boolean) hx hb hr rfl (fun t ht hW => ⟨⟨_, (), rfl, rfl, by rw [ht]; exact hP, va_K.moved hW.alike hK, hD⟩, hS.F ht⟩) hS.2.2 d_Pt_read_235 hlocks
def P_Pt_read_83 (a1_limit : Int32) (a1_bytes_f : Nat → Int32)  (x2 : Int32) (x3 : Int32) (k0 : Int32) (o_glyph : Int32) (o_isLast : Int32) (o_dx : Int32) (o_dy : Int32) (o_a : Int32) (o_b : Int32) (o_c : Int32) (o_d : Int32) (a1_place : Int32) (a1_whole : Int32) : Option (Int32 × Int32 × Int32 × Int32 × Int32 × Int32 × Int32 × Int32 × Int32 × Int32 × Int32) :=
  if (x3 &&& (8 : Int32)) = 0 then (if (x3 &&& (64 : Int32)) = 0 then (if (x3 &&& (128 : Int32)) = 0 then (P_Pt_read_209 a1_limit a1_bytes_f x2 x3 o_glyph o_isLast o_dx k0 (16384 : Int32) (0 : Int32) (0 : Int32) (16384 : Int32) a1_place a1_whole) else ((P_Rd_two a1_place a1_limit a1_whole a1_bytes_f).bind <| unp fun r_4 => unp fun n_5 n_6 => (P_Rd_two n_5 a1_limit n_6 a1_bytes_f).bind <| unp fun r_7 => unp fun n_8 n_9 => (P_Rd_two n_8 a1_limit n_9 a1_bytes_f).bind <| unp fun r_10 => unp fun n_11 n_12 => (P_Rd_two n_11 a1_limit n_12 a1_bytes_f).bind <| unp fun r_13 => unp fun n_14 n_15 => P_Pt_read_209 a1_limit a1_bytes_f x2 x3 o_glyph o_isLast o_dx k0 (r_4.toInt16.toInt32) (r_7.toInt16.toInt32) (r_10.toInt16.toInt32) (r_13.toInt16.toInt32) n_14 n_15)) else ((P_Rd_two a1_place a1_limit a1_whole a1_bytes_f).bind <| unp fun r_16 => unp fun n_17 n_18 => (P_Rd_two n_17 a1_limit n_18 a1_bytes_f).bind <| unp fun r_19 => unp fun n_20 n_21 => P_Pt_read_209 a1_limit a1_bytes_f x2 x3 o_glyph o_isLast o_dx k0 (r_16.toInt16.toInt32) (0 : Int32) (0 : Int32) (r_19.toInt16.toInt32) n_20 n_21)) else ((P_Rd_two a1_place a1_limit a1_whole a1_bytes_f).bind <| unp fun r_22 => unp fun n_23 n_24 => P_Pt_read_209 a1_limit a1_bytes_f x2 x3 o_glyph o_isLast o_dx k0 (r_22.toInt16.toInt32) (0 : Int32) (0 : Int32) (r_22.toInt16.toInt32) n_23 n_24)
set_option maxHeartbeats 4000000 in
set_option maxRecDepth 100000 in
theorem w_Pt_read_83 (C0 : Cx p s m args meth c A dC dI cy b_Pt_read 5 (some .boolean) "GlyphPage$Part") (o : Nat) (a1 : Nat) (a1_bytes : Nat) (a1_limit : Int32) (a1_bytes_f : Nat → Int32) (a2 : Int32) (uu : Int32 × Int32 × Int32 × Int32 × Int32 × Int32 × Int32 × Int32 × Int32 × Int32 × Int32)  (x2 : Int32) (x3 : Int32) (k0 : Int32) (o_glyph : Int32) (o_isLast : Int32) (o_dx : Int32) (o_dy : Int32) (o_a : Int32) (o_b : Int32) (o_c : Int32) (o_d : Int32) (a1_place : Int32) (a1_whole : Int32) {H : Heap} {locs : List Loc} {ls : Array Slot} (h : P_Pt_read_83 a1_limit a1_bytes_f x2 x3 k0 o_glyph o_isLast o_dx o_dy o_a o_b o_c o_d a1_place a1_whole = some uu) : va_P (dC, dI) classes [(o, .inr (1, [.int o_glyph, .int o_isLast, .int o_dx, .int o_dy, .int o_a, .int o_b, .int o_c, .int o_d])), (a1, .inr (0, [.ref a1_bytes, .int a1_place, .int a1_limit, .int a1_whole])), (a1_bytes, .inl (cy 1, 4096, .inl a1_bytes_f))] H → va_D A [(o, .inr (1, [.int o_glyph, .int o_isLast, .int o_dx, .int o_dy, .int o_a, .int o_b, .int o_c, .int o_d])), (a1, .inr (0, [.ref a1_bytes, .int a1_place, .int a1_limit, .int a1_whole])), (a1_bytes, .inl (cy 1, 4096, .inl a1_bytes_f))] → va_S A s.heap H locs → lv_has ls 5 [(0, .ref o), (1, .ref a1), (2, .int x2), (3, .int x3)] → W p l e ({ frames := 1, cells := 0, slots := 0, locals := 20 } : Room) s m args below meth c H locs 0 0 (MQ below (va_Qi (fun r (_ : Unit) => r = uu.1) (fun _ t => va_P (dC, dI) classes [(o, .inr (1, [.int uu.2.1, .int uu.2.2.1, .int uu.2.2.2.1, .int uu.2.2.2.2.1, .int uu.2.2.2.2.2.1, .int uu.2.2.2.2.2.2.1, .int uu.2.2.2.2.2.2.2.1, .int uu.2.2.2.2.2.2.2.2.1])), (a1, .inr (0, [.ref a1_bytes, .int uu.2.2.2.2.2.2.2.2.2.1, .int a1_limit, .int uu.2.2.2.2.2.2.2.2.2.2])), (a1_bytes, .inl (cy 1, 4096, .inl a1_bytes_f))] t.heap ∧ va_K (dC, dI) classes (TY cy) t ∧ va_D A [(o, .inr (1, [.int uu.2.1, .int uu.2.2.1, .int uu.2.2.2.1, .int uu.2.2.2.2.1, .int uu.2.2.2.2.2.1, .int uu.2.2.2.2.2.2.1, .int uu.2.2.2.2.2.2.2.1, .int uu.2.2.2.2.2.2.2.2.1])), (a1, .inr (0, [.ref a1_bytes, .int uu.2.2.2.2.2.2.2.2.2.1, .int a1_limit, .int uu.2.2.2.2.2.2.2.2.2.2])), (a1_bytes, .inl (cy 1, 4096, .inl a1_bytes_f))]) A) args s 0 0 A) (F0 m 83 ls [.int k0, .ref o]) := by
  intro hP hD hS hl
  obtain ⟨hx, hb, hr, hlocks, hml, hown, htsG, hA, hK⟩ := id C0
  unfold P_Pt_read_83 at h
  refine va_put (D := (dC, dI)) (ci := 1) (v := .int k0) (ty := .int) (C := "GlyphPage$Part") (T := F_Pt) (N := 8) hx hb htsG iG_Pt t_Pt t_Pt_ok n_Pt hown hK hP hD hS 0 rfl rfl 3 (by decide) (htsG _ mW62) (fun _ h9 => h9) rfl (by decide +kernel) rfl rfl (Nat.le_of_ble_eq_true rfl) d_Pt_read_83 (fun H locs hP hD hS => ?_)
  have hP : va_P (dC, dI) classes [(o, .inr (1, [.int o_glyph, .int o_isLast, .int o_dx, .int k0, .int o_a, .int o_b, .int o_c, .int o_d])), (a1, .inr (0, [.ref a1_bytes, .int a1_place, .int a1_limit, .int a1_whole])), (a1_bytes, .inl (cy 1, 4096, .inl a1_bytes_f))] H := hP
  have hD : va_D A [(o, .inr (1, [.int o_glyph, .int o_isLast, .int o_dx, .int k0, .int o_a, .int o_b, .int o_c, .int o_d])), (a1, .inr (0, [.ref a1_bytes, .int a1_place, .int a1_limit, .int a1_whole])), (a1_bytes, .inl (cy 1, 4096, .inl a1_bytes_f))] := hD
  refine lv_aload_n hx hb d_Pt_read_86 rfl (lv_at hl 0 rfl) ?_
  refine lv_sipush (v := (16384 : Int32)) hx hb d_Pt_read_87 (by decide) ?_
  refine va_put (D := (dC, dI)) (ci := 1) (v := .int (16384 : Int32)) (ty := .int) (C := "GlyphPage$Part") (T := F_Pt) (N := 8) hx hb htsG iG_Pt t_Pt t_Pt_ok n_Pt hown hK hP hD hS 0 rfl rfl 4 (by decide) (htsG _ mW63) (fun _ h9 => h9) rfl (by decide +kernel) rfl rfl (Nat.le_of_ble_eq_true rfl) d_Pt_read_90 (fun H locs hP hD hS => ?_)
  have hP : va_P (dC, dI) classes [(o, .inr (1, [.int o_glyph, .int o_isLast, .int o_dx, .int k0, .int (16384 : Int32), .int o_b, .int o_c, .int o_d])), (a1, .inr (0, [.ref a1_bytes, .int a1_place, .int a1_limit, .int a1_whole])), (a1_bytes, .inl (cy 1, 4096, .inl a1_bytes_f))] H := hP
  have hD : va_D A [(o, .inr (1, [.int o_glyph, .int o_isLast, .int o_dx, .int k0, .int (16384 : Int32), .int o_b, .int o_c, .int o_d])), (a1, .inr (0, [.ref a1_bytes, .int a1_place, .int a1_limit, .int a1_whole])), (a1_bytes, .inl (cy 1, 4096, .inl a1_bytes_f))] := hD
  refine lv_aload_n hx hb d_Pt_read_93 rfl (lv_at hl 0 rfl) ?_
  refine lv_iconst (v := (0 : Int32)) hx hb d_Pt_read_94 (by decide) ?_
  refine va_put (D := (dC, dI)) (ci := 1) (v := .int (0 : Int32)) (ty := .int) (C := "GlyphPage$Part") (T := F_Pt) (N := 8) hx hb htsG iG_Pt t_Pt t_Pt_ok n_Pt hown hK hP hD hS 0 rfl rfl 5 (by decide) (htsG _ mW64) (fun _ h9 => h9) rfl (by decide +kernel) rfl rfl (Nat.le_of_ble_eq_true rfl) d_Pt_read_95 (fun H locs hP hD hS => ?_)
  have hP : va_P (dC, dI) classes [(o, .inr (1, [.int o_glyph, .int o_isLast, .int o_dx, .int k0, .int (16384 : Int32), .int (0 : Int32), .int o_c, .int o_d])), (a1, .inr (0, [.ref a1_bytes, .int a1_place, .int a1_limit, .int a1_whole])), (a1_bytes, .inl (cy 1, 4096, .inl a1_bytes_f))] H := hP
  have hD : va_D A [(o, .inr (1, [.int o_glyph, .int o_isLast, .int o_dx, .int k0, .int (16384 : Int32), .int (0 : Int32), .int o_c, .int o_d])), (a1, .inr (0, [.ref a1_bytes, .int a1_place, .int a1_limit, .int a1_whole])), (a1_bytes, .inl (cy 1, 4096, .inl a1_bytes_f))] := hD
  refine lv_aload_n hx hb d_Pt_read_98 rfl (lv_at hl 0 rfl) ?_
  refine lv_iconst (v := (0 : Int32)) hx hb d_Pt_read_99 (by decide) ?_
  refine va_put (D := (dC, dI)) (ci := 1) (v := .int (0 : Int32)) (ty := .int) (C := "GlyphPage$Part") (T := F_Pt) (N := 8) hx hb htsG iG_Pt t_Pt t_Pt_ok n_Pt hown hK hP hD hS 0 rfl rfl 6 (by decide) (htsG _ mW65) (fun _ h9 => h9) rfl (by decide +kernel) rfl rfl (Nat.le_of_ble_eq_true rfl) d_Pt_read_100 (fun H locs hP hD hS => ?_)
  have hP : va_P (dC, dI) classes [(o, .inr (1, [.int o_glyph, .int o_isLast, .int o_dx, .int k0, .int (16384 : Int32), .int (0 : Int32), .int (0 : Int32), .int o_d])), (a1, .inr (0, [.ref a1_bytes, .int a1_place, .int a1_limit, .int a1_whole])), (a1_bytes, .inl (cy 1, 4096, .inl a1_bytes_f))] H := hP
  have hD : va_D A [(o, .inr (1, [.int o_glyph, .int o_isLast, .int o_dx, .int k0, .int (16384 : Int32), .int (0 : Int32), .int (0 : Int32), .int o_d])), (a1, .inr (0, [.ref a1_bytes, .int a1_place, .int a1_limit, .int a1_whole])), (a1_bytes, .inl (cy 1, 4096, .inl a1_bytes_f))] := hD
  refine lv_aload_n hx hb d_Pt_read_103 rfl (lv_at hl 0 rfl) ?_
  refine lv_sipush (v := (16384 : Int32)) hx hb d_Pt_read_104 (by decide) ?_
  refine va_put (D := (dC, dI)) (ci := 1) (v := .int (16384 : Int32)) (ty := .int) (C := "GlyphPage$Part") (T := F_Pt) (N := 8) hx hb htsG iG_Pt t_Pt t_Pt_ok n_Pt hown hK hP hD hS 0 rfl rfl 7 (by decide) (htsG _ mW66) (fun _ h9 => h9) rfl (by decide +kernel) rfl rfl (Nat.le_of_ble_eq_true rfl) d_Pt_read_107 (fun H locs hP hD hS => ?_)
  have hP : va_P (dC, dI) classes [(o, .inr (1, [.int o_glyph, .int o_isLast, .int o_dx, .int k0, .int (16384 : Int32), .int (0 : Int32), .int (0 : Int32), .int (16384 : Int32)])), (a1, .inr (0, [.ref a1_bytes, .int a1_place, .int a1_limit, .int a1_whole])), (a1_bytes, .inl (cy 1, 4096, .inl a1_bytes_f))] H := hP
  have hD : va_D A [(o, .inr (1, [.int o_glyph, .int o_isLast, .int o_dx, .int k0, .int (16384 : Int32), .int (0 : Int32), .int (0 : Int32), .int (16384 : Int32)])), (a1, .inr (0, [.ref a1_bytes, .int a1_place, .int a1_limit, .int a1_whole])), (a1_bytes, .inl (cy 1, 4096, .inl a1_bytes_f))] := hD
  refine lv_iload_n hx hb d_Pt_read_110 rfl (lv_at hl 3 rfl) ?_
  refine lv_bipush (v := (8 : Int32)) hx hb d_Pt_read_111 (by decide) ?_
  refine lv_iand hx hb d_Pt_read_113 ?_
  refine lv_if_eq (tgt := 137) hx hb d_Pt_read_114 (by decide) (fun c_1 => ?_) (fun c_1 => ?_)
  · replace h := (if_pos c_1).symm.trans h
    refine lv_iload_n hx hb d_Pt_read_137 rfl (lv_at hl 3 rfl) ?_
    refine lv_bipush (v := (64 : Int32)) hx hb d_Pt_read_138 (by decide) ?_
    refine lv_iand hx hb d_Pt_read_140 ?_
    refine lv_if_eq (tgt := 165) hx hb d_Pt_read_141 (by decide) (fun c_2 => ?_) (fun c_2 => ?_)
    · replace h := (if_pos c_2).symm.trans h
      refine lv_iload_n hx hb d_Pt_read_165 rfl (lv_at hl 3 rfl) ?_
      refine lv_sipush (v := (128 : Int32)) hx hb d_Pt_read_166 (by decide) ?_
      refine lv_iand hx hb d_Pt_read_169 ?_
      refine lv_if_eq (tgt := 209) hx hb d_Pt_read_170 (by decide) (fun c_3 => ?_) (fun c_3 => ?_)
      · replace h := (if_pos c_3).symm.trans h
        exact w_Pt_read_209 C0 o a1 a1_bytes a1_limit a1_bytes_f a2 uu  x2 x3 o_glyph o_isLast o_dx k0 (16384 : Int32) (0 : Int32) (0 : Int32) (16384 : Int32) a1_place a1_whole h hP hD hS (lv_sub hl [0, 1, 2, 3] rfl)
      · replace h := (if_neg c_3).symm.trans h
        refine lv_aload_n hx hb d_Pt_read_173 rfl (lv_at hl 0 rfl) ?_
        refine lv_aload_n hx hb d_Pt_read_174 rfl (lv_at hl 1 rfl) ?_
        obtain ⟨⟨r_4, n_5, n_6⟩, hq, h⟩ := Option.bind_eq_some_iff.mp h
        dsimp only [unp] at h
        have hPc := hP.sub (ws' := [(a1, .inr (0, [.ref a1_bytes, .int a1_place, .int a1_limit, .int a1_whole])), (a1_bytes, .inl (cy 1, 4096, .inl a1_bytes_f))]) [1, 2] rfl
        have hDc := hD.sub (ws' := [(a1, .inr (0, [.ref a1_bytes, .int a1_place, .int a1_limit, .int a1_whole])), (a1_bytes, .inl (cy 1, 4096, .inl a1_bytes_f))]) [1, 2] (by decide) rfl
        have hFc := va_free (wc := [(a1, .inr (0, [.ref a1_bytes, .int a1_place, .int a1_limit, .int a1_whole])), (a1_bytes, .inl (cy 1, 4096, .inl a1_bytes_f))]) hD hS hA [1, 2] rfl
        refine va_calli (va_runV (As := []) (rest := [.ref o]) ⟨hx, hb, hml, hown, htsG⟩ (c_Rd_two l dC dI cy H.size a1 a1_bytes a1_place a1_limit a1_whole a1_bytes_f (r_4, n_5, n_6) hq) (cwV 0 htsG (gV mW469 mW454 mW455 mW3 mW456) rfl rfl rfl (by decide +kernel) ⟨Nat.le_of_ble_eq_true rfl, Nat.le_of_ble_eq_true rfl⟩) ⟨fun a U g mk q => by obtain ⟨q0, q1, qP, qK, qD⟩ := q; exact ⟨q0, q1, qP, va_K.moved (u := U) (U := U.calling g mk a) (Vm.Alike.refl U.vm) qK, qD⟩, va_recv hK hPc (ci := 0) (q0 := 0) rfl rfl, fun U hU hW => ⟨rfl, by rw [hU], by rw [hU]; exact hPc, va_K.moved hW.alike hK, hDc.weaken (fun _ _ _ _ => trivial)⟩⟩ rfl rfl hl.1 rfl (lv_room (Nat.le_of_ble_eq_true rfl)) d_Pt_read_175 ⟨Nat.le_of_ble_eq_true rfl, Nat.le_of_ble_eq_true rfl⟩) hS (fun q _ h => hFc q h) hFc (fun rr u t H1 locs ht hvm hw hB hz1 hk1 hS => ?_)
        obtain ⟨hP1, hK1, hD1⟩ := hB
        rw [ht] at hP1
        replace hw : r_4 = rr := hw.symm
        subst hw
        obtain ⟨hP, hD⟩ := va_join (wr := [(o, .inr (1, [.int o_glyph, .int o_isLast, .int o_dx, .int k0, .int (16384 : Int32), .int (0 : Int32), .int (0 : Int32), .int (16384 : Int32)]))]) (w1 := [(a1, .inr (0, [.ref a1_bytes, .int n_5, .int a1_limit, .int n_6])), (a1_bytes, .inl (cy 1, 4096, .inl a1_bytes_f))]) hP hD [1, 2] [0] rfl rfl (by decide) (by decide) hk1 hFc hP1 hD1
        generalize H1 = H at hP hS ⊢
        have hP := hP.sub (ws' := [(o, .inr (1, [.int o_glyph, .int o_isLast, .int o_dx, .int k0, .int (16384 : Int32), .int (0 : Int32), .int (0 : Int32), .int (16384 : Int32)])), (a1, .inr (0, [.ref a1_bytes, .int n_5, .int a1_limit, .int n_6])), (a1_bytes, .inl (cy 1, 4096, .inl a1_bytes_f))]) [0, 1, 2] rfl
        have hD := hD.sub (ws' := [(o, .inr (1, [.int o_glyph, .int o_isLast, .int o_dx, .int k0, .int (16384 : Int32), .int (0 : Int32), .int (0 : Int32), .int (16384 : Int32)])), (a1, .inr (0, [.ref a1_bytes, .int n_5, .int a1_limit, .int n_6])), (a1_bytes, .inl (cy 1, 4096, .inl a1_bytes_f))]) [0, 1, 2] (by decide) rfl
        refine W.widen (k := 0) (n := 0) (by decide) (by decide) ?_
        refine lv_i2s hx hb d_Pt_read_178 rfl ?_
        refine va_put (D := (dC, dI)) (ci := 1) (v := .int (r_4.toInt16.toInt32)) (ty := .int) (C := "GlyphPage$Part") (T := F_Pt) (N := 8) hx hb htsG iG_Pt t_Pt t_Pt_ok n_Pt hown hK hP hD hS 0 rfl rfl 4 (by decide) (htsG _ mW63) (fun _ h9 => h9) rfl (by decide +kernel) rfl rfl (Nat.le_of_ble_eq_true rfl) d_Pt_read_179 (fun H locs hP hD hS => ?_)
        have hP : va_P (dC, dI) classes [(o, .inr (1, [.int o_glyph, .int o_isLast, .int o_dx, .int k0, .int (r_4.toInt16.toInt32), .int (0 : Int32), .int (0 : Int32), .int (16384 : Int32)])), (a1, .inr (0, [.ref a1_bytes, .int n_5, .int a1_limit, .int n_6])), (a1_bytes, .inl (cy 1, 4096, .inl a1_bytes_f))] H := hP
        have hD : va_D A [(o, .inr (1, [.int o_glyph, .int o_isLast, .int o_dx, .int k0, .int (r_4.toInt16.toInt32), .int (0 : Int32), .int (0 : Int32), .int (16384 : Int32)])), (a1, .inr (0, [.ref a1_bytes, .int n_5, .int a1_limit, .int n_6])), (a1_bytes, .inl (cy 1, 4096, .inl a1_bytes_f))] := hD
        refine lv_aload_n hx hb d_Pt_read_182 rfl (lv_at hl 0 rfl) ?_
        refine lv_aload_n hx hb d_Pt_read_183 rfl (lv_at hl 1 rfl) ?_
        obtain ⟨⟨r_7, n_8, n_9⟩, hq, h⟩ := Option.bind_eq_some_iff.mp h
        dsimp only [unp] at h
        have hPc := hP.sub (ws' := [(a1, .inr (0, [.ref a1_bytes, .int n_5, .int a1_limit, .int n_6])), (a1_bytes, .inl (cy 1, 4096, .inl a1_bytes_f))]) [1, 2] rfl
        have hDc := hD.sub (ws' := [(a1, .inr (0, [.ref a1_bytes, .int n_5, .int a1_limit, .int n_6])), (a1_bytes, .inl (cy 1, 4096, .inl a1_bytes_f))]) [1, 2] (by decide) rfl
        have hFc := va_free (wc := [(a1, .inr (0, [.ref a1_bytes, .int n_5, .int a1_limit, .int n_6])), (a1_bytes, .inl (cy 1, 4096, .inl a1_bytes_f))]) hD hS hA [1, 2] rfl
        refine va_calli (va_runV (As := []) (rest := [.ref o]) ⟨hx, hb, hml, hown, htsG⟩ (c_Rd_two l dC dI cy H.size a1 a1_bytes n_5 a1_limit n_6 a1_bytes_f (r_7, n_8, n_9) hq) (cwV 0 htsG (gV mW469 mW454 mW455 mW3 mW456) rfl rfl rfl (by decide +kernel) ⟨Nat.le_of_ble_eq_true rfl, Nat.le_of_ble_eq_true rfl⟩) ⟨fun a U g mk q => by obtain ⟨q0, q1, qP, qK, qD⟩ := q; exact ⟨q0, q1, qP, va_K.moved (u := U) (U := U.calling g mk a) (Vm.Alike.refl U.vm) qK, qD⟩, va_recv hK hPc (ci := 0) (q0 := 0) rfl rfl, fun U hU hW => ⟨rfl, by rw [hU], by rw [hU]; exact hPc, va_K.moved hW.alike hK, hDc.weaken (fun _ _ _ _ => trivial)⟩⟩ rfl rfl hl.1 rfl (lv_room (Nat.le_of_ble_eq_true rfl)) d_Pt_read_184 ⟨Nat.le_of_ble_eq_true rfl, Nat.le_of_ble_eq_true rfl⟩) hS (fun q _ h => hFc q h) hFc (fun rr u t H1 locs ht hvm hw hB hz1 hk1 hS => ?_)
        obtain ⟨hP1, hK1, hD1⟩ := hB
        rw [ht] at hP1
        replace hw : r_7 = rr := hw.symm
        subst hw
        obtain ⟨hP, hD⟩ := va_join (wr := [(o, .inr (1, [.int o_glyph, .int o_isLast, .int o_dx, .int k0, .int (r_4.toInt16.toInt32), .int (0 : Int32), .int (0 : Int32), .int (16384 : Int32)]))]) (w1 := [(a1, .inr (0, [.ref a1_bytes, .int n_8, .int a1_limit, .int n_9])), (a1_bytes, .inl (cy 1, 4096, .inl a1_bytes_f))]) hP hD [1, 2] [0] rfl rfl (by decide) (by decide) hk1 hFc hP1 hD1
        generalize H1 = H at hP hS ⊢
        have hP := hP.sub (ws' := [(o, .inr (1, [.int o_glyph, .int o_isLast, .int o_dx, .int k0, .int (r_4.toInt16.toInt32), .int (0 : Int32), .int (0 : Int32), .int (16384 : Int32)])), (a1, .inr (0, [.ref a1_bytes, .int n_8, .int a1_limit, .int n_9])), (a1_bytes, .inl (cy 1, 4096, .inl a1_bytes_f))]) [0, 1, 2] rfl
        have hD := hD.sub (ws' := [(o, .inr (1, [.int o_glyph, .int o_isLast, .int o_dx, .int k0, .int (r_4.toInt16.toInt32), .int (0 : Int32), .int (0 : Int32), .int (16384 : Int32)])), (a1, .inr (0, [.ref a1_bytes, .int n_8, .int a1_limit, .int n_9])), (a1_bytes, .inl (cy 1, 4096, .inl a1_bytes_f))]) [0, 1, 2] (by decide) rfl
        refine W.widen (k := 0) (n := 0) (by decide) (by decide) ?_
        refine lv_i2s hx hb d_Pt_read_187 rfl ?_
        refine va_put (D := (dC, dI)) (ci := 1) (v := .int (r_7.toInt16.toInt32)) (ty := .int) (C := "GlyphPage$Part") (T := F_Pt) (N := 8) hx hb htsG iG_Pt t_Pt t_Pt_ok n_Pt hown hK hP hD hS 0 rfl rfl 5 (by decide) (htsG _ mW64) (fun _ h9 => h9) rfl (by decide +kernel) rfl rfl (Nat.le_of_ble_eq_true rfl) d_Pt_read_188 (fun H locs hP hD hS => ?_)
        have hP : va_P (dC, dI) classes [(o, .inr (1, [.int o_glyph, .int o_isLast, .int o_dx, .int k0, .int (r_4.toInt16.toInt32), .int (r_7.toInt16.toInt32), .int (0 : Int32), .int (16384 : Int32)])), (a1, .inr (0, [.ref a1_bytes, .int n_8, .int a1_limit, .int n_9])), (a1_bytes, .inl (cy 1, 4096, .inl a1_bytes_f))] H := hP
        have hD : va_D A [(o, .inr (1, [.int o_glyph, .int o_isLast, .int o_dx, .int k0, .int (r_4.toInt16.toInt32), .int (r_7.toInt16.toInt32), .int (0 : Int32), .int (16384 : Int32)])), (a1, .inr (0, [.ref a1_bytes, .int n_8, .int a1_limit, .int n_9])), (a1_bytes, .inl (cy 1, 4096, .inl a1_bytes_f))] := hD
        refine lv_aload_n hx hb d_Pt_read_191 rfl (lv_at hl 0 rfl) ?_
        refine lv_aload_n hx hb d_Pt_read_192 rfl (lv_at hl 1 rfl) ?_
        obtain ⟨⟨r_10, n_11, n_12⟩, hq, h⟩ := Option.bind_eq_some_iff.mp h
        dsimp only [unp] at h
        have hPc := hP.sub (ws' := [(a1, .inr (0, [.ref a1_bytes, .int n_8, .int a1_limit, .int n_9])), (a1_bytes, .inl (cy 1, 4096, .inl a1_bytes_f))]) [1, 2] rfl
        have hDc := hD.sub (ws' := [(a1, .inr (0, [.ref a1_bytes, .int n_8, .int a1_limit, .int n_9])), (a1_bytes, .inl (cy 1, 4096, .inl a1_bytes_f))]) [1, 2] (by decide) rfl
        have hFc := va_free (wc := [(a1, .inr (0, [.ref a1_bytes, .int n_8, .int a1_limit, .int n_9])), (a1_bytes, .inl (cy 1, 4096, .inl a1_bytes_f))]) hD hS hA [1, 2] rfl
        refine va_calli (va_runV (As := []) (rest := [.ref o]) ⟨hx, hb, hml, hown, htsG⟩ (c_Rd_two l dC dI cy H.size a1 a1_bytes n_8 a1_limit n_9 a1_bytes_f (r_10, n_11, n_12) hq) (cwV 0 htsG (gV mW469 mW454 mW455 mW3 mW456) rfl rfl rfl (by decide +kernel) ⟨Nat.le_of_ble_eq_true rfl, Nat.le_of_ble_eq_true rfl⟩) ⟨fun a U g mk q => by obtain ⟨q0, q1, qP, qK, qD⟩ := q; exact ⟨q0, q1, qP, va_K.moved (u := U) (U := U.calling g mk a) (Vm.Alike.refl U.vm) qK, qD⟩, va_recv hK hPc (ci := 0) (q0 := 0) rfl rfl, fun U hU hW => ⟨rfl, by rw [hU], by rw [hU]; exact hPc, va_K.moved hW.alike hK, hDc.weaken (fun _ _ _ _ => trivial)⟩⟩ rfl rfl hl.1 rfl (lv_room (Nat.le_of_ble_eq_true rfl)) d_Pt_read_193 ⟨Nat.le_of_ble_eq_true rfl, Nat.le_of_ble_eq_true rfl⟩) hS (fun q _ h => hFc q h) hFc (fun rr u t H1 locs ht hvm hw hB hz1 hk1 hS => ?_)
        obtain ⟨hP1, hK1, hD1⟩ := hB
        rw [ht] at hP1
        replace hw : r_10 = rr := hw.symm
        subst hw
        obtain ⟨hP, hD⟩ := va_join (wr := [(o, .inr (1, [.int o_glyph, .int o_isLast, .int o_dx, .int k0, .int (r_4.toInt16.toInt32), .int (r_7.toInt16.toInt32), .int (0 : Int32), .int (16384 : Int32)]))]) (w1 := [(a1, .inr (0, [.ref a1_bytes, .int n_11, .int a1_limit, .int n_12])), (a1_bytes, .inl (cy 1, 4096, .inl a1_bytes_f))]) hP hD [1, 2] [0] rfl rfl (by decide) (by decide) hk1 hFc hP1 hD1
        generalize H1 = H at hP hS ⊢
        have hP := hP.sub (ws' := [(o, .inr (1, [.int o_glyph, .int o_isLast, .int o_dx, .int k0, .int (r_4.toInt16.toInt32), .int (r_7.toInt16.toInt32), .int (0 : Int32), .int (16384 : Int32)])), (a1, .inr (0, [.ref a1_bytes, .int n_11, .int a1_limit, .int n_12])), (a1_bytes, .inl (cy 1, 4096, .inl a1_bytes_f))]) [0, 1, 2] rfl
        have hD := hD.sub (ws' := [(o, .inr (1, [.int o_glyph, .int o_isLast, .int o_dx, .int k0, .int (r_4.toInt16.toInt32), .int (r_7.toInt16.toInt32), .int (0 : Int32), .int (16384 : Int32)])), (a1, .inr (0, [.ref a1_bytes, .int n_11, .int a1_limit, .int n_12])), (a1_bytes, .inl (cy 1, 4096, .inl a1_bytes_f))]) [0, 1, 2] (by decide) rfl
        refine W.widen (k := 0) (n := 0) (by decide) (by decide) ?_
        refine lv_i2s hx hb d_Pt_read_196 rfl ?_
        refine va_put (D := (dC, dI)) (ci := 1) (v := .int (r_10.toInt16.toInt32)) (ty := .int) (C := "GlyphPage$Part") (T := F_Pt) (N := 8) hx hb htsG iG_Pt t_Pt t_Pt_ok n_Pt hown hK hP hD hS 0 rfl rfl 6 (by decide) (htsG _ mW65) (fun _ h9 => h9) rfl (by decide +kernel) rfl rfl (Nat.le_of_ble_eq_true rfl) d_Pt_read_197 (fun H locs hP hD hS => ?_)
        have hP : va_P (dC, dI) classes [(o, .inr (1, [.int o_glyph, .int o_isLast, .int o_dx, .int k0, .int (r_4.toInt16.toInt32), .int (r_7.toInt16.toInt32), .int (r_10.toInt16.toInt32), .int (16384 : Int32)])), (a1, .inr (0, [.ref a1_bytes, .int n_11, .int a1_limit, .int n_12])), (a1_bytes, .inl (cy 1, 4096, .inl a1_bytes_f))] H := hP
        have hD : va_D A [(o, .inr (1, [.int o_glyph, .int o_isLast, .int o_dx, .int k0, .int (r_4.toInt16.toInt32), .int (r_7.toInt16.toInt32), .int (r_10.toInt16.toInt32), .int (16384 : Int32)])), (a1, .inr (0, [.ref a1_bytes, .int n_11, .int a1_limit, .int n_12])), (a1_bytes, .inl (cy 1, 4096, .inl a1_bytes_f))] := hD
        refine lv_aload_n hx hb d_Pt_read_200 rfl (lv_at hl 0 rfl) ?_
        refine lv_aload_n hx hb d_Pt_read_201 rfl (lv_at hl 1 rfl) ?_
        obtain ⟨⟨r_13, n_14, n_15⟩, hq, h⟩ := Option.bind_eq_some_iff.mp h
        dsimp only [unp] at h
        have hPc := hP.sub (ws' := [(a1, .inr (0, [.ref a1_bytes, .int n_11, .int a1_limit, .int n_12])), (a1_bytes, .inl (cy 1, 4096, .inl a1_bytes_f))]) [1, 2] rfl
        have hDc := hD.sub (ws' := [(a1, .inr (0, [.ref a1_bytes, .int n_11, .int a1_limit, .int n_12])), (a1_bytes, .inl (cy 1, 4096, .inl a1_bytes_f))]) [1, 2] (by decide) rfl
        have hFc := va_free (wc := [(a1, .inr (0, [.ref a1_bytes, .int n_11, .int a1_limit, .int n_12])), (a1_bytes, .inl (cy 1, 4096, .inl a1_bytes_f))]) hD hS hA [1, 2] rfl
        refine va_calli (va_runV (As := []) (rest := [.ref o]) ⟨hx, hb, hml, hown, htsG⟩ (c_Rd_two l dC dI cy H.size a1 a1_bytes n_11 a1_limit n_12 a1_bytes_f (r_13, n_14, n_15) hq) (cwV 0 htsG (gV mW469 mW454 mW455 mW3 mW456) rfl rfl rfl (by decide +kernel) ⟨Nat.le_of_ble_eq_true rfl, Nat.le_of_ble_eq_true rfl⟩) ⟨fun a U g mk q => by obtain ⟨q0, q1, qP, qK, qD⟩ := q; exact ⟨q0, q1, qP, va_K.moved (u := U) (U := U.calling g mk a) (Vm.Alike.refl U.vm) qK, qD⟩, va_recv hK hPc (ci := 0) (q0 := 0) rfl rfl, fun U hU hW => ⟨rfl, by rw [hU], by rw [hU]; exact hPc, va_K.moved hW.alike hK, hDc.weaken (fun _ _ _ _ => trivial)⟩⟩ rfl rfl hl.1 rfl (lv_room (Nat.le_of_ble_eq_true rfl)) d_Pt_read_202 ⟨Nat.le_of_ble_eq_true rfl, Nat.le_of_ble_eq_true rfl⟩) hS (fun q _ h => hFc q h) hFc (fun rr u t H1 locs ht hvm hw hB hz1 hk1 hS => ?_)
        obtain ⟨hP1, hK1, hD1⟩ := hB
        rw [ht] at hP1
        replace hw : r_13 = rr := hw.symm
        subst hw
        obtain ⟨hP, hD⟩ := va_join (wr := [(o, .inr (1, [.int o_glyph, .int o_isLast, .int o_dx, .int k0, .int (r_4.toInt16.toInt32), .int (r_7.toInt16.toInt32), .int (r_10.toInt16.toInt32), .int (16384 : Int32)]))]) (w1 := [(a1, .inr (0, [.ref a1_bytes, .int n_14, .int a1_limit, .int n_15])), (a1_bytes, .inl (cy 1, 4096, .inl a1_bytes_f))]) hP hD [1, 2] [0] rfl rfl (by decide) (by decide) hk1 hFc hP1 hD1
        generalize H1 = H at hP hS ⊢
        have hP := hP.sub (ws' := [(o, .inr (1, [.int o_glyph, .int o_isLast, .int o_dx, .int k0, .int (r_4.toInt16.toInt32), .int (r_7.toInt16.toInt32), .int (r_10.toInt16.toInt32), .int (16384 : Int32)])), (a1, .inr (0, [.ref a1_bytes, .int n_14, .int a1_limit, .int n_15])), (a1_bytes, .inl (cy 1, 4096, .inl a1_bytes_f))]) [0, 1, 2] rfl
        have hD := hD.sub (ws' := [(o, .inr (1, [.int o_glyph, .int o_isLast, .int o_dx, .int k0, .int (r_4.toInt16.toInt32), .int (r_7.toInt16.toInt32), .int (r_10.toInt16.toInt32), .int (16384 : Int32)])), (a1, .inr (0, [.ref a1_bytes, .int n_14, .int a1_limit, .int n_15])), (a1_bytes, .inl (cy 1, 4096, .inl a1_bytes_f))]) [0, 1, 2] (by decide) rfl
        refine W.widen (k := 0) (n := 0) (by decide) (by decide) ?_
        refine lv_i2s hx hb d_Pt_read_205 rfl ?_
        refine va_put (D := (dC, dI)) (ci := 1) (v := .int (r_13.toInt16.toInt32)) (ty := .int) (C := "GlyphPage$Part") (T := F_Pt) (N := 8) hx hb htsG iG_Pt t_Pt t_Pt_ok n_Pt hown hK hP hD hS 0 rfl rfl 7 (by decide) (htsG _ mW66) (fun _ h9 => h9) rfl (by decide +kernel) rfl rfl (Nat.le_of_ble_eq_true rfl) d_Pt_read_206 (fun H locs hP hD hS => ?_)
        have hP : va_P (dC, dI) classes [(o, .inr (1, [.int o_glyph, .int o_isLast, .int o_dx, .int k0, .int (r_4.toInt16.toInt32), .int (r_7.toInt16.toInt32), .int (r_10.toInt16.toInt32), .int (r_13.toInt16.toInt32)])), (a1, .inr (0, [.ref a1_bytes, .int n_14, .int a1_limit, .int n_15])), (a1_bytes, .inl (cy 1, 4096, .inl a1_bytes_f))] H := hP
        have hD : va_D A [(o, .inr (1, [.int o_glyph, .int o_isLast, .int o_dx, .int k0, .int (r_4.toInt16.toInt32), .int (r_7.toInt16.toInt32), .int (r_10.toInt16.toInt32), .int (r_13.toInt16.toInt32)])), (a1, .inr (0, [.ref a1_bytes, .int n_14, .int a1_limit, .int n_15])), (a1_bytes, .inl (cy 1, 4096, .inl a1_bytes_f))] := hD
        exact w_Pt_read_209 C0 o a1 a1_bytes a1_limit a1_bytes_f a2 uu  x2 x3 o_glyph o_isLast o_dx k0 (r_4.toInt16.toInt32) (r_7.toInt16.toInt32) (r_10.toInt16.toInt32) (r_13.toInt16.toInt32) n_14 n_15 h hP hD hS (lv_sub hl [0, 1, 2, 3] rfl)
    · replace h := (if_neg c_2).symm.trans h
      refine lv_aload_n hx hb d_Pt_read_144 rfl (lv_at hl 0 rfl) ?_
      refine lv_aload_n hx hb d_Pt_read_145 rfl (lv_at hl 1 rfl) ?_
      obtain ⟨⟨r_16, n_17, n_18⟩, hq, h⟩ := Option.bind_eq_some_iff.mp h
      dsimp only [unp] at h
      have hPc := hP.sub (ws' := [(a1, .inr (0, [.ref a1_bytes, .int a1_place, .int a1_limit, .int a1_whole])), (a1_bytes, .inl (cy 1, 4096, .inl a1_bytes_f))]) [1, 2] rfl
      have hDc := hD.sub (ws' := [(a1, .inr (0, [.ref a1_bytes, .int a1_place, .int a1_limit, .int a1_whole])), (a1_bytes, .inl (cy 1, 4096, .inl a1_bytes_f))]) [1, 2] (by decide) rfl
      have hFc := va_free (wc := [(a1, .inr (0, [.ref a1_bytes, .int a1_place, .int a1_limit, .int a1_whole])), (a1_bytes, .inl (cy 1, 4096, .inl a1_bytes_f))]) hD hS hA [1, 2] rfl
      refine va_calli (va_runV (As := []) (rest := [.ref o]) ⟨hx, hb, hml, hown, htsG⟩ (c_Rd_two l dC dI cy H.size a1 a1_bytes a1_place a1_limit a1_whole a1_bytes_f (r_16, n_17, n_18) hq) (cwV 0 htsG (gV mW469 mW454 mW455 mW3 mW456) rfl rfl rfl (by decide +kernel) ⟨Nat.le_of_ble_eq_true rfl, Nat.le_of_ble_eq_true rfl⟩) ⟨fun a U g mk q => by obtain ⟨q0, q1, qP, qK, qD⟩ := q; exact ⟨q0, q1, qP, va_K.moved (u := U) (U := U.calling g mk a) (Vm.Alike.refl U.vm) qK, qD⟩, va_recv hK hPc (ci := 0) (q0 := 0) rfl rfl, fun U hU hW => ⟨rfl, by rw [hU], by rw [hU]; exact hPc, va_K.moved hW.alike hK, hDc.weaken (fun _ _ _ _ => trivial)⟩⟩ rfl rfl hl.1 rfl (lv_room (Nat.le_of_ble_eq_true rfl)) d_Pt_read_146 ⟨Nat.le_of_ble_eq_true rfl, Nat.le_of_ble_eq_true rfl⟩) hS (fun q _ h => hFc q h) hFc (fun rr u t H1 locs ht hvm hw hB hz1 hk1 hS => ?_)
      obtain ⟨hP1, hK1, hD1⟩ := hB
      rw [ht] at hP1
      replace hw : r_16 = rr := hw.symm
      subst hw
      obtain ⟨hP, hD⟩ := va_join (wr := [(o, .inr (1, [.int o_glyph, .int o_isLast, .int o_dx, .int k0, .int (16384 : Int32), .int (0 : Int32), .int (0 : Int32), .int (16384 : Int32)]))]) (w1 := [(a1, .inr (0, [.ref a1_bytes, .int n_17, .int a1_limit, .int n_18])), (a1_bytes, .inl (cy 1, 4096, .inl a1_bytes_f))]) hP hD [1, 2] [0] rfl rfl (by decide) (by decide) hk1 hFc hP1 hD1
      generalize H1 = H at hP hS ⊢
      have hP := hP.sub (ws' := [(o, .inr (1, [.int o_glyph, .int o_isLast, .int o_dx, .int k0, .int (16384 : Int32), .int (0 : Int32), .int (0 : Int32), .int (16384 : Int32)])), (a1, .inr (0, [.ref a1_bytes, .int n_17, .int a1_limit, .int n_18])), (a1_bytes, .inl (cy 1, 4096, .inl a1_bytes_f))]) [0, 1, 2] rfl
      have hD := hD.sub (ws' := [(o, .inr (1, [.int o_glyph, .int o_isLast, .int o_dx, .int k0, .int (16384 : Int32), .int (0 : Int32), .int (0 : Int32), .int (16384 : Int32)])), (a1, .inr (0, [.ref a1_bytes, .int n_17, .int a1_limit, .int n_18])), (a1_bytes, .inl (cy 1, 4096, .inl a1_bytes_f))]) [0, 1, 2] (by decide) rfl
      refine W.widen (k := 0) (n := 0) (by decide) (by decide) ?_
      refine lv_i2s hx hb d_Pt_read_149 rfl ?_
      refine va_put (D := (dC, dI)) (ci := 1) (v := .int (r_16.toInt16.toInt32)) (ty := .int) (C := "GlyphPage$Part") (T := F_Pt) (N := 8) hx hb htsG iG_Pt t_Pt t_Pt_ok n_Pt hown hK hP hD hS 0 rfl rfl 4 (by decide) (htsG _ mW63) (fun _ h9 => h9) rfl (by decide +kernel) rfl rfl (Nat.le_of_ble_eq_true rfl) d_Pt_read_150 (fun H locs hP hD hS => ?_)
      have hP : va_P (dC, dI) classes [(o, .inr (1, [.int o_glyph, .int o_isLast, .int o_dx, .int k0, .int (r_16.toInt16.toInt32), .int (0 : Int32), .int (0 : Int32), .int (16384 : Int32)])), (a1, .inr (0, [.ref a1_bytes, .int n_17, .int a1_limit, .int n_18])), (a1_bytes, .inl (cy 1, 4096, .inl a1_bytes_f))] H := hP
      have hD : va_D A [(o, .inr (1, [.int o_glyph, .int o_isLast, .int o_dx, .int k0, .int (r_16.toInt16.toInt32), .int (0 : Int32), .int (0 : Int32), .int (16384 : Int32)])), (a1, .inr (0, [.ref a1_bytes, .int n_17, .int a1_limit, .int n_18])), (a1_bytes, .inl (cy 1, 4096, .inl a1_bytes_f))] := hD
      refine lv_aload_n hx hb d_Pt_read_153 rfl (lv_at hl 0 rfl) ?_
      refine lv_aload_n hx hb d_Pt_read_154 rfl (lv_at hl 1 rfl) ?_
      obtain ⟨⟨r_19, n_20, n_21⟩, hq, h⟩ := Option.bind_eq_some_iff.mp h
      dsimp only [unp] at h
      have hPc := hP.sub (ws' := [(a1, .inr (0, [.ref a1_bytes, .int n_17, .int a1_limit, .int n_18])), (a1_bytes, .inl (cy 1, 4096, .inl a1_bytes_f))]) [1, 2] rfl
      have hDc := hD.sub (ws' := [(a1, .inr (0, [.ref a1_bytes, .int n_17, .int a1_limit, .int n_18])), (a1_bytes, .inl (cy 1, 4096, .inl a1_bytes_f))]) [1, 2] (by decide) rfl
      have hFc := va_free (wc := [(a1, .inr (0, [.ref a1_bytes, .int n_17, .int a1_limit, .int n_18])), (a1_bytes, .inl (cy 1, 4096, .inl a1_bytes_f))]) hD hS hA [1, 2] rfl
      refine va_calli (va_runV (As := []) (rest := [.ref o]) ⟨hx, hb, hml, hown, htsG⟩ (c_Rd_two l dC dI cy H.size a1 a1_bytes n_17 a1_limit n_18 a1_bytes_f (r_19, n_20, n_21) hq) (cwV 0 htsG (gV mW469 mW454 mW455 mW3 mW456) rfl rfl rfl (by decide +kernel) ⟨Nat.le_of_ble_eq_true rfl, Nat.le_of_ble_eq_true rfl⟩) ⟨fun a U g mk q => by obtain ⟨q0, q1, qP, qK, qD⟩ := q; exact ⟨q0, q1, qP, va_K.moved (u := U) (U := U.calling g mk a) (Vm.Alike.refl U.vm) qK, qD⟩, va_recv hK hPc (ci := 0) (q0 := 0) rfl rfl, fun U hU hW => ⟨rfl, by rw [hU], by rw [hU]; exact hPc, va_K.moved hW.alike hK, hDc.weaken (fun _ _ _ _ => trivial)⟩⟩ rfl rfl hl.1 rfl (lv_room (Nat.le_of_ble_eq_true rfl)) d_Pt_read_155 ⟨Nat.le_of_ble_eq_true rfl, Nat.le_of_ble_eq_true rfl⟩) hS (fun q _ h => hFc q h) hFc (fun rr u t H1 locs ht hvm hw hB hz1 hk1 hS => ?_)
      obtain ⟨hP1, hK1, hD1⟩ := hB
      rw [ht] at hP1
      replace hw : r_19 = rr := hw.symm
      subst hw
      obtain ⟨hP, hD⟩ := va_join (wr := [(o, .inr (1, [.int o_glyph, .int o_isLast, .int o_dx, .int k0, .int (r_16.toInt16.toInt32), .int (0 : Int32), .int (0 : Int32), .int (16384 : Int32)]))]) (w1 := [(a1, .inr (0, [.ref a1_bytes, .int n_20, .int a1_limit, .int n_21])), (a1_bytes, .inl (cy 1, 4096, .inl a1_bytes_f))]) hP hD [1, 2] [0] rfl rfl (by decide) (by decide) hk1 hFc hP1 hD1
      generalize H1 = H at hP hS ⊢
      have hP := hP.sub (ws' := [(o, .inr (1, [.int o_glyph, .int o_isLast, .int o_dx, .int k0, .int (r_16.toInt16.toInt32), .int (0 : Int32), .int (0 : Int32), .int (16384 : Int32)])), (a1, .inr (0, [.ref a1_bytes, .int n_20, .int a1_limit, .int n_21])), (a1_bytes, .inl (cy 1, 4096, .inl a1_bytes_f))]) [0, 1, 2] rfl
      have hD := hD.sub (ws' := [(o, .inr (1, [.int o_glyph, .int o_isLast, .int o_dx, .int k0, .int (r_16.toInt16.toInt32), .int (0 : Int32), .int (0 : Int32), .int (16384 : Int32)])), (a1, .inr (0, [.ref a1_bytes, .int n_20, .int a1_limit, .int n_21])), (a1_bytes, .inl (cy 1, 4096, .inl a1_bytes_f))]) [0, 1, 2] (by decide) rfl
      refine W.widen (k := 0) (n := 0) (by decide) (by decide) ?_
      refine lv_i2s hx hb d_Pt_read_158 rfl ?_
      refine va_put (D := (dC, dI)) (ci := 1) (v := .int (r_19.toInt16.toInt32)) (ty := .int) (C := "GlyphPage$Part") (T := F_Pt) (N := 8) hx hb htsG iG_Pt t_Pt t_Pt_ok n_Pt hown hK hP hD hS 0 rfl rfl 7 (by decide) (htsG _ mW66) (fun _ h9 => h9) rfl (by decide +kernel) rfl rfl (Nat.le_of_ble_eq_true rfl) d_Pt_read_159 (fun H locs hP hD hS => ?_)
      have hP : va_P (dC, dI) classes [(o, .inr (1, [.int o_glyph, .int o_isLast, .int o_dx, .int k0, .int (r_16.toInt16.toInt32), .int (0 : Int32), .int (0 : Int32), .int (r_19.toInt16.toInt32)])), (a1, .inr (0, [.ref a1_bytes, .int n_20, .int a1_limit, .int n_21])), (a1_bytes, .inl (cy 1, 4096, .inl a1_bytes_f))] H := hP
      have hD : va_D A [(o, .inr (1, [.int o_glyph, .int o_isLast, .int o_dx, .int k0, .int (r_16.toInt16.toInt32), .int (0 : Int32), .int (0 : Int32), .int (r_19.toInt16.toInt32)])), (a1, .inr (0, [.ref a1_bytes, .int n_20, .int a1_limit, .int n_21])), (a1_bytes, .inl (cy 1, 4096, .inl a1_bytes_f))] := hD
      refine lv_goto (tgt := 209) hx hb d_Pt_read_162 (by decide) ?_
      exact w_Pt_read_209 C0 o a1 a1_bytes a1_limit a1_bytes_f a2 uu  x2 x3 o_glyph o_isLast o_dx k0 (r_16.toInt16.toInt32) (0 : Int32) (0 : Int32) (r_19.toInt16.toInt32) n_20 n_21 h hP hD hS (lv_sub hl [0, 1, 2, 3] rfl)
  · replace h := (if_neg c_1).symm.trans h
    refine lv_aload_n hx hb d_Pt_read_117 rfl (lv_at hl 0 rfl) ?_
    refine lv_aload_n hx hb d_Pt_read_118 rfl (lv_at hl 1 rfl) ?_
    obtain ⟨⟨r_22, n_23, n_24⟩, hq, h⟩ := Option.bind_eq_some_iff.mp h
    dsimp only [unp] at h
    have hPc := hP.sub (ws' := [(a1, .inr (0, [.ref a1_bytes, .int a1_place, .int a1_limit, .int a1_whole])), (a1_bytes, .inl (cy 1, 4096, .inl a1_bytes_f))]) [1, 2] rfl
    have hDc := hD.sub (ws' := [(a1, .inr (0, [.ref a1_bytes, .int a1_place, .int a1_limit, .int a1_whole])), (a1_bytes, .inl (cy 1, 4096, .inl a1_bytes_f))]) [1, 2] (by decide) rfl
    have hFc := va_free (wc := [(a1, .inr (0, [.ref a1_bytes, .int a1_place, .int a1_limit, .int a1_whole])), (a1_bytes, .inl (cy 1, 4096, .inl a1_bytes_f))]) hD hS hA [1, 2] rfl
    refine va_calli (va_runV (As := []) (rest := [.ref o]) ⟨hx, hb, hml, hown, htsG⟩ (c_Rd_two l dC dI cy H.size a1 a1_bytes a1_place a1_limit a1_whole a1_bytes_f (r_22, n_23, n_24) hq) (cwV 0 htsG (gV mW469 mW454 mW455 mW3 mW456) rfl rfl rfl (by decide +kernel) ⟨Nat.le_of_ble_eq_true rfl, Nat.le_of_ble_eq_true rfl⟩) ⟨fun a U g mk q => by obtain ⟨q0, q1, qP, qK, qD⟩ := q; exact ⟨q0, q1, qP, va_K.moved (u := U) (U := U.calling g mk a) (Vm.Alike.refl U.vm) qK, qD⟩, va_recv hK hPc (ci := 0) (q0 := 0) rfl rfl, fun U hU hW => ⟨rfl, by rw [hU], by rw [hU]; exact hPc, va_K.moved hW.alike hK, hDc.weaken (fun _ _ _ _ => trivial)⟩⟩ rfl rfl hl.1 rfl (lv_room (Nat.le_of_ble_eq_true rfl)) d_Pt_read_119 ⟨Nat.le_of_ble_eq_true rfl, Nat.le_of_ble_eq_true rfl⟩) hS (fun q _ h => hFc q h) hFc (fun rr u t H1 locs ht hvm hw hB hz1 hk1 hS => ?_)
    obtain ⟨hP1, hK1, hD1⟩ := hB
    rw [ht] at hP1
    replace hw : r_22 = rr := hw.symm
    subst hw
    obtain ⟨hP, hD⟩ := va_join (wr := [(o, .inr (1, [.int o_glyph, .int o_isLast, .int o_dx, .int k0, .int (16384 : Int32), .int (0 : Int32), .int (0 : Int32), .int (16384 : Int32)]))]) (w1 := [(a1, .inr (0, [.ref a1_bytes, .int n_23, .int a1_limit, .int n_24])), (a1_bytes, .inl (cy 1, 4096, .inl a1_bytes_f))]) hP hD [1, 2] [0] rfl rfl (by decide) (by decide) hk1 hFc hP1 hD1
    generalize H1 = H at hP hS ⊢
    have hP := hP.sub (ws' := [(o, .inr (1, [.int o_glyph, .int o_isLast, .int o_dx, .int k0, .int (16384 : Int32), .int (0 : Int32), .int (0 : Int32), .int (16384 : Int32)])), (a1, .inr (0, [.ref a1_bytes, .int n_23, .int a1_limit, .int n_24])), (a1_bytes, .inl (cy 1, 4096, .inl a1_bytes_f))]) [0, 1, 2] rfl
    have hD := hD.sub (ws' := [(o, .inr (1, [.int o_glyph, .int o_isLast, .int o_dx, .int k0, .int (16384 : Int32), .int (0 : Int32), .int (0 : Int32), .int (16384 : Int32)])), (a1, .inr (0, [.ref a1_bytes, .int n_23, .int a1_limit, .int n_24])), (a1_bytes, .inl (cy 1, 4096, .inl a1_bytes_f))]) [0, 1, 2] (by decide) rfl
    refine W.widen (k := 0) (n := 0) (by decide) (by decide) ?_
    refine lv_i2s hx hb d_Pt_read_122 rfl ?_
    refine va_put (D := (dC, dI)) (ci := 1) (v := .int (r_22.toInt16.toInt32)) (ty := .int) (C := "GlyphPage$Part") (T := F_Pt) (N := 8) hx hb htsG iG_Pt t_Pt t_Pt_ok n_Pt hown hK hP hD hS 0 rfl rfl 4 (by decide) (htsG _ mW63) (fun _ h9 => h9) rfl (by decide +kernel) rfl rfl (Nat.le_of_ble_eq_true rfl) d_Pt_read_123 (fun H locs hP hD hS => ?_)
    have hP : va_P (dC, dI) classes [(o, .inr (1, [.int o_glyph, .int o_isLast, .int o_dx, .int k0, .int (r_22.toInt16.toInt32), .int (0 : Int32), .int (0 : Int32), .int (16384 : Int32)])), (a1, .inr (0, [.ref a1_bytes, .int n_23, .int a1_limit, .int n_24])), (a1_bytes, .inl (cy 1, 4096, .inl a1_bytes_f))] H := hP
    have hD : va_D A [(o, .inr (1, [.int o_glyph, .int o_isLast, .int o_dx, .int k0, .int (r_22.toInt16.toInt32), .int (0 : Int32), .int (0 : Int32), .int (16384 : Int32)])), (a1, .inr (0, [.ref a1_bytes, .int n_23, .int a1_limit, .int n_24])), (a1_bytes, .inl (cy 1, 4096, .inl a1_bytes_f))] := hD
    refine lv_aload_n hx hb d_Pt_read_126 rfl (lv_at hl 0 rfl) ?_
    refine lv_aload_n hx hb d_Pt_read_127 rfl (lv_at hl 0 rfl) ?_
    refine va_get (D := (dC, dI)) (ci := 1) (v := .int (r_22.toInt16.toInt32)) (C := "GlyphPage$Part") (T := F_Pt) (N := 8) hx hb htsG iG_Pt hown hK hP 0 rfl rfl 4 (by decide) (htsG _ mW63) (fun _ h9 => h9) rfl d_Pt_read_128 ?_
    refine va_put (D := (dC, dI)) (ci := 1) (v := .int (r_22.toInt16.toInt32)) (ty := .int) (C := "GlyphPage$Part") (T := F_Pt) (N := 8) hx hb htsG iG_Pt t_Pt t_Pt_ok n_Pt hown hK hP hD hS 0 rfl rfl 7 (by decide) (htsG _ mW66) (fun _ h9 => h9) rfl (by decide +kernel) rfl rfl (Nat.le_of_ble_eq_true rfl) d_Pt_read_131 (fun H locs hP hD hS => ?_)
    have hP : va_P (dC, dI) classes [(o, .inr (1, [.int o_glyph, .int o_isLast, .int o_dx, .int k0, .int (r_22.toInt16.toInt32), .int (0 : Int32), .int (0 : Int32), .int (r_22.toInt16.toInt32)])), (a1, .inr (0, [.ref a1_bytes, .int n_23, .int a1_limit, .int n_24])), (a1_bytes, .inl (cy 1, 4096, .inl a1_bytes_f))] H := hP
    have hD : va_D A [(o, .inr (1, [.int o_glyph, .int o_isLast, .int o_dx, .int k0, .int (r_22.toInt16.toInt32), .int (0 : Int32), .int (0 : Int32), .int (r_22.toInt16.toInt32)])), (a1, .inr (0, [.ref a1_bytes, .int n_23, .int a1_limit, .int n_24])), (a1_bytes, .inl (cy 1, 4096, .inl a1_bytes_f))] := hD
    refine lv_goto (tgt := 209) hx hb d_Pt_read_134 (by decide) ?_
    exact w_Pt_read_209 C0 o a1 a1_bytes a1_limit a1_bytes_f a2 uu  x2 x3 o_glyph o_isLast o_dx k0 (r_22.toInt16.toInt32) (0 : Int32) (0 : Int32) (r_22.toInt16.toInt32) n_23 n_24 h hP hD hS (lv_sub hl [0, 1, 2, 3] rfl)
def P_Pt_read_61 (a1_limit : Int32) (a1_bytes_f : Nat → Int32)  (x2 : Int32) (x3 : Int32) (x4 : Int32) (k0 : Int32) (o_glyph : Int32) (o_isLast : Int32) (o_dx : Int32) (o_dy : Int32) (o_a : Int32) (o_b : Int32) (o_c : Int32) (o_d : Int32) (a1_place : Int32) (a1_whole : Int32) : Option (Int32 × Int32 × Int32 × Int32 × Int32 × Int32 × Int32 × Int32 × Int32 × Int32 × Int32) :=
  if x4 = 0 then ((P_Rd_one a1_place a1_limit a1_whole a1_bytes_f).bind <| unp fun r_2 => unp fun n_3 n_4 => P_Pt_read_83 a1_limit a1_bytes_f x2 x3 (r_2.toInt8.toInt32) o_glyph o_isLast k0 o_dy o_a o_b o_c o_d n_3 n_4) else ((P_Rd_two a1_place a1_limit a1_whole a1_bytes_f).bind <| unp fun r_5 => unp fun n_6 n_7 => P_Pt_read_83 a1_limit a1_bytes_f x2 x3 (r_5.toInt16.toInt32) o_glyph o_isLast k0 o_dy o_a o_b o_c o_d n_6 n_7)
set_option maxHeartbeats 4000000 in
set_option maxRecDepth 100000 in
theorem w_Pt_read_61 (C0 : Cx p s m args meth c A dC dI cy b_Pt_read 5 (some .boolean) "GlyphPage$Part") (o : Nat) (a1 : Nat) (a1_bytes : Nat) (a1_limit : Int32) (a1_bytes_f : Nat → Int32) (a2 : Int32) (uu : Int32 × Int32 × Int32 × Int32 × Int32 × Int32 × Int32 × Int32 × Int32 × Int32 × Int32)  (x2 : Int32) (x3 : Int32) (x4 : Int32) (k0 : Int32) (o_glyph : Int32) (o_isLast : Int32) (o_dx : Int32) (o_dy : Int32) (o_a : Int32) (o_b : Int32) (o_c : Int32) (o_d : Int32) (a1_place : Int32) (a1_whole : Int32) {H : Heap} {locs : List Loc} {ls : Array Slot} (h : P_Pt_read_61 a1_limit a1_bytes_f x2 x3 x4 k0 o_glyph o_isLast o_dx o_dy o_a o_b o_c o_d a1_place a1_whole = some uu) : va_P (dC, dI) classes [(o, .inr (1, [.int o_glyph, .int o_isLast, .int o_dx, .int o_dy, .int o_a, .int o_b, .int o_c, .int o_d])), (a1, .inr (0, [.ref a1_bytes, .int a1_place, .int a1_limit, .int a1_whole])), (a1_bytes, .inl (cy 1, 4096, .inl a1_bytes_f))] H → va_D A [(o, .inr (1, [.int o_glyph, .int o_isLast, .int o_dx, .int o_dy, .int o_a, .int o_b, .int o_c, .int o_d])), (a1, .inr (0, [.ref a1_bytes, .int a1_place, .int a1_limit, .int a1_whole])), (a1_bytes, .inl (cy 1, 4096, .inl a1_bytes_f))] → va_S A s.heap H locs → lv_has ls 5 [(0, .ref o), (1, .ref a1), (2, .int x2), (3, .int x3), (4, .int x4)] → W p l e ({ frames := 1, cells := 0, slots := 0, locals := 20 } : Room) s m args below meth c H locs 0 0 (MQ below (va_Qi (fun r (_ : Unit) => r = uu.1) (fun _ t => va_P (dC, dI) classes [(o, .inr (1, [.int uu.2.1, .int uu.2.2.1, .int uu.2.2.2.1, .int uu.2.2.2.2.1, .int uu.2.2.2.2.2.1, .int uu.2.2.2.2.2.2.1, .int uu.2.2.2.2.2.2.2.1, .int uu.2.2.2.2.2.2.2.2.1])), (a1, .inr (0, [.ref a1_bytes, .int uu.2.2.2.2.2.2.2.2.2.1, .int a1_limit, .int uu.2.2.2.2.2.2.2.2.2.2])), (a1_bytes, .inl (cy 1, 4096, .inl a1_bytes_f))] t.heap ∧ va_K (dC, dI) classes (TY cy) t ∧ va_D A [(o, .inr (1, [.int uu.2.1, .int uu.2.2.1, .int uu.2.2.2.1, .int uu.2.2.2.2.1, .int uu.2.2.2.2.2.1, .int uu.2.2.2.2.2.2.1, .int uu.2.2.2.2.2.2.2.1, .int uu.2.2.2.2.2.2.2.2.1])), (a1, .inr (0, [.ref a1_bytes, .int uu.2.2.2.2.2.2.2.2.2.1, .int a1_limit, .int uu.2.2.2.2.2.2.2.2.2.2])), (a1_bytes, .inl (cy 1, 4096, .inl a1_bytes_f))]) A) args s 0 0 A) (F0 m 61 ls [.int k0, .ref o]) := by
  intro hP hD hS hl
  obtain ⟨hx, hb, hr, hlocks, hml, hown, htsG, hA, hK⟩ := id C0
  unfold P_Pt_read_61 at h
  refine va_put (D := (dC, dI)) (ci := 1) (v := .int k0) (ty := .int) (C := "GlyphPage$Part") (T := F_Pt) (N := 8) hx hb htsG iG_Pt t_Pt t_Pt_ok n_Pt hown hK hP hD hS 0 rfl rfl 2 (by decide) (htsG _ mW61) (fun _ h9 => h9) rfl (by decide +kernel) rfl rfl (Nat.le_of_ble_eq_true rfl) d_Pt_read_61 (fun H locs hP hD hS => ?_)
  have hP : va_P (dC, dI) classes [(o, .inr (1, [.int o_glyph, .int o_isLast, .int k0, .int o_dy, .int o_a, .int o_b, .int o_c, .int o_d])), (a1, .inr (0, [.ref a1_bytes, .int a1_place, .int a1_limit, .int a1_whole])), (a1_bytes, .inl (cy 1, 4096, .inl a1_bytes_f))] H := hP
  have hD : va_D A [(o, .inr (1, [.int o_glyph, .int o_isLast, .int k0, .int o_dy, .int o_a, .int o_b, .int o_c, .int o_d])), (a1, .inr (0, [.ref a1_bytes, .int a1_place, .int a1_limit, .int a1_whole])), (a1_bytes, .inl (cy 1, 4096, .inl a1_bytes_f))] := hD
  refine lv_aload_n hx hb d_Pt_read_64 rfl (lv_at hl 0 rfl) ?_
  refine lv_iload hx hb d_Pt_read_65 (lv_at hl 4 rfl) ?_
  refine lv_if_eq (tgt := 78) hx hb d_Pt_read_67 (by decide) (fun c_1 => ?_) (fun c_1 => ?_)
  · replace h := (if_pos c_1).symm.trans h
    refine lv_aload_n hx hb d_Pt_read_78 rfl (lv_at hl 1 rfl) ?_
    obtain ⟨⟨r_2, n_3, n_4⟩, hq, h⟩ := Option.bind_eq_some_iff.mp h
    dsimp only [unp] at h
    have hPc := hP.sub (ws' := [(a1, .inr (0, [.ref a1_bytes, .int a1_place, .int a1_limit, .int a1_whole])), (a1_bytes, .inl (cy 1, 4096, .inl a1_bytes_f))]) [1, 2] rfl
    have hDc := hD.sub (ws' := [(a1, .inr (0, [.ref a1_bytes, .int a1_place, .int a1_limit, .int a1_whole])), (a1_bytes, .inl (cy 1, 4096, .inl a1_bytes_f))]) [1, 2] (by decide) rfl
    have hFc := va_free (wc := [(a1, .inr (0, [.ref a1_bytes, .int a1_place, .int a1_limit, .int a1_whole])), (a1_bytes, .inl (cy 1, 4096, .inl a1_bytes_f))]) hD hS hA [1, 2] rfl
    refine va_calli (va_runV (As := []) (rest := [.ref o]) ⟨hx, hb, hml, hown, htsG⟩ (c_Rd_one l dC dI cy H.size a1 a1_bytes a1_place a1_limit a1_whole a1_bytes_f (r_2, n_3, n_4) hq) (cwV 0 htsG (gV mW470 mW471 mW472 mW3 mW473) rfl rfl rfl (by decide +kernel) ⟨Nat.le_of_ble_eq_true rfl, Nat.le_of_ble_eq_true rfl⟩) ⟨fun a U g mk q => by obtain ⟨q0, q1, qP, qK, qD⟩ := q; exact ⟨q0, q1, qP, va_K.moved (u := U) (U := U.calling g mk a) (Vm.Alike.refl U.vm) qK, qD⟩, va_recv hK hPc (ci := 0) (q0 := 0) rfl rfl, fun U hU hW => ⟨rfl, by rw [hU], by rw [hU]; exact hPc, va_K.moved hW.alike hK, hDc.weaken (fun _ _ _ _ => trivial)⟩⟩ rfl rfl hl.1 rfl (lv_room (Nat.le_of_ble_eq_true rfl)) d_Pt_read_79 ⟨Nat.le_of_ble_eq_true rfl, Nat.le_of_ble_eq_true rfl⟩) hS (fun q _ h => hFc q h) hFc (fun rr u t H1 locs ht hvm hw hB hz1 hk1 hS => ?_)
    obtain ⟨hP1, hK1, hD1⟩ := hB
    rw [ht] at hP1
    replace hw : r_2 = rr := hw.symm
    subst hw
    obtain ⟨hP, hD⟩ := va_join (wr := [(o, .inr (1, [.int o_glyph, .int o_isLast, .int k0, .int o_dy, .int o_a, .int o_b, .int o_c, .int o_d]))]) (w1 := [(a1, .inr (0, [.ref a1_bytes, .int n_3, .int a1_limit, .int n_4])), (a1_bytes, .inl (cy 1, 4096, .inl a1_bytes_f))]) hP hD [1, 2] [0] rfl rfl (by decide) (by decide) hk1 hFc hP1 hD1
    generalize H1 = H at hP hS ⊢
    have hP := hP.sub (ws' := [(o, .inr (1, [.int o_glyph, .int o_isLast, .int k0, .int o_dy, .int o_a, .int o_b, .int o_c, .int o_d])), (a1, .inr (0, [.ref a1_bytes, .int n_3, .int a1_limit, .int n_4])), (a1_bytes, .inl (cy 1, 4096, .inl a1_bytes_f))]) [0, 1, 2] rfl
    have hD := hD.sub (ws' := [(o, .inr (1, [.int o_glyph, .int o_isLast, .int k0, .int o_dy, .int o_a, .int o_b, .int o_c, .int o_d])), (a1, .inr (0, [.ref a1_bytes, .int n_3, .int a1_limit, .int n_4])), (a1_bytes, .inl (cy 1, 4096, .inl a1_bytes_f))]) [0, 1, 2] (by decide) rfl
    refine W.widen (k := 0) (n := 0) (by decide) (by decide) ?_
    refine lv_i2b hx hb d_Pt_read_82 rfl ?_
    exact w_Pt_read_83 C0 o a1 a1_bytes a1_limit a1_bytes_f a2 uu  x2 x3 (r_2.toInt8.toInt32) o_glyph o_isLast k0 o_dy o_a o_b o_c o_d n_3 n_4 h hP hD hS (lv_sub hl [0, 1, 2, 3] rfl)
  · replace h := (if_neg c_1).symm.trans h
    refine lv_aload_n hx hb d_Pt_read_70 rfl (lv_at hl 1 rfl) ?_
    obtain ⟨⟨r_5, n_6, n_7⟩, hq, h⟩ := Option.bind_eq_some_iff.mp h
    dsimp only [unp] at h
    have hPc := hP.sub (ws' := [(a1, .inr (0, [.ref a1_bytes, .int a1_place, .int a1_limit, .int a1_whole])), (a1_bytes, .inl (cy 1, 4096, .inl a1_bytes_f))]) [1, 2] rfl
    have hDc := hD.sub (ws' := [(a1, .inr (0, [.ref a1_bytes, .int a1_place, .int a1_limit, .int a1_whole])), (a1_bytes, .inl (cy 1, 4096, .inl a1_bytes_f))]) [1, 2] (by decide) rfl
    have hFc := va_free (wc := [(a1, .inr (0, [.ref a1_bytes, .int a1_place, .int a1_limit, .int a1_whole])), (a1_bytes, .inl (cy 1, 4096, .inl a1_bytes_f))]) hD hS hA [1, 2] rfl
    refine va_calli (va_runV (As := []) (rest := [.ref o]) ⟨hx, hb, hml, hown, htsG⟩ (c_Rd_two l dC dI cy H.size a1 a1_bytes a1_place a1_limit a1_whole a1_bytes_f (r_5, n_6, n_7) hq) (cwV 0 htsG (gV mW469 mW454 mW455 mW3 mW456) rfl rfl rfl (by decide +kernel) ⟨Nat.le_of_ble_eq_true rfl, Nat.le_of_ble_eq_true rfl⟩) ⟨fun a U g mk q => by obtain ⟨q0, q1, qP, qK, qD⟩ := q; exact ⟨q0, q1, qP, va_K.moved (u := U) (U := U.calling g mk a) (Vm.Alike.refl U.vm) qK, qD⟩, va_recv hK hPc (ci := 0) (q0 := 0) rfl rfl, fun U hU hW => ⟨rfl, by rw [hU], by rw [hU]; exact hPc, va_K.moved hW.alike hK, hDc.weaken (fun _ _ _ _ => trivial)⟩⟩ rfl rfl hl.1 rfl (lv_room (Nat.le_of_ble_eq_true rfl)) d_Pt_read_71 ⟨Nat.le_of_ble_eq_true rfl, Nat.le_of_ble_eq_true rfl⟩) hS (fun q _ h => hFc q h) hFc (fun rr u t H1 locs ht hvm hw hB hz1 hk1 hS => ?_)
    obtain ⟨hP1, hK1, hD1⟩ := hB
    rw [ht] at hP1
    replace hw : r_5 = rr := hw.symm
    subst hw
    obtain ⟨hP, hD⟩ := va_join (wr := [(o, .inr (1, [.int o_glyph, .int o_isLast, .int k0, .int o_dy, .int o_a, .int o_b, .int o_c, .int o_d]))]) (w1 := [(a1, .inr (0, [.ref a1_bytes, .int n_6, .int a1_limit, .int n_7])), (a1_bytes, .inl (cy 1, 4096, .inl a1_bytes_f))]) hP hD [1, 2] [0] rfl rfl (by decide) (by decide) hk1 hFc hP1 hD1
    generalize H1 = H at hP hS ⊢
    have hP := hP.sub (ws' := [(o, .inr (1, [.int o_glyph, .int o_isLast, .int k0, .int o_dy, .int o_a, .int o_b, .int o_c, .int o_d])), (a1, .inr (0, [.ref a1_bytes, .int n_6, .int a1_limit, .int n_7])), (a1_bytes, .inl (cy 1, 4096, .inl a1_bytes_f))]) [0, 1, 2] rfl
    have hD := hD.sub (ws' := [(o, .inr (1, [.int o_glyph, .int o_isLast, .int k0, .int o_dy, .int o_a, .int o_b, .int o_c, .int o_d])), (a1, .inr (0, [.ref a1_bytes, .int n_6, .int a1_limit, .int n_7])), (a1_bytes, .inl (cy 1, 4096, .inl a1_bytes_f))]) [0, 1, 2] (by decide) rfl
    refine W.widen (k := 0) (n := 0) (by decide) (by decide) ?_
    refine lv_i2s hx hb d_Pt_read_74 rfl ?_
    refine lv_goto (tgt := 83) hx hb d_Pt_read_75 (by decide) ?_
    exact w_Pt_read_83 C0 o a1 a1_bytes a1_limit a1_bytes_f a2 uu  x2 x3 (r_5.toInt16.toInt32) o_glyph o_isLast k0 o_dy o_a o_b o_c o_d n_6 n_7 h hP hD hS (lv_sub hl [0, 1, 2, 3] rfl)
def P_Pt_read_40 (a1_limit : Int32) (a1_bytes_f : Nat → Int32)  (x2 : Int32) (x3 : Int32) (k0 : Int32) (o_glyph : Int32) (o_isLast : Int32) (o_dx : Int32) (o_dy : Int32) (o_a : Int32) (o_b : Int32) (o_c : Int32) (o_d : Int32) (a1_place : Int32) (a1_whole : Int32) : Option (Int32 × Int32 × Int32 × Int32 × Int32 × Int32 × Int32 × Int32 × Int32 × Int32 × Int32) :=
  if k0 = 0 then ((P_Rd_one a1_place a1_limit a1_whole a1_bytes_f).bind <| unp fun r_2 => unp fun n_3 n_4 => P_Pt_read_61 a1_limit a1_bytes_f x2 x3 k0 (r_2.toInt8.toInt32) o_glyph o_isLast o_dx o_dy o_a o_b o_c o_d n_3 n_4) else ((P_Rd_two a1_place a1_limit a1_whole a1_bytes_f).bind <| unp fun r_5 => unp fun n_6 n_7 => P_Pt_read_61 a1_limit a1_bytes_f x2 x3 k0 (r_5.toInt16.toInt32) o_glyph o_isLast o_dx o_dy o_a o_b o_c o_d n_6 n_7)
set_option maxHeartbeats 4000000 in
set_option maxRecDepth 100000 in
theorem w_Pt_read_40 (C0 : Cx p s m args meth c A dC dI cy b_Pt_read 5 (some .boolean) "GlyphPage$Part") (o : Nat) (a1 : Nat) (a1_bytes : Nat) (a1_limit : Int32) (a1_bytes_f : Nat → Int32) (a2 : Int32) (uu : Int32 × Int32 × Int32 × Int32 × Int32 × Int32 × Int32 × Int32 × Int32 × Int32 × Int32)  (x2 : Int32) (x3 : Int32) (k0 : Int32) (o_glyph : Int32) (o_isLast : Int32) (o_dx : Int32) (o_dy : Int32) (o_a : Int32) (o_b : Int32) (o_c : Int32) (o_d : Int32) (a1_place : Int32) (a1_whole : Int32) {H : Heap} {locs : List Loc} {ls : Array Slot} (h : P_Pt_read_40 a1_limit a1_bytes_f x2 x3 k0 o_glyph o_isLast o_dx o_dy o_a o_b o_c o_d a1_place a1_whole = some uu) : va_P (dC, dI) classes [(o, .inr (1, [.int o_glyph, .int o_isLast, .int o_dx, .int o_dy, .int o_a, .int o_b, .int o_c, .int o_d])), (a1, .inr (0, [.ref a1_bytes, .int a1_place, .int a1_limit, .int a1_whole])), (a1_bytes, .inl (cy 1, 4096, .inl a1_bytes_f))] H → va_D A [(o, .inr (1, [.int o_glyph, .int o_isLast, .int o_dx, .int o_dy, .int o_a, .int o_b, .int o_c, .int o_d])), (a1, .inr (0, [.ref a1_bytes, .int a1_place, .int a1_limit, .int a1_whole])), (a1_bytes, .inl (cy 1, 4096, .inl a1_bytes_f))] → va_S A s.heap H locs → lv_has ls 5 [(0, .ref o), (1, .ref a1), (2, .int x2), (3, .int x3)] → W p l e ({ frames := 1, cells := 0, slots := 0, locals := 20 } : Room) s m args below meth c H locs 0 0 (MQ below (va_Qi (fun r (_ : Unit) => r = uu.1) (fun _ t => va_P (dC, dI) classes [(o, .inr (1, [.int uu.2.1, .int uu.2.2.1, .int uu.2.2.2.1, .int uu.2.2.2.2.1, .int uu.2.2.2.2.2.1, .int uu.2.2.2.2.2.2.1, .int uu.2.2.2.2.2.2.2.1, .int uu.2.2.2.2.2.2.2.2.1])), (a1, .inr (0, [.ref a1_bytes, .int uu.2.2.2.2.2.2.2.2.2.1, .int a1_limit, .int uu.2.2.2.2.2.2.2.2.2.2])), (a1_bytes, .inl (cy 1, 4096, .inl a1_bytes_f))] t.heap ∧ va_K (dC, dI) classes (TY cy) t ∧ va_D A [(o, .inr (1, [.int uu.2.1, .int uu.2.2.1, .int uu.2.2.2.1, .int uu.2.2.2.2.1, .int uu.2.2.2.2.2.1, .int uu.2.2.2.2.2.2.1, .int uu.2.2.2.2.2.2.2.1, .int uu.2.2.2.2.2.2.2.2.1])), (a1, .inr (0, [.ref a1_bytes, .int uu.2.2.2.2.2.2.2.2.2.1, .int a1_limit, .int uu.2.2.2.2.2.2.2.2.2.2])), (a1_bytes, .inl (cy 1, 4096, .inl a1_bytes_f))]) A) args s 0 0 A) (F0 m 40 ls [.int k0]) := by
  intro hP hD hS hl
  obtain ⟨hx, hb, hr, hlocks, hml, hown, htsG, hA, hK⟩ := id C0
  unfold P_Pt_read_40 at h
  refine lv_istore (lv' := [(4, .int k0), (0, .ref o), (1, .ref a1), (2, .int x2), (3, .int x3)]) hx hb d_Pt_read_40 hl (by decide) rfl (fun ls hl => ?_)
  refine lv_aload_n hx hb d_Pt_read_42 rfl (lv_at hl 1 rfl) ?_
  refine lv_iload hx hb d_Pt_read_43 (lv_at hl 0 rfl) ?_
  refine lv_if_eq (tgt := 56) hx hb d_Pt_read_45 (by decide) (fun c_1 => ?_) (fun c_1 => ?_)
  · replace h := (if_pos c_1).symm.trans h
    refine lv_aload_n hx hb d_Pt_read_56 rfl (lv_at hl 2 rfl) ?_
    obtain ⟨⟨r_2, n_3, n_4⟩, hq, h⟩ := Option.bind_eq_some_iff.mp h
    dsimp only [unp] at h
    have hPc := hP.sub (ws' := [(a1, .inr (0, [.ref a1_bytes, .int a1_place, .int a1_limit, .int a1_whole])), (a1_bytes, .inl (cy 1, 4096, .inl a1_bytes_f))]) [1, 2] rfl
    have hDc := hD.sub (ws' := [(a1, .inr (0, [.ref a1_bytes, .int a1_place, .int a1_limit, .int a1_whole])), (a1_bytes, .inl (cy 1, 4096, .inl a1_bytes_f))]) [1, 2] (by decide) rfl
    have hFc := va_free (wc := [(a1, .inr (0, [.ref a1_bytes, .int a1_place, .int a1_limit, .int a1_whole])), (a1_bytes, .inl (cy 1, 4096, .inl a1_bytes_f))]) hD hS hA [1, 2] rfl
    refine va_calli (va_runV (As := []) (rest := [.ref o]) ⟨hx, hb, hml, hown, htsG⟩ (c_Rd_one l dC dI cy H.size a1 a1_bytes a1_place a1_limit a1_whole a1_bytes_f (r_2, n_3, n_4) hq) (cwV 0 htsG (gV mW470 mW471 mW472 mW3 mW473) rfl rfl rfl (by decide +kernel) ⟨Nat.le_of_ble_eq_true rfl, Nat.le_of_ble_eq_true rfl⟩) ⟨fun a U g mk q => by obtain ⟨q0, q1, qP, qK, qD⟩ := q; exact ⟨q0, q1, qP, va_K.moved (u := U) (U := U.calling g mk a) (Vm.Alike.refl U.vm) qK, qD⟩, va_recv hK hPc (ci := 0) (q0 := 0) rfl rfl, fun U hU hW => ⟨rfl, by rw [hU], by rw [hU]; exact hPc, va_K.moved hW.alike hK, hDc.weaken (fun _ _ _ _ => trivial)⟩⟩ rfl rfl hl.1 rfl (lv_room (Nat.le_of_ble_eq_true rfl)) d_Pt_read_57 ⟨Nat.le_of_ble_eq_true rfl, Nat.le_of_ble_eq_true rfl⟩) hS (fun q _ h => hFc q h) hFc (fun rr u t H1 locs ht hvm hw hB hz1 hk1 hS => ?_)
    obtain ⟨hP1, hK1, hD1⟩ := hB
    rw [ht] at hP1
    replace hw : r_2 = rr := hw.symm
    subst hw
    obtain ⟨hP, hD⟩ := va_join (wr := [(o, .inr (1, [.int o_glyph, .int o_isLast, .int o_dx, .int o_dy, .int o_a, .int o_b, .int o_c, .int o_d]))]) (w1 := [(a1, .inr (0, [.ref a1_bytes, .int n_3, .int a1_limit, .int n_4])), (a1_bytes, .inl (cy 1, 4096, .inl a1_bytes_f))]) hP hD [1, 2] [0] rfl rfl (by decide) (by decide) hk1 hFc hP1 hD1
    generalize H1 = H at hP hS ⊢
    have hP := hP.sub (ws' := [(o, .inr (1, [.int o_glyph, .int o_isLast, .int o_dx, .int o_dy, .int o_a, .int o_b, .int o_c, .int o_d])), (a1, .inr (0, [.ref a1_bytes, .int n_3, .int a1_limit, .int n_4])), (a1_bytes, .inl (cy 1, 4096, .inl a1_bytes_f))]) [0, 1, 2] rfl
    have hD := hD.sub (ws' := [(o, .inr (1, [.int o_glyph, .int o_isLast, .int o_dx, .int o_dy, .int o_a, .int o_b, .int o_c, .int o_d])), (a1, .inr (0, [.ref a1_bytes, .int n_3, .int a1_limit, .int n_4])), (a1_bytes, .inl (cy 1, 4096, .inl a1_bytes_f))]) [0, 1, 2] (by decide) rfl
    refine W.widen (k := 0) (n := 0) (by decide) (by decide) ?_
    refine lv_i2b hx hb d_Pt_read_60 rfl ?_
    exact w_Pt_read_61 C0 o a1 a1_bytes a1_limit a1_bytes_f a2 uu  x2 x3 k0 (r_2.toInt8.toInt32) o_glyph o_isLast o_dx o_dy o_a o_b o_c o_d n_3 n_4 h hP hD hS (lv_sub hl [1, 2, 3, 4, 0] rfl)
  · replace h := (if_neg c_1).symm.trans h
    refine lv_aload_n hx hb d_Pt_read_48 rfl (lv_at hl 2 rfl) ?_
    obtain ⟨⟨r_5, n_6, n_7⟩, hq, h⟩ := Option.bind_eq_some_iff.mp h
    dsimp only [unp] at h
    have hPc := hP.sub (ws' := [(a1, .inr (0, [.ref a1_bytes, .int a1_place, .int a1_limit, .int a1_whole])), (a1_bytes, .inl (cy 1, 4096, .inl a1_bytes_f))]) [1, 2] rfl
    have hDc := hD.sub (ws' := [(a1, .inr (0, [.ref a1_bytes, .int a1_place, .int a1_limit, .int a1_whole])), (a1_bytes, .inl (cy 1, 4096, .inl a1_bytes_f))]) [1, 2] (by decide) rfl
    have hFc := va_free (wc := [(a1, .inr (0, [.ref a1_bytes, .int a1_place, .int a1_limit, .int a1_whole])), (a1_bytes, .inl (cy 1, 4096, .inl a1_bytes_f))]) hD hS hA [1, 2] rfl
    refine va_calli (va_runV (As := []) (rest := [.ref o]) ⟨hx, hb, hml, hown, htsG⟩ (c_Rd_two l dC dI cy H.size a1 a1_bytes a1_place a1_limit a1_whole a1_bytes_f (r_5, n_6, n_7) hq) (cwV 0 htsG (gV mW469 mW454 mW455 mW3 mW456) rfl rfl rfl (by decide +kernel) ⟨Nat.le_of_ble_eq_true rfl, Nat.le_of_ble_eq_true rfl⟩) ⟨fun a U g mk q => by obtain ⟨q0, q1, qP, qK, qD⟩ := q; exact ⟨q0, q1, qP, va_K.moved (u := U) (U := U.calling g mk a) (Vm.Alike.refl U.vm) qK, qD⟩, va_recv hK hPc (ci := 0) (q0 := 0) rfl rfl, fun U hU hW => ⟨rfl, by rw [hU], by rw [hU]; exact hPc, va_K.moved hW.alike hK, hDc.weaken (fun _ _ _ _ => trivial)⟩⟩ rfl rfl hl.1 rfl (lv_room (Nat.le_of_ble_eq_true rfl)) d_Pt_read_49 ⟨Nat.le_of_ble_eq_true rfl, Nat.le_of_ble_eq_true rfl⟩) hS (fun q _ h => hFc q h) hFc (fun rr u t H1 locs ht hvm hw hB hz1 hk1 hS => ?_)
    obtain ⟨hP1, hK1, hD1⟩ := hB
    rw [ht] at hP1
    replace hw : r_5 = rr := hw.symm
    subst hw
    obtain ⟨hP, hD⟩ := va_join (wr := [(o, .inr (1, [.int o_glyph, .int o_isLast, .int o_dx, .int o_dy, .int o_a, .int o_b, .int o_c, .int o_d]))]) (w1 := [(a1, .inr (0, [.ref a1_bytes, .int n_6, .int a1_limit, .int n_7])), (a1_bytes, .inl (cy 1, 4096, .inl a1_bytes_f))]) hP hD [1, 2] [0] rfl rfl (by decide) (by decide) hk1 hFc hP1 hD1
    generalize H1 = H at hP hS ⊢
    have hP := hP.sub (ws' := [(o, .inr (1, [.int o_glyph, .int o_isLast, .int o_dx, .int o_dy, .int o_a, .int o_b, .int o_c, .int o_d])), (a1, .inr (0, [.ref a1_bytes, .int n_6, .int a1_limit, .int n_7])), (a1_bytes, .inl (cy 1, 4096, .inl a1_bytes_f))]) [0, 1, 2] rfl
    have hD := hD.sub (ws' := [(o, .inr (1, [.int o_glyph, .int o_isLast, .int o_dx, .int o_dy, .int o_a, .int o_b, .int o_c, .int o_d])), (a1, .inr (0, [.ref a1_bytes, .int n_6, .int a1_limit, .int n_7])), (a1_bytes, .inl (cy 1, 4096, .inl a1_bytes_f))]) [0, 1, 2] (by decide) rfl
    refine W.widen (k := 0) (n := 0) (by decide) (by decide) ?_
    refine lv_i2s hx hb d_Pt_read_52 rfl ?_
    refine lv_goto (tgt := 61) hx hb d_Pt_read_53 (by decide) ?_
    exact w_Pt_read_61 C0 o a1 a1_bytes a1_limit a1_bytes_f a2 uu  x2 x3 k0 (r_5.toInt16.toInt32) o_glyph o_isLast o_dx o_dy o_a o_b o_c o_d n_6 n_7 h hP hD hS (lv_sub hl [1, 2, 3, 4, 0] rfl)
def P_Pt_read_26 (a1_limit : Int32) (a1_bytes_f : Nat → Int32)  (x2 : Int32) (x3 : Int32) (k0 : Int32) (o_glyph : Int32) (o_isLast : Int32) (o_dx : Int32) (o_dy : Int32) (o_a : Int32) (o_b : Int32) (o_c : Int32) (o_d : Int32) (a1_place : Int32) (a1_whole : Int32) : Option (Int32 × Int32 × Int32 × Int32 × Int32 × Int32 × Int32 × Int32 × Int32 × Int32 × Int32) :=
  zb k0 <| if (x3 &&& (1 : Int32)) = 0 then (P_Pt_read_40 a1_limit a1_bytes_f x2 x3 (0 : Int32) o_glyph k0 o_dx o_dy o_a o_b o_c o_d a1_place a1_whole) else (P_Pt_read_40 a1_limit a1_bytes_f x2 x3 (1 : Int32) o_glyph k0 o_dx o_dy o_a o_b o_c o_d a1_place a1_whole)
set_option maxHeartbeats 4000000 in
set_option maxRecDepth 100000 in
theorem w_Pt_read_26 (C0 : Cx p s m args meth c A dC dI cy b_Pt_read 5 (some .boolean) "GlyphPage$Part") (o : Nat) (a1 : Nat) (a1_bytes : Nat) (a1_limit : Int32) (a1_bytes_f : Nat → Int32) (a2 : Int32) (uu : Int32 × Int32 × Int32 × Int32 × Int32 × Int32 × Int32 × Int32 × Int32 × Int32 × Int32)  (x2 : Int32) (x3 : Int32) (k0 : Int32) (o_glyph : Int32) (o_isLast : Int32) (o_dx : Int32) (o_dy : Int32) (o_a : Int32) (o_b : Int32) (o_c : Int32) (o_d : Int32) (a1_place : Int32) (a1_whole : Int32) {H : Heap} {locs : List Loc} {ls : Array Slot} (h : P_Pt_read_26 a1_limit a1_bytes_f x2 x3 k0 o_glyph o_isLast o_dx o_dy o_a o_b o_c o_d a1_place a1_whole = some uu) : va_P (dC, dI) classes [(o, .inr (1, [.int o_glyph, .int o_isLast, .int o_dx, .int o_dy, .int o_a, .int o_b, .int o_c, .int o_d])), (a1, .inr (0, [.ref a1_bytes, .int a1_place, .int a1_limit, .int a1_whole])), (a1_bytes, .inl (cy 1, 4096, .inl a1_bytes_f))] H → va_D A [(o, .inr (1, [.int o_glyph, .int o_isLast, .int o_dx, .int o_dy, .int o_a, .int o_b, .int o_c, .int o_d])), (a1, .inr (0, [.ref a1_bytes, .int a1_place, .int a1_limit, .int a1_whole])), (a1_bytes, .inl (cy 1, 4096, .inl a1_bytes_f))] → va_S A s.heap H locs → lv_has ls 5 [(0, .ref o), (1, .ref a1), (2, .int x2), (3, .int x3)] → W p l e ({ frames := 1, cells := 0, slots := 0, locals := 20 } : Room) s m args below meth c H locs 0 0 (MQ below (va_Qi (fun r (_ : Unit) => r = uu.1) (fun _ t => va_P (dC, dI) classes [(o, .inr (1, [.int uu.2.1, .int uu.2.2.1, .int uu.2.2.2.1, .int uu.2.2.2.2.1, .int uu.2.2.2.2.2.1, .int uu.2.2.2.2.2.2.1, .int uu.2.2.2.2.2.2.2.1, .int uu.2.2.2.2.2.2.2.2.1])), (a1, .inr (0, [.ref a1_bytes, .int uu.2.2.2.2.2.2.2.2.2.1, .int a1_limit, .int uu.2.2.2.2.2.2.2.2.2.2])), (a1_bytes, .inl (cy 1, 4096, .inl a1_bytes_f))] t.heap ∧ va_K (dC, dI) classes (TY cy) t ∧ va_D A [(o, .inr (1, [.int uu.2.1, .int uu.2.2.1, .int uu.2.2.2.1, .int uu.2.2.2.2.1, .int uu.2.2.2.2.2.1, .int uu.2.2.2.2.2.2.1, .int uu.2.2.2.2.2.2.2.1, .int uu.2.2.2.2.2.2.2.2.1])), (a1, .inr (0, [.ref a1_bytes, .int uu.2.2.2.2.2.2.2.2.2.1, .int a1_limit, .int uu.2.2.2.2.2.2.2.2.2.2])), (a1_bytes, .inl (cy 1, 4096, .inl a1_bytes_f))]) A) args s 0 0 A) (F0 m 26 ls [.int k0, .ref o]) := by
  intro hP hD hS hl
  obtain ⟨hx, hb, hr, hlocks, hml, hown, htsG, hA, hK⟩ := id C0
  unfold P_Pt_read_26 at h
  obtain ⟨hz_1, h⟩ := zb_some h
  refine va_put (D := (dC, dI)) (ci := 1) (v := .int k0) (ty := .boolean) (C := "GlyphPage$Part") (T := F_Pt) (N := 8) hx hb htsG iG_Pt t_Pt t_Pt_ok n_Pt hown hK hP hD hS 0 rfl rfl 1 (by decide) (htsG _ mW59) (fun _ h9 => h9) rfl (by decide +kernel) hz_1.1 hz_1.2 (Nat.le_of_ble_eq_true rfl) d_Pt_read_26 (fun H locs hP hD hS => ?_)
  have hP : va_P (dC, dI) classes [(o, .inr (1, [.int o_glyph, .int k0, .int o_dx, .int o_dy, .int o_a, .int o_b, .int o_c, .int o_d])), (a1, .inr (0, [.ref a1_bytes, .int a1_place, .int a1_limit, .int a1_whole])), (a1_bytes, .inl (cy 1, 4096, .inl a1_bytes_f))] H := hP
  have hD : va_D A [(o, .inr (1, [.int o_glyph, .int k0, .int o_dx, .int o_dy, .int o_a, .int o_b, .int o_c, .int o_d])), (a1, .inr (0, [.ref a1_bytes, .int a1_place, .int a1_limit, .int a1_whole])), (a1_bytes, .inl (cy 1, 4096, .inl a1_bytes_f))] := hD
  refine lv_iload_n hx hb d_Pt_read_29 rfl (lv_at hl 3 rfl) ?_
  refine lv_iconst (v := (1 : Int32)) hx hb d_Pt_read_30 (by decide) ?_
  refine lv_iand hx hb d_Pt_read_31 ?_
  refine lv_if_eq (tgt := 39) hx hb d_Pt_read_32 (by decide) (fun c_2 => ?_) (fun c_2 => ?_)
  · replace h := (if_pos c_2).symm.trans h
    refine lv_iconst (v := (0 : Int32)) hx hb d_Pt_read_39 (by decide) ?_
    exact w_Pt_read_40 C0 o a1 a1_bytes a1_limit a1_bytes_f a2 uu  x2 x3 (0 : Int32) o_glyph k0 o_dx o_dy o_a o_b o_c o_d a1_place a1_whole h hP hD hS (lv_sub hl [0, 1, 2, 3] rfl)
  · replace h := (if_neg c_2).symm.trans h
    refine lv_iconst (v := (1 : Int32)) hx hb d_Pt_read_35 (by decide) ?_
    refine lv_goto (tgt := 40) hx hb d_Pt_read_36 (by decide) ?_
    exact w_Pt_read_40 C0 o a1 a1_bytes a1_limit a1_bytes_f a2 uu  x2 x3 (1 : Int32) o_glyph k0 o_dx o_dy o_a o_b o_c o_d a1_place a1_whole h hP hD hS (lv_sub hl [0, 1, 2, 3] rfl)
def P_Pt_read (o_glyph : Int32) (o_isLast : Int32) (o_dx : Int32) (o_dy : Int32) (o_a : Int32) (o_b : Int32) (o_c : Int32) (o_d : Int32) (a1_place : Int32) (a1_limit : Int32) (a1_whole : Int32) (a1_bytes_f : Nat → Int32) (a2 : Int32) : Option (Int32 × Int32 × Int32 × Int32 × Int32 × Int32 × Int32 × Int32 × Int32 × Int32 × Int32) :=
  (P_Rd_two a1_place a1_limit a1_whole a1_bytes_f).bind <| unp fun r_1 => unp fun n_2 n_3 => (P_Rd_two n_2 a1_limit n_3 a1_bytes_f).bind <| unp fun r_4 => unp fun n_5 n_6 => if (r_1 &&& (32 : Int32)) = 0 then (P_Pt_read_26 a1_limit a1_bytes_f a2 r_1 (1 : Int32) r_4 o_isLast o_dx o_dy o_a o_b o_c o_d n_5 n_6) else (P_Pt_read_26 a1_limit a1_bytes_f a2 r_1 (0 : Int32) r_4 o_isLast o_dx o_dy o_a o_b o_c o_d n_5 n_6)
set_option maxHeartbeats 4000000 in
set_option maxRecDepth 100000 in
theorem c_Pt_read (l : Launch) (dC : Nat → ClassId) (dI : Nat → Nat → Nat) (cy : Nat → ClassId) (sz : Nat) (o : Nat) (a1 : Nat) (a1_bytes : Nat) (o_glyph : Int32) (o_isLast : Int32) (o_dx : Int32) (o_dy : Int32) (o_a : Int32) (o_b : Int32) (o_c : Int32) (o_d : Int32) (a1_place : Int32) (a1_limit : Int32) (a1_whole : Int32) (a1_bytes_f : Nat → Int32) (a2 : Int32) (uu : Int32 × Int32 × Int32 × Int32 × Int32 × Int32 × Int32 × Int32 × Int32 × Int32 × Int32) (h : P_Pt_read o_glyph o_isLast o_dx o_dy o_a o_b o_c o_d a1_place a1_limit a1_whole a1_bytes_f a2 = some uu) : Met l y_Pt_read (Cond.code y_Pt_read b_Pt_read 5 (some .boolean) :: G) ({ frames := 1, cells := 0, slots := 0, locals := 20 } : Room) (va_Pc [.ref o, .ref a1, .int a2] (fun U => U.heap.size = sz ∧ va_P (dC, dI) classes [(o, .inr (1, [.int o_glyph, .int o_isLast, .int o_dx, .int o_dy, .int o_a, .int o_b, .int o_c, .int o_d])), (a1, .inr (0, [.ref a1_bytes, .int a1_place, .int a1_limit, .int a1_whole])), (a1_bytes, .inl (cy 1, 4096, .inl a1_bytes_f))] U.heap ∧ va_K (dC, dI) classes (TY cy) U ∧ va_D (fun _ => True) [(o, .inr (1, [.int o_glyph, .int o_isLast, .int o_dx, .int o_dy, .int o_a, .int o_b, .int o_c, .int o_d])), (a1, .inr (0, [.ref a1_bytes, .int a1_place, .int a1_limit, .int a1_whole])), (a1_bytes, .inl (cy 1, 4096, .inl a1_bytes_f))])) (va_Qi (fun r (_ : Unit) => r = uu.1) (fun _ t => va_P (dC, dI) classes [(o, .inr (1, [.int uu.2.1, .int uu.2.2.1, .int uu.2.2.2.1, .int uu.2.2.2.2.1, .int uu.2.2.2.2.2.1, .int uu.2.2.2.2.2.2.1, .int uu.2.2.2.2.2.2.2.1, .int uu.2.2.2.2.2.2.2.2.1])), (a1, .inr (0, [.ref a1_bytes, .int uu.2.2.2.2.2.2.2.2.2.1, .int a1_limit, .int uu.2.2.2.2.2.2.2.2.2.2])), (a1_bytes, .inl (cy 1, 4096, .inl a1_bytes_f))] t.heap ∧ va_K (dC, dI) classes (TY cy) t ∧ va_D (va_A [(o, .inr (1, [.int o_glyph, .int o_isLast, .int o_dx, .int o_dy, .int o_a, .int o_b, .int o_c, .int o_d])), (a1, .inr (0, [.ref a1_bytes, .int a1_place, .int a1_limit, .int a1_whole])), (a1_bytes, .inl (cy 1, 4096, .inl a1_bytes_f))] sz) [(o, .inr (1, [.int uu.2.1, .int uu.2.2.1, .int uu.2.2.2.1, .int uu.2.2.2.2.1, .int uu.2.2.2.2.2.1, .int uu.2.2.2.2.2.2.1, .int uu.2.2.2.2.2.2.2.1, .int uu.2.2.2.2.2.2.2.2.1])), (a1, .inr (0, [.ref a1_bytes, .int uu.2.2.2.2.2.2.2.2.2.1, .int a1_limit, .int uu.2.2.2.2.2.2.2.2.2.2])), (a1_bytes, .inl (cy 1, 4096, .inl a1_bytes_f))]) (va_A [(o, .inr (1, [.int o_glyph, .int o_isLast, .int o_dx, .int o_dy, .int o_a, .int o_b, .int o_c, .int o_d])), (a1, .inr (0, [.ref a1_bytes, .int a1_place, .int a1_limit, .int a1_whole])), (a1_bytes, .inl (cy 1, 4096, .inl a1_bytes_f))] sz)) 0 0 (va_A [(o, .inr (1, [.int o_glyph, .int o_isLast, .int o_dx, .int o_dy, .int o_a, .int o_b, .int o_c, .int o_d])), (a1, .inr (0, [.ref a1_bytes, .int a1_place, .int a1_limit, .int a1_whole])), (a1_bytes, .inl (cy 1, 4096, .inl a1_bytes_f))] sz) := by
  refine Met.ofW (cc := b_Pt_read) (maxL := 5) (ret := (some .boolean)) (by decide) rfl ?_
  intro p e s m args below meth c s₁ B hml hv
  obtain ⟨rfl, hsz, hP, hK, hD0⟩ := hv
  have hx := B.exec
  have hb := B.bytes
  have hr := B.returns
  have hts := atoms_spec (ws := Cond.code y_Pt_read b_Pt_read 5 (some .boolean) :: G) B.pre
  have htsG : ∀ w ∈ G, w.before _ s = true := fun w hw => hts w (List.mem_cons_of_mem _ hw)
  have hown : s.vm.findClass "GlyphPage$Part" = some m.cls := findClass_of_methodNamed B.named
  have hlocks := B.notSynchronized
  subst hsz
  have hD := hD0.self (sz := s.heap.size)
  generalize hAe : va_A [(o, .inr (1, [.int o_glyph, .int o_isLast, .int o_dx, .int o_dy, .int o_a, .int o_b, .int o_c, .int o_d])), (a1, .inr (0, [.ref a1_bytes, .int a1_place, .int a1_limit, .int a1_whole])), (a1_bytes, .inl (cy 1, 4096, .inl a1_bytes_f))] s.heap.size = A at hD ⊢
  have hA : ∀ q : Nat, s.heap.size ≤ q → A q := fun q h => by rw [← hAe]; exact Or.inr h
  have hS : va_S A s.heap s.heap [] := va_S.rf
  have hl := lv_entry ([.ref o, .ref a1, .int a2]) (n := 5) (Nat.le_of_ble_eq_true rfl)
  rw [lg_entry_eq]
  generalize (lg_sl ([.ref o, .ref a1, .int a2]) ++ List.replicate (5 - (lg_sl ([.ref o, .ref a1, .int a2])).length) Slot.unset).toArray = ls at hl ⊢
  have hl : lv_has ls 5 [(0, .ref o), (1, .ref a1), (2, .int a2)] := hl
  have C0 : Cx p s m _ meth c A dC dI cy b_Pt_read 5 (some .boolean) "GlyphPage$Part" := ⟨hx, hb, hr, hlocks, hml, hown, htsG, hA, hK⟩
  unfold P_Pt_read at h
  refine lv_aload_n hx hb d_Pt_read_0 rfl (lv_at hl 1 rfl) ?_
  obtain ⟨⟨r_1, n_2, n_3⟩, hq, h⟩ := Option.bind_eq_some_iff.mp h
  dsimp only [unp] at h
  have hPc := hP.sub (ws' := [(a1, .inr (0, [.ref a1_bytes, .int a1_place, .int a1_limit, .int a1_whole])), (a1_bytes, .inl (cy 1, 4096, .inl a1_bytes_f))]) [1, 2] rfl
  have hDc := hD.sub (ws' := [(a1, .inr (0, [.ref a1_bytes, .int a1_place, .int a1_limit, .int a1_whole])), (a1_bytes, .inl (cy 1, 4096, .inl a1_bytes_f))]) [1, 2] (by decide) rfl
  have hFc := va_free (wc := [(a1, .inr (0, [.ref a1_bytes, .int a1_place, .int a1_limit, .int a1_whole])), (a1_bytes, .inl (cy 1, 4096, .inl a1_bytes_f))]) hD hS hA [1, 2] rfl
  refine va_calli (va_runV (As := []) (rest := []) ⟨hx, hb, hml, hown, htsG⟩ (c_Rd_two l dC dI cy s.heap.size a1 a1_bytes a1_place a1_limit a1_whole a1_bytes_f (r_1, n_2, n_3) hq) (cwV 0 htsG (gV mW469 mW454 mW455 mW3 mW456) rfl rfl rfl (by decide +kernel) ⟨Nat.le_of_ble_eq_true rfl, Nat.le_of_ble_eq_true rfl⟩) ⟨fun a U g mk q => by obtain ⟨q0, q1, qP, qK, qD⟩ := q; exact ⟨q0, q1, qP, va_K.moved (u := U) (U := U.calling g mk a) (Vm.Alike.refl U.vm) qK, qD⟩, va_recv hK hPc (ci := 0) (q0 := 0) rfl rfl, fun U hU hW => ⟨rfl, by rw [hU], by rw [hU]; exact hPc, va_K.moved hW.alike hK, hDc.weaken (fun _ _ _ _ => trivial)⟩⟩ rfl rfl hl.1 rfl (lv_room (Nat.le_of_ble_eq_true rfl)) d_Pt_read_1 ⟨Nat.le_of_ble_eq_true rfl, Nat.le_of_ble_eq_true rfl⟩) hS (fun q _ h => hFc q h) hFc (fun rr u t H1 locs ht hvm hw hB hz1 hk1 hS => ?_)
  obtain ⟨hP1, hK1, hD1⟩ := hB
  rw [ht] at hP1
  replace hw : r_1 = rr := hw.symm
  subst hw
  obtain ⟨hP, hD⟩ := va_join (wr := [(o, .inr (1, [.int o_glyph, .int o_isLast, .int o_dx, .int o_dy, .int o_a, .int o_b, .int o_c, .int o_d]))]) (w1 := [(a1, .inr (0, [.ref a1_bytes, .int n_2, .int a1_limit, .int n_3])), (a1_bytes, .inl (cy 1, 4096, .inl a1_bytes_f))]) hP hD [1, 2] [0] rfl rfl (by decide) (by decide) hk1 hFc hP1 hD1
  generalize H1 = H at hP hS ⊢
  have hP := hP.sub (ws' := [(o, .inr (1, [.int o_glyph, .int o_isLast, .int o_dx, .int o_dy, .int o_a, .int o_b, .int o_c, .int o_d])), (a1, .inr (0, [.ref a1_bytes, .int n_2, .int a1_limit, .int n_3])), (a1_bytes, .inl (cy 1, 4096, .inl a1_bytes_f))]) [0, 1, 2] rfl
  have hD := hD.sub (ws' := [(o, .inr (1, [.int o_glyph, .int o_isLast, .int o_dx, .int o_dy, .int o_a, .int o_b, .int o_c, .int o_d])), (a1, .inr (0, [.ref a1_bytes, .int n_2, .int a1_limit, .int n_3])), (a1_bytes, .inl (cy 1, 4096, .inl a1_bytes_f))]) [0, 1, 2] (by decide) rfl
  refine W.widen (k := 0) (n := 0) (by decide) (by decide) ?_
  refine lv_istore_n (lv' := [(3, .int r_1), (0, .ref o), (1, .ref a1), (2, .int a2)]) hx hb d_Pt_read_4 rfl hl (by decide) rfl (fun ls hl => ?_)
  refine lv_aload_n hx hb d_Pt_read_5 rfl (lv_at hl 1 rfl) ?_
  refine lv_aload_n hx hb d_Pt_read_6 rfl (lv_at hl 2 rfl) ?_
  obtain ⟨⟨r_4, n_5, n_6⟩, hq, h⟩ := Option.bind_eq_some_iff.mp h
  dsimp only [unp] at h
  have hPc := hP.sub (ws' := [(a1, .inr (0, [.ref a1_bytes, .int n_2, .int a1_limit, .int n_3])), (a1_bytes, .inl (cy 1, 4096, .inl a1_bytes_f))]) [1, 2] rfl
  have hDc := hD.sub (ws' := [(a1, .inr (0, [.ref a1_bytes, .int n_2, .int a1_limit, .int n_3])), (a1_bytes, .inl (cy 1, 4096, .inl a1_bytes_f))]) [1, 2] (by decide) rfl
  have hFc := va_free (wc := [(a1, .inr (0, [.ref a1_bytes, .int n_2, .int a1_limit, .int n_3])), (a1_bytes, .inl (cy 1, 4096, .inl a1_bytes_f))]) hD hS hA [1, 2] rfl
  refine va_calli (va_runV (As := []) (rest := [.ref o]) ⟨hx, hb, hml, hown, htsG⟩ (c_Rd_two l dC dI cy H.size a1 a1_bytes n_2 a1_limit n_3 a1_bytes_f (r_4, n_5, n_6) hq) (cwV 0 htsG (gV mW469 mW454 mW455 mW3 mW456) rfl rfl rfl (by decide +kernel) ⟨Nat.le_of_ble_eq_true rfl, Nat.le_of_ble_eq_true rfl⟩) ⟨fun a U g mk q => by obtain ⟨q0, q1, qP, qK, qD⟩ := q; exact ⟨q0, q1, qP, va_K.moved (u := U) (U := U.calling g mk a) (Vm.Alike.refl U.vm) qK, qD⟩, va_recv hK hPc (ci := 0) (q0 := 0) rfl rfl, fun U hU hW => ⟨rfl, by rw [hU], by rw [hU]; exact hPc, va_K.moved hW.alike hK, hDc.weaken (fun _ _ _ _ => trivial)⟩⟩ rfl rfl hl.1 rfl (lv_room (Nat.le_of_ble_eq_true rfl)) d_Pt_read_7 ⟨Nat.le_of_ble_eq_true rfl, Nat.le_of_ble_eq_true rfl⟩) hS (fun q _ h => hFc q h) hFc (fun rr u t H1 locs ht hvm hw hB hz1 hk1 hS => ?_)
  obtain ⟨hP1, hK1, hD1⟩ := hB
  rw [ht] at hP1
  replace hw : r_4 = rr := hw.symm
  subst hw
  obtain ⟨hP, hD⟩ := va_join (wr := [(o, .inr (1, [.int o_glyph, .int o_isLast, .int o_dx, .int o_dy, .int o_a, .int o_b, .int o_c, .int o_d]))]) (w1 := [(a1, .inr (0, [.ref a1_bytes, .int n_5, .int a1_limit, .int n_6])), (a1_bytes, .inl (cy 1, 4096, .inl a1_bytes_f))]) hP hD [1, 2] [0] rfl rfl (by decide) (by decide) hk1 hFc hP1 hD1
  generalize H1 = H at hP hS ⊢
  have hP := hP.sub (ws' := [(o, .inr (1, [.int o_glyph, .int o_isLast, .int o_dx, .int o_dy, .int o_a, .int o_b, .int o_c, .int o_d])), (a1, .inr (0, [.ref a1_bytes, .int n_5, .int a1_limit, .int n_6])), (a1_bytes, .inl (cy 1, 4096, .inl a1_bytes_f))]) [0, 1, 2] rfl
  have hD := hD.sub (ws' := [(o, .inr (1, [.int o_glyph, .int o_isLast, .int o_dx, .int o_dy, .int o_a, .int o_b, .int o_c, .int o_d])), (a1, .inr (0, [.ref a1_bytes, .int n_5, .int a1_limit, .int n_6])), (a1_bytes, .inl (cy 1, 4096, .inl a1_bytes_f))]) [0, 1, 2] (by decide) rfl
  refine W.widen (k := 0) (n := 0) (by decide) (by decide) ?_
  refine va_put (D := (dC, dI)) (ci := 1) (v := .int r_4) (ty := .int) (C := "GlyphPage$Part") (T := F_Pt) (N := 8) hx hb htsG iG_Pt t_Pt t_Pt_ok n_Pt hown hK hP hD hS 0 rfl rfl 0 (by decide) (htsG _ mW57) (fun _ h9 => h9) rfl (by decide +kernel) rfl rfl (Nat.le_of_ble_eq_true rfl) d_Pt_read_10 (fun H locs hP hD hS => ?_)
  have hP : va_P (dC, dI) classes [(o, .inr (1, [.int r_4, .int o_isLast, .int o_dx, .int o_dy, .int o_a, .int o_b, .int o_c, .int o_d])), (a1, .inr (0, [.ref a1_bytes, .int n_5, .int a1_limit, .int n_6])), (a1_bytes, .inl (cy 1, 4096, .inl a1_bytes_f))] H := hP
  have hD : va_D A [(o, .inr (1, [.int r_4, .int o_isLast, .int o_dx, .int o_dy, .int o_a, .int o_b, .int o_c, .int o_d])), (a1, .inr (0, [.ref a1_bytes, .int n_5, .int a1_limit, .int n_6])), (a1_bytes, .inl (cy 1, 4096, .inl a1_bytes_f))] := hD
  refine lv_aload_n hx hb d_Pt_read_13 rfl (lv_at hl 1 rfl) ?_
  refine lv_iload_n hx hb d_Pt_read_14 rfl (lv_at hl 0 rfl) ?_
  refine lv_bipush (v := (32 : Int32)) hx hb d_Pt_read_15 (by decide) ?_
  refine lv_iand hx hb d_Pt_read_17 ?_
  refine lv_if_ne (tgt := 25) hx hb d_Pt_read_18 (by decide) (fun c_7 => ?_) (fun c_7 => ?_)
  · replace h := (if_neg c_7).symm.trans h
    refine lv_iconst (v := (0 : Int32)) hx hb d_Pt_read_25 (by decide) ?_
    exact w_Pt_read_26 C0 o a1 a1_bytes a1_limit a1_bytes_f a2 uu  a2 r_1 (0 : Int32) r_4 o_isLast o_dx o_dy o_a o_b o_c o_d n_5 n_6 h hP hD hS (lv_sub hl [1, 2, 3, 0] rfl)
  · replace h := (if_pos c_7).symm.trans h
    refine lv_iconst (v := (1 : Int32)) hx hb d_Pt_read_21 (by decide) ?_
    refine lv_goto (tgt := 26) hx hb d_Pt_read_22 (by decide) ?_
    exact w_Pt_read_26 C0 o a1 a1_bytes a1_limit a1_bytes_f a2 uu  a2 r_1 (1 : Int32) r_4 o_isLast o_dx o_dy o_a o_b o_c o_d n_5 n_6 h hP hD hS (lv_sub hl [1, 2, 3, 0] rfl)
def P_Pt_movedX (o_dx : Int32) (o_a : Int32) (o_c : Int32) (a1 : Int32) (a2 : Int32) : Option (Int32) :=
  some (((((((o_a.toInt64) * (a1.toInt64)) + ((o_c.toInt64) * (a2.toInt64))) + (8192 : Int64)) >>> ((14 : Int32).toInt64 &&& 63)).toInt32) + o_dx)
set_option maxHeartbeats 4000000 in
set_option maxRecDepth 100000 in
theorem c_Pt_movedX (l : Launch) (dC : Nat → ClassId) (dI : Nat → Nat → Nat) (cy : Nat → ClassId) (sz : Nat) (o : Nat) (o_glyph : Int32) (o_isLast : Int32) (o_dx : Int32) (o_dy : Int32) (o_a : Int32) (o_b : Int32) (o_c : Int32) (o_d : Int32) (a1 : Int32) (a2 : Int32) (uu : Int32) (h : P_Pt_movedX o_dx o_a o_c a1 a2 = some uu) : Met l y_Pt_movedX (Cond.code y_Pt_movedX b_Pt_movedX 3 (some .int) :: G) ({ frames := 0, cells := 0, slots := 0, locals := 0 } : Room) (va_Pc [.ref o, .int a1, .int a2] (fun U => U.heap.size = sz ∧ va_P (dC, dI) classes [(o, .inr (1, [.int o_glyph, .int o_isLast, .int o_dx, .int o_dy, .int o_a, .int o_b, .int o_c, .int o_d]))] U.heap ∧ va_K (dC, dI) classes (TY cy) U ∧ va_D (fun _ => True) [(o, .inr (1, [.int o_glyph, .int o_isLast, .int o_dx, .int o_dy, .int o_a, .int o_b, .int o_c, .int o_d]))])) (va_Qi (fun r (_ : Unit) => r = uu) (fun _ t => va_P (dC, dI) classes [(o, .inr (1, [.int o_glyph, .int o_isLast, .int o_dx, .int o_dy, .int o_a, .int o_b, .int o_c, .int o_d]))] t.heap ∧ va_K (dC, dI) classes (TY cy) t ∧ va_D (va_A [(o, .inr (1, [.int o_glyph, .int o_isLast, .int o_dx, .int o_dy, .int o_a, .int o_b, .int o_c, .int o_d]))] sz) [(o, .inr (1, [.int o_glyph, .int o_isLast, .int o_dx, .int o_dy, .int o_a, .int o_b, .int o_c, .int o_d]))]) (va_A [(o, .inr (1, [.int o_glyph, .int o_isLast, .int o_dx, .int o_dy, .int o_a, .int o_b, .int o_c, .int o_d]))] sz)) 0 0 (va_A [(o, .inr (1, [.int o_glyph, .int o_isLast, .int o_dx, .int o_dy, .int o_a, .int o_b, .int o_c, .int o_d]))] sz) := by
  refine Met.ofW (cc := b_Pt_movedX) (maxL := 3) (ret := (some .int)) (by decide) rfl ?_
  intro p e s m args below meth c s₁ B hml hv
  obtain ⟨rfl, hsz, hP, hK, hD0⟩ := hv
  have hx := B.exec
  have hb := B.bytes
  have hr := B.returns
  have hts := atoms_spec (ws := Cond.code y_Pt_movedX b_Pt_movedX 3 (some .int) :: G) B.pre
  have htsG : ∀ w ∈ G, w.before _ s = true := fun w hw => hts w (List.mem_cons_of_mem _ hw)
  have hown : s.vm.findClass "GlyphPage$Part" = some m.cls := findClass_of_methodNamed B.named
  have hlocks := B.notSynchronized
  subst hsz
  have hD := hD0.self (sz := s.heap.size)
  generalize hAe : va_A [(o, .inr (1, [.int o_glyph, .int o_isLast, .int o_dx, .int o_dy, .int o_a, .int o_b, .int o_c, .int o_d]))] s.heap.size = A at hD ⊢
  have hA : ∀ q : Nat, s.heap.size ≤ q → A q := fun q h => by rw [← hAe]; exact Or.inr h
  have hS : va_S A s.heap s.heap [] := va_S.rf
  have hl := lv_entry ([.ref o, .int a1, .int a2]) (n := 3) (Nat.le_of_ble_eq_true rfl)
  rw [lg_entry_eq]
  generalize (lg_sl ([.ref o, .int a1, .int a2]) ++ List.replicate (3 - (lg_sl ([.ref o, .int a1, .int a2])).length) Slot.unset).toArray = ls at hl ⊢
  have hl : lv_has ls 3 [(0, .ref o), (1, .int a1), (2, .int a2)] := hl
  have C0 : Cx p s m _ meth c A dC dI cy b_Pt_movedX 3 (some .int) "GlyphPage$Part" := ⟨hx, hb, hr, hlocks, hml, hown, htsG, hA, hK⟩
  unfold P_Pt_movedX at h
  refine lv_aload_n hx hb d_Pt_movedX_0 rfl (lv_at hl 0 rfl) ?_
  refine va_get (D := (dC, dI)) (ci := 1) (v := .int o_a) (C := "GlyphPage$Part") (T := F_Pt) (N := 8) hx hb htsG iG_Pt hown hK hP 0 rfl rfl 4 (by decide) (htsG _ mW63) (fun _ h9 => h9) rfl d_Pt_movedX_1 ?_
  refine lv_i2l hx hb d_Pt_movedX_4 rfl ?_
  refine lv_iload_n hx hb d_Pt_movedX_5 rfl (lv_at hl 1 rfl) ?_
  refine lv_i2l hx hb d_Pt_movedX_6 rfl ?_
  refine lv_lmul hx hb d_Pt_movedX_7 ?_
  refine lv_aload_n hx hb d_Pt_movedX_8 rfl (lv_at hl 0 rfl) ?_
  refine va_get (D := (dC, dI)) (ci := 1) (v := .int o_c) (C := "GlyphPage$Part") (T := F_Pt) (N := 8) hx hb htsG iG_Pt hown hK hP 0 rfl rfl 6 (by decide) (htsG _ mW65) (fun _ h9 => h9) rfl d_Pt_movedX_9 ?_
  refine lv_i2l hx hb d_Pt_movedX_12 rfl ?_
  refine lv_iload_n hx hb d_Pt_movedX_13 rfl (lv_at hl 2 rfl) ?_
  refine lv_i2l hx hb d_Pt_movedX_14 rfl ?_
  refine lv_lmul hx hb d_Pt_movedX_15 ?_
  refine lv_ladd hx hb d_Pt_movedX_16 ?_
  refine lv_ldc2 hx hb hown (htsG _ mW486) d_Pt_movedX_17 ?_
  refine lv_ladd hx hb d_Pt_movedX_20 ?_
  refine lv_bipush (v := (14 : Int32)) hx hb d_Pt_movedX_21 (by decide) ?_
  refine lv_lshr hx hb d_Pt_movedX_23 rfl ?_
  refine lv_l2i hx hb d_Pt_movedX_24 rfl ?_
  refine lv_aload_n hx hb d_Pt_movedX_25 rfl (lv_at hl 0 rfl) ?_
  refine va_get (D := (dC, dI)) (ci := 1) (v := .int o_dx) (C := "GlyphPage$Part") (T := F_Pt) (N := 8) hx hb htsG iG_Pt hown hK hP 0 rfl rfl 2 (by decide) (htsG _ mW61) (fun _ h9 => h9) rfl d_Pt_movedX_26 ?_
  refine lv_iadd hx hb d_Pt_movedX_29 ?_
  cases h
  exact W.iret hx hb hr (fun t ht hW => ⟨⟨_, (), rfl, rfl, by rw [ht]; exact hP, va_K.moved hW.alike hK, hD⟩, hS.F ht⟩) hS.2.2 d_Pt_movedX_30 hlocks
def P_Pt_movedY (o_dy : Int32) (o_b : Int32) (o_d : Int32) (a1 : Int32) (a2 : Int32) : Option (Int32) :=
  some (((((((o_b.toInt64) * (a1.toInt64)) + ((o_d.toInt64) * (a2.toInt64))) + (8192 : Int64)) >>> ((14 : Int32).toInt64 &&& 63)).toInt32) + o_dy)
set_option maxHeartbeats 4000000 in
set_option maxRecDepth 100000 in
theorem c_Pt_movedY (l : Launch) (dC : Nat → ClassId) (dI : Nat → Nat → Nat) (cy : Nat → ClassId) (sz : Nat) (o : Nat) (o_glyph : Int32) (o_isLast : Int32) (o_dx : Int32) (o_dy : Int32) (o_a : Int32) (o_b : Int32) (o_c : Int32) (o_d : Int32) (a1 : Int32) (a2 : Int32) (uu : Int32) (h : P_Pt_movedY o_dy o_b o_d a1 a2 = some uu) : Met l y_Pt_movedY (Cond.code y_Pt_movedY b_Pt_movedY 3 (some .int) :: G) ({ frames := 0, cells := 0, slots := 0, locals := 0 } : Room) (va_Pc [.ref o, .int a1, .int a2] (fun U => U.heap.size = sz ∧ va_P (dC, dI) classes [(o, .inr (1, [.int o_glyph, .int o_isLast, .int o_dx, .int o_dy, .int o_a, .int o_b, .int o_c, .int o_d]))] U.heap ∧ va_K (dC, dI) classes (TY cy) U ∧ va_D (fun _ => True) [(o, .inr (1, [.int o_glyph, .int o_isLast, .int o_dx, .int o_dy, .int o_a, .int o_b, .int o_c, .int o_d]))])) (va_Qi (fun r (_ : Unit) => r = uu) (fun _ t => va_P (dC, dI) classes [(o, .inr (1, [.int o_glyph, .int o_isLast, .int o_dx, .int o_dy, .int o_a, .int o_b, .int o_c, .int o_d]))] t.heap ∧ va_K (dC, dI) classes (TY cy) t ∧ va_D (va_A [(o, .inr (1, [.int o_glyph, .int o_isLast, .int o_dx, .int o_dy, .int o_a, .int o_b, .int o_c, .int o_d]))] sz) [(o, .inr (1, [.int o_glyph, .int o_isLast, .int o_dx, .int o_dy, .int o_a, .int o_b, .int o_c, .int o_d]))]) (va_A [(o, .inr (1, [.int o_glyph, .int o_isLast, .int o_dx, .int o_dy, .int o_a, .int o_b, .int o_c, .int o_d]))] sz)) 0 0 (va_A [(o, .inr (1, [.int o_glyph, .int o_isLast, .int o_dx, .int o_dy, .int o_a, .int o_b, .int o_c, .int o_d]))] sz) := by
  refine Met.ofW (cc := b_Pt_movedY) (maxL := 3) (ret := (some .int)) (by decide) rfl ?_
  intro p e s m args below meth c s₁ B hml hv
  obtain ⟨rfl, hsz, hP, hK, hD0⟩ := hv
  have hx := B.exec
  have hb := B.bytes
  have hr := B.returns
  have hts := atoms_spec (ws := Cond.code y_Pt_movedY b_Pt_movedY 3 (some .int) :: G) B.pre
  have htsG : ∀ w ∈ G, w.before _ s = true := fun w hw => hts w (List.mem_cons_of_mem _ hw)
  have hown : s.vm.findClass "GlyphPage$Part" = some m.cls := findClass_of_methodNamed B.named
  have hlocks := B.notSynchronized
  subst hsz
  have hD := hD0.self (sz := s.heap.size)
  generalize hAe : va_A [(o, .inr (1, [.int o_glyph, .int o_isLast, .int o_dx, .int o_dy, .int o_a, .int o_b, .int o_c, .int o_d]))] s.heap.size = A at hD ⊢
  have hA : ∀ q : Nat, s.heap.size ≤ q → A q := fun q h => by rw [← hAe]; exact Or.inr h
  have hS : va_S A s.heap s.heap [] := va_S.rf
  have hl := lv_entry ([.ref o, .int a1, .int a2]) (n := 3) (Nat.le_of_ble_eq_true rfl)
  rw [lg_entry_eq]
  generalize (lg_sl ([.ref o, .int a1, .int a2]) ++ List.replicate (3 - (lg_sl ([.ref o, .int a1, .int a2])).length) Slot.unset).toArray = ls at hl ⊢
  have hl : lv_has ls 3 [(0, .ref o), (1, .int a1), (2, .int a2)] := hl
  have C0 : Cx p s m _ meth c A dC dI cy b_Pt_movedY 3 (some .int) "GlyphPage$Part" := ⟨hx, hb, hr, hlocks, hml, hown, htsG, hA, hK⟩
  unfold P_Pt_movedY at h
  refine lv_aload_n hx hb d_Pt_movedY_0 rfl (lv_at hl 0 rfl) ?_
  refine va_get (D := (dC, dI)) (ci := 1) (v := .int o_b) (C := "GlyphPage$Part") (T := F_Pt) (N := 8) hx hb htsG iG_Pt hown hK hP 0 rfl rfl 5 (by decide) (htsG _ mW64) (fun _ h9 => h9) rfl d_Pt_movedY_1 ?_
  refine lv_i2l hx hb d_Pt_movedY_4 rfl ?_
  refine lv_iload_n hx hb d_Pt_movedY_5 rfl (lv_at hl 1 rfl) ?_
  refine lv_i2l hx hb d_Pt_movedY_6 rfl ?_
  refine lv_lmul hx hb d_Pt_movedY_7 ?_
  refine lv_aload_n hx hb d_Pt_movedY_8 rfl (lv_at hl 0 rfl) ?_
  refine va_get (D := (dC, dI)) (ci := 1) (v := .int o_d) (C := "GlyphPage$Part") (T := F_Pt) (N := 8) hx hb htsG iG_Pt hown hK hP 0 rfl rfl 7 (by decide) (htsG _ mW66) (fun _ h9 => h9) rfl d_Pt_movedY_9 ?_
  refine lv_i2l hx hb d_Pt_movedY_12 rfl ?_
  refine lv_iload_n hx hb d_Pt_movedY_13 rfl (lv_at hl 2 rfl) ?_
  refine lv_i2l hx hb d_Pt_movedY_14 rfl ?_
  refine lv_lmul hx hb d_Pt_movedY_15 ?_
  refine lv_ladd hx hb d_Pt_movedY_16 ?_
  refine lv_ldc2 hx hb hown (htsG _ mW486) d_Pt_movedY_17 ?_
  refine lv_ladd hx hb d_Pt_movedY_20 ?_
  refine lv_bipush (v := (14 : Int32)) hx hb d_Pt_movedY_21 (by decide) ?_
  refine lv_lshr hx hb d_Pt_movedY_23 rfl ?_
  refine lv_l2i hx hb d_Pt_movedY_24 rfl ?_
  refine lv_aload_n hx hb d_Pt_movedY_25 rfl (lv_at hl 0 rfl) ?_
  refine va_get (D := (dC, dI)) (ci := 1) (v := .int o_dy) (C := "GlyphPage$Part") (T := F_Pt) (N := 8) hx hb htsG iG_Pt hown hK hP 0 rfl rfl 3 (by decide) (htsG _ mW62) (fun _ h9 => h9) rfl d_Pt_movedY_26 ?_
  refine lv_iadd hx hb d_Pt_movedY_29 ?_
  cases h
  exact W.iret hx hb hr (fun t ht hW => ⟨⟨_, (), rfl, rfl, by rw [ht]; exact hP, va_K.moved hW.alike hK, hD⟩, hS.F ht⟩) hS.2.2 d_Pt_movedY_30 hlocks
def P_Sh_isCoordinate  (a1 : Int32) : Option (Int32) :=
  if a1 < (-32768 : Int32) then (some (0 : Int32)) else (if (32767 : Int32) < a1 then (some (0 : Int32)) else (some (1 : Int32)))
set_option maxHeartbeats 4000000 in
set_option maxRecDepth 100000 in
theorem c_Sh_isCoordinate (l : Launch) (dC : Nat → ClassId) (dI : Nat → Nat → Nat) (cy : Nat → ClassId) (sz : Nat)   (a1 : Int32) (uu : Int32) (h : P_Sh_isCoordinate a1 = some uu) : Met l y_Sh_isCoordinate (Cond.code y_Sh_isCoordinate b_Sh_isCoordinate 1 (some .boolean) :: G) ({ frames := 0, cells := 0, slots := 0, locals := 0 } : Room) (va_Pc [.int a1] (fun U => U.heap.size = sz ∧ va_P (dC, dI) classes [] U.heap ∧ va_K (dC, dI) classes (TY cy) U ∧ va_D (fun _ => True) [])) (va_Qi (fun r (_ : Unit) => r = uu) (fun _ t => va_P (dC, dI) classes [] t.heap ∧ va_K (dC, dI) classes (TY cy) t ∧ va_D (va_A [] sz) []) (va_A [] sz)) 0 0 (va_A [] sz) := by
  refine Met.ofW (cc := b_Sh_isCoordinate) (maxL := 1) (ret := (some .boolean)) (by decide) rfl ?_
  intro p e s m args below meth c s₁ B hml hv
  obtain ⟨rfl, hsz, hP, hK, hD0⟩ := hv
  have hx := B.exec
  have hb := B.bytes
  have hr := B.returns
  have hts := atoms_spec (ws := Cond.code y_Sh_isCoordinate b_Sh_isCoordinate 1 (some .boolean) :: G) B.pre
  have htsG : ∀ w ∈ G, w.before _ s = true := fun w hw => hts w (List.mem_cons_of_mem _ hw)
  have hown : s.vm.findClass "GlyphPage$Shape" = some m.cls := findClass_of_methodNamed B.named
  have hlocks := B.notSynchronized
  subst hsz
  have hD := hD0.self (sz := s.heap.size)
  generalize hAe : va_A [] s.heap.size = A at hD ⊢
  have hA : ∀ q : Nat, s.heap.size ≤ q → A q := fun q h => by rw [← hAe]; exact Or.inr h
  have hS : va_S A s.heap s.heap [] := va_S.rf
  have hl := lv_entry ([.int a1]) (n := 1) (Nat.le_of_ble_eq_true rfl)
  rw [lg_entry_eq]
  generalize (lg_sl ([.int a1]) ++ List.replicate (1 - (lg_sl ([.int a1])).length) Slot.unset).toArray = ls at hl ⊢
  have hl : lv_has ls 1 [(0, .int a1)] := hl
  have C0 : Cx p s m _ meth c A dC dI cy b_Sh_isCoordinate 1 (some .boolean) "GlyphPage$Shape" := ⟨hx, hb, hr, hlocks, hml, hown, htsG, hA, hK⟩
  unfold P_Sh_isCoordinate at h
  refine lv_iload_n hx hb d_Sh_isCoordinate_0 rfl (lv_at hl 0 rfl) ?_
  refine lv_sipush (v := (-32768 : Int32)) hx hb d_Sh_isCoordinate_1 (by decide) ?_
  refine lv_icmp_lt (tgt := 18) hx hb d_Sh_isCoordinate_4 (by decide) (fun c_1 => ?_) (fun c_1 => ?_)
  · replace h := (if_pos c_1).symm.trans h
    refine lv_iconst (v := (0 : Int32)) hx hb d_Sh_isCoordinate_18 (by decide) ?_
    cases h
    exact W.zret (ty := .boolean) hx hb hr rfl (fun t ht hW => ⟨⟨_, (), rfl, rfl, by rw [ht]; exact hP, va_K.moved hW.alike hK, hD⟩, hS.F ht⟩) hS.2.2 d_Sh_isCoordinate_19 hlocks
  · replace h := (if_neg c_1).symm.trans h
    refine lv_iload_n hx hb d_Sh_isCoordinate_7 rfl (lv_at hl 0 rfl) ?_
    refine lv_sipush (v := (32767 : Int32)) hx hb d_Sh_isCoordinate_8 (by decide) ?_
    refine lv_icmp_gt (tgt := 18) hx hb d_Sh_isCoordinate_11 (by decide) (fun c_2 => ?_) (fun c_2 => ?_)
    · replace h := (if_pos c_2).symm.trans h
      refine lv_iconst (v := (0 : Int32)) hx hb d_Sh_isCoordinate_18 (by decide) ?_
      cases h
      exact W.zret (ty := .boolean) hx hb hr rfl (fun t ht hW => ⟨⟨_, (), rfl, rfl, by rw [ht]; exact hP, va_K.moved hW.alike hK, hD⟩, hS.F ht⟩) hS.2.2 d_Sh_isCoordinate_19 hlocks
    · replace h := (if_neg c_2).symm.trans h
      refine lv_iconst (v := (1 : Int32)) hx hb d_Sh_isCoordinate_14 (by decide) ?_
      refine lv_goto (tgt := 19) hx hb d_Sh_isCoordinate_15 (by decide) ?_
      cases h
      exact W.zret (ty := .boolean) hx hb hr rfl (fun t ht hW => ⟨⟨_, (), rfl, rfl, by rw [ht]; exact hP, va_K.moved hW.alike hK, hD⟩, hS.F ht⟩) hS.2.2 d_Sh_isCoordinate_19 hlocks
def P_Sh_contourOf_2b (o_contours : Int32) (o_lasts_f : Nat → Int32)  (z2 : Int32 × Int32 → Option (Int32)) (x1 : Int32) (x2 : Int32) : Option (Int32) :=
  if o_contours ≤ x2 then (some o_contours) else (bd x2 32 <| if (o_lasts_f x2.toNatClampNeg) < x1 then (z2 (x1, (x2 + (1 : Int32)))) else (some x2))
def L_Sh_contourOf_2 (o_contours : Int32) (o_lasts_f : Nat → Int32)  : (Int32 × Int32 → Option (Int32)) → (Int32 × Int32) → Option (Int32) :=
  fun z => unp fun x1 x2 => P_Sh_contourOf_2b o_contours o_lasts_f z x1 x2
def P_Sh_contourOf_2 (o_contours : Int32) (o_lasts_f : Nat → Int32)  (x1 : Int32) (x2 : Int32) : Option (Int32) :=
  lp (L_Sh_contourOf_2 o_contours o_lasts_f) fuel (x1, x2)
theorem e_Sh_contourOf_2 (o_contours : Int32) (o_lasts_f : Nat → Int32)  (n : Nat) (x1 : Int32) (x2 : Int32) : lp (L_Sh_contourOf_2 o_contours o_lasts_f) (n + 1) (x1, x2) = P_Sh_contourOf_2b o_contours o_lasts_f (lp (L_Sh_contourOf_2 o_contours o_lasts_f) n) x1 x2 := rfl
set_option maxHeartbeats 4000000 in
set_option maxRecDepth 100000 in
theorem w_Sh_contourOf_2b (C0 : Cx p s m args meth c A dC dI cy b_Sh_contourOf 3 (some .int) "GlyphPage$Shape") (o : Nat) (o_xs : Nat) (o_ys : Nat) (o_on : Nat) (o_lasts : Nat) (o_flags : Nat) (o_readers : Nat) (o_moves : Nat) (o_points : Int32) (o_contours : Int32) (o_parts : Int32) (o_lasts_f : Nat → Int32) (a1 : Int32) (uu : Int32)  (z2 : Int32 × Int32 → Option (Int32)) (hz2 : ∀ (x1 : Int32) (x2 : Int32) (H : Heap) (locs : List Loc) (ls : Array Slot), z2 (x1, x2) = some uu → va_P (dC, dI) classes [(o, .inr (2, [.ref o_xs, .ref o_ys, .ref o_on, .ref o_lasts, .int o_points, .int o_contours, .int o_parts, .ref o_flags, .ref o_readers, .ref o_moves])), (o_lasts, .inl (cy 0, 32, .inl o_lasts_f))] H → va_D A [(o, .inr (2, [.ref o_xs, .ref o_ys, .ref o_on, .ref o_lasts, .int o_points, .int o_contours, .int o_parts, .ref o_flags, .ref o_readers, .ref o_moves])), (o_lasts, .inl (cy 0, 32, .inl o_lasts_f))] → va_S A s.heap H locs → lv_has ls 3 [(0, .ref o), (1, .int x1), (2, .int x2)] → W p l e ({ frames := 0, cells := 0, slots := 0, locals := 0 } : Room) s m args below meth c H locs 0 0 (MQ below (va_Qi (fun r (_ : Unit) => r = uu) (fun _ t => va_P (dC, dI) classes [(o, .inr (2, [.ref o_xs, .ref o_ys, .ref o_on, .ref o_lasts, .int o_points, .int o_contours, .int o_parts, .ref o_flags, .ref o_readers, .ref o_moves])), (o_lasts, .inl (cy 0, 32, .inl o_lasts_f))] t.heap ∧ va_K (dC, dI) classes (TY cy) t ∧ va_D A [(o, .inr (2, [.ref o_xs, .ref o_ys, .ref o_on, .ref o_lasts, .int o_points, .int o_contours, .int o_parts, .ref o_flags, .ref o_readers, .ref o_moves])), (o_lasts, .inl (cy 0, 32, .inl o_lasts_f))]) A) args s 0 0 A) (F0 m 2 ls [])) (x1 : Int32) (x2 : Int32) {H : Heap} {locs : List Loc} {ls : Array Slot} (h : P_Sh_contourOf_2b o_contours o_lasts_f z2 x1 x2 = some uu) : va_P (dC, dI) classes [(o, .inr (2, [.ref o_xs, .ref o_ys, .ref o_on, .ref o_lasts, .int o_points, .int o_contours, .int o_parts, .ref o_flags, .ref o_readers, .ref o_moves])), (o_lasts, .inl (cy 0, 32, .inl o_lasts_f))] H → va_D A [(o, .inr (2, [.ref o_xs, .ref o_ys, .ref o_on, .ref o_lasts, .int o_points, .int o_contours, .int o_parts, .ref o_flags, .ref o_readers, .ref o_moves])), (o_lasts, .inl (cy 0, 32, .inl o_lasts_f))] → va_S A s.heap H locs → lv_has ls 3 [(0, .ref o), (1, .int x1), (2, .int x2)] → W p l e ({ frames := 0, cells := 0, slots := 0, locals := 0 } : Room) s m args below meth c H locs 0 0 (MQ below (va_Qi (fun r (_ : Unit) => r = uu) (fun _ t => va_P (dC, dI) classes [(o, .inr (2, [.ref o_xs, .ref o_ys, .ref o_on, .ref o_lasts, .int o_points, .int o_contours, .int o_parts, .ref o_flags, .ref o_readers, .ref o_moves])), (o_lasts, .inl (cy 0, 32, .inl o_lasts_f))] t.heap ∧ va_K (dC, dI) classes (TY cy) t ∧ va_D A [(o, .inr (2, [.ref o_xs, .ref o_ys, .ref o_on, .ref o_lasts, .int o_points, .int o_contours, .int o_parts, .ref o_flags, .ref o_readers, .ref o_moves])), (o_lasts, .inl (cy 0, 32, .inl o_lasts_f))]) A) args s 0 0 A) (F0 m 2 ls []) := by
  intro hP hD hS hl
  obtain ⟨hx, hb, hr, hlocks, hml, hown, htsG, hA, hK⟩ := id C0
  unfold P_Sh_contourOf_2b at h
  refine lv_iload_n hx hb d_Sh_contourOf_2 rfl (lv_at hl 2 rfl) ?_
  refine lv_aload_n hx hb d_Sh_contourOf_3 rfl (lv_at hl 0 rfl) ?_
  refine va_get (D := (dC, dI)) (ci := 2) (v := .int o_contours) (C := "GlyphPage$Shape") (T := F_Sh) (N := 10) hx hb htsG iG_Sh hown hK hP 0 rfl rfl 5 (by decide) (htsG _ mW98) (fun _ h9 => h9) rfl d_Sh_contourOf_4 ?_
  refine lv_icmp_ge (tgt := 28) hx hb d_Sh_contourOf_7 (by decide) (fun c_1 => ?_) (fun c_1 => ?_)
  · replace h := (if_pos c_1).symm.trans h
    refine lv_aload_n hx hb d_Sh_contourOf_28 rfl (lv_at hl 0 rfl) ?_
    refine va_get (D := (dC, dI)) (ci := 2) (v := .int o_contours) (C := "GlyphPage$Shape") (T := F_Sh) (N := 10) hx hb htsG iG_Sh hown hK hP 0 rfl rfl 5 (by decide) (htsG _ mW98) (fun _ h9 => h9) rfl d_Sh_contourOf_29 ?_
    cases h
    exact W.iret hx hb hr (fun t ht hW => ⟨⟨_, (), rfl, rfl, by rw [ht]; exact hP, va_K.moved hW.alike hK, hD⟩, hS.F ht⟩) hS.2.2 d_Sh_contourOf_32 hlocks
  · replace h := (if_neg c_1).symm.trans h
    refine lv_iload_n hx hb d_Sh_contourOf_10 rfl (lv_at hl 1 rfl) ?_
    refine lv_aload_n hx hb d_Sh_contourOf_11 rfl (lv_at hl 0 rfl) ?_
    refine va_get (D := (dC, dI)) (ci := 2) (v := .ref o_lasts) (C := "GlyphPage$Shape") (T := F_Sh) (N := 10) hx hb htsG iG_Sh hown hK hP 0 rfl rfl 3 (by decide) (htsG _ mW93) (fun _ h9 => h9) rfl d_Sh_contourOf_12 ?_
    refine lv_iload_n hx hb d_Sh_contourOf_15 rfl (lv_at hl 2 rfl) ?_
    obtain ⟨hin_2, h⟩ := bd_some h
    refine va_iald hx hb hK hP 1 0 rfl rfl hin_2 d_Sh_contourOf_16 ?_
    refine lv_icmp_gt (tgt := 22) hx hb d_Sh_contourOf_17 (by decide) (fun c_3 => ?_) (fun c_3 => ?_)
    · replace h := (if_pos c_3).symm.trans h
      refine lv_iinc (v := (x2 + (1 : Int32))) (lv' := [(2, .int (x2 + (1 : Int32))), (0, .ref o), (1, .int x1)]) hx hb d_Sh_contourOf_22 hl (k := 2) rfl rfl (by decide) rfl (fun ls hl => ?_)
      refine lv_goto (tgt := 2) hx hb d_Sh_contourOf_25 (by decide) ?_
      exact hz2 x1 (x2 + (1 : Int32)) _ _ _ h hP hD hS (lv_sub hl [1, 2, 0] rfl)
    · replace h := (if_neg c_3).symm.trans h
      refine lv_iload_n hx hb d_Sh_contourOf_20 rfl (lv_at hl 2 rfl) ?_
      cases h
      exact W.iret hx hb hr (fun t ht hW => ⟨⟨_, (), rfl, rfl, by rw [ht]; exact hP, va_K.moved hW.alike hK, hD⟩, hS.F ht⟩) hS.2.2 d_Sh_contourOf_21 hlocks
theorem w_Sh_contourOf_2 (C0 : Cx p s m args meth c A dC dI cy b_Sh_contourOf 3 (some .int) "GlyphPage$Shape") (o : Nat) (o_xs : Nat) (o_ys : Nat) (o_on : Nat) (o_lasts : Nat) (o_flags : Nat) (o_readers : Nat) (o_moves : Nat) (o_points : Int32) (o_contours : Int32) (o_parts : Int32) (o_lasts_f : Nat → Int32) (a1 : Int32) (uu : Int32)  (x1 : Int32) (x2 : Int32) {H : Heap} {locs : List Loc} {ls : Array Slot} (h : P_Sh_contourOf_2 o_contours o_lasts_f x1 x2 = some uu) : va_P (dC, dI) classes [(o, .inr (2, [.ref o_xs, .ref o_ys, .ref o_on, .ref o_lasts, .int o_points, .int o_contours, .int o_parts, .ref o_flags, .ref o_readers, .ref o_moves])), (o_lasts, .inl (cy 0, 32, .inl o_lasts_f))] H → va_D A [(o, .inr (2, [.ref o_xs, .ref o_ys, .ref o_on, .ref o_lasts, .int o_points, .int o_contours, .int o_parts, .ref o_flags, .ref o_readers, .ref o_moves])), (o_lasts, .inl (cy 0, 32, .inl o_lasts_f))] → va_S A s.heap H locs → lv_has ls 3 [(0, .ref o), (1, .int x1), (2, .int x2)] → W p l e ({ frames := 0, cells := 0, slots := 0, locals := 0 } : Room) s m args below meth c H locs 0 0 (MQ below (va_Qi (fun r (_ : Unit) => r = uu) (fun _ t => va_P (dC, dI) classes [(o, .inr (2, [.ref o_xs, .ref o_ys, .ref o_on, .ref o_lasts, .int o_points, .int o_contours, .int o_parts, .ref o_flags, .ref o_readers, .ref o_moves])), (o_lasts, .inl (cy 0, 32, .inl o_lasts_f))] t.heap ∧ va_K (dC, dI) classes (TY cy) t ∧ va_D A [(o, .inr (2, [.ref o_xs, .ref o_ys, .ref o_on, .ref o_lasts, .int o_points, .int o_contours, .int o_parts, .ref o_flags, .ref o_readers, .ref o_moves])), (o_lasts, .inl (cy 0, 32, .inl o_lasts_f))]) A) args s 0 0 A) (F0 m 2 ls []) := by
  have key : ∀ (n : Nat) (x1 : Int32) (x2 : Int32) (H : Heap) (locs : List Loc) (ls : Array Slot), lp (L_Sh_contourOf_2 o_contours o_lasts_f) n (x1, x2) = some uu → va_P (dC, dI) classes [(o, .inr (2, [.ref o_xs, .ref o_ys, .ref o_on, .ref o_lasts, .int o_points, .int o_contours, .int o_parts, .ref o_flags, .ref o_readers, .ref o_moves])), (o_lasts, .inl (cy 0, 32, .inl o_lasts_f))] H → va_D A [(o, .inr (2, [.ref o_xs, .ref o_ys, .ref o_on, .ref o_lasts, .int o_points, .int o_contours, .int o_parts, .ref o_flags, .ref o_readers, .ref o_moves])), (o_lasts, .inl (cy 0, 32, .inl o_lasts_f))] → va_S A s.heap H locs → lv_has ls 3 [(0, .ref o), (1, .int x1), (2, .int x2)] → W p l e ({ frames := 0, cells := 0, slots := 0, locals := 0 } : Room) s m args below meth c H locs 0 0 (MQ below (va_Qi (fun r (_ : Unit) => r = uu) (fun _ t => va_P (dC, dI) classes [(o, .inr (2, [.ref o_xs, .ref o_ys, .ref o_on, .ref o_lasts, .int o_points, .int o_contours, .int o_parts, .ref o_flags, .ref o_readers, .ref o_moves])), (o_lasts, .inl (cy 0, 32, .inl o_lasts_f))] t.heap ∧ va_K (dC, dI) classes (TY cy) t ∧ va_D A [(o, .inr (2, [.ref o_xs, .ref o_ys, .ref o_on, .ref o_lasts, .int o_points, .int o_contours, .int o_parts, .ref o_flags, .ref o_readers, .ref o_moves])), (o_lasts, .inl (cy 0, 32, .inl o_lasts_f))]) A) args s 0 0 A) (F0 m 2 ls []) := by
    intro n
    induction n with
    | zero => intro x1 x2 H locs ls h; cases h
    | succ n ih => intro x1 x2 H locs ls h; exact w_Sh_contourOf_2b C0 o o_xs o_ys o_on o_lasts o_flags o_readers o_moves o_points o_contours o_parts o_lasts_f a1 uu  (lp (L_Sh_contourOf_2 o_contours o_lasts_f) n) ih x1 x2 ((e_Sh_contourOf_2 o_contours o_lasts_f n x1 x2).symm.trans h)
  exact key fuel x1 x2 H locs ls h
def P_Sh_contourOf (o_contours : Int32) (o_lasts_f : Nat → Int32) (a1 : Int32) : Option (Int32) :=
  P_Sh_contourOf_2 o_contours o_lasts_f a1 (0 : Int32)
set_option maxHeartbeats 4000000 in
set_option maxRecDepth 100000 in
theorem c_Sh_contourOf (l : Launch) (dC : Nat → ClassId) (dI : Nat → Nat → Nat) (cy : Nat → ClassId) (sz : Nat) (o : Nat) (o_xs : Nat) (o_ys : Nat) (o_on : Nat) (o_lasts : Nat) (o_flags : Nat) (o_readers : Nat) (o_moves : Nat) (o_points : Int32) (o_contours : Int32) (o_parts : Int32) (o_lasts_f : Nat → Int32) (a1 : Int32) (uu : Int32) (h : P_Sh_contourOf o_contours o_lasts_f a1 = some uu) : Met l y_Sh_contourOf (Cond.code y_Sh_contourOf b_Sh_contourOf 3 (some .int) :: G) ({ frames := 0, cells := 0, slots := 0, locals := 0 } : Room) (va_Pc [.ref o, .int a1] (fun U => U.heap.size = sz ∧ va_P (dC, dI) classes [(o, .inr (2, [.ref o_xs, .ref o_ys, .ref o_on, .ref o_lasts, .int o_points, .int o_contours, .int o_parts, .ref o_flags, .ref o_readers, .ref o_moves])), (o_lasts, .inl (cy 0, 32, .inl o_lasts_f))] U.heap ∧ va_K (dC, dI) classes (TY cy) U ∧ va_D (fun _ => True) [(o, .inr (2, [.ref o_xs, .ref o_ys, .ref o_on, .ref o_lasts, .int o_points, .int o_contours, .int o_parts, .ref o_flags, .ref o_readers, .ref o_moves])), (o_lasts, .inl (cy 0, 32, .inl o_lasts_f))])) (va_Qi (fun r (_ : Unit) => r = uu) (fun _ t => va_P (dC, dI) classes [(o, .inr (2, [.ref o_xs, .ref o_ys, .ref o_on, .ref o_lasts, .int o_points, .int o_contours, .int o_parts, .ref o_flags, .ref o_readers, .ref o_moves])), (o_lasts, .inl (cy 0, 32, .inl o_lasts_f))] t.heap ∧ va_K (dC, dI) classes (TY cy) t ∧ va_D (va_A [(o, .inr (2, [.ref o_xs, .ref o_ys, .ref o_on, .ref o_lasts, .int o_points, .int o_contours, .int o_parts, .ref o_flags, .ref o_readers, .ref o_moves])), (o_lasts, .inl (cy 0, 32, .inl o_lasts_f))] sz) [(o, .inr (2, [.ref o_xs, .ref o_ys, .ref o_on, .ref o_lasts, .int o_points, .int o_contours, .int o_parts, .ref o_flags, .ref o_readers, .ref o_moves])), (o_lasts, .inl (cy 0, 32, .inl o_lasts_f))]) (va_A [(o, .inr (2, [.ref o_xs, .ref o_ys, .ref o_on, .ref o_lasts, .int o_points, .int o_contours, .int o_parts, .ref o_flags, .ref o_readers, .ref o_moves])), (o_lasts, .inl (cy 0, 32, .inl o_lasts_f))] sz)) 0 0 (va_A [(o, .inr (2, [.ref o_xs, .ref o_ys, .ref o_on, .ref o_lasts, .int o_points, .int o_contours, .int o_parts, .ref o_flags, .ref o_readers, .ref o_moves])), (o_lasts, .inl (cy 0, 32, .inl o_lasts_f))] sz) := by
  refine Met.ofW (cc := b_Sh_contourOf) (maxL := 3) (ret := (some .int)) (by decide) rfl ?_
  intro p e s m args below meth c s₁ B hml hv
  obtain ⟨rfl, hsz, hP, hK, hD0⟩ := hv
  have hx := B.exec
  have hb := B.bytes
  have hr := B.returns
  have hts := atoms_spec (ws := Cond.code y_Sh_contourOf b_Sh_contourOf 3 (some .int) :: G) B.pre
  have htsG : ∀ w ∈ G, w.before _ s = true := fun w hw => hts w (List.mem_cons_of_mem _ hw)
  have hown : s.vm.findClass "GlyphPage$Shape" = some m.cls := findClass_of_methodNamed B.named
  have hlocks := B.notSynchronized
  subst hsz
  have hD := hD0.self (sz := s.heap.size)
  generalize hAe : va_A [(o, .inr (2, [.ref o_xs, .ref o_ys, .ref o_on, .ref o_lasts, .int o_points, .int o_contours, .int o_parts, .ref o_flags, .ref o_readers, .ref o_moves])), (o_lasts, .inl (cy 0, 32, .inl o_lasts_f))] s.heap.size = A at hD ⊢
  have hA : ∀ q : Nat, s.heap.size ≤ q → A q := fun q h => by rw [← hAe]; exact Or.inr h
  have hS : va_S A s.heap s.heap [] := va_S.rf
  have hl := lv_entry ([.ref o, .int a1]) (n := 3) (Nat.le_of_ble_eq_true rfl)
  rw [lg_entry_eq]
  generalize (lg_sl ([.ref o, .int a1]) ++ List.replicate (3 - (lg_sl ([.ref o, .int a1])).length) Slot.unset).toArray = ls at hl ⊢
  have hl : lv_has ls 3 [(0, .ref o), (1, .int a1)] := hl
  have C0 : Cx p s m _ meth c A dC dI cy b_Sh_contourOf 3 (some .int) "GlyphPage$Shape" := ⟨hx, hb, hr, hlocks, hml, hown, htsG, hA, hK⟩
  unfold P_Sh_contourOf at h
  refine lv_iconst (v := (0 : Int32)) hx hb d_Sh_contourOf_0 (by decide) ?_
  refine lv_istore_n (lv' := [(2, .int (0 : Int32)), (0, .ref o), (1, .int a1)]) hx hb d_Sh_contourOf_1 rfl hl (by decide) rfl (fun ls hl => ?_)
  exact w_Sh_contourOf_2 C0 o o_xs o_ys o_on o_lasts o_flags o_readers o_moves o_points o_contours o_parts o_lasts_f a1 uu  a1 (0 : Int32) h hP hD hS (lv_sub hl [1, 2, 0] rfl)
def P_Sh_move_2b (o_points : Int32) (a1_dx : Int32) (a1_dy : Int32) (a1_a : Int32) (a1_b : Int32) (a1_c : Int32) (a1_d : Int32)  (z2 : Int32 × (Nat → Int32) × (Nat → Int32) → Option (Int32 × (Nat → Int32) × (Nat → Int32))) (x3 : Int32) (o_xs_f : Nat → Int32) (o_ys_f : Nat → Int32) : Option (Int32 × (Nat → Int32) × (Nat → Int32)) :=
  if o_points ≤ x3 then (some ((1 : Int32), o_xs_f, o_ys_f)) else (bd x3 256 <| bd x3 256 <| (P_Pt_movedX a1_dx a1_a a1_c (o_xs_f x3.toNatClampNeg) (o_ys_f x3.toNatClampNeg)).bind fun r_4 => bd x3 256 <| bd x3 256 <| (P_Pt_movedY a1_dy a1_b a1_d (o_xs_f x3.toNatClampNeg) (o_ys_f x3.toNatClampNeg)).bind fun r_7 => bd x3 256 <| bd x3 256 <| bd x3 256 <| (P_Sh_isCoordinate ((upd o_xs_f x3.toNatClampNeg r_4) x3.toNatClampNeg)).bind fun r_11 => if r_11 = 0 then (some ((0 : Int32), (upd o_xs_f x3.toNatClampNeg r_4), (upd o_ys_f x3.toNatClampNeg r_7))) else (bd x3 256 <| (P_Sh_isCoordinate ((upd o_ys_f x3.toNatClampNeg r_7) x3.toNatClampNeg)).bind fun r_14 => if r_14 = 0 then (some ((0 : Int32), (upd o_xs_f x3.toNatClampNeg r_4), (upd o_ys_f x3.toNatClampNeg r_7))) else (z2 ((x3 + (1 : Int32)), (upd o_xs_f x3.toNatClampNeg r_4), (upd o_ys_f x3.toNatClampNeg r_7)))))
def L_Sh_move_2 (o_points : Int32) (a1_dx : Int32) (a1_dy : Int32) (a1_a : Int32) (a1_b : Int32) (a1_c : Int32) (a1_d : Int32)  : (Int32 × (Nat → Int32) × (Nat → Int32) → Option (Int32 × (Nat → Int32) × (Nat → Int32))) → (Int32 × (Nat → Int32) × (Nat → Int32)) → Option (Int32 × (Nat → Int32) × (Nat → Int32)) :=
  fun z => unp fun x3 => unp fun o_xs_f o_ys_f => P_Sh_move_2b o_points a1_dx a1_dy a1_a a1_b a1_c a1_d z x3 o_xs_f o_ys_f
def P_Sh_move_2 (o_points : Int32) (a1_dx : Int32) (a1_dy : Int32) (a1_a : Int32) (a1_b : Int32) (a1_c : Int32) (a1_d : Int32)  (x3 : Int32) (o_xs_f : Nat → Int32) (o_ys_f : Nat → Int32) : Option (Int32 × (Nat → Int32) × (Nat → Int32)) :=
  lp (L_Sh_move_2 o_points a1_dx a1_dy a1_a a1_b a1_c a1_d) fuel (x3, o_xs_f, o_ys_f)
theorem e_Sh_move_2 (o_points : Int32) (a1_dx : Int32) (a1_dy : Int32) (a1_a : Int32) (a1_b : Int32) (a1_c : Int32) (a1_d : Int32)  (n : Nat) (x3 : Int32) (o_xs_f : Nat → Int32) (o_ys_f : Nat → Int32) : lp (L_Sh_move_2 o_points a1_dx a1_dy a1_a a1_b a1_c a1_d) (n + 1) (x3, o_xs_f, o_ys_f) = P_Sh_move_2b o_points a1_dx a1_dy a1_a a1_b a1_c a1_d (lp (L_Sh_move_2 o_points a1_dx a1_dy a1_a a1_b a1_c a1_d) n) x3 o_xs_f o_ys_f := rfl
set_option maxHeartbeats 4000000 in
set_option maxRecDepth 100000 in
theorem w_Sh_move_2b (C0 : Cx p s m args meth c A dC dI cy b_Sh_move 5 (some .boolean) "GlyphPage$Shape") (o : Nat) (a1 : Nat) (o_xs : Nat) (o_ys : Nat) (o_on : Nat) (o_lasts : Nat) (o_flags : Nat) (o_readers : Nat) (o_moves : Nat) (o_points : Int32) (o_contours : Int32) (o_parts : Int32) (a1_glyph : Int32) (a1_isLast : Int32) (a1_dx : Int32) (a1_dy : Int32) (a1_a : Int32) (a1_b : Int32) (a1_c : Int32) (a1_d : Int32) (a2 : Int32) (uu : Int32 × (Nat → Int32) × (Nat → Int32))  (z2 : Int32 × (Nat → Int32) × (Nat → Int32) → Option (Int32 × (Nat → Int32) × (Nat → Int32))) (hz2 : ∀ (x3 : Int32) (o_xs_f : Nat → Int32) (o_ys_f : Nat → Int32) (H : Heap) (locs : List Loc) (ls : Array Slot), z2 (x3, o_xs_f, o_ys_f) = some uu → va_P (dC, dI) classes [(o, .inr (2, [.ref o_xs, .ref o_ys, .ref o_on, .ref o_lasts, .int o_points, .int o_contours, .int o_parts, .ref o_flags, .ref o_readers, .ref o_moves])), (o_xs, .inl (cy 0, 256, .inl o_xs_f)), (o_ys, .inl (cy 0, 256, .inl o_ys_f)), (a1, .inr (1, [.int a1_glyph, .int a1_isLast, .int a1_dx, .int a1_dy, .int a1_a, .int a1_b, .int a1_c, .int a1_d]))] H → va_D A [(o, .inr (2, [.ref o_xs, .ref o_ys, .ref o_on, .ref o_lasts, .int o_points, .int o_contours, .int o_parts, .ref o_flags, .ref o_readers, .ref o_moves])), (o_xs, .inl (cy 0, 256, .inl o_xs_f)), (o_ys, .inl (cy 0, 256, .inl o_ys_f)), (a1, .inr (1, [.int a1_glyph, .int a1_isLast, .int a1_dx, .int a1_dy, .int a1_a, .int a1_b, .int a1_c, .int a1_d]))] → va_S A s.heap H locs → lv_has ls 5 [(0, .ref o), (1, .ref a1), (3, .int x3)] → W p l e ({ frames := 1, cells := 0, slots := 0, locals := 22 } : Room) s m args below meth c H locs 0 0 (MQ below (va_Qi (fun r (_ : Unit) => r = uu.1) (fun _ t => va_P (dC, dI) classes [(o, .inr (2, [.ref o_xs, .ref o_ys, .ref o_on, .ref o_lasts, .int o_points, .int o_contours, .int o_parts, .ref o_flags, .ref o_readers, .ref o_moves])), (o_xs, .inl (cy 0, 256, .inl uu.2.1)), (o_ys, .inl (cy 0, 256, .inl uu.2.2)), (a1, .inr (1, [.int a1_glyph, .int a1_isLast, .int a1_dx, .int a1_dy, .int a1_a, .int a1_b, .int a1_c, .int a1_d]))] t.heap ∧ va_K (dC, dI) classes (TY cy) t ∧ va_D A [(o, .inr (2, [.ref o_xs, .ref o_ys, .ref o_on, .ref o_lasts, .int o_points, .int o_contours, .int o_parts, .ref o_flags, .ref o_readers, .ref o_moves])), (o_xs, .inl (cy 0, 256, .inl uu.2.1)), (o_ys, .inl (cy 0, 256, .inl uu.2.2)), (a1, .inr (1, [.int a1_glyph, .int a1_isLast, .int a1_dx, .int a1_dy, .int a1_a, .int a1_b, .int a1_c, .int a1_d]))]) A) args s 0 0 A) (F0 m 2 ls [])) (x3 : Int32) (o_xs_f : Nat → Int32) (o_ys_f : Nat → Int32) {H : Heap} {locs : List Loc} {ls : Array Slot} (h : P_Sh_move_2b o_points a1_dx a1_dy a1_a a1_b a1_c a1_d z2 x3 o_xs_f o_ys_f = some uu) : va_P (dC, dI) classes [(o, .inr (2, [.ref o_xs, .ref o_ys, .ref o_on, .ref o_lasts, .int o_points, .int o_contours, .int o_parts, .ref o_flags, .ref o_readers, .ref o_moves])), (o_xs, .inl (cy 0, 256, .inl o_xs_f)), (o_ys, .inl (cy 0, 256, .inl o_ys_f)), (a1, .inr (1, [.int a1_glyph, .int a1_isLast, .int a1_dx, .int a1_dy, .int a1_a, .int a1_b, .int a1_c, .int a1_d]))] H → va_D A [(o, .inr (2, [.ref o_xs, .ref o_ys, .ref o_on, .ref o_lasts, .int o_points, .int o_contours, .int o_parts, .ref o_flags, .ref o_readers, .ref o_moves])), (o_xs, .inl (cy 0, 256, .inl o_xs_f)), (o_ys, .inl (cy 0, 256, .inl o_ys_f)), (a1, .inr (1, [.int a1_glyph, .int a1_isLast, .int a1_dx, .int a1_dy, .int a1_a, .int a1_b, .int a1_c, .int a1_d]))] → va_S A s.heap H locs → lv_has ls 5 [(0, .ref o), (1, .ref a1), (3, .int x3)] → W p l e ({ frames := 1, cells := 0, slots := 0, locals := 22 } : Room) s m args below meth c H locs 0 0 (MQ below (va_Qi (fun r (_ : Unit) => r = uu.1) (fun _ t => va_P (dC, dI) classes [(o, .inr (2, [.ref o_xs, .ref o_ys, .ref o_on, .ref o_lasts, .int o_points, .int o_contours, .int o_parts, .ref o_flags, .ref o_readers, .ref o_moves])), (o_xs, .inl (cy 0, 256, .inl uu.2.1)), (o_ys, .inl (cy 0, 256, .inl uu.2.2)), (a1, .inr (1, [.int a1_glyph, .int a1_isLast, .int a1_dx, .int a1_dy, .int a1_a, .int a1_b, .int a1_c, .int a1_d]))] t.heap ∧ va_K (dC, dI) classes (TY cy) t ∧ va_D A [(o, .inr (2, [.ref o_xs, .ref o_ys, .ref o_on, .ref o_lasts, .int o_points, .int o_contours, .int o_parts, .ref o_flags, .ref o_readers, .ref o_moves])), (o_xs, .inl (cy 0, 256, .inl uu.2.1)), (o_ys, .inl (cy 0, 256, .inl uu.2.2)), (a1, .inr (1, [.int a1_glyph, .int a1_isLast, .int a1_dx, .int a1_dy, .int a1_a, .int a1_b, .int a1_c, .int a1_d]))]) A) args s 0 0 A) (F0 m 2 ls []) := by
  intro hP hD hS hl
  obtain ⟨hx, hb, hr, hlocks, hml, hown, htsG, hA, hK⟩ := id C0
  unfold P_Sh_move_2b at h
  refine lv_iload_n hx hb d_Sh_move_2 rfl (lv_at hl 2 rfl) ?_
  refine lv_aload_n hx hb d_Sh_move_3 rfl (lv_at hl 0 rfl) ?_
  refine va_get (D := (dC, dI)) (ci := 2) (v := .int o_points) (C := "GlyphPage$Shape") (T := F_Sh) (N := 10) hx hb htsG iG_Sh hown hK hP 0 rfl rfl 4 (by decide) (htsG _ mW95) (fun _ h9 => h9) rfl d_Sh_move_4 ?_
  refine lv_icmp_ge (tgt := 90) hx hb d_Sh_move_7 (by decide) (fun c_1 => ?_) (fun c_1 => ?_)
  · replace h := (if_pos c_1).symm.trans h
    refine lv_iconst (v := (1 : Int32)) hx hb d_Sh_move_90 (by decide) ?_
    cases h
    exact W.zret (ty := .boolean) hx hb hr rfl (fun t ht hW => ⟨⟨_, (), rfl, rfl, by rw [ht]; exact hP, va_K.moved hW.alike hK, hD⟩, hS.F ht⟩) hS.2.2 d_Sh_move_91 hlocks
  · replace h := (if_neg c_1).symm.trans h
    refine lv_aload_n hx hb d_Sh_move_10 rfl (lv_at hl 1 rfl) ?_
    refine lv_aload_n hx hb d_Sh_move_11 rfl (lv_at hl 0 rfl) ?_
    refine va_get (D := (dC, dI)) (ci := 2) (v := .ref o_xs) (C := "GlyphPage$Shape") (T := F_Sh) (N := 10) hx hb htsG iG_Sh hown hK hP 0 rfl rfl 0 (by decide) (htsG _ mW84) (fun _ h9 => h9) rfl d_Sh_move_12 ?_
    refine lv_iload_n hx hb d_Sh_move_15 rfl (lv_at hl 2 rfl) ?_
    obtain ⟨hin_2, h⟩ := bd_some h
    refine va_iald hx hb hK hP 1 0 rfl rfl hin_2 d_Sh_move_16 ?_
    refine lv_aload_n hx hb d_Sh_move_17 rfl (lv_at hl 0 rfl) ?_
    refine va_get (D := (dC, dI)) (ci := 2) (v := .ref o_ys) (C := "GlyphPage$Shape") (T := F_Sh) (N := 10) hx hb htsG iG_Sh hown hK hP 0 rfl rfl 1 (by decide) (htsG _ mW87) (fun _ h9 => h9) rfl d_Sh_move_18 ?_
    refine lv_iload_n hx hb d_Sh_move_21 rfl (lv_at hl 2 rfl) ?_
    obtain ⟨hin_3, h⟩ := bd_some h
    refine va_iald hx hb hK hP 2 0 rfl rfl hin_3 d_Sh_move_22 ?_
    obtain ⟨r_4, hq, h⟩ := Option.bind_eq_some_iff.mp h
    try dsimp only at h
    have hPc := hP.sub (ws' := [(a1, .inr (1, [.int a1_glyph, .int a1_isLast, .int a1_dx, .int a1_dy, .int a1_a, .int a1_b, .int a1_c, .int a1_d]))]) [3] rfl
    have hDc := hD.sub (ws' := [(a1, .inr (1, [.int a1_glyph, .int a1_isLast, .int a1_dx, .int a1_dy, .int a1_a, .int a1_b, .int a1_c, .int a1_d]))]) [3] (by decide) rfl
    have hFc := va_free (wc := [(a1, .inr (1, [.int a1_glyph, .int a1_isLast, .int a1_dx, .int a1_dy, .int a1_a, .int a1_b, .int a1_c, .int a1_d]))]) hD hS hA [3] rfl
    refine va_calli (va_runV (As := [.int (o_xs_f x3.toNatClampNeg), .int (o_ys_f x3.toNatClampNeg)]) (rest := []) ⟨hx, hb, hml, hown, htsG⟩ (c_Pt_movedX l dC dI cy H.size a1 a1_glyph a1_isLast a1_dx a1_dy a1_a a1_b a1_c a1_d (o_xs_f x3.toNatClampNeg) (o_ys_f x3.toNatClampNeg) r_4 hq) (cwV 2 htsG (gV mW482 mW483 mW484 mW4 mW485) rfl rfl rfl (by decide +kernel) ⟨Nat.le_of_ble_eq_true rfl, Nat.le_of_ble_eq_true rfl⟩) ⟨fun a U g mk q => by obtain ⟨q0, q1, qP, qK, qD⟩ := q; exact ⟨q0, q1, qP, va_K.moved (u := U) (U := U.calling g mk a) (Vm.Alike.refl U.vm) qK, qD⟩, va_recv hK hPc (ci := 1) (q0 := 0) rfl rfl, fun U hU hW => ⟨rfl, by rw [hU], by rw [hU]; exact hPc, va_K.moved hW.alike hK, hDc.weaken (fun _ _ _ _ => trivial)⟩⟩ rfl rfl hl.1 rfl (lv_room (Nat.le_of_ble_eq_true rfl)) d_Sh_move_23 ⟨Nat.le_of_ble_eq_true rfl, Nat.le_of_ble_eq_true rfl⟩) hS (fun q _ h => hFc q h) hFc (fun rr u t H1 locs ht hvm hw hB hz1 hk1 hS => ?_)
    obtain ⟨hP1, hK1, hD1⟩ := hB
    rw [ht] at hP1
    replace hw : r_4 = rr := hw.symm
    subst hw
    obtain ⟨hP, hD⟩ := va_join (wr := [(o, .inr (2, [.ref o_xs, .ref o_ys, .ref o_on, .ref o_lasts, .int o_points, .int o_contours, .int o_parts, .ref o_flags, .ref o_readers, .ref o_moves])), (o_xs, .inl (cy 0, 256, .inl o_xs_f)), (o_ys, .inl (cy 0, 256, .inl o_ys_f))]) (w1 := [(a1, .inr (1, [.int a1_glyph, .int a1_isLast, .int a1_dx, .int a1_dy, .int a1_a, .int a1_b, .int a1_c, .int a1_d]))]) hP hD [3] [0, 1, 2] rfl rfl (by decide) (by decide) hk1 hFc hP1 hD1
    generalize H1 = H at hP hS ⊢
    have hP := hP.sub (ws' := [(o, .inr (2, [.ref o_xs, .ref o_ys, .ref o_on, .ref o_lasts, .int o_points, .int o_contours, .int o_parts, .ref o_flags, .ref o_readers, .ref o_moves])), (o_xs, .inl (cy 0, 256, .inl o_xs_f)), (o_ys, .inl (cy 0, 256, .inl o_ys_f)), (a1, .inr (1, [.int a1_glyph, .int a1_isLast, .int a1_dx, .int a1_dy, .int a1_a, .int a1_b, .int a1_c, .int a1_d]))]) [0, 1, 2, 3] rfl
    have hD := hD.sub (ws' := [(o, .inr (2, [.ref o_xs, .ref o_ys, .ref o_on, .ref o_lasts, .int o_points, .int o_contours, .int o_parts, .ref o_flags, .ref o_readers, .ref o_moves])), (o_xs, .inl (cy 0, 256, .inl o_xs_f)), (o_ys, .inl (cy 0, 256, .inl o_ys_f)), (a1, .inr (1, [.int a1_glyph, .int a1_isLast, .int a1_dx, .int a1_dy, .int a1_a, .int a1_b, .int a1_c, .int a1_d]))]) [0, 1, 2, 3] (by decide) rfl
    refine W.widen (k := 0) (n := 0) (by decide) (by decide) ?_
    refine lv_istore (lv' := [(4, .int r_4), (0, .ref o), (1, .ref a1), (3, .int x3)]) hx hb d_Sh_move_26 hl (by decide) rfl (fun ls hl => ?_)
    refine lv_aload_n hx hb d_Sh_move_28 rfl (lv_at hl 1 rfl) ?_
    refine va_get (D := (dC, dI)) (ci := 2) (v := .ref o_ys) (C := "GlyphPage$Shape") (T := F_Sh) (N := 10) hx hb htsG iG_Sh hown hK hP 0 rfl rfl 1 (by decide) (htsG _ mW87) (fun _ h9 => h9) rfl d_Sh_move_29 ?_
    refine lv_iload_n hx hb d_Sh_move_32 rfl (lv_at hl 3 rfl) ?_
    refine lv_aload_n hx hb d_Sh_move_33 rfl (lv_at hl 2 rfl) ?_
    refine lv_aload_n hx hb d_Sh_move_34 rfl (lv_at hl 1 rfl) ?_
    refine va_get (D := (dC, dI)) (ci := 2) (v := .ref o_xs) (C := "GlyphPage$Shape") (T := F_Sh) (N := 10) hx hb htsG iG_Sh hown hK hP 0 rfl rfl 0 (by decide) (htsG _ mW84) (fun _ h9 => h9) rfl d_Sh_move_35 ?_
    refine lv_iload_n hx hb d_Sh_move_38 rfl (lv_at hl 3 rfl) ?_
    obtain ⟨hin_5, h⟩ := bd_some h
    refine va_iald hx hb hK hP 1 0 rfl rfl hin_5 d_Sh_move_39 ?_
    refine lv_aload_n hx hb d_Sh_move_40 rfl (lv_at hl 1 rfl) ?_
    refine va_get (D := (dC, dI)) (ci := 2) (v := .ref o_ys) (C := "GlyphPage$Shape") (T := F_Sh) (N := 10) hx hb htsG iG_Sh hown hK hP 0 rfl rfl 1 (by decide) (htsG _ mW87) (fun _ h9 => h9) rfl d_Sh_move_41 ?_
    refine lv_iload_n hx hb d_Sh_move_44 rfl (lv_at hl 3 rfl) ?_
    obtain ⟨hin_6, h⟩ := bd_some h
    refine va_iald hx hb hK hP 2 0 rfl rfl hin_6 d_Sh_move_45 ?_
    obtain ⟨r_7, hq, h⟩ := Option.bind_eq_some_iff.mp h
    try dsimp only at h
    have hPc := hP.sub (ws' := [(a1, .inr (1, [.int a1_glyph, .int a1_isLast, .int a1_dx, .int a1_dy, .int a1_a, .int a1_b, .int a1_c, .int a1_d]))]) [3] rfl
    have hDc := hD.sub (ws' := [(a1, .inr (1, [.int a1_glyph, .int a1_isLast, .int a1_dx, .int a1_dy, .int a1_a, .int a1_b, .int a1_c, .int a1_d]))]) [3] (by decide) rfl
    have hFc := va_free (wc := [(a1, .inr (1, [.int a1_glyph, .int a1_isLast, .int a1_dx, .int a1_dy, .int a1_a, .int a1_b, .int a1_c, .int a1_d]))]) hD hS hA [3] rfl
    refine va_calli (va_runV (As := [.int (o_xs_f x3.toNatClampNeg), .int (o_ys_f x3.toNatClampNeg)]) (rest := [.int x3, .ref o_ys]) ⟨hx, hb, hml, hown, htsG⟩ (c_Pt_movedY l dC dI cy H.size a1 a1_glyph a1_isLast a1_dx a1_dy a1_a a1_b a1_c a1_d (o_xs_f x3.toNatClampNeg) (o_ys_f x3.toNatClampNeg) r_7 hq) (cwV 2 htsG (gV mW487 mW488 mW489 mW4 mW490) rfl rfl rfl (by decide +kernel) ⟨Nat.le_of_ble_eq_true rfl, Nat.le_of_ble_eq_true rfl⟩) ⟨fun a U g mk q => by obtain ⟨q0, q1, qP, qK, qD⟩ := q; exact ⟨q0, q1, qP, va_K.moved (u := U) (U := U.calling g mk a) (Vm.Alike.refl U.vm) qK, qD⟩, va_recv hK hPc (ci := 1) (q0 := 0) rfl rfl, fun U hU hW => ⟨rfl, by rw [hU], by rw [hU]; exact hPc, va_K.moved hW.alike hK, hDc.weaken (fun _ _ _ _ => trivial)⟩⟩ rfl rfl hl.1 rfl (lv_room (Nat.le_of_ble_eq_true rfl)) d_Sh_move_46 ⟨Nat.le_of_ble_eq_true rfl, Nat.le_of_ble_eq_true rfl⟩) hS (fun q _ h => hFc q h) hFc (fun rr u t H1 locs ht hvm hw hB hz1 hk1 hS => ?_)
    obtain ⟨hP1, hK1, hD1⟩ := hB
    rw [ht] at hP1
    replace hw : r_7 = rr := hw.symm
    subst hw
    obtain ⟨hP, hD⟩ := va_join (wr := [(o, .inr (2, [.ref o_xs, .ref o_ys, .ref o_on, .ref o_lasts, .int o_points, .int o_contours, .int o_parts, .ref o_flags, .ref o_readers, .ref o_moves])), (o_xs, .inl (cy 0, 256, .inl o_xs_f)), (o_ys, .inl (cy 0, 256, .inl o_ys_f))]) (w1 := [(a1, .inr (1, [.int a1_glyph, .int a1_isLast, .int a1_dx, .int a1_dy, .int a1_a, .int a1_b, .int a1_c, .int a1_d]))]) hP hD [3] [0, 1, 2] rfl rfl (by decide) (by decide) hk1 hFc hP1 hD1
    generalize H1 = H at hP hS ⊢
    have hP := hP.sub (ws' := [(o, .inr (2, [.ref o_xs, .ref o_ys, .ref o_on, .ref o_lasts, .int o_points, .int o_contours, .int o_parts, .ref o_flags, .ref o_readers, .ref o_moves])), (o_xs, .inl (cy 0, 256, .inl o_xs_f)), (o_ys, .inl (cy 0, 256, .inl o_ys_f)), (a1, .inr (1, [.int a1_glyph, .int a1_isLast, .int a1_dx, .int a1_dy, .int a1_a, .int a1_b, .int a1_c, .int a1_d]))]) [0, 1, 2, 3] rfl
    have hD := hD.sub (ws' := [(o, .inr (2, [.ref o_xs, .ref o_ys, .ref o_on, .ref o_lasts, .int o_points, .int o_contours, .int o_parts, .ref o_flags, .ref o_readers, .ref o_moves])), (o_xs, .inl (cy 0, 256, .inl o_xs_f)), (o_ys, .inl (cy 0, 256, .inl o_ys_f)), (a1, .inr (1, [.int a1_glyph, .int a1_isLast, .int a1_dx, .int a1_dy, .int a1_a, .int a1_b, .int a1_c, .int a1_d]))]) [0, 1, 2, 3] (by decide) rfl
    refine W.widen (k := 0) (n := 0) (by decide) (by decide) ?_
    obtain ⟨hin_8, h⟩ := bd_some h
    refine va_iast hx hb hK hP hD hS 2 0 rfl rfl hin_8 d_Sh_move_49 (fun H locs hP hD hS => ?_)
    have hP : va_P (dC, dI) classes [(o, .inr (2, [.ref o_xs, .ref o_ys, .ref o_on, .ref o_lasts, .int o_points, .int o_contours, .int o_parts, .ref o_flags, .ref o_readers, .ref o_moves])), (o_xs, .inl (cy 0, 256, .inl o_xs_f)), (o_ys, .inl (cy 0, 256, .inl (upd o_ys_f x3.toNatClampNeg r_7))), (a1, .inr (1, [.int a1_glyph, .int a1_isLast, .int a1_dx, .int a1_dy, .int a1_a, .int a1_b, .int a1_c, .int a1_d]))] H := hP
    have hD : va_D A [(o, .inr (2, [.ref o_xs, .ref o_ys, .ref o_on, .ref o_lasts, .int o_points, .int o_contours, .int o_parts, .ref o_flags, .ref o_readers, .ref o_moves])), (o_xs, .inl (cy 0, 256, .inl o_xs_f)), (o_ys, .inl (cy 0, 256, .inl (upd o_ys_f x3.toNatClampNeg r_7))), (a1, .inr (1, [.int a1_glyph, .int a1_isLast, .int a1_dx, .int a1_dy, .int a1_a, .int a1_b, .int a1_c, .int a1_d]))] := hD
    refine lv_aload_n hx hb d_Sh_move_50 rfl (lv_at hl 1 rfl) ?_
    refine va_get (D := (dC, dI)) (ci := 2) (v := .ref o_xs) (C := "GlyphPage$Shape") (T := F_Sh) (N := 10) hx hb htsG iG_Sh hown hK hP 0 rfl rfl 0 (by decide) (htsG _ mW84) (fun _ h9 => h9) rfl d_Sh_move_51 ?_
    refine lv_iload_n hx hb d_Sh_move_54 rfl (lv_at hl 3 rfl) ?_
    refine lv_iload hx hb d_Sh_move_55 (lv_at hl 0 rfl) ?_
    obtain ⟨hin_9, h⟩ := bd_some h
    refine va_iast hx hb hK hP hD hS 1 0 rfl rfl hin_9 d_Sh_move_57 (fun H locs hP hD hS => ?_)
    have hP : va_P (dC, dI) classes [(o, .inr (2, [.ref o_xs, .ref o_ys, .ref o_on, .ref o_lasts, .int o_points, .int o_contours, .int o_parts, .ref o_flags, .ref o_readers, .ref o_moves])), (o_xs, .inl (cy 0, 256, .inl (upd o_xs_f x3.toNatClampNeg r_4))), (o_ys, .inl (cy 0, 256, .inl (upd o_ys_f x3.toNatClampNeg r_7))), (a1, .inr (1, [.int a1_glyph, .int a1_isLast, .int a1_dx, .int a1_dy, .int a1_a, .int a1_b, .int a1_c, .int a1_d]))] H := hP
    have hD : va_D A [(o, .inr (2, [.ref o_xs, .ref o_ys, .ref o_on, .ref o_lasts, .int o_points, .int o_contours, .int o_parts, .ref o_flags, .ref o_readers, .ref o_moves])), (o_xs, .inl (cy 0, 256, .inl (upd o_xs_f x3.toNatClampNeg r_4))), (o_ys, .inl (cy 0, 256, .inl (upd o_ys_f x3.toNatClampNeg r_7))), (a1, .inr (1, [.int a1_glyph, .int a1_isLast, .int a1_dx, .int a1_dy, .int a1_a, .int a1_b, .int a1_c, .int a1_d]))] := hD
    refine lv_aload_n hx hb d_Sh_move_58 rfl (lv_at hl 1 rfl) ?_
    refine va_get (D := (dC, dI)) (ci := 2) (v := .ref o_xs) (C := "GlyphPage$Shape") (T := F_Sh) (N := 10) hx hb htsG iG_Sh hown hK hP 0 rfl rfl 0 (by decide) (htsG _ mW84) (fun _ h9 => h9) rfl d_Sh_move_59 ?_
    refine lv_iload_n hx hb d_Sh_move_62 rfl (lv_at hl 3 rfl) ?_
    obtain ⟨hin_10, h⟩ := bd_some h
    refine va_iald hx hb hK hP 1 0 rfl rfl hin_10 d_Sh_move_63 ?_
    obtain ⟨r_11, hq, h⟩ := Option.bind_eq_some_iff.mp h
    try dsimp only at h
    have hPc := hP.sub (ws' := []) [] rfl
    have hDc := hD.sub (ws' := []) [] (by decide) rfl
    have hFc := va_free (wc := []) hD hS hA [] rfl
    refine va_calli (va_runS (As := [.int ((upd o_xs_f x3.toNatClampNeg r_4) x3.toNatClampNeg)]) (rest := []) ⟨hx, hb, hml, hown, htsG⟩ (c_Sh_isCoordinate l dC dI cy H.size ((upd o_xs_f x3.toNatClampNeg r_4) x3.toNatClampNeg) r_11 hq) (va_cwS 1 htsG (gS mW491 mW492 mW2 mW493) rfl rfl rfl (by decide +kernel) ⟨Nat.le_of_ble_eq_true rfl, Nat.le_of_ble_eq_true rfl⟩) ⟨fun a U g mk q => by obtain ⟨q0, q1, qP, qK, qD⟩ := q; exact ⟨q0, q1, qP, va_K.moved (u := U) (U := U.calling g mk a) (Vm.Alike.refl U.vm) qK, qD⟩, fun U hU hW => ⟨rfl, by rw [hU], by rw [hU]; exact hPc, va_K.moved hW.alike hK, hDc.weaken (fun _ _ _ _ => trivial)⟩⟩ rfl rfl hl.1 rfl (lv_room (Nat.le_of_ble_eq_true rfl)) d_Sh_move_64 ⟨Nat.le_of_ble_eq_true rfl, Nat.le_of_ble_eq_true rfl⟩) hS (fun q _ h => hFc q h) hFc (fun rr u t H1 locs ht hvm hw hB hz1 hk1 hS => ?_)
    obtain ⟨hP1, hK1, hD1⟩ := hB
    rw [ht] at hP1
    replace hw : r_11 = rr := hw.symm
    subst hw
    obtain ⟨hP, hD⟩ := va_join (wr := [(o, .inr (2, [.ref o_xs, .ref o_ys, .ref o_on, .ref o_lasts, .int o_points, .int o_contours, .int o_parts, .ref o_flags, .ref o_readers, .ref o_moves])), (o_xs, .inl (cy 0, 256, .inl (upd o_xs_f x3.toNatClampNeg r_4))), (o_ys, .inl (cy 0, 256, .inl (upd o_ys_f x3.toNatClampNeg r_7))), (a1, .inr (1, [.int a1_glyph, .int a1_isLast, .int a1_dx, .int a1_dy, .int a1_a, .int a1_b, .int a1_c, .int a1_d]))]) (w1 := []) hP hD [] [0, 1, 2, 3] rfl rfl (by decide) (by decide) hk1 hFc hP1 hD1
    generalize H1 = H at hP hS ⊢
    have hP := hP.sub (ws' := [(o, .inr (2, [.ref o_xs, .ref o_ys, .ref o_on, .ref o_lasts, .int o_points, .int o_contours, .int o_parts, .ref o_flags, .ref o_readers, .ref o_moves])), (o_xs, .inl (cy 0, 256, .inl (upd o_xs_f x3.toNatClampNeg r_4))), (o_ys, .inl (cy 0, 256, .inl (upd o_ys_f x3.toNatClampNeg r_7))), (a1, .inr (1, [.int a1_glyph, .int a1_isLast, .int a1_dx, .int a1_dy, .int a1_a, .int a1_b, .int a1_c, .int a1_d]))]) [0, 1, 2, 3] rfl
    have hD := hD.sub (ws' := [(o, .inr (2, [.ref o_xs, .ref o_ys, .ref o_on, .ref o_lasts, .int o_points, .int o_contours, .int o_parts, .ref o_flags, .ref o_readers, .ref o_moves])), (o_xs, .inl (cy 0, 256, .inl (upd o_xs_f x3.toNatClampNeg r_4))), (o_ys, .inl (cy 0, 256, .inl (upd o_ys_f x3.toNatClampNeg r_7))), (a1, .inr (1, [.int a1_glyph, .int a1_isLast, .int a1_dx, .int a1_dy, .int a1_a, .int a1_b, .int a1_c, .int a1_d]))]) [0, 1, 2, 3] (by decide) rfl
    refine W.widen (k := 0) (n := 0) (by decide) (by decide) ?_
    refine lv_if_eq (tgt := 82) hx hb d_Sh_move_67 (by decide) (fun c_12 => ?_) (fun c_12 => ?_)
    · replace h := (if_pos c_12).symm.trans h
      refine lv_iconst (v := (0 : Int32)) hx hb d_Sh_move_82 (by decide) ?_
      cases h
      exact W.zret (ty := .boolean) hx hb hr rfl (fun t ht hW => ⟨⟨_, (), rfl, rfl, by rw [ht]; exact hP, va_K.moved hW.alike hK, hD⟩, hS.F ht⟩) hS.2.2 d_Sh_move_83 hlocks
    · replace h := (if_neg c_12).symm.trans h
      refine lv_aload_n hx hb d_Sh_move_70 rfl (lv_at hl 1 rfl) ?_
      refine va_get (D := (dC, dI)) (ci := 2) (v := .ref o_ys) (C := "GlyphPage$Shape") (T := F_Sh) (N := 10) hx hb htsG iG_Sh hown hK hP 0 rfl rfl 1 (by decide) (htsG _ mW87) (fun _ h9 => h9) rfl d_Sh_move_71 ?_
      refine lv_iload_n hx hb d_Sh_move_74 rfl (lv_at hl 3 rfl) ?_
      obtain ⟨hin_13, h⟩ := bd_some h
      refine va_iald hx hb hK hP 2 0 rfl rfl hin_13 d_Sh_move_75 ?_
      obtain ⟨r_14, hq, h⟩ := Option.bind_eq_some_iff.mp h
      try dsimp only at h
      have hPc := hP.sub (ws' := []) [] rfl
      have hDc := hD.sub (ws' := []) [] (by decide) rfl
      have hFc := va_free (wc := []) hD hS hA [] rfl
      refine va_calli (va_runS (As := [.int ((upd o_ys_f x3.toNatClampNeg r_7) x3.toNatClampNeg)]) (rest := []) ⟨hx, hb, hml, hown, htsG⟩ (c_Sh_isCoordinate l dC dI cy H.size ((upd o_ys_f x3.toNatClampNeg r_7) x3.toNatClampNeg) r_14 hq) (va_cwS 1 htsG (gS mW491 mW492 mW2 mW493) rfl rfl rfl (by decide +kernel) ⟨Nat.le_of_ble_eq_true rfl, Nat.le_of_ble_eq_true rfl⟩) ⟨fun a U g mk q => by obtain ⟨q0, q1, qP, qK, qD⟩ := q; exact ⟨q0, q1, qP, va_K.moved (u := U) (U := U.calling g mk a) (Vm.Alike.refl U.vm) qK, qD⟩, fun U hU hW => ⟨rfl, by rw [hU], by rw [hU]; exact hPc, va_K.moved hW.alike hK, hDc.weaken (fun _ _ _ _ => trivial)⟩⟩ rfl rfl hl.1 rfl (lv_room (Nat.le_of_ble_eq_true rfl)) d_Sh_move_76 ⟨Nat.le_of_ble_eq_true rfl, Nat.le_of_ble_eq_true rfl⟩) hS (fun q _ h => hFc q h) hFc (fun rr u t H1 locs ht hvm hw hB hz1 hk1 hS => ?_)
      obtain ⟨hP1, hK1, hD1⟩ := hB
      rw [ht] at hP1
      replace hw : r_14 = rr := hw.symm
      subst hw
      obtain ⟨hP, hD⟩ := va_join (wr := [(o, .inr (2, [.ref o_xs, .ref o_ys, .ref o_on, .ref o_lasts, .int o_points, .int o_contours, .int o_parts, .ref o_flags, .ref o_readers, .ref o_moves])), (o_xs, .inl (cy 0, 256, .inl (upd o_xs_f x3.toNatClampNeg r_4))), (o_ys, .inl (cy 0, 256, .inl (upd o_ys_f x3.toNatClampNeg r_7))), (a1, .inr (1, [.int a1_glyph, .int a1_isLast, .int a1_dx, .int a1_dy, .int a1_a, .int a1_b, .int a1_c, .int a1_d]))]) (w1 := []) hP hD [] [0, 1, 2, 3] rfl rfl (by decide) (by decide) hk1 hFc hP1 hD1
      generalize H1 = H at hP hS ⊢
      have hP := hP.sub (ws' := [(o, .inr (2, [.ref o_xs, .ref o_ys, .ref o_on, .ref o_lasts, .int o_points, .int o_contours, .int o_parts, .ref o_flags, .ref o_readers, .ref o_moves])), (o_xs, .inl (cy 0, 256, .inl (upd o_xs_f x3.toNatClampNeg r_4))), (o_ys, .inl (cy 0, 256, .inl (upd o_ys_f x3.toNatClampNeg r_7))), (a1, .inr (1, [.int a1_glyph, .int a1_isLast, .int a1_dx, .int a1_dy, .int a1_a, .int a1_b, .int a1_c, .int a1_d]))]) [0, 1, 2, 3] rfl
      have hD := hD.sub (ws' := [(o, .inr (2, [.ref o_xs, .ref o_ys, .ref o_on, .ref o_lasts, .int o_points, .int o_contours, .int o_parts, .ref o_flags, .ref o_readers, .ref o_moves])), (o_xs, .inl (cy 0, 256, .inl (upd o_xs_f x3.toNatClampNeg r_4))), (o_ys, .inl (cy 0, 256, .inl (upd o_ys_f x3.toNatClampNeg r_7))), (a1, .inr (1, [.int a1_glyph, .int a1_isLast, .int a1_dx, .int a1_dy, .int a1_a, .int a1_b, .int a1_c, .int a1_d]))]) [0, 1, 2, 3] (by decide) rfl
      refine W.widen (k := 0) (n := 0) (by decide) (by decide) ?_
      refine lv_if_ne (tgt := 84) hx hb d_Sh_move_79 (by decide) (fun c_15 => ?_) (fun c_15 => ?_)
      · replace h := (if_neg c_15).symm.trans h
        refine lv_iinc (v := (x3 + (1 : Int32))) (lv' := [(3, .int (x3 + (1 : Int32))), (4, .int r_4), (0, .ref o), (1, .ref a1)]) hx hb d_Sh_move_84 hl (k := 3) rfl rfl (by decide) rfl (fun ls hl => ?_)
        refine lv_goto (tgt := 2) hx hb d_Sh_move_87 (by decide) ?_
        exact hz2 (x3 + (1 : Int32)) (upd o_xs_f x3.toNatClampNeg r_4) (upd o_ys_f x3.toNatClampNeg r_7) _ _ _ h hP hD hS (lv_sub hl [2, 3, 0] rfl)
      · replace h := (if_pos c_15).symm.trans h
        refine lv_iconst (v := (0 : Int32)) hx hb d_Sh_move_82 (by decide) ?_
        cases h
        exact W.zret (ty := .boolean) hx hb hr rfl (fun t ht hW => ⟨⟨_, (), rfl, rfl, by rw [ht]; exact hP, va_K.moved hW.alike hK, hD⟩, hS.F ht⟩) hS.2.2 d_Sh_move_83 hlocks
theorem w_Sh_move_2 (C0 : Cx p s m args meth c A dC dI cy b_Sh_move 5 (some .boolean) "GlyphPage$Shape") (o : Nat) (a1 : Nat) (o_xs : Nat) (o_ys : Nat) (o_on : Nat) (o_lasts : Nat) (o_flags : Nat) (o_readers : Nat) (o_moves : Nat) (o_points : Int32) (o_contours : Int32) (o_parts : Int32) (a1_glyph : Int32) (a1_isLast : Int32) (a1_dx : Int32) (a1_dy : Int32) (a1_a : Int32) (a1_b : Int32) (a1_c : Int32) (a1_d : Int32) (a2 : Int32) (uu : Int32 × (Nat → Int32) × (Nat → Int32))  (x3 : Int32) (o_xs_f : Nat → Int32) (o_ys_f : Nat → Int32) {H : Heap} {locs : List Loc} {ls : Array Slot} (h : P_Sh_move_2 o_points a1_dx a1_dy a1_a a1_b a1_c a1_d x3 o_xs_f o_ys_f = some uu) : va_P (dC, dI) classes [(o, .inr (2, [.ref o_xs, .ref o_ys, .ref o_on, .ref o_lasts, .int o_points, .int o_contours, .int o_parts, .ref o_flags, .ref o_readers, .ref o_moves])), (o_xs, .inl (cy 0, 256, .inl o_xs_f)), (o_ys, .inl (cy 0, 256, .inl o_ys_f)), (a1, .inr (1, [.int a1_glyph, .int a1_isLast, .int a1_dx, .int a1_dy, .int a1_a, .int a1_b, .int a1_c, .int a1_d]))] H → va_D A [(o, .inr (2, [.ref o_xs, .ref o_ys, .ref o_on, .ref o_lasts, .int o_points, .int o_contours, .int o_parts, .ref o_flags, .ref o_readers, .ref o_moves])), (o_xs, .inl (cy 0, 256, .inl o_xs_f)), (o_ys, .inl (cy 0, 256, .inl o_ys_f)), (a1, .inr (1, [.int a1_glyph, .int a1_isLast, .int a1_dx, .int a1_dy, .int a1_a, .int a1_b, .int a1_c, .int a1_d]))] → va_S A s.heap H locs → lv_has ls 5 [(0, .ref o), (1, .ref a1), (3, .int x3)] → W p l e ({ frames := 1, cells := 0, slots := 0, locals := 22 } : Room) s m args below meth c H locs 0 0 (MQ below (va_Qi (fun r (_ : Unit) => r = uu.1) (fun _ t => va_P (dC, dI) classes [(o, .inr (2, [.ref o_xs, .ref o_ys, .ref o_on, .ref o_lasts, .int o_points, .int o_contours, .int o_parts, .ref o_flags, .ref o_readers, .ref o_moves])), (o_xs, .inl (cy 0, 256, .inl uu.2.1)), (o_ys, .inl (cy 0, 256, .inl uu.2.2)), (a1, .inr (1, [.int a1_glyph, .int a1_isLast, .int a1_dx, .int a1_dy, .int a1_a, .int a1_b, .int a1_c, .int a1_d]))] t.heap ∧ va_K (dC, dI) classes (TY cy) t ∧ va_D A [(o, .inr (2, [.ref o_xs, .ref o_ys, .ref o_on, .ref o_lasts, .int o_points, .int o_contours, .int o_parts, .ref o_flags, .ref o_readers, .ref o_moves])), (o_xs, .inl (cy 0, 256, .inl uu.2.1)), (o_ys, .inl (cy 0, 256, .inl uu.2.2)), (a1, .inr (1, [.int a1_glyph, .int a1_isLast, .int a1_dx, .int a1_dy, .int a1_a, .int a1_b, .int a1_c, .int a1_d]))]) A) args s 0 0 A) (F0 m 2 ls []) := by
  have key : ∀ (n : Nat) (x3 : Int32) (o_xs_f : Nat → Int32) (o_ys_f : Nat → Int32) (H : Heap) (locs : List Loc) (ls : Array Slot), lp (L_Sh_move_2 o_points a1_dx a1_dy a1_a a1_b a1_c a1_d) n (x3, o_xs_f, o_ys_f) = some uu → va_P (dC, dI) classes [(o, .inr (2, [.ref o_xs, .ref o_ys, .ref o_on, .ref o_lasts, .int o_points, .int o_contours, .int o_parts, .ref o_flags, .ref o_readers, .ref o_moves])), (o_xs, .inl (cy 0, 256, .inl o_xs_f)), (o_ys, .inl (cy 0, 256, .inl o_ys_f)), (a1, .inr (1, [.int a1_glyph, .int a1_isLast, .int a1_dx, .int a1_dy, .int a1_a, .int a1_b, .int a1_c, .int a1_d]))] H → va_D A [(o, .inr (2, [.ref o_xs, .ref o_ys, .ref o_on, .ref o_lasts, .int o_points, .int o_contours, .int o_parts, .ref o_flags, .ref o_readers, .ref o_moves])), (o_xs, .inl (cy 0, 256, .inl o_xs_f)), (o_ys, .inl (cy 0, 256, .inl o_ys_f)), (a1, .inr (1, [.int a1_glyph, .int a1_isLast, .int a1_dx, .int a1_dy, .int a1_a, .int a1_b, .int a1_c, .int a1_d]))] → va_S A s.heap H locs → lv_has ls 5 [(0, .ref o), (1, .ref a1), (3, .int x3)] → W p l e ({ frames := 1, cells := 0, slots := 0, locals := 22 } : Room) s m args below meth c H locs 0 0 (MQ below (va_Qi (fun r (_ : Unit) => r = uu.1) (fun _ t => va_P (dC, dI) classes [(o, .inr (2, [.ref o_xs, .ref o_ys, .ref o_on, .ref o_lasts, .int o_points, .int o_contours, .int o_parts, .ref o_flags, .ref o_readers, .ref o_moves])), (o_xs, .inl (cy 0, 256, .inl uu.2.1)), (o_ys, .inl (cy 0, 256, .inl uu.2.2)), (a1, .inr (1, [.int a1_glyph, .int a1_isLast, .int a1_dx, .int a1_dy, .int a1_a, .int a1_b, .int a1_c, .int a1_d]))] t.heap ∧ va_K (dC, dI) classes (TY cy) t ∧ va_D A [(o, .inr (2, [.ref o_xs, .ref o_ys, .ref o_on, .ref o_lasts, .int o_points, .int o_contours, .int o_parts, .ref o_flags, .ref o_readers, .ref o_moves])), (o_xs, .inl (cy 0, 256, .inl uu.2.1)), (o_ys, .inl (cy 0, 256, .inl uu.2.2)), (a1, .inr (1, [.int a1_glyph, .int a1_isLast, .int a1_dx, .int a1_dy, .int a1_a, .int a1_b, .int a1_c, .int a1_d]))]) A) args s 0 0 A) (F0 m 2 ls []) := by
    intro n
    induction n with
    | zero => intro x3 o_xs_f o_ys_f H locs ls h; cases h
    | succ n ih => intro x3 o_xs_f o_ys_f H locs ls h; exact w_Sh_move_2b C0 o a1 o_xs o_ys o_on o_lasts o_flags o_readers o_moves o_points o_contours o_parts a1_glyph a1_isLast a1_dx a1_dy a1_a a1_b a1_c a1_d a2 uu  (lp (L_Sh_move_2 o_points a1_dx a1_dy a1_a a1_b a1_c a1_d) n) ih x3 o_xs_f o_ys_f ((e_Sh_move_2 o_points a1_dx a1_dy a1_a a1_b a1_c a1_d n x3 o_xs_f o_ys_f).symm.trans h)
  exact key fuel x3 o_xs_f o_ys_f H locs ls h
def P_Sh_move (o_points : Int32) (o_xs_f : Nat → Int32) (o_ys_f : Nat → Int32) (a1_dx : Int32) (a1_dy : Int32) (a1_a : Int32) (a1_b : Int32) (a1_c : Int32) (a1_d : Int32) (a2 : Int32) : Option (Int32 × (Nat → Int32) × (Nat → Int32)) :=
  P_Sh_move_2 o_points a1_dx a1_dy a1_a a1_b a1_c a1_d a2 o_xs_f o_ys_f
set_option maxHeartbeats 4000000 in
set_option maxRecDepth 100000 in
theorem c_Sh_move (l : Launch) (dC : Nat → ClassId) (dI : Nat → Nat → Nat) (cy : Nat → ClassId) (sz : Nat) (o : Nat) (a1 : Nat) (o_xs : Nat) (o_ys : Nat) (o_on : Nat) (o_lasts : Nat) (o_flags : Nat) (o_readers : Nat) (o_moves : Nat) (o_points : Int32) (o_contours : Int32) (o_parts : Int32) (o_xs_f : Nat → Int32) (o_ys_f : Nat → Int32) (a1_glyph : Int32) (a1_isLast : Int32) (a1_dx : Int32) (a1_dy : Int32) (a1_a : Int32) (a1_b : Int32) (a1_c : Int32) (a1_d : Int32) (a2 : Int32) (uu : Int32 × (Nat → Int32) × (Nat → Int32)) (h : P_Sh_move o_points o_xs_f o_ys_f a1_dx a1_dy a1_a a1_b a1_c a1_d a2 = some uu) : Met l y_Sh_move (Cond.code y_Sh_move b_Sh_move 5 (some .boolean) :: G) ({ frames := 1, cells := 0, slots := 0, locals := 22 } : Room) (va_Pc [.ref o, .ref a1, .int a2] (fun U => U.heap.size = sz ∧ va_P (dC, dI) classes [(o, .inr (2, [.ref o_xs, .ref o_ys, .ref o_on, .ref o_lasts, .int o_points, .int o_contours, .int o_parts, .ref o_flags, .ref o_readers, .ref o_moves])), (o_xs, .inl (cy 0, 256, .inl o_xs_f)), (o_ys, .inl (cy 0, 256, .inl o_ys_f)), (a1, .inr (1, [.int a1_glyph, .int a1_isLast, .int a1_dx, .int a1_dy, .int a1_a, .int a1_b, .int a1_c, .int a1_d]))] U.heap ∧ va_K (dC, dI) classes (TY cy) U ∧ va_D (fun _ => True) [(o, .inr (2, [.ref o_xs, .ref o_ys, .ref o_on, .ref o_lasts, .int o_points, .int o_contours, .int o_parts, .ref o_flags, .ref o_readers, .ref o_moves])), (o_xs, .inl (cy 0, 256, .inl o_xs_f)), (o_ys, .inl (cy 0, 256, .inl o_ys_f)), (a1, .inr (1, [.int a1_glyph, .int a1_isLast, .int a1_dx, .int a1_dy, .int a1_a, .int a1_b, .int a1_c, .int a1_d]))])) (va_Qi (fun r (_ : Unit) => r = uu.1) (fun _ t => va_P (dC, dI) classes [(o, .inr (2, [.ref o_xs, .ref o_ys, .ref o_on, .ref o_lasts, .int o_points, .int o_contours, .int o_parts, .ref o_flags, .ref o_readers, .ref o_moves])), (o_xs, .inl (cy 0, 256, .inl uu.2.1)), (o_ys, .inl (cy 0, 256, .inl uu.2.2)), (a1, .inr (1, [.int a1_glyph, .int a1_isLast, .int a1_dx, .int a1_dy, .int a1_a, .int a1_b, .int a1_c, .int a1_d]))] t.heap ∧ va_K (dC, dI) classes (TY cy) t ∧ va_D (va_A [(o, .inr (2, [.ref o_xs, .ref o_ys, .ref o_on, .ref o_lasts, .int o_points, .int o_contours, .int o_parts, .ref o_flags, .ref o_readers, .ref o_moves])), (o_xs, .inl (cy 0, 256, .inl o_xs_f)), (o_ys, .inl (cy 0, 256, .inl o_ys_f)), (a1, .inr (1, [.int a1_glyph, .int a1_isLast, .int a1_dx, .int a1_dy, .int a1_a, .int a1_b, .int a1_c, .int a1_d]))] sz) [(o, .inr (2, [.ref o_xs, .ref o_ys, .ref o_on, .ref o_lasts, .int o_points, .int o_contours, .int o_parts, .ref o_flags, .ref o_readers, .ref o_moves])), (o_xs, .inl (cy 0, 256, .inl uu.2.1)), (o_ys, .inl (cy 0, 256, .inl uu.2.2)), (a1, .inr (1, [.int a1_glyph, .int a1_isLast, .int a1_dx, .int a1_dy, .int a1_a, .int a1_b, .int a1_c, .int a1_d]))]) (va_A [(o, .inr (2, [.ref o_xs, .ref o_ys, .ref o_on, .ref o_lasts, .int o_points, .int o_contours, .int o_parts, .ref o_flags, .ref o_readers, .ref o_moves])), (o_xs, .inl (cy 0, 256, .inl o_xs_f)), (o_ys, .inl (cy 0, 256, .inl o_ys_f)), (a1, .inr (1, [.int a1_glyph, .int a1_isLast, .int a1_dx, .int a1_dy, .int a1_a, .int a1_b, .int a1_c, .int a1_d]))] sz)) 0 0 (va_A [(o, .inr (2, [.ref o_xs, .ref o_ys, .ref o_on, .ref o_lasts, .int o_points, .int o_contours, .int o_parts, .ref o_flags, .ref o_readers, .ref o_moves])), (o_xs, .inl (cy 0, 256, .inl o_xs_f)), (o_ys, .inl (cy 0, 256, .inl o_ys_f)), (a1, .inr (1, [.int a1_glyph, .int a1_isLast, .int a1_dx, .int a1_dy, .int a1_a, .int a1_b, .int a1_c, .int a1_d]))] sz) := by
  refine Met.ofW (cc := b_Sh_move) (maxL := 5) (ret := (some .boolean)) (by decide) rfl ?_
  intro p e s m args below meth c s₁ B hml hv
  obtain ⟨rfl, hsz, hP, hK, hD0⟩ := hv
  have hx := B.exec
  have hb := B.bytes
  have hr := B.returns
  have hts := atoms_spec (ws := Cond.code y_Sh_move b_Sh_move 5 (some .boolean) :: G) B.pre
  have htsG : ∀ w ∈ G, w.before _ s = true := fun w hw => hts w (List.mem_cons_of_mem _ hw)
  have hown : s.vm.findClass "GlyphPage$Shape" = some m.cls := findClass_of_methodNamed B.named
  have hlocks := B.notSynchronized
  subst hsz
  have hD := hD0.self (sz := s.heap.size)
  generalize hAe : va_A [(o, .inr (2, [.ref o_xs, .ref o_ys, .ref o_on, .ref o_lasts, .int o_points, .int o_contours, .int o_parts, .ref o_flags, .ref o_readers, .ref o_moves])), (o_xs, .inl (cy 0, 256, .inl o_xs_f)), (o_ys, .inl (cy 0, 256, .inl o_ys_f)), (a1, .inr (1, [.int a1_glyph, .int a1_isLast, .int a1_dx, .int a1_dy, .int a1_a, .int a1_b, .int a1_c, .int a1_d]))] s.heap.size = A at hD ⊢
  have hA : ∀ q : Nat, s.heap.size ≤ q → A q := fun q h => by rw [← hAe]; exact Or.inr h
  have hS : va_S A s.heap s.heap [] := va_S.rf
  have hl := lv_entry ([.ref o, .ref a1, .int a2]) (n := 5) (Nat.le_of_ble_eq_true rfl)
  rw [lg_entry_eq]
  generalize (lg_sl ([.ref o, .ref a1, .int a2]) ++ List.replicate (5 - (lg_sl ([.ref o, .ref a1, .int a2])).length) Slot.unset).toArray = ls at hl ⊢
  have hl : lv_has ls 5 [(0, .ref o), (1, .ref a1), (2, .int a2)] := hl
  have C0 : Cx p s m _ meth c A dC dI cy b_Sh_move 5 (some .boolean) "GlyphPage$Shape" := ⟨hx, hb, hr, hlocks, hml, hown, htsG, hA, hK⟩
  unfold P_Sh_move at h
  refine lv_iload_n hx hb d_Sh_move_0 rfl (lv_at hl 2 rfl) ?_
  refine lv_istore_n (lv' := [(3, .int a2), (0, .ref o), (1, .ref a1), (2, .int a2)]) hx hb d_Sh_move_1 rfl hl (by decide) rfl (fun ls hl => ?_)
  exact w_Sh_move_2 C0 o a1 o_xs o_ys o_on o_lasts o_flags o_readers o_moves o_points o_contours o_parts a1_glyph a1_isLast a1_dx a1_dy a1_a a1_b a1_c a1_d a2 uu  a2 o_xs_f o_ys_f h hP hD hS (lv_sub hl [1, 2, 0] rfl)
def P_Sh_readFlags_79 (o_points : Int32) (a1_limit : Int32) (a1_bytes_f : Nat → Int32) (z8 : Int32 × Int32 × Int32 × Int32 × (Nat → Int32) × (Nat → Int32) × Int32 × Int32 → Option (Int32 × (Nat → Int32) × (Nat → Int32) × Int32 × Int32)) (x2 : Int32) (x3 : Int32) (x4 : Int32) (x5 : Int32) (k0 : Int32) (k1 : Int32) (o_on_f : Nat → Int32) (o_flags_f : Nat → Int32) (a1_place : Int32) (a1_whole : Int32) : Option (Int32 × (Nat → Int32) × (Nat → Int32) × Int32 × Int32) :=
  bd k1 256 <| z8 (x2, x3, x4, (x5 + (1 : Int32)), (upd o_on_f k1.toNatClampNeg (vp_nar .boolean k0)), o_flags_f, a1_place, a1_whole)
set_option maxHeartbeats 4000000 in
set_option maxRecDepth 100000 in
theorem w_Sh_readFlags_79 (C0 : Cx p s m args meth c A dC dI cy b_Sh_readFlags 6 (some .boolean) "GlyphPage$Shape") (o : Nat) (a1 : Nat) (o_xs : Nat) (o_ys : Nat) (o_on : Nat) (o_lasts : Nat) (o_flags : Nat) (o_readers : Nat) (o_moves : Nat) (a1_bytes : Nat) (o_points : Int32) (o_contours : Int32) (o_parts : Int32) (a1_limit : Int32) (a1_bytes_f : Nat → Int32) (a2 : Int32) (uu : Int32 × (Nat → Int32) × (Nat → Int32) × Int32 × Int32) (z8 : Int32 × Int32 × Int32 × Int32 × (Nat → Int32) × (Nat → Int32) × Int32 × Int32 → Option (Int32 × (Nat → Int32) × (Nat → Int32) × Int32 × Int32)) (hz8 : ∀ (x2 : Int32) (x3 : Int32) (x4 : Int32) (x5 : Int32) (o_on_f : Nat → Int32) (o_flags_f : Nat → Int32) (a1_place : Int32) (a1_whole : Int32) (H : Heap) (locs : List Loc) (ls : Array Slot), z8 (x2, x3, x4, x5, o_on_f, o_flags_f, a1_place, a1_whole) = some uu → va_P (dC, dI) classes [(o, .inr (2, [.ref o_xs, .ref o_ys, .ref o_on, .ref o_lasts, .int o_points, .int o_contours, .int o_parts, .ref o_flags, .ref o_readers, .ref o_moves])), (o_on, .inl (cy 2, 256, .inl o_on_f)), (o_flags, .inl (cy 0, 128, .inl o_flags_f)), (a1, .inr (0, [.ref a1_bytes, .int a1_place, .int a1_limit, .int a1_whole])), (a1_bytes, .inl (cy 1, 4096, .inl a1_bytes_f))] H → va_D A [(o, .inr (2, [.ref o_xs, .ref o_ys, .ref o_on, .ref o_lasts, .int o_points, .int o_contours, .int o_parts, .ref o_flags, .ref o_readers, .ref o_moves])), (o_on, .inl (cy 2, 256, .inl o_on_f)), (o_flags, .inl (cy 0, 128, .inl o_flags_f)), (a1, .inr (0, [.ref a1_bytes, .int a1_place, .int a1_limit, .int a1_whole])), (a1_bytes, .inl (cy 1, 4096, .inl a1_bytes_f))] → va_S A s.heap H locs → lv_has ls 6 [(0, .ref o), (1, .ref a1), (2, .int x2), (3, .int x3), (4, .int x4), (5, .int x5)] → W p l e ({ frames := 1, cells := 0, slots := 0, locals := 20 } : Room) s m args below meth c H locs 0 0 (MQ below (va_Qi (fun r (_ : Unit) => r = uu.1) (fun _ t => va_P (dC, dI) classes [(o, .inr (2, [.ref o_xs, .ref o_ys, .ref o_on, .ref o_lasts, .int o_points, .int o_contours, .int o_parts, .ref o_flags, .ref o_readers, .ref o_moves])), (o_on, .inl (cy 2, 256, .inl uu.2.1)), (o_flags, .inl (cy 0, 128, .inl uu.2.2.1)), (a1, .inr (0, [.ref a1_bytes, .int uu.2.2.2.1, .int a1_limit, .int uu.2.2.2.2])), (a1_bytes, .inl (cy 1, 4096, .inl a1_bytes_f))] t.heap ∧ va_K (dC, dI) classes (TY cy) t ∧ va_D A [(o, .inr (2, [.ref o_xs, .ref o_ys, .ref o_on, .ref o_lasts, .int o_points, .int o_contours, .int o_parts, .ref o_flags, .ref o_readers, .ref o_moves])), (o_on, .inl (cy 2, 256, .inl uu.2.1)), (o_flags, .inl (cy 0, 128, .inl uu.2.2.1)), (a1, .inr (0, [.ref a1_bytes, .int uu.2.2.2.1, .int a1_limit, .int uu.2.2.2.2])), (a1_bytes, .inl (cy 1, 4096, .inl a1_bytes_f))]) A) args s 0 0 A) (F0 m 8 ls [])) (x2 : Int32) (x3 : Int32) (x4 : Int32) (x5 : Int32) (k0 : Int32) (k1 : Int32) (o_on_f : Nat → Int32) (o_flags_f : Nat → Int32) (a1_place : Int32) (a1_whole : Int32) {H : Heap} {locs : List Loc} {ls : Array Slot} (h : P_Sh_readFlags_79 o_points a1_limit a1_bytes_f z8 x2 x3 x4 x5 k0 k1 o_on_f o_flags_f a1_place a1_whole = some uu) : va_P (dC, dI) classes [(o, .inr (2, [.ref o_xs, .ref o_ys, .ref o_on, .ref o_lasts, .int o_points, .int o_contours, .int o_parts, .ref o_flags, .ref o_readers, .ref o_moves])), (o_on, .inl (cy 2, 256, .inl o_on_f)), (o_flags, .inl (cy 0, 128, .inl o_flags_f)), (a1, .inr (0, [.ref a1_bytes, .int a1_place, .int a1_limit, .int a1_whole])), (a1_bytes, .inl (cy 1, 4096, .inl a1_bytes_f))] H → va_D A [(o, .inr (2, [.ref o_xs, .ref o_ys, .ref o_on, .ref o_lasts, .int o_points, .int o_contours, .int o_parts, .ref o_flags, .ref o_readers, .ref o_moves])), (o_on, .inl (cy 2, 256, .inl o_on_f)), (o_flags, .inl (cy 0, 128, .inl o_flags_f)), (a1, .inr (0, [.ref a1_bytes, .int a1_place, .int a1_limit, .int a1_whole])), (a1_bytes, .inl (cy 1, 4096, .inl a1_bytes_f))] → va_S A s.heap H locs → lv_has ls 6 [(0, .ref o), (1, .ref a1), (2, .int x2), (3, .int x3), (4, .int x4), (5, .int x5)] → W p l e ({ frames := 1, cells := 0, slots := 0, locals := 20 } : Room) s m args below meth c H locs 0 0 (MQ below (va_Qi (fun r (_ : Unit) => r = uu.1) (fun _ t => va_P (dC, dI) classes [(o, .inr (2, [.ref o_xs, .ref o_ys, .ref o_on, .ref o_lasts, .int o_points, .int o_contours, .int o_parts, .ref o_flags, .ref o_readers, .ref o_moves])), (o_on, .inl (cy 2, 256, .inl uu.2.1)), (o_flags, .inl (cy 0, 128, .inl uu.2.2.1)), (a1, .inr (0, [.ref a1_bytes, .int uu.2.2.2.1, .int a1_limit, .int uu.2.2.2.2])), (a1_bytes, .inl (cy 1, 4096, .inl a1_bytes_f))] t.heap ∧ va_K (dC, dI) classes (TY cy) t ∧ va_D A [(o, .inr (2, [.ref o_xs, .ref o_ys, .ref o_on, .ref o_lasts, .int o_points, .int o_contours, .int o_parts, .ref o_flags, .ref o_readers, .ref o_moves])), (o_on, .inl (cy 2, 256, .inl uu.2.1)), (o_flags, .inl (cy 0, 128, .inl uu.2.2.1)), (a1, .inr (0, [.ref a1_bytes, .int uu.2.2.2.1, .int a1_limit, .int uu.2.2.2.2])), (a1_bytes, .inl (cy 1, 4096, .inl a1_bytes_f))]) A) args s 0 0 A) (F0 m 79 ls [.int k0, .int k1, .ref o_on]) := by
  intro hP hD hS hl
  obtain ⟨hx, hb, hr, hlocks, hml, hown, htsG, hA, hK⟩ := id C0
  unfold P_Sh_readFlags_79 at h
  obtain ⟨hin_1, h⟩ := bd_some h
  refine va_zast hx hb hK hP hD hS 1 2 rfl rfl hin_1 d_Sh_readFlags_79 (fun H locs hP hD hS => ?_)
  have hP : va_P (dC, dI) classes [(o, .inr (2, [.ref o_xs, .ref o_ys, .ref o_on, .ref o_lasts, .int o_points, .int o_contours, .int o_parts, .ref o_flags, .ref o_readers, .ref o_moves])), (o_on, .inl (cy 2, 256, .inl (upd o_on_f k1.toNatClampNeg (vp_nar .boolean k0)))), (o_flags, .inl (cy 0, 128, .inl o_flags_f)), (a1, .inr (0, [.ref a1_bytes, .int a1_place, .int a1_limit, .int a1_whole])), (a1_bytes, .inl (cy 1, 4096, .inl a1_bytes_f))] H := hP
  have hD : va_D A [(o, .inr (2, [.ref o_xs, .ref o_ys, .ref o_on, .ref o_lasts, .int o_points, .int o_contours, .int o_parts, .ref o_flags, .ref o_readers, .ref o_moves])), (o_on, .inl (cy 2, 256, .inl (upd o_on_f k1.toNatClampNeg (vp_nar .boolean k0)))), (o_flags, .inl (cy 0, 128, .inl o_flags_f)), (a1, .inr (0, [.ref a1_bytes, .int a1_place, .int a1_limit, .int a1_whole])), (a1_bytes, .inl (cy 1, 4096, .inl a1_bytes_f))] := hD
  refine lv_iinc (v := (x5 + (1 : Int32))) (lv' := [(5, .int (x5 + (1 : Int32))), (0, .ref o), (1, .ref a1), (2, .int x2), (3, .int x3), (4, .int x4)]) hx hb d_Sh_readFlags_80 hl (k := 5) rfl rfl (by decide) rfl (fun ls hl => ?_)
  refine lv_goto (tgt := 8) hx hb d_Sh_readFlags_83 (by decide) ?_
  exact hz8 x2 x3 x4 (x5 + (1 : Int32)) (upd o_on_f k1.toNatClampNeg (vp_nar .boolean k0)) o_flags_f a1_place a1_whole _ _ _ h hP hD hS (lv_sub hl [1, 2, 3, 4, 5, 0] rfl)
def P_Sh_readFlags_50 (o_points : Int32) (a1_limit : Int32) (a1_bytes_f : Nat → Int32) (z8 : Int32 × Int32 × Int32 × Int32 × (Nat → Int32) × (Nat → Int32) × Int32 × Int32 → Option (Int32 × (Nat → Int32) × (Nat → Int32) × Int32 × Int32)) (x2 : Int32) (x3 : Int32) (x4 : Int32) (x5 : Int32) (o_on_f : Nat → Int32) (o_flags_f : Nat → Int32) (a1_place : Int32) (a1_whole : Int32) : Option (Int32 × (Nat → Int32) × (Nat → Int32) × Int32 × Int32) :=
  bd (x5 - x2) 128 <| if (x4 &&& (1 : Int32)) = 0 then (P_Sh_readFlags_79 o_points a1_limit a1_bytes_f z8 x2 x3 x4 x5 (0 : Int32) x5 o_on_f (upd o_flags_f (x5 - x2).toNatClampNeg x4) a1_place a1_whole) else (P_Sh_readFlags_79 o_points a1_limit a1_bytes_f z8 x2 x3 x4 x5 (1 : Int32) x5 o_on_f (upd o_flags_f (x5 - x2).toNatClampNeg x4) a1_place a1_whole)
set_option maxHeartbeats 4000000 in
set_option maxRecDepth 100000 in
theorem w_Sh_readFlags_50 (C0 : Cx p s m args meth c A dC dI cy b_Sh_readFlags 6 (some .boolean) "GlyphPage$Shape") (o : Nat) (a1 : Nat) (o_xs : Nat) (o_ys : Nat) (o_on : Nat) (o_lasts : Nat) (o_flags : Nat) (o_readers : Nat) (o_moves : Nat) (a1_bytes : Nat) (o_points : Int32) (o_contours : Int32) (o_parts : Int32) (a1_limit : Int32) (a1_bytes_f : Nat → Int32) (a2 : Int32) (uu : Int32 × (Nat → Int32) × (Nat → Int32) × Int32 × Int32) (z8 : Int32 × Int32 × Int32 × Int32 × (Nat → Int32) × (Nat → Int32) × Int32 × Int32 → Option (Int32 × (Nat → Int32) × (Nat → Int32) × Int32 × Int32)) (hz8 : ∀ (x2 : Int32) (x3 : Int32) (x4 : Int32) (x5 : Int32) (o_on_f : Nat → Int32) (o_flags_f : Nat → Int32) (a1_place : Int32) (a1_whole : Int32) (H : Heap) (locs : List Loc) (ls : Array Slot), z8 (x2, x3, x4, x5, o_on_f, o_flags_f, a1_place, a1_whole) = some uu → va_P (dC, dI) classes [(o, .inr (2, [.ref o_xs, .ref o_ys, .ref o_on, .ref o_lasts, .int o_points, .int o_contours, .int o_parts, .ref o_flags, .ref o_readers, .ref o_moves])), (o_on, .inl (cy 2, 256, .inl o_on_f)), (o_flags, .inl (cy 0, 128, .inl o_flags_f)), (a1, .inr (0, [.ref a1_bytes, .int a1_place, .int a1_limit, .int a1_whole])), (a1_bytes, .inl (cy 1, 4096, .inl a1_bytes_f))] H → va_D A [(o, .inr (2, [.ref o_xs, .ref o_ys, .ref o_on, .ref o_lasts, .int o_points, .int o_contours, .int o_parts, .ref o_flags, .ref o_readers, .ref o_moves])), (o_on, .inl (cy 2, 256, .inl o_on_f)), (o_flags, .inl (cy 0, 128, .inl o_flags_f)), (a1, .inr (0, [.ref a1_bytes, .int a1_place, .int a1_limit, .int a1_whole])), (a1_bytes, .inl (cy 1, 4096, .inl a1_bytes_f))] → va_S A s.heap H locs → lv_has ls 6 [(0, .ref o), (1, .ref a1), (2, .int x2), (3, .int x3), (4, .int x4), (5, .int x5)] → W p l e ({ frames := 1, cells := 0, slots := 0, locals := 20 } : Room) s m args below meth c H locs 0 0 (MQ below (va_Qi (fun r (_ : Unit) => r = uu.1) (fun _ t => va_P (dC, dI) classes [(o, .inr (2, [.ref o_xs, .ref o_ys, .ref o_on, .ref o_lasts, .int o_points, .int o_contours, .int o_parts, .ref o_flags, .ref o_readers, .ref o_moves])), (o_on, .inl (cy 2, 256, .inl uu.2.1)), (o_flags, .inl (cy 0, 128, .inl uu.2.2.1)), (a1, .inr (0, [.ref a1_bytes, .int uu.2.2.2.1, .int a1_limit, .int uu.2.2.2.2])), (a1_bytes, .inl (cy 1, 4096, .inl a1_bytes_f))] t.heap ∧ va_K (dC, dI) classes (TY cy) t ∧ va_D A [(o, .inr (2, [.ref o_xs, .ref o_ys, .ref o_on, .ref o_lasts, .int o_points, .int o_contours, .int o_parts, .ref o_flags, .ref o_readers, .ref o_moves])), (o_on, .inl (cy 2, 256, .inl uu.2.1)), (o_flags, .inl (cy 0, 128, .inl uu.2.2.1)), (a1, .inr (0, [.ref a1_bytes, .int uu.2.2.2.1, .int a1_limit, .int uu.2.2.2.2])), (a1_bytes, .inl (cy 1, 4096, .inl a1_bytes_f))]) A) args s 0 0 A) (F0 m 8 ls [])) (x2 : Int32) (x3 : Int32) (x4 : Int32) (x5 : Int32) (o_on_f : Nat → Int32) (o_flags_f : Nat → Int32) (a1_place : Int32) (a1_whole : Int32) {H : Heap} {locs : List Loc} {ls : Array Slot} (h : P_Sh_readFlags_50 o_points a1_limit a1_bytes_f z8 x2 x3 x4 x5 o_on_f o_flags_f a1_place a1_whole = some uu) : va_P (dC, dI) classes [(o, .inr (2, [.ref o_xs, .ref o_ys, .ref o_on, .ref o_lasts, .int o_points, .int o_contours, .int o_parts, .ref o_flags, .ref o_readers, .ref o_moves])), (o_on, .inl (cy 2, 256, .inl o_on_f)), (o_flags, .inl (cy 0, 128, .inl o_flags_f)), (a1, .inr (0, [.ref a1_bytes, .int a1_place, .int a1_limit, .int a1_whole])), (a1_bytes, .inl (cy 1, 4096, .inl a1_bytes_f))] H → va_D A [(o, .inr (2, [.ref o_xs, .ref o_ys, .ref o_on, .ref o_lasts, .int o_points, .int o_contours, .int o_parts, .ref o_flags, .ref o_readers, .ref o_moves])), (o_on, .inl (cy 2, 256, .inl o_on_f)), (o_flags, .inl (cy 0, 128, .inl o_flags_f)), (a1, .inr (0, [.ref a1_bytes, .int a1_place, .int a1_limit, .int a1_whole])), (a1_bytes, .inl (cy 1, 4096, .inl a1_bytes_f))] → va_S A s.heap H locs → lv_has ls 6 [(0, .ref o), (1, .ref a1), (2, .int x2), (3, .int x3), (4, .int x4), (5, .int x5)] → W p l e ({ frames := 1, cells := 0, slots := 0, locals := 20 } : Room) s m args below meth c H locs 0 0 (MQ below (va_Qi (fun r (_ : Unit) => r = uu.1) (fun _ t => va_P (dC, dI) classes [(o, .inr (2, [.ref o_xs, .ref o_ys, .ref o_on, .ref o_lasts, .int o_points, .int o_contours, .int o_parts, .ref o_flags, .ref o_readers, .ref o_moves])), (o_on, .inl (cy 2, 256, .inl uu.2.1)), (o_flags, .inl (cy 0, 128, .inl uu.2.2.1)), (a1, .inr (0, [.ref a1_bytes, .int uu.2.2.2.1, .int a1_limit, .int uu.2.2.2.2])), (a1_bytes, .inl (cy 1, 4096, .inl a1_bytes_f))] t.heap ∧ va_K (dC, dI) classes (TY cy) t ∧ va_D A [(o, .inr (2, [.ref o_xs, .ref o_ys, .ref o_on, .ref o_lasts, .int o_points, .int o_contours, .int o_parts, .ref o_flags, .ref o_readers, .ref o_moves])), (o_on, .inl (cy 2, 256, .inl uu.2.1)), (o_flags, .inl (cy 0, 128, .inl uu.2.2.1)), (a1, .inr (0, [.ref a1_bytes, .int uu.2.2.2.1, .int a1_limit, .int uu.2.2.2.2])), (a1_bytes, .inl (cy 1, 4096, .inl a1_bytes_f))]) A) args s 0 0 A) (F0 m 50 ls []) := by
  intro hP hD hS hl
  obtain ⟨hx, hb, hr, hlocks, hml, hown, htsG, hA, hK⟩ := id C0
  unfold P_Sh_readFlags_50 at h
  refine lv_aload_n hx hb d_Sh_readFlags_50 rfl (lv_at hl 0 rfl) ?_
  refine va_get (D := (dC, dI)) (ci := 2) (v := .ref o_flags) (C := "GlyphPage$Shape") (T := F_Sh) (N := 10) hx hb htsG iG_Sh hown hK hP 0 rfl rfl 7 (by decide) (htsG _ mW102) (fun _ h9 => h9) rfl d_Sh_readFlags_51 ?_
  refine lv_iload hx hb d_Sh_readFlags_54 (lv_at hl 5 rfl) ?_
  refine lv_iload_n hx hb d_Sh_readFlags_56 rfl (lv_at hl 2 rfl) ?_
  refine lv_isub hx hb d_Sh_readFlags_57 ?_
  refine lv_iload hx hb d_Sh_readFlags_58 (lv_at hl 4 rfl) ?_
  obtain ⟨hin_1, h⟩ := bd_some h
  refine va_iast hx hb hK hP hD hS 2 0 rfl rfl hin_1 d_Sh_readFlags_60 (fun H locs hP hD hS => ?_)
  have hP : va_P (dC, dI) classes [(o, .inr (2, [.ref o_xs, .ref o_ys, .ref o_on, .ref o_lasts, .int o_points, .int o_contours, .int o_parts, .ref o_flags, .ref o_readers, .ref o_moves])), (o_on, .inl (cy 2, 256, .inl o_on_f)), (o_flags, .inl (cy 0, 128, .inl (upd o_flags_f (x5 - x2).toNatClampNeg x4))), (a1, .inr (0, [.ref a1_bytes, .int a1_place, .int a1_limit, .int a1_whole])), (a1_bytes, .inl (cy 1, 4096, .inl a1_bytes_f))] H := hP
  have hD : va_D A [(o, .inr (2, [.ref o_xs, .ref o_ys, .ref o_on, .ref o_lasts, .int o_points, .int o_contours, .int o_parts, .ref o_flags, .ref o_readers, .ref o_moves])), (o_on, .inl (cy 2, 256, .inl o_on_f)), (o_flags, .inl (cy 0, 128, .inl (upd o_flags_f (x5 - x2).toNatClampNeg x4))), (a1, .inr (0, [.ref a1_bytes, .int a1_place, .int a1_limit, .int a1_whole])), (a1_bytes, .inl (cy 1, 4096, .inl a1_bytes_f))] := hD
  refine lv_aload_n hx hb d_Sh_readFlags_61 rfl (lv_at hl 0 rfl) ?_
  refine va_get (D := (dC, dI)) (ci := 2) (v := .ref o_on) (C := "GlyphPage$Shape") (T := F_Sh) (N := 10) hx hb htsG iG_Sh hown hK hP 0 rfl rfl 2 (by decide) (htsG _ mW90) (fun _ h9 => h9) rfl d_Sh_readFlags_62 ?_
  refine lv_iload hx hb d_Sh_readFlags_65 (lv_at hl 5 rfl) ?_
  refine lv_iload hx hb d_Sh_readFlags_67 (lv_at hl 4 rfl) ?_
  refine lv_iconst (v := (1 : Int32)) hx hb d_Sh_readFlags_69 (by decide) ?_
  refine lv_iand hx hb d_Sh_readFlags_70 ?_
  refine lv_if_eq (tgt := 78) hx hb d_Sh_readFlags_71 (by decide) (fun c_2 => ?_) (fun c_2 => ?_)
  · replace h := (if_pos c_2).symm.trans h
    refine lv_iconst (v := (0 : Int32)) hx hb d_Sh_readFlags_78 (by decide) ?_
    exact w_Sh_readFlags_79 C0 o a1 o_xs o_ys o_on o_lasts o_flags o_readers o_moves a1_bytes o_points o_contours o_parts a1_limit a1_bytes_f a2 uu z8 hz8 x2 x3 x4 x5 (0 : Int32) x5 o_on_f (upd o_flags_f (x5 - x2).toNatClampNeg x4) a1_place a1_whole h hP hD hS (lv_sub hl [0, 1, 2, 3, 4, 5] rfl)
  · replace h := (if_neg c_2).symm.trans h
    refine lv_iconst (v := (1 : Int32)) hx hb d_Sh_readFlags_74 (by decide) ?_
    refine lv_goto (tgt := 79) hx hb d_Sh_readFlags_75 (by decide) ?_
    exact w_Sh_readFlags_79 C0 o a1 o_xs o_ys o_on o_lasts o_flags o_readers o_moves a1_bytes o_points o_contours o_parts a1_limit a1_bytes_f a2 uu z8 hz8 x2 x3 x4 x5 (1 : Int32) x5 o_on_f (upd o_flags_f (x5 - x2).toNatClampNeg x4) a1_place a1_whole h hP hD hS (lv_sub hl [0, 1, 2, 3, 4, 5] rfl)
def P_Sh_readFlags_49 (o_points : Int32) (a1_limit : Int32) (a1_bytes_f : Nat → Int32) (z8 : Int32 × Int32 × Int32 × Int32 × (Nat → Int32) × (Nat → Int32) × Int32 × Int32 → Option (Int32 × (Nat → Int32) × (Nat → Int32) × Int32 × Int32)) (x2 : Int32) (x4 : Int32) (x5 : Int32) (k0 : Int32) (o_on_f : Nat → Int32) (o_flags_f : Nat → Int32) (a1_place : Int32) (a1_whole : Int32) : Option (Int32 × (Nat → Int32) × (Nat → Int32) × Int32 × Int32) :=
  P_Sh_readFlags_50 o_points a1_limit a1_bytes_f z8 x2 k0 x4 x5 o_on_f o_flags_f a1_place a1_whole
set_option maxHeartbeats 4000000 in
set_option maxRecDepth 100000 in
theorem w_Sh_readFlags_49 (C0 : Cx p s m args meth c A dC dI cy b_Sh_readFlags 6 (some .boolean) "GlyphPage$Shape") (o : Nat) (a1 : Nat) (o_xs : Nat) (o_ys : Nat) (o_on : Nat) (o_lasts : Nat) (o_flags : Nat) (o_readers : Nat) (o_moves : Nat) (a1_bytes : Nat) (o_points : Int32) (o_contours : Int32) (o_parts : Int32) (a1_limit : Int32) (a1_bytes_f : Nat → Int32) (a2 : Int32) (uu : Int32 × (Nat → Int32) × (Nat → Int32) × Int32 × Int32) (z8 : Int32 × Int32 × Int32 × Int32 × (Nat → Int32) × (Nat → Int32) × Int32 × Int32 → Option (Int32 × (Nat → Int32) × (Nat → Int32) × Int32 × Int32)) (hz8 : ∀ (x2 : Int32) (x3 : Int32) (x4 : Int32) (x5 : Int32) (o_on_f : Nat → Int32) (o_flags_f : Nat → Int32) (a1_place : Int32) (a1_whole : Int32) (H : Heap) (locs : List Loc) (ls : Array Slot), z8 (x2, x3, x4, x5, o_on_f, o_flags_f, a1_place, a1_whole) = some uu → va_P (dC, dI) classes [(o, .inr (2, [.ref o_xs, .ref o_ys, .ref o_on, .ref o_lasts, .int o_points, .int o_contours, .int o_parts, .ref o_flags, .ref o_readers, .ref o_moves])), (o_on, .inl (cy 2, 256, .inl o_on_f)), (o_flags, .inl (cy 0, 128, .inl o_flags_f)), (a1, .inr (0, [.ref a1_bytes, .int a1_place, .int a1_limit, .int a1_whole])), (a1_bytes, .inl (cy 1, 4096, .inl a1_bytes_f))] H → va_D A [(o, .inr (2, [.ref o_xs, .ref o_ys, .ref o_on, .ref o_lasts, .int o_points, .int o_contours, .int o_parts, .ref o_flags, .ref o_readers, .ref o_moves])), (o_on, .inl (cy 2, 256, .inl o_on_f)), (o_flags, .inl (cy 0, 128, .inl o_flags_f)), (a1, .inr (0, [.ref a1_bytes, .int a1_place, .int a1_limit, .int a1_whole])), (a1_bytes, .inl (cy 1, 4096, .inl a1_bytes_f))] → va_S A s.heap H locs → lv_has ls 6 [(0, .ref o), (1, .ref a1), (2, .int x2), (3, .int x3), (4, .int x4), (5, .int x5)] → W p l e ({ frames := 1, cells := 0, slots := 0, locals := 20 } : Room) s m args below meth c H locs 0 0 (MQ below (va_Qi (fun r (_ : Unit) => r = uu.1) (fun _ t => va_P (dC, dI) classes [(o, .inr (2, [.ref o_xs, .ref o_ys, .ref o_on, .ref o_lasts, .int o_points, .int o_contours, .int o_parts, .ref o_flags, .ref o_readers, .ref o_moves])), (o_on, .inl (cy 2, 256, .inl uu.2.1)), (o_flags, .inl (cy 0, 128, .inl uu.2.2.1)), (a1, .inr (0, [.ref a1_bytes, .int uu.2.2.2.1, .int a1_limit, .int uu.2.2.2.2])), (a1_bytes, .inl (cy 1, 4096, .inl a1_bytes_f))] t.heap ∧ va_K (dC, dI) classes (TY cy) t ∧ va_D A [(o, .inr (2, [.ref o_xs, .ref o_ys, .ref o_on, .ref o_lasts, .int o_points, .int o_contours, .int o_parts, .ref o_flags, .ref o_readers, .ref o_moves])), (o_on, .inl (cy 2, 256, .inl uu.2.1)), (o_flags, .inl (cy 0, 128, .inl uu.2.2.1)), (a1, .inr (0, [.ref a1_bytes, .int uu.2.2.2.1, .int a1_limit, .int uu.2.2.2.2])), (a1_bytes, .inl (cy 1, 4096, .inl a1_bytes_f))]) A) args s 0 0 A) (F0 m 8 ls [])) (x2 : Int32) (x4 : Int32) (x5 : Int32) (k0 : Int32) (o_on_f : Nat → Int32) (o_flags_f : Nat → Int32) (a1_place : Int32) (a1_whole : Int32) {H : Heap} {locs : List Loc} {ls : Array Slot} (h : P_Sh_readFlags_49 o_points a1_limit a1_bytes_f z8 x2 x4 x5 k0 o_on_f o_flags_f a1_place a1_whole = some uu) : va_P (dC, dI) classes [(o, .inr (2, [.ref o_xs, .ref o_ys, .ref o_on, .ref o_lasts, .int o_points, .int o_contours, .int o_parts, .ref o_flags, .ref o_readers, .ref o_moves])), (o_on, .inl (cy 2, 256, .inl o_on_f)), (o_flags, .inl (cy 0, 128, .inl o_flags_f)), (a1, .inr (0, [.ref a1_bytes, .int a1_place, .int a1_limit, .int a1_whole])), (a1_bytes, .inl (cy 1, 4096, .inl a1_bytes_f))] H → va_D A [(o, .inr (2, [.ref o_xs, .ref o_ys, .ref o_on, .ref o_lasts, .int o_points, .int o_contours, .int o_parts, .ref o_flags, .ref o_readers, .ref o_moves])), (o_on, .inl (cy 2, 256, .inl o_on_f)), (o_flags, .inl (cy 0, 128, .inl o_flags_f)), (a1, .inr (0, [.ref a1_bytes, .int a1_place, .int a1_limit, .int a1_whole])), (a1_bytes, .inl (cy 1, 4096, .inl a1_bytes_f))] → va_S A s.heap H locs → lv_has ls 6 [(0, .ref o), (1, .ref a1), (2, .int x2), (4, .int x4), (5, .int x5)] → W p l e ({ frames := 1, cells := 0, slots := 0, locals := 20 } : Room) s m args below meth c H locs 0 0 (MQ below (va_Qi (fun r (_ : Unit) => r = uu.1) (fun _ t => va_P (dC, dI) classes [(o, .inr (2, [.ref o_xs, .ref o_ys, .ref o_on, .ref o_lasts, .int o_points, .int o_contours, .int o_parts, .ref o_flags, .ref o_readers, .ref o_moves])), (o_on, .inl (cy 2, 256, .inl uu.2.1)), (o_flags, .inl (cy 0, 128, .inl uu.2.2.1)), (a1, .inr (0, [.ref a1_bytes, .int uu.2.2.2.1, .int a1_limit, .int uu.2.2.2.2])), (a1_bytes, .inl (cy 1, 4096, .inl a1_bytes_f))] t.heap ∧ va_K (dC, dI) classes (TY cy) t ∧ va_D A [(o, .inr (2, [.ref o_xs, .ref o_ys, .ref o_on, .ref o_lasts, .int o_points, .int o_contours, .int o_parts, .ref o_flags, .ref o_readers, .ref o_moves])), (o_on, .inl (cy 2, 256, .inl uu.2.1)), (o_flags, .inl (cy 0, 128, .inl uu.2.2.1)), (a1, .inr (0, [.ref a1_bytes, .int uu.2.2.2.1, .int a1_limit, .int uu.2.2.2.2])), (a1_bytes, .inl (cy 1, 4096, .inl a1_bytes_f))]) A) args s 0 0 A) (F0 m 49 ls [.int k0]) := by
  intro hP hD hS hl
  obtain ⟨hx, hb, hr, hlocks, hml, hown, htsG, hA, hK⟩ := id C0
  unfold P_Sh_readFlags_49 at h
  refine lv_istore_n (lv' := [(3, .int k0), (0, .ref o), (1, .ref a1), (2, .int x2), (4, .int x4), (5, .int x5)]) hx hb d_Sh_readFlags_49 rfl hl (by decide) rfl (fun ls hl => ?_)
  exact w_Sh_readFlags_50 C0 o a1 o_xs o_ys o_on o_lasts o_flags o_readers o_moves a1_bytes o_points o_contours o_parts a1_limit a1_bytes_f a2 uu z8 hz8 x2 k0 x4 x5 o_on_f o_flags_f a1_place a1_whole h hP hD hS (lv_sub hl [1, 2, 3, 0, 4, 5] rfl)
def P_Sh_readFlags_8b (o_points : Int32) (a1_limit : Int32) (a1_bytes_f : Nat → Int32)  (z8 : Int32 × Int32 × Int32 × Int32 × (Nat → Int32) × (Nat → Int32) × Int32 × Int32 → Option (Int32 × (Nat → Int32) × (Nat → Int32) × Int32 × Int32)) (x2 : Int32) (x3 : Int32) (x4 : Int32) (x5 : Int32) (o_on_f : Nat → Int32) (o_flags_f : Nat → Int32) (a1_place : Int32) (a1_whole : Int32) : Option (Int32 × (Nat → Int32) × (Nat → Int32) × Int32 × Int32) :=
  if o_points ≤ x5 then (if x3 = 0 then (some ((1 : Int32), o_on_f, o_flags_f, a1_place, a1_whole)) else (some ((0 : Int32), o_on_f, o_flags_f, a1_place, a1_whole))) else (if x3 ≤ 0 then ((P_Rd_one a1_place a1_limit a1_whole a1_bytes_f).bind <| unp fun r_4 => unp fun n_5 n_6 => if (r_4 &&& (8 : Int32)) = 0 then (P_Sh_readFlags_49 o_points a1_limit a1_bytes_f z8 x2 r_4 x5 (0 : Int32) o_on_f o_flags_f n_5 n_6) else ((P_Rd_one n_5 a1_limit n_6 a1_bytes_f).bind <| unp fun r_8 => unp fun n_9 n_10 => P_Sh_readFlags_49 o_points a1_limit a1_bytes_f z8 x2 r_4 x5 r_8 o_on_f o_flags_f n_9 n_10)) else (P_Sh_readFlags_50 o_points a1_limit a1_bytes_f z8 x2 (x3 + (-1 : Int32)) x4 x5 o_on_f o_flags_f a1_place a1_whole))
def L_Sh_readFlags_8 (o_points : Int32) (a1_limit : Int32) (a1_bytes_f : Nat → Int32)  : (Int32 × Int32 × Int32 × Int32 × (Nat → Int32) × (Nat → Int32) × Int32 × Int32 → Option (Int32 × (Nat → Int32) × (Nat → Int32) × Int32 × Int32)) → (Int32 × Int32 × Int32 × Int32 × (Nat → Int32) × (Nat → Int32) × Int32 × Int32) → Option (Int32 × (Nat → Int32) × (Nat → Int32) × Int32 × Int32) :=
  fun z => unp fun x2 => unp fun x3 => unp fun x4 => unp fun x5 => unp fun o_on_f => unp fun o_flags_f => unp fun a1_place a1_whole => P_Sh_readFlags_8b o_points a1_limit a1_bytes_f z x2 x3 x4 x5 o_on_f o_flags_f a1_place a1_whole
def P_Sh_readFlags_8 (o_points : Int32) (a1_limit : Int32) (a1_bytes_f : Nat → Int32)  (x2 : Int32) (x3 : Int32) (x4 : Int32) (x5 : Int32) (o_on_f : Nat → Int32) (o_flags_f : Nat → Int32) (a1_place : Int32) (a1_whole : Int32) : Option (Int32 × (Nat → Int32) × (Nat → Int32) × Int32 × Int32) :=
  lp (L_Sh_readFlags_8 o_points a1_limit a1_bytes_f) fuel (x2, x3, x4, x5, o_on_f, o_flags_f, a1_place, a1_whole)
theorem e_Sh_readFlags_8 (o_points : Int32) (a1_limit : Int32) (a1_bytes_f : Nat → Int32)  (n : Nat) (x2 : Int32) (x3 : Int32) (x4 : Int32) (x5 : Int32) (o_on_f : Nat → Int32) (o_flags_f : Nat → Int32) (a1_place : Int32) (a1_whole : Int32) : lp (L_Sh_readFlags_8 o_points a1_limit a1_bytes_f) (n + 1) (x2, x3, x4, x5, o_on_f, o_flags_f, a1_place, a1_whole) = P_Sh_readFlags_8b o_points a1_limit a1_bytes_f (lp (L_Sh_readFlags_8 o_points a1_limit a1_bytes_f) n) x2 x3 x4 x5 o_on_f o_flags_f a1_place a1_whole := rfl
set_option maxHeartbeats 4000000 in
set_option maxRecDepth 100000 in
theorem w_Sh_readFlags_8b (C0 : Cx p s m args meth c A dC dI cy b_Sh_readFlags 6 (some .boolean) "GlyphPage$Shape") (o : Nat) (a1 : Nat) (o_xs : Nat) (o_ys : Nat) (o_on : Nat) (o_lasts : Nat) (o_flags : Nat) (o_readers : Nat) (o_moves : Nat) (a1_bytes : Nat) (o_points : Int32) (o_contours : Int32) (o_parts : Int32) (a1_limit : Int32) (a1_bytes_f : Nat → Int32) (a2 : Int32) (uu : Int32 × (Nat → Int32) × (Nat → Int32) × Int32 × Int32)  (z8 : Int32 × Int32 × Int32 × Int32 × (Nat → Int32) × (Nat → Int32) × Int32 × Int32 → Option (Int32 × (Nat → Int32) × (Nat → Int32) × Int32 × Int32)) (hz8 : ∀ (x2 : Int32) (x3 : Int32) (x4 : Int32) (x5 : Int32) (o_on_f : Nat → Int32) (o_flags_f : Nat → Int32) (a1_place : Int32) (a1_whole : Int32) (H : Heap) (locs : List Loc) (ls : Array Slot), z8 (x2, x3, x4, x5, o_on_f, o_flags_f, a1_place, a1_whole) = some uu → va_P (dC, dI) classes [(o, .inr (2, [.ref o_xs, .ref o_ys, .ref o_on, .ref o_lasts, .int o_points, .int o_contours, .int o_parts, .ref o_flags, .ref o_readers, .ref o_moves])), (o_on, .inl (cy 2, 256, .inl o_on_f)), (o_flags, .inl (cy 0, 128, .inl o_flags_f)), (a1, .inr (0, [.ref a1_bytes, .int a1_place, .int a1_limit, .int a1_whole])), (a1_bytes, .inl (cy 1, 4096, .inl a1_bytes_f))] H → va_D A [(o, .inr (2, [.ref o_xs, .ref o_ys, .ref o_on, .ref o_lasts, .int o_points, .int o_contours, .int o_parts, .ref o_flags, .ref o_readers, .ref o_moves])), (o_on, .inl (cy 2, 256, .inl o_on_f)), (o_flags, .inl (cy 0, 128, .inl o_flags_f)), (a1, .inr (0, [.ref a1_bytes, .int a1_place, .int a1_limit, .int a1_whole])), (a1_bytes, .inl (cy 1, 4096, .inl a1_bytes_f))] → va_S A s.heap H locs → lv_has ls 6 [(0, .ref o), (1, .ref a1), (2, .int x2), (3, .int x3), (4, .int x4), (5, .int x5)] → W p l e ({ frames := 1, cells := 0, slots := 0, locals := 20 } : Room) s m args below meth c H locs 0 0 (MQ below (va_Qi (fun r (_ : Unit) => r = uu.1) (fun _ t => va_P (dC, dI) classes [(o, .inr (2, [.ref o_xs, .ref o_ys, .ref o_on, .ref o_lasts, .int o_points, .int o_contours, .int o_parts, .ref o_flags, .ref o_readers, .ref o_moves])), (o_on, .inl (cy 2, 256, .inl uu.2.1)), (o_flags, .inl (cy 0, 128, .inl uu.2.2.1)), (a1, .inr (0, [.ref a1_bytes, .int uu.2.2.2.1, .int a1_limit, .int uu.2.2.2.2])), (a1_bytes, .inl (cy 1, 4096, .inl a1_bytes_f))] t.heap ∧ va_K (dC, dI) classes (TY cy) t ∧ va_D A [(o, .inr (2, [.ref o_xs, .ref o_ys, .ref o_on, .ref o_lasts, .int o_points, .int o_contours, .int o_parts, .ref o_flags, .ref o_readers, .ref o_moves])), (o_on, .inl (cy 2, 256, .inl uu.2.1)), (o_flags, .inl (cy 0, 128, .inl uu.2.2.1)), (a1, .inr (0, [.ref a1_bytes, .int uu.2.2.2.1, .int a1_limit, .int uu.2.2.2.2])), (a1_bytes, .inl (cy 1, 4096, .inl a1_bytes_f))]) A) args s 0 0 A) (F0 m 8 ls [])) (x2 : Int32) (x3 : Int32) (x4 : Int32) (x5 : Int32) (o_on_f : Nat → Int32) (o_flags_f : Nat → Int32) (a1_place : Int32) (a1_whole : Int32) {H : Heap} {locs : List Loc} {ls : Array Slot} (h : P_Sh_readFlags_8b o_points a1_limit a1_bytes_f z8 x2 x3 x4 x5 o_on_f o_flags_f a1_place a1_whole = some uu) : va_P (dC, dI) classes [(o, .inr (2, [.ref o_xs, .ref o_ys, .ref o_on, .ref o_lasts, .int o_points, .int o_contours, .int o_parts, .ref o_flags, .ref o_readers, .ref o_moves])), (o_on, .inl (cy 2, 256, .inl o_on_f)), (o_flags, .inl (cy 0, 128, .inl o_flags_f)), (a1, .inr (0, [.ref a1_bytes, .int a1_place, .int a1_limit, .int a1_whole])), (a1_bytes, .inl (cy 1, 4096, .inl a1_bytes_f))] H → va_D A [(o, .inr (2, [.ref o_xs, .ref o_ys, .ref o_on, .ref o_lasts, .int o_points, .int o_contours, .int o_parts, .ref o_flags, .ref o_readers, .ref o_moves])), (o_on, .inl (cy 2, 256, .inl o_on_f)), (o_flags, .inl (cy 0, 128, .inl o_flags_f)), (a1, .inr (0, [.ref a1_bytes, .int a1_place, .int a1_limit, .int a1_whole])), (a1_bytes, .inl (cy 1, 4096, .inl a1_bytes_f))] → va_S A s.heap H locs → lv_has ls 6 [(0, .ref o), (1, .ref a1), (2, .int x2), (3, .int x3), (4, .int x4), (5, .int x5)] → W p l e ({ frames := 1, cells := 0, slots := 0, locals := 20 } : Room) s m args below meth c H locs 0 0 (MQ below (va_Qi (fun r (_ : Unit) => r = uu.1) (fun _ t => va_P (dC, dI) classes [(o, .inr (2, [.ref o_xs, .ref o_ys, .ref o_on, .ref o_lasts, .int o_points, .int o_contours, .int o_parts, .ref o_flags, .ref o_readers, .ref o_moves])), (o_on, .inl (cy 2, 256, .inl uu.2.1)), (o_flags, .inl (cy 0, 128, .inl uu.2.2.1)), (a1, .inr (0, [.ref a1_bytes, .int uu.2.2.2.1, .int a1_limit, .int uu.2.2.2.2])), (a1_bytes, .inl (cy 1, 4096, .inl a1_bytes_f))] t.heap ∧ va_K (dC, dI) classes (TY cy) t ∧ va_D A [(o, .inr (2, [.ref o_xs, .ref o_ys, .ref o_on, .ref o_lasts, .int o_points, .int o_contours, .int o_parts, .ref o_flags, .ref o_readers, .ref o_moves])), (o_on, .inl (cy 2, 256, .inl uu.2.1)), (o_flags, .inl (cy 0, 128, .inl uu.2.2.1)), (a1, .inr (0, [.ref a1_bytes, .int uu.2.2.2.1, .int a1_limit, .int uu.2.2.2.2])), (a1_bytes, .inl (cy 1, 4096, .inl a1_bytes_f))]) A) args s 0 0 A) (F0 m 8 ls []) := by
  intro hP hD hS hl
  obtain ⟨hx, hb, hr, hlocks, hml, hown, htsG, hA, hK⟩ := id C0
  unfold P_Sh_readFlags_8b at h
  refine lv_iload hx hb d_Sh_readFlags_8 (lv_at hl 5 rfl) ?_
  refine lv_aload_n hx hb d_Sh_readFlags_10 rfl (lv_at hl 0 rfl) ?_
  refine va_get (D := (dC, dI)) (ci := 2) (v := .int o_points) (C := "GlyphPage$Shape") (T := F_Sh) (N := 10) hx hb htsG iG_Sh hown hK hP 0 rfl rfl 4 (by decide) (htsG _ mW95) (fun _ h9 => h9) rfl d_Sh_readFlags_11 ?_
  refine lv_icmp_ge (tgt := 86) hx hb d_Sh_readFlags_14 (by decide) (fun c_1 => ?_) (fun c_1 => ?_)
  · replace h := (if_pos c_1).symm.trans h
    refine lv_iload_n hx hb d_Sh_readFlags_86 rfl (lv_at hl 3 rfl) ?_
    refine lv_if_ne (tgt := 94) hx hb d_Sh_readFlags_87 (by decide) (fun c_2 => ?_) (fun c_2 => ?_)
    · replace h := (if_neg c_2).symm.trans h
      refine lv_iconst (v := (0 : Int32)) hx hb d_Sh_readFlags_94 (by decide) ?_
      cases h
      exact W.zret (ty := .boolean) hx hb hr rfl (fun t ht hW => ⟨⟨_, (), rfl, rfl, by rw [ht]; exact hP, va_K.moved hW.alike hK, hD⟩, hS.F ht⟩) hS.2.2 d_Sh_readFlags_95 hlocks
    · replace h := (if_pos c_2).symm.trans h
      refine lv_iconst (v := (1 : Int32)) hx hb d_Sh_readFlags_90 (by decide) ?_
      refine lv_goto (tgt := 95) hx hb d_Sh_readFlags_91 (by decide) ?_
      cases h
      exact W.zret (ty := .boolean) hx hb hr rfl (fun t ht hW => ⟨⟨_, (), rfl, rfl, by rw [ht]; exact hP, va_K.moved hW.alike hK, hD⟩, hS.F ht⟩) hS.2.2 d_Sh_readFlags_95 hlocks
  · replace h := (if_neg c_1).symm.trans h
    refine lv_iload_n hx hb d_Sh_readFlags_17 rfl (lv_at hl 3 rfl) ?_
    refine lv_if_le (tgt := 27) hx hb d_Sh_readFlags_18 (by decide) (fun c_3 => ?_) (fun c_3 => ?_)
    · replace h := (if_pos c_3).symm.trans h
      refine lv_aload_n hx hb d_Sh_readFlags_27 rfl (lv_at hl 1 rfl) ?_
      obtain ⟨⟨r_4, n_5, n_6⟩, hq, h⟩ := Option.bind_eq_some_iff.mp h
      dsimp only [unp] at h
      have hPc := hP.sub (ws' := [(a1, .inr (0, [.ref a1_bytes, .int a1_place, .int a1_limit, .int a1_whole])), (a1_bytes, .inl (cy 1, 4096, .inl a1_bytes_f))]) [3, 4] rfl
      have hDc := hD.sub (ws' := [(a1, .inr (0, [.ref a1_bytes, .int a1_place, .int a1_limit, .int a1_whole])), (a1_bytes, .inl (cy 1, 4096, .inl a1_bytes_f))]) [3, 4] (by decide) rfl
      have hFc := va_free (wc := [(a1, .inr (0, [.ref a1_bytes, .int a1_place, .int a1_limit, .int a1_whole])), (a1_bytes, .inl (cy 1, 4096, .inl a1_bytes_f))]) hD hS hA [3, 4] rfl
      refine va_calli (va_runV (As := []) (rest := []) ⟨hx, hb, hml, hown, htsG⟩ (c_Rd_one l dC dI cy H.size a1 a1_bytes a1_place a1_limit a1_whole a1_bytes_f (r_4, n_5, n_6) hq) (cwV 0 htsG (gV mW502 mW471 mW472 mW3 mW473) rfl rfl rfl (by decide +kernel) ⟨Nat.le_of_ble_eq_true rfl, Nat.le_of_ble_eq_true rfl⟩) ⟨fun a U g mk q => by obtain ⟨q0, q1, qP, qK, qD⟩ := q; exact ⟨q0, q1, qP, va_K.moved (u := U) (U := U.calling g mk a) (Vm.Alike.refl U.vm) qK, qD⟩, va_recv hK hPc (ci := 0) (q0 := 0) rfl rfl, fun U hU hW => ⟨rfl, by rw [hU], by rw [hU]; exact hPc, va_K.moved hW.alike hK, hDc.weaken (fun _ _ _ _ => trivial)⟩⟩ rfl rfl hl.1 rfl (lv_room (Nat.le_of_ble_eq_true rfl)) d_Sh_readFlags_28 ⟨Nat.le_of_ble_eq_true rfl, Nat.le_of_ble_eq_true rfl⟩) hS (fun q _ h => hFc q h) hFc (fun rr u t H1 locs ht hvm hw hB hz1 hk1 hS => ?_)
      obtain ⟨hP1, hK1, hD1⟩ := hB
      rw [ht] at hP1
      replace hw : r_4 = rr := hw.symm
      subst hw
      obtain ⟨hP, hD⟩ := va_join (wr := [(o, .inr (2, [.ref o_xs, .ref o_ys, .ref o_on, .ref o_lasts, .int o_points, .int o_contours, .int o_parts, .ref o_flags, .ref o_readers, .ref o_moves])), (o_on, .inl (cy 2, 256, .inl o_on_f)), (o_flags, .inl (cy 0, 128, .inl o_flags_f))]) (w1 := [(a1, .inr (0, [.ref a1_bytes, .int n_5, .int a1_limit, .int n_6])), (a1_bytes, .inl (cy 1, 4096, .inl a1_bytes_f))]) hP hD [3, 4] [0, 1, 2] rfl rfl (by decide) (by decide) hk1 hFc hP1 hD1
      generalize H1 = H at hP hS ⊢
      have hP := hP.sub (ws' := [(o, .inr (2, [.ref o_xs, .ref o_ys, .ref o_on, .ref o_lasts, .int o_points, .int o_contours, .int o_parts, .ref o_flags, .ref o_readers, .ref o_moves])), (o_on, .inl (cy 2, 256, .inl o_on_f)), (o_flags, .inl (cy 0, 128, .inl o_flags_f)), (a1, .inr (0, [.ref a1_bytes, .int n_5, .int a1_limit, .int n_6])), (a1_bytes, .inl (cy 1, 4096, .inl a1_bytes_f))]) [0, 1, 2, 3, 4] rfl
      have hD := hD.sub (ws' := [(o, .inr (2, [.ref o_xs, .ref o_ys, .ref o_on, .ref o_lasts, .int o_points, .int o_contours, .int o_parts, .ref o_flags, .ref o_readers, .ref o_moves])), (o_on, .inl (cy 2, 256, .inl o_on_f)), (o_flags, .inl (cy 0, 128, .inl o_flags_f)), (a1, .inr (0, [.ref a1_bytes, .int n_5, .int a1_limit, .int n_6])), (a1_bytes, .inl (cy 1, 4096, .inl a1_bytes_f))]) [0, 1, 2, 3, 4] (by decide) rfl
      refine W.widen (k := 0) (n := 0) (by decide) (by decide) ?_
      refine lv_istore (lv' := [(4, .int r_4), (0, .ref o), (1, .ref a1), (2, .int x2), (3, .int x3), (5, .int x5)]) hx hb d_Sh_readFlags_31 hl (by decide) rfl (fun ls hl => ?_)
      refine lv_iload hx hb d_Sh_readFlags_33 (lv_at hl 0 rfl) ?_
      refine lv_bipush (v := (8 : Int32)) hx hb d_Sh_readFlags_35 (by decide) ?_
      refine lv_iand hx hb d_Sh_readFlags_37 ?_
      refine lv_if_eq (tgt := 48) hx hb d_Sh_readFlags_38 (by decide) (fun c_7 => ?_) (fun c_7 => ?_)
      · replace h := (if_pos c_7).symm.trans h
        refine lv_iconst (v := (0 : Int32)) hx hb d_Sh_readFlags_48 (by decide) ?_
        exact w_Sh_readFlags_49 C0 o a1 o_xs o_ys o_on o_lasts o_flags o_readers o_moves a1_bytes o_points o_contours o_parts a1_limit a1_bytes_f a2 uu z8 hz8 x2 r_4 x5 (0 : Int32) o_on_f o_flags_f n_5 n_6 h hP hD hS (lv_sub hl [1, 2, 3, 0, 5] rfl)
      · replace h := (if_neg c_7).symm.trans h
        refine lv_aload_n hx hb d_Sh_readFlags_41 rfl (lv_at hl 2 rfl) ?_
        obtain ⟨⟨r_8, n_9, n_10⟩, hq, h⟩ := Option.bind_eq_some_iff.mp h
        dsimp only [unp] at h
        have hPc := hP.sub (ws' := [(a1, .inr (0, [.ref a1_bytes, .int n_5, .int a1_limit, .int n_6])), (a1_bytes, .inl (cy 1, 4096, .inl a1_bytes_f))]) [3, 4] rfl
        have hDc := hD.sub (ws' := [(a1, .inr (0, [.ref a1_bytes, .int n_5, .int a1_limit, .int n_6])), (a1_bytes, .inl (cy 1, 4096, .inl a1_bytes_f))]) [3, 4] (by decide) rfl
        have hFc := va_free (wc := [(a1, .inr (0, [.ref a1_bytes, .int n_5, .int a1_limit, .int n_6])), (a1_bytes, .inl (cy 1, 4096, .inl a1_bytes_f))]) hD hS hA [3, 4] rfl
        refine va_calli (va_runV (As := []) (rest := []) ⟨hx, hb, hml, hown, htsG⟩ (c_Rd_one l dC dI cy H.size a1 a1_bytes n_5 a1_limit n_6 a1_bytes_f (r_8, n_9, n_10) hq) (cwV 0 htsG (gV mW502 mW471 mW472 mW3 mW473) rfl rfl rfl (by decide +kernel) ⟨Nat.le_of_ble_eq_true rfl, Nat.le_of_ble_eq_true rfl⟩) ⟨fun a U g mk q => by obtain ⟨q0, q1, qP, qK, qD⟩ := q; exact ⟨q0, q1, qP, va_K.moved (u := U) (U := U.calling g mk a) (Vm.Alike.refl U.vm) qK, qD⟩, va_recv hK hPc (ci := 0) (q0 := 0) rfl rfl, fun U hU hW => ⟨rfl, by rw [hU], by rw [hU]; exact hPc, va_K.moved hW.alike hK, hDc.weaken (fun _ _ _ _ => trivial)⟩⟩ rfl rfl hl.1 rfl (lv_room (Nat.le_of_ble_eq_true rfl)) d_Sh_readFlags_42 ⟨Nat.le_of_ble_eq_true rfl, Nat.le_of_ble_eq_true rfl⟩) hS (fun q _ h => hFc q h) hFc (fun rr u t H1 locs ht hvm hw hB hz1 hk1 hS => ?_)
        obtain ⟨hP1, hK1, hD1⟩ := hB
        rw [ht] at hP1
        replace hw : r_8 = rr := hw.symm
        subst hw
        obtain ⟨hP, hD⟩ := va_join (wr := [(o, .inr (2, [.ref o_xs, .ref o_ys, .ref o_on, .ref o_lasts, .int o_points, .int o_contours, .int o_parts, .ref o_flags, .ref o_readers, .ref o_moves])), (o_on, .inl (cy 2, 256, .inl o_on_f)), (o_flags, .inl (cy 0, 128, .inl o_flags_f))]) (w1 := [(a1, .inr (0, [.ref a1_bytes, .int n_9, .int a1_limit, .int n_10])), (a1_bytes, .inl (cy 1, 4096, .inl a1_bytes_f))]) hP hD [3, 4] [0, 1, 2] rfl rfl (by decide) (by decide) hk1 hFc hP1 hD1
        generalize H1 = H at hP hS ⊢
        have hP := hP.sub (ws' := [(o, .inr (2, [.ref o_xs, .ref o_ys, .ref o_on, .ref o_lasts, .int o_points, .int o_contours, .int o_parts, .ref o_flags, .ref o_readers, .ref o_moves])), (o_on, .inl (cy 2, 256, .inl o_on_f)), (o_flags, .inl (cy 0, 128, .inl o_flags_f)), (a1, .inr (0, [.ref a1_bytes, .int n_9, .int a1_limit, .int n_10])), (a1_bytes, .inl (cy 1, 4096, .inl a1_bytes_f))]) [0, 1, 2, 3, 4] rfl
        have hD := hD.sub (ws' := [(o, .inr (2, [.ref o_xs, .ref o_ys, .ref o_on, .ref o_lasts, .int o_points, .int o_contours, .int o_parts, .ref o_flags, .ref o_readers, .ref o_moves])), (o_on, .inl (cy 2, 256, .inl o_on_f)), (o_flags, .inl (cy 0, 128, .inl o_flags_f)), (a1, .inr (0, [.ref a1_bytes, .int n_9, .int a1_limit, .int n_10])), (a1_bytes, .inl (cy 1, 4096, .inl a1_bytes_f))]) [0, 1, 2, 3, 4] (by decide) rfl
        refine W.widen (k := 0) (n := 0) (by decide) (by decide) ?_
        refine lv_goto (tgt := 49) hx hb d_Sh_readFlags_45 (by decide) ?_
        exact w_Sh_readFlags_49 C0 o a1 o_xs o_ys o_on o_lasts o_flags o_readers o_moves a1_bytes o_points o_contours o_parts a1_limit a1_bytes_f a2 uu z8 hz8 x2 r_4 x5 r_8 o_on_f o_flags_f n_9 n_10 h hP hD hS (lv_sub hl [1, 2, 3, 0, 5] rfl)
    · replace h := (if_neg c_3).symm.trans h
      refine lv_iinc (v := (x3 + (-1 : Int32))) (lv' := [(3, .int (x3 + (-1 : Int32))), (0, .ref o), (1, .ref a1), (2, .int x2), (4, .int x4), (5, .int x5)]) hx hb d_Sh_readFlags_21 hl (k := 3) rfl rfl (by decide) rfl (fun ls hl => ?_)
      refine lv_goto (tgt := 50) hx hb d_Sh_readFlags_24 (by decide) ?_
      exact w_Sh_readFlags_50 C0 o a1 o_xs o_ys o_on o_lasts o_flags o_readers o_moves a1_bytes o_points o_contours o_parts a1_limit a1_bytes_f a2 uu z8 hz8 x2 (x3 + (-1 : Int32)) x4 x5 o_on_f o_flags_f a1_place a1_whole h hP hD hS (lv_sub hl [1, 2, 3, 0, 4, 5] rfl)
theorem w_Sh_readFlags_8 (C0 : Cx p s m args meth c A dC dI cy b_Sh_readFlags 6 (some .boolean) "GlyphPage$Shape") (o : Nat) (a1 : Nat) (o_xs : Nat) (o_ys : Nat) (o_on : Nat) (o_lasts : Nat) (o_flags : Nat) (o_readers : Nat) (o_moves : Nat) (a1_bytes : Nat) (o_points : Int32) (o_contours : Int32) (o_parts : Int32) (a1_limit : Int32) (a1_bytes_f : Nat → Int32) (a2 : Int32) (uu : Int32 × (Nat → Int32) × (Nat → Int32) × Int32 × Int32)  (x2 : Int32) (x3 : Int32) (x4 : Int32) (x5 : Int32) (o_on_f : Nat → Int32) (o_flags_f : Nat → Int32) (a1_place : Int32) (a1_whole : Int32) {H : Heap} {locs : List Loc} {ls : Array Slot} (h : P_Sh_readFlags_8 o_points a1_limit a1_bytes_f x2 x3 x4 x5 o_on_f o_flags_f a1_place a1_whole = some uu) : va_P (dC, dI) classes [(o, .inr (2, [.ref o_xs, .ref o_ys, .ref o_on, .ref o_lasts, .int o_points, .int o_contours, .int o_parts, .ref o_flags, .ref o_readers, .ref o_moves])), (o_on, .inl (cy 2, 256, .inl o_on_f)), (o_flags, .inl (cy 0, 128, .inl o_flags_f)), (a1, .inr (0, [.ref a1_bytes, .int a1_place, .int a1_limit, .int a1_whole])), (a1_bytes, .inl (cy 1, 4096, .inl a1_bytes_f))] H → va_D A [(o, .inr (2, [.ref o_xs, .ref o_ys, .ref o_on, .ref o_lasts, .int o_points, .int o_contours, .int o_parts, .ref o_flags, .ref o_readers, .ref o_moves])), (o_on, .inl (cy 2, 256, .inl o_on_f)), (o_flags, .inl (cy 0, 128, .inl o_flags_f)), (a1, .inr (0, [.ref a1_bytes, .int a1_place, .int a1_limit, .int a1_whole])), (a1_bytes, .inl (cy 1, 4096, .inl a1_bytes_f))] → va_S A s.heap H locs → lv_has ls 6 [(0, .ref o), (1, .ref a1), (2, .int x2), (3, .int x3), (4, .int x4), (5, .int x5)] → W p l e ({ frames := 1, cells := 0, slots := 0, locals := 20 } : Room) s m args below meth c H locs 0 0 (MQ below (va_Qi (fun r (_ : Unit) => r = uu.1) (fun _ t => va_P (dC, dI) classes [(o, .inr (2, [.ref o_xs, .ref o_ys, .ref o_on, .ref o_lasts, .int o_points, .int o_contours, .int o_parts, .ref o_flags, .ref o_readers, .ref o_moves])), (o_on, .inl (cy 2, 256, .inl uu.2.1)), (o_flags, .inl (cy 0, 128, .inl uu.2.2.1)), (a1, .inr (0, [.ref a1_bytes, .int uu.2.2.2.1, .int a1_limit, .int uu.2.2.2.2])), (a1_bytes, .inl (cy 1, 4096, .inl a1_bytes_f))] t.heap ∧ va_K (dC, dI) classes (TY cy) t ∧ va_D A [(o, .inr (2, [.ref o_xs, .ref o_ys, .ref o_on, .ref o_lasts, .int o_points, .int o_contours, .int o_parts, .ref o_flags, .ref o_readers, .ref o_moves])), (o_on, .inl (cy 2, 256, .inl uu.2.1)), (o_flags, .inl (cy 0, 128, .inl uu.2.2.1)), (a1, .inr (0, [.ref a1_bytes, .int uu.2.2.2.1, .int a1_limit, .int uu.2.2.2.2])), (a1_bytes, .inl (cy 1, 4096, .inl a1_bytes_f))]) A) args s 0 0 A) (F0 m 8 ls []) := by
  have key : ∀ (n : Nat) (x2 : Int32) (x3 : Int32) (x4 : Int32) (x5 : Int32) (o_on_f : Nat → Int32) (o_flags_f : Nat → Int32) (a1_place : Int32) (a1_whole : Int32) (H : Heap) (locs : List Loc) (ls : Array Slot), lp (L_Sh_readFlags_8 o_points a1_limit a1_bytes_f) n (x2, x3, x4, x5, o_on_f, o_flags_f, a1_place, a1_whole) = some uu → va_P (dC, dI) classes [(o, .inr (2, [.ref o_xs, .ref o_ys, .ref o_on, .ref o_lasts, .int o_points, .int o_contours, .int o_parts, .ref o_flags, .ref o_readers, .ref o_moves])), (o_on, .inl (cy 2, 256, .inl o_on_f)), (o_flags, .inl (cy 0, 128, .inl o_flags_f)), (a1, .inr (0, [.ref a1_bytes, .int a1_place, .int a1_limit, .int a1_whole])), (a1_bytes, .inl (cy 1, 4096, .inl a1_bytes_f))] H → va_D A [(o, .inr (2, [.ref o_xs, .ref o_ys, .ref o_on, .ref o_lasts, .int o_points, .int o_contours, .int o_parts, .ref o_flags, .ref o_readers, .ref o_moves])), (o_on, .inl (cy 2, 256, .inl o_on_f)), (o_flags, .inl (cy 0, 128, .inl o_flags_f)), (a1, .inr (0, [.ref a1_bytes, .int a1_place, .int a1_limit, .int a1_whole])), (a1_bytes, .inl (cy 1, 4096, .inl a1_bytes_f))] → va_S A s.heap H locs → lv_has ls 6 [(0, .ref o), (1, .ref a1), (2, .int x2), (3, .int x3), (4, .int x4), (5, .int x5)] → W p l e ({ frames := 1, cells := 0, slots := 0, locals := 20 } : Room) s m args below meth c H locs 0 0 (MQ below (va_Qi (fun r (_ : Unit) => r = uu.1) (fun _ t => va_P (dC, dI) classes [(o, .inr (2, [.ref o_xs, .ref o_ys, .ref o_on, .ref o_lasts, .int o_points, .int o_contours, .int o_parts, .ref o_flags, .ref o_readers, .ref o_moves])), (o_on, .inl (cy 2, 256, .inl uu.2.1)), (o_flags, .inl (cy 0, 128, .inl uu.2.2.1)), (a1, .inr (0, [.ref a1_bytes, .int uu.2.2.2.1, .int a1_limit, .int uu.2.2.2.2])), (a1_bytes, .inl (cy 1, 4096, .inl a1_bytes_f))] t.heap ∧ va_K (dC, dI) classes (TY cy) t ∧ va_D A [(o, .inr (2, [.ref o_xs, .ref o_ys, .ref o_on, .ref o_lasts, .int o_points, .int o_contours, .int o_parts, .ref o_flags, .ref o_readers, .ref o_moves])), (o_on, .inl (cy 2, 256, .inl uu.2.1)), (o_flags, .inl (cy 0, 128, .inl uu.2.2.1)), (a1, .inr (0, [.ref a1_bytes, .int uu.2.2.2.1, .int a1_limit, .int uu.2.2.2.2])), (a1_bytes, .inl (cy 1, 4096, .inl a1_bytes_f))]) A) args s 0 0 A) (F0 m 8 ls []) := by
    intro n
    induction n with
    | zero => intro x2 x3 x4 x5 o_on_f o_flags_f a1_place a1_whole H locs ls h; cases h
    | succ n ih => intro x2 x3 x4 x5 o_on_f o_flags_f a1_place a1_whole H locs ls h; exact w_Sh_readFlags_8b C0 o a1 o_xs o_ys o_on o_lasts o_flags o_readers o_moves a1_bytes o_points o_contours o_parts a1_limit a1_bytes_f a2 uu  (lp (L_Sh_readFlags_8 o_points a1_limit a1_bytes_f) n) ih x2 x3 x4 x5 o_on_f o_flags_f a1_place a1_whole ((e_Sh_readFlags_8 o_points a1_limit a1_bytes_f n x2 x3 x4 x5 o_on_f o_flags_f a1_place a1_whole).symm.trans h)
  exact key fuel x2 x3 x4 x5 o_on_f o_flags_f a1_place a1_whole H locs ls h
def P_Sh_readFlags (o_points : Int32) (o_on_f : Nat → Int32) (o_flags_f : Nat → Int32) (a1_place : Int32) (a1_limit : Int32) (a1_whole : Int32) (a1_bytes_f : Nat → Int32) (a2 : Int32) : Option (Int32 × (Nat → Int32) × (Nat → Int32) × Int32 × Int32) :=
  P_Sh_readFlags_8 o_points a1_limit a1_bytes_f a2 (0 : Int32) (0 : Int32) a2 o_on_f o_flags_f a1_place a1_whole
set_option maxHeartbeats 4000000 in
set_option maxRecDepth 100000 in
theorem c_Sh_readFlags (l : Launch) (dC : Nat → ClassId) (dI : Nat → Nat → Nat) (cy : Nat → ClassId) (sz : Nat) (o : Nat) (a1 : Nat) (o_xs : Nat) (o_ys : Nat) (o_on : Nat) (o_lasts : Nat) (o_flags : Nat) (o_readers : Nat) (o_moves : Nat) (a1_bytes : Nat) (o_points : Int32) (o_contours : Int32) (o_parts : Int32) (o_on_f : Nat → Int32) (o_flags_f : Nat → Int32) (a1_place : Int32) (a1_limit : Int32) (a1_whole : Int32) (a1_bytes_f : Nat → Int32) (a2 : Int32) (uu : Int32 × (Nat → Int32) × (Nat → Int32) × Int32 × Int32) (h : P_Sh_readFlags o_points o_on_f o_flags_f a1_place a1_limit a1_whole a1_bytes_f a2 = some uu) : Met l y_Sh_readFlags (Cond.code y_Sh_readFlags b_Sh_readFlags 6 (some .boolean) :: G) ({ frames := 1, cells := 0, slots := 0, locals := 20 } : Room) (va_Pc [.ref o, .ref a1, .int a2] (fun U => U.heap.size = sz ∧ va_P (dC, dI) classes [(o, .inr (2, [.ref o_xs, .ref o_ys, .ref o_on, .ref o_lasts, .int o_points, .int o_contours, .int o_parts, .ref o_flags, .ref o_readers, .ref o_moves])), (o_on, .inl (cy 2, 256, .inl o_on_f)), (o_flags, .inl (cy 0, 128, .inl o_flags_f)), (a1, .inr (0, [.ref a1_bytes, .int a1_place, .int a1_limit, .int a1_whole])), (a1_bytes, .inl (cy 1, 4096, .inl a1_bytes_f))] U.heap ∧ va_K (dC, dI) classes (TY cy) U ∧ va_D (fun _ => True) [(o, .inr (2, [.ref o_xs, .ref o_ys, .ref o_on, .ref o_lasts, .int o_points, .int o_contours, .int o_parts, .ref o_flags, .ref o_readers, .ref o_moves])), (o_on, .inl (cy 2, 256, .inl o_on_f)), (o_flags, .inl (cy 0, 128, .inl o_flags_f)), (a1, .inr (0, [.ref a1_bytes, .int a1_place, .int a1_limit, .int a1_whole])), (a1_bytes, .inl (cy 1, 4096, .inl a1_bytes_f))])) (va_Qi (fun r (_ : Unit) => r = uu.1) (fun _ t => va_P (dC, dI) classes [(o, .inr (2, [.ref o_xs, .ref o_ys, .ref o_on, .ref o_lasts, .int o_points, .int o_contours, .int o_parts, .ref o_flags, .ref o_readers, .ref o_moves])), (o_on, .inl (cy 2, 256, .inl uu.2.1)), (o_flags, .inl (cy 0, 128, .inl uu.2.2.1)), (a1, .inr (0, [.ref a1_bytes, .int uu.2.2.2.1, .int a1_limit, .int uu.2.2.2.2])), (a1_bytes, .inl (cy 1, 4096, .inl a1_bytes_f))] t.heap ∧ va_K (dC, dI) classes (TY cy) t ∧ va_D (va_A [(o, .inr (2, [.ref o_xs, .ref o_ys, .ref o_on, .ref o_lasts, .int o_points, .int o_contours, .int o_parts, .ref o_flags, .ref o_readers, .ref o_moves])), (o_on, .inl (cy 2, 256, .inl o_on_f)), (o_flags, .inl (cy 0, 128, .inl o_flags_f)), (a1, .inr (0, [.ref a1_bytes, .int a1_place, .int a1_limit, .int a1_whole])), (a1_bytes, .inl (cy 1, 4096, .inl a1_bytes_f))] sz) [(o, .inr (2, [.ref o_xs, .ref o_ys, .ref o_on, .ref o_lasts, .int o_points, .int o_contours, .int o_parts, .ref o_flags, .ref o_readers, .ref o_moves])), (o_on, .inl (cy 2, 256, .inl uu.2.1)), (o_flags, .inl (cy 0, 128, .inl uu.2.2.1)), (a1, .inr (0, [.ref a1_bytes, .int uu.2.2.2.1, .int a1_limit, .int uu.2.2.2.2])), (a1_bytes, .inl (cy 1, 4096, .inl a1_bytes_f))]) (va_A [(o, .inr (2, [.ref o_xs, .ref o_ys, .ref o_on, .ref o_lasts, .int o_points, .int o_contours, .int o_parts, .ref o_flags, .ref o_readers, .ref o_moves])), (o_on, .inl (cy 2, 256, .inl o_on_f)), (o_flags, .inl (cy 0, 128, .inl o_flags_f)), (a1, .inr (0, [.ref a1_bytes, .int a1_place, .int a1_limit, .int a1_whole])), (a1_bytes, .inl (cy 1, 4096, .inl a1_bytes_f))] sz)) 0 0 (va_A [(o, .inr (2, [.ref o_xs, .ref o_ys, .ref o_on, .ref o_lasts, .int o_points, .int o_contours, .int o_parts, .ref o_flags, .ref o_readers, .ref o_moves])), (o_on, .inl (cy 2, 256, .inl o_on_f)), (o_flags, .inl (cy 0, 128, .inl o_flags_f)), (a1, .inr (0, [.ref a1_bytes, .int a1_place, .int a1_limit, .int a1_whole])), (a1_bytes, .inl (cy 1, 4096, .inl a1_bytes_f))] sz) := by
  refine Met.ofW (cc := b_Sh_readFlags) (maxL := 6) (ret := (some .boolean)) (by decide) rfl ?_
  intro p e s m args below meth c s₁ B hml hv
  obtain ⟨rfl, hsz, hP, hK, hD0⟩ := hv
  have hx := B.exec
  have hb := B.bytes
  have hr := B.returns
  have hts := atoms_spec (ws := Cond.code y_Sh_readFlags b_Sh_readFlags 6 (some .boolean) :: G) B.pre
  have htsG : ∀ w ∈ G, w.before _ s = true := fun w hw => hts w (List.mem_cons_of_mem _ hw)
  have hown : s.vm.findClass "GlyphPage$Shape" = some m.cls := findClass_of_methodNamed B.named
  have hlocks := B.notSynchronized
  subst hsz
  have hD := hD0.self (sz := s.heap.size)
  generalize hAe : va_A [(o, .inr (2, [.ref o_xs, .ref o_ys, .ref o_on, .ref o_lasts, .int o_points, .int o_contours, .int o_parts, .ref o_flags, .ref o_readers, .ref o_moves])), (o_on, .inl (cy 2, 256, .inl o_on_f)), (o_flags, .inl (cy 0, 128, .inl o_flags_f)), (a1, .inr (0, [.ref a1_bytes, .int a1_place, .int a1_limit, .int a1_whole])), (a1_bytes, .inl (cy 1, 4096, .inl a1_bytes_f))] s.heap.size = A at hD ⊢
  have hA : ∀ q : Nat, s.heap.size ≤ q → A q := fun q h => by rw [← hAe]; exact Or.inr h
  have hS : va_S A s.heap s.heap [] := va_S.rf
  have hl := lv_entry ([.ref o, .ref a1, .int a2]) (n := 6) (Nat.le_of_ble_eq_true rfl)
  rw [lg_entry_eq]
  generalize (lg_sl ([.ref o, .ref a1, .int a2]) ++ List.replicate (6 - (lg_sl ([.ref o, .ref a1, .int a2])).length) Slot.unset).toArray = ls at hl ⊢
  have hl : lv_has ls 6 [(0, .ref o), (1, .ref a1), (2, .int a2)] := hl
  have C0 : Cx p s m _ meth c A dC dI cy b_Sh_readFlags 6 (some .boolean) "GlyphPage$Shape" := ⟨hx, hb, hr, hlocks, hml, hown, htsG, hA, hK⟩
  unfold P_Sh_readFlags at h
  refine lv_iconst (v := (0 : Int32)) hx hb d_Sh_readFlags_0 (by decide) ?_
  refine lv_istore_n (lv' := [(3, .int (0 : Int32)), (0, .ref o), (1, .ref a1), (2, .int a2)]) hx hb d_Sh_readFlags_1 rfl hl (by decide) rfl (fun ls hl => ?_)
  refine lv_iconst (v := (0 : Int32)) hx hb d_Sh_readFlags_2 (by decide) ?_
  refine lv_istore (lv' := [(4, .int (0 : Int32)), (3, .int (0 : Int32)), (0, .ref o), (1, .ref a1), (2, .int a2)]) hx hb d_Sh_readFlags_3 hl (by decide) rfl (fun ls hl => ?_)
  refine lv_iload_n hx hb d_Sh_readFlags_5 rfl (lv_at hl 4 rfl) ?_
  refine lv_istore (lv' := [(5, .int a2), (4, .int (0 : Int32)), (3, .int (0 : Int32)), (0, .ref o), (1, .ref a1), (2, .int a2)]) hx hb d_Sh_readFlags_6 hl (by decide) rfl (fun ls hl => ?_)
  exact w_Sh_readFlags_8 C0 o a1 o_xs o_ys o_on o_lasts o_flags o_readers o_moves a1_bytes o_points o_contours o_parts a1_limit a1_bytes_f a2 uu  a2 (0 : Int32) (0 : Int32) a2 o_on_f o_flags_f a1_place a1_whole h hP hD hS (lv_sub hl [3, 4, 5, 2, 1, 0] rfl)
def P_Sh_readAxis_94 (o_points : Int32) (o_flags_f : Nat → Int32) (a1_limit : Int32) (a1_bytes_f : Nat → Int32) (z6 : Int32 × Int32 × Int32 × Int32 × Int32 × Int32 × Int32 × (Nat → Int32) → Option (Int32 × Int32 × Int32 × (Nat → Int32))) (x2 : Int32) (x4 : Int32) (x5 : Int32) (x6 : Int32) (x7 : Int32) (a1_place : Int32) (a1_whole : Int32) (a3_f : Nat → Int32) : Option (Int32 × Int32 × Int32 × (Nat → Int32)) :=
  (P_Sh_isCoordinate x6).bind fun r_1 => if r_1 = 0 then (some ((0 : Int32), a1_place, a1_whole, a3_f)) else (bd x7 256 <| z6 (x2, x4, x5, x6, (x7 + (1 : Int32)), a1_place, a1_whole, (upd a3_f x7.toNatClampNeg x6)))
set_option maxHeartbeats 4000000 in
set_option maxRecDepth 100000 in
theorem w_Sh_readAxis_94 (C0 : Cx p s m args meth c A dC dI cy b_Sh_readAxis 10 (some .boolean) "GlyphPage$Shape") (o : Nat) (a1 : Nat) (a3 : Nat) (o_xs : Nat) (o_ys : Nat) (o_on : Nat) (o_lasts : Nat) (o_flags : Nat) (o_readers : Nat) (o_moves : Nat) (a1_bytes : Nat) (o_points : Int32) (o_contours : Int32) (o_parts : Int32) (o_flags_f : Nat → Int32) (a1_limit : Int32) (a1_bytes_f : Nat → Int32) (a2 : Int32) (a4 : Int32) (a5 : Int32) (uu : Int32 × Int32 × Int32 × (Nat → Int32)) (z6 : Int32 × Int32 × Int32 × Int32 × Int32 × Int32 × Int32 × (Nat → Int32) → Option (Int32 × Int32 × Int32 × (Nat → Int32))) (hz6 : ∀ (x2 : Int32) (x4 : Int32) (x5 : Int32) (x6 : Int32) (x7 : Int32) (a1_place : Int32) (a1_whole : Int32) (a3_f : Nat → Int32) (H : Heap) (locs : List Loc) (ls : Array Slot), z6 (x2, x4, x5, x6, x7, a1_place, a1_whole, a3_f) = some uu → va_P (dC, dI) classes [(o, .inr (2, [.ref o_xs, .ref o_ys, .ref o_on, .ref o_lasts, .int o_points, .int o_contours, .int o_parts, .ref o_flags, .ref o_readers, .ref o_moves])), (o_flags, .inl (cy 0, 128, .inl o_flags_f)), (a1, .inr (0, [.ref a1_bytes, .int a1_place, .int a1_limit, .int a1_whole])), (a1_bytes, .inl (cy 1, 4096, .inl a1_bytes_f)), (a3, .inl (cy 0, 256, .inl a3_f))] H → va_D A [(o, .inr (2, [.ref o_xs, .ref o_ys, .ref o_on, .ref o_lasts, .int o_points, .int o_contours, .int o_parts, .ref o_flags, .ref o_readers, .ref o_moves])), (o_flags, .inl (cy 0, 128, .inl o_flags_f)), (a1, .inr (0, [.ref a1_bytes, .int a1_place, .int a1_limit, .int a1_whole])), (a1_bytes, .inl (cy 1, 4096, .inl a1_bytes_f)), (a3, .inl (cy 0, 256, .inl a3_f))] → va_S A s.heap H locs → lv_has ls 10 [(0, .ref o), (1, .ref a1), (2, .int x2), (3, .ref a3), (4, .int x4), (5, .int x5), (6, .int x6), (7, .int x7)] → W p l e ({ frames := 1, cells := 0, slots := 0, locals := 20 } : Room) s m args below meth c H locs 0 0 (MQ below (va_Qi (fun r (_ : Unit) => r = uu.1) (fun _ t => va_P (dC, dI) classes [(o, .inr (2, [.ref o_xs, .ref o_ys, .ref o_on, .ref o_lasts, .int o_points, .int o_contours, .int o_parts, .ref o_flags, .ref o_readers, .ref o_moves])), (o_flags, .inl (cy 0, 128, .inl o_flags_f)), (a1, .inr (0, [.ref a1_bytes, .int uu.2.1, .int a1_limit, .int uu.2.2.1])), (a1_bytes, .inl (cy 1, 4096, .inl a1_bytes_f)), (a3, .inl (cy 0, 256, .inl uu.2.2.2))] t.heap ∧ va_K (dC, dI) classes (TY cy) t ∧ va_D A [(o, .inr (2, [.ref o_xs, .ref o_ys, .ref o_on, .ref o_lasts, .int o_points, .int o_contours, .int o_parts, .ref o_flags, .ref o_readers, .ref o_moves])), (o_flags, .inl (cy 0, 128, .inl o_flags_f)), (a1, .inr (0, [.ref a1_bytes, .int uu.2.1, .int a1_limit, .int uu.2.2.1])), (a1_bytes, .inl (cy 1, 4096, .inl a1_bytes_f)), (a3, .inl (cy 0, 256, .inl uu.2.2.2))]) A) args s 0 0 A) (F0 m 6 ls [])) (x2 : Int32) (x4 : Int32) (x5 : Int32) (x6 : Int32) (x7 : Int32) (a1_place : Int32) (a1_whole : Int32) (a3_f : Nat → Int32) {H : Heap} {locs : List Loc} {ls : Array Slot} (h : P_Sh_readAxis_94 o_points o_flags_f a1_limit a1_bytes_f z6 x2 x4 x5 x6 x7 a1_place a1_whole a3_f = some uu) : va_P (dC, dI) classes [(o, .inr (2, [.ref o_xs, .ref o_ys, .ref o_on, .ref o_lasts, .int o_points, .int o_contours, .int o_parts, .ref o_flags, .ref o_readers, .ref o_moves])), (o_flags, .inl (cy 0, 128, .inl o_flags_f)), (a1, .inr (0, [.ref a1_bytes, .int a1_place, .int a1_limit, .int a1_whole])), (a1_bytes, .inl (cy 1, 4096, .inl a1_bytes_f)), (a3, .inl (cy 0, 256, .inl a3_f))] H → va_D A [(o, .inr (2, [.ref o_xs, .ref o_ys, .ref o_on, .ref o_lasts, .int o_points, .int o_contours, .int o_parts, .ref o_flags, .ref o_readers, .ref o_moves])), (o_flags, .inl (cy 0, 128, .inl o_flags_f)), (a1, .inr (0, [.ref a1_bytes, .int a1_place, .int a1_limit, .int a1_whole])), (a1_bytes, .inl (cy 1, 4096, .inl a1_bytes_f)), (a3, .inl (cy 0, 256, .inl a3_f))] → va_S A s.heap H locs → lv_has ls 10 [(0, .ref o), (1, .ref a1), (2, .int x2), (3, .ref a3), (4, .int x4), (5, .int x5), (6, .int x6), (7, .int x7)] → W p l e ({ frames := 1, cells := 0, slots := 0, locals := 20 } : Room) s m args below meth c H locs 0 0 (MQ below (va_Qi (fun r (_ : Unit) => r = uu.1) (fun _ t => va_P (dC, dI) classes [(o, .inr (2, [.ref o_xs, .ref o_ys, .ref o_on, .ref o_lasts, .int o_points, .int o_contours, .int o_parts, .ref o_flags, .ref o_readers, .ref o_moves])), (o_flags, .inl (cy 0, 128, .inl o_flags_f)), (a1, .inr (0, [.ref a1_bytes, .int uu.2.1, .int a1_limit, .int uu.2.2.1])), (a1_bytes, .inl (cy 1, 4096, .inl a1_bytes_f)), (a3, .inl (cy 0, 256, .inl uu.2.2.2))] t.heap ∧ va_K (dC, dI) classes (TY cy) t ∧ va_D A [(o, .inr (2, [.ref o_xs, .ref o_ys, .ref o_on, .ref o_lasts, .int o_points, .int o_contours, .int o_parts, .ref o_flags, .ref o_readers, .ref o_moves])), (o_flags, .inl (cy 0, 128, .inl o_flags_f)), (a1, .inr (0, [.ref a1_bytes, .int uu.2.1, .int a1_limit, .int uu.2.2.1])), (a1_bytes, .inl (cy 1, 4096, .inl a1_bytes_f)), (a3, .inl (cy 0, 256, .inl uu.2.2.2))]) A) args s 0 0 A) (F0 m 94 ls []) := by
  intro hP hD hS hl
  obtain ⟨hx, hb, hr, hlocks, hml, hown, htsG, hA, hK⟩ := id C0
  unfold P_Sh_readAxis_94 at h
  refine lv_iload hx hb d_Sh_readAxis_94 (lv_at hl 6 rfl) ?_
  obtain ⟨r_1, hq, h⟩ := Option.bind_eq_some_iff.mp h
  try dsimp only at h
  have hPc := hP.sub (ws' := []) [] rfl
  have hDc := hD.sub (ws' := []) [] (by decide) rfl
  have hFc := va_free (wc := []) hD hS hA [] rfl
  refine va_calli (va_runS (As := [.int x6]) (rest := []) ⟨hx, hb, hml, hown, htsG⟩ (c_Sh_isCoordinate l dC dI cy H.size x6 r_1 hq) (va_cwS 1 htsG (gS mW491 mW492 mW2 mW493) rfl rfl rfl (by decide +kernel) ⟨Nat.le_of_ble_eq_true rfl, Nat.le_of_ble_eq_true rfl⟩) ⟨fun a U g mk q => by obtain ⟨q0, q1, qP, qK, qD⟩ := q; exact ⟨q0, q1, qP, va_K.moved (u := U) (U := U.calling g mk a) (Vm.Alike.refl U.vm) qK, qD⟩, fun U hU hW => ⟨rfl, by rw [hU], by rw [hU]; exact hPc, va_K.moved hW.alike hK, hDc.weaken (fun _ _ _ _ => trivial)⟩⟩ rfl rfl hl.1 rfl (lv_room (Nat.le_of_ble_eq_true rfl)) d_Sh_readAxis_96 ⟨Nat.le_of_ble_eq_true rfl, Nat.le_of_ble_eq_true rfl⟩) hS (fun q _ h => hFc q h) hFc (fun rr u t H1 locs ht hvm hw hB hz1 hk1 hS => ?_)
  obtain ⟨hP1, hK1, hD1⟩ := hB
  rw [ht] at hP1
  replace hw : r_1 = rr := hw.symm
  subst hw
  obtain ⟨hP, hD⟩ := va_join (wr := [(o, .inr (2, [.ref o_xs, .ref o_ys, .ref o_on, .ref o_lasts, .int o_points, .int o_contours, .int o_parts, .ref o_flags, .ref o_readers, .ref o_moves])), (o_flags, .inl (cy 0, 128, .inl o_flags_f)), (a1, .inr (0, [.ref a1_bytes, .int a1_place, .int a1_limit, .int a1_whole])), (a1_bytes, .inl (cy 1, 4096, .inl a1_bytes_f)), (a3, .inl (cy 0, 256, .inl a3_f))]) (w1 := []) hP hD [] [0, 1, 2, 3, 4] rfl rfl (by decide) (by decide) hk1 hFc hP1 hD1
  generalize H1 = H at hP hS ⊢
  have hP := hP.sub (ws' := [(o, .inr (2, [.ref o_xs, .ref o_ys, .ref o_on, .ref o_lasts, .int o_points, .int o_contours, .int o_parts, .ref o_flags, .ref o_readers, .ref o_moves])), (o_flags, .inl (cy 0, 128, .inl o_flags_f)), (a1, .inr (0, [.ref a1_bytes, .int a1_place, .int a1_limit, .int a1_whole])), (a1_bytes, .inl (cy 1, 4096, .inl a1_bytes_f)), (a3, .inl (cy 0, 256, .inl a3_f))]) [0, 1, 2, 3, 4] rfl
  have hD := hD.sub (ws' := [(o, .inr (2, [.ref o_xs, .ref o_ys, .ref o_on, .ref o_lasts, .int o_points, .int o_contours, .int o_parts, .ref o_flags, .ref o_readers, .ref o_moves])), (o_flags, .inl (cy 0, 128, .inl o_flags_f)), (a1, .inr (0, [.ref a1_bytes, .int a1_place, .int a1_limit, .int a1_whole])), (a1_bytes, .inl (cy 1, 4096, .inl a1_bytes_f)), (a3, .inl (cy 0, 256, .inl a3_f))]) [0, 1, 2, 3, 4] (by decide) rfl
  refine W.widen (k := 0) (n := 0) (by decide) (by decide) ?_
  refine lv_if_ne (tgt := 104) hx hb d_Sh_readAxis_99 (by decide) (fun c_2 => ?_) (fun c_2 => ?_)
  · replace h := (if_neg c_2).symm.trans h
    refine lv_aload_n hx hb d_Sh_readAxis_104 rfl (lv_at hl 3 rfl) ?_
    refine lv_iload hx hb d_Sh_readAxis_105 (lv_at hl 7 rfl) ?_
    refine lv_iload hx hb d_Sh_readAxis_107 (lv_at hl 6 rfl) ?_
    obtain ⟨hin_3, h⟩ := bd_some h
    refine va_iast hx hb hK hP hD hS 4 0 rfl rfl hin_3 d_Sh_readAxis_109 (fun H locs hP hD hS => ?_)
    have hP : va_P (dC, dI) classes [(o, .inr (2, [.ref o_xs, .ref o_ys, .ref o_on, .ref o_lasts, .int o_points, .int o_contours, .int o_parts, .ref o_flags, .ref o_readers, .ref o_moves])), (o_flags, .inl (cy 0, 128, .inl o_flags_f)), (a1, .inr (0, [.ref a1_bytes, .int a1_place, .int a1_limit, .int a1_whole])), (a1_bytes, .inl (cy 1, 4096, .inl a1_bytes_f)), (a3, .inl (cy 0, 256, .inl (upd a3_f x7.toNatClampNeg x6)))] H := hP
    have hD : va_D A [(o, .inr (2, [.ref o_xs, .ref o_ys, .ref o_on, .ref o_lasts, .int o_points, .int o_contours, .int o_parts, .ref o_flags, .ref o_readers, .ref o_moves])), (o_flags, .inl (cy 0, 128, .inl o_flags_f)), (a1, .inr (0, [.ref a1_bytes, .int a1_place, .int a1_limit, .int a1_whole])), (a1_bytes, .inl (cy 1, 4096, .inl a1_bytes_f)), (a3, .inl (cy 0, 256, .inl (upd a3_f x7.toNatClampNeg x6)))] := hD
    refine lv_iinc (v := (x7 + (1 : Int32))) (lv' := [(7, .int (x7 + (1 : Int32))), (0, .ref o), (1, .ref a1), (2, .int x2), (3, .ref a3), (4, .int x4), (5, .int x5), (6, .int x6)]) hx hb d_Sh_readAxis_110 hl (k := 7) rfl rfl (by decide) rfl (fun ls hl => ?_)
    refine lv_goto (tgt := 6) hx hb d_Sh_readAxis_113 (by decide) ?_
    exact hz6 x2 x4 x5 x6 (x7 + (1 : Int32)) a1_place a1_whole (upd a3_f x7.toNatClampNeg x6) _ _ _ h hP hD hS (lv_sub hl [1, 2, 3, 4, 5, 6, 7, 0] rfl)
  · replace h := (if_pos c_2).symm.trans h
    refine lv_iconst (v := (0 : Int32)) hx hb d_Sh_readAxis_102 (by decide) ?_
    cases h
    exact W.zret (ty := .boolean) hx hb hr rfl (fun t ht hW => ⟨⟨_, (), rfl, rfl, by rw [ht]; exact hP, va_K.moved hW.alike hK, hD⟩, hS.F ht⟩) hS.2.2 d_Sh_readAxis_103 hlocks
def P_Sh_readAxis_73 (o_points : Int32) (o_flags_f : Nat → Int32) (a1_limit : Int32) (a1_bytes_f : Nat → Int32) (z6 : Int32 × Int32 × Int32 × Int32 × Int32 × Int32 × Int32 × (Nat → Int32) → Option (Int32 × Int32 × Int32 × (Nat → Int32))) (x2 : Int32) (x4 : Int32) (x5 : Int32) (x7 : Int32) (k0 : Int32) (k1 : Int32) (a1_place : Int32) (a1_whole : Int32) (a3_f : Nat → Int32) : Option (Int32 × Int32 × Int32 × (Nat → Int32)) :=
  P_Sh_readAxis_94 o_points o_flags_f a1_limit a1_bytes_f z6 x2 x4 x5 (k1 + k0) x7 a1_place a1_whole a3_f
set_option maxHeartbeats 4000000 in
set_option maxRecDepth 100000 in
theorem w_Sh_readAxis_73 (C0 : Cx p s m args meth c A dC dI cy b_Sh_readAxis 10 (some .boolean) "GlyphPage$Shape") (o : Nat) (a1 : Nat) (a3 : Nat) (o_xs : Nat) (o_ys : Nat) (o_on : Nat) (o_lasts : Nat) (o_flags : Nat) (o_readers : Nat) (o_moves : Nat) (a1_bytes : Nat) (o_points : Int32) (o_contours : Int32) (o_parts : Int32) (o_flags_f : Nat → Int32) (a1_limit : Int32) (a1_bytes_f : Nat → Int32) (a2 : Int32) (a4 : Int32) (a5 : Int32) (uu : Int32 × Int32 × Int32 × (Nat → Int32)) (z6 : Int32 × Int32 × Int32 × Int32 × Int32 × Int32 × Int32 × (Nat → Int32) → Option (Int32 × Int32 × Int32 × (Nat → Int32))) (hz6 : ∀ (x2 : Int32) (x4 : Int32) (x5 : Int32) (x6 : Int32) (x7 : Int32) (a1_place : Int32) (a1_whole : Int32) (a3_f : Nat → Int32) (H : Heap) (locs : List Loc) (ls : Array Slot), z6 (x2, x4, x5, x6, x7, a1_place, a1_whole, a3_f) = some uu → va_P (dC, dI) classes [(o, .inr (2, [.ref o_xs, .ref o_ys, .ref o_on, .ref o_lasts, .int o_points, .int o_contours, .int o_parts, .ref o_flags, .ref o_readers, .ref o_moves])), (o_flags, .inl (cy 0, 128, .inl o_flags_f)), (a1, .inr (0, [.ref a1_bytes, .int a1_place, .int a1_limit, .int a1_whole])), (a1_bytes, .inl (cy 1, 4096, .inl a1_bytes_f)), (a3, .inl (cy 0, 256, .inl a3_f))] H → va_D A [(o, .inr (2, [.ref o_xs, .ref o_ys, .ref o_on, .ref o_lasts, .int o_points, .int o_contours, .int o_parts, .ref o_flags, .ref o_readers, .ref o_moves])), (o_flags, .inl (cy 0, 128, .inl o_flags_f)), (a1, .inr (0, [.ref a1_bytes, .int a1_place, .int a1_limit, .int a1_whole])), (a1_bytes, .inl (cy 1, 4096, .inl a1_bytes_f)), (a3, .inl (cy 0, 256, .inl a3_f))] → va_S A s.heap H locs → lv_has ls 10 [(0, .ref o), (1, .ref a1), (2, .int x2), (3, .ref a3), (4, .int x4), (5, .int x5), (6, .int x6), (7, .int x7)] → W p l e ({ frames := 1, cells := 0, slots := 0, locals := 20 } : Room) s m args below meth c H locs 0 0 (MQ below (va_Qi (fun r (_ : Unit) => r = uu.1) (fun _ t => va_P (dC, dI) classes [(o, .inr (2, [.ref o_xs, .ref o_ys, .ref o_on, .ref o_lasts, .int o_points, .int o_contours, .int o_parts, .ref o_flags, .ref o_readers, .ref o_moves])), (o_flags, .inl (cy 0, 128, .inl o_flags_f)), (a1, .inr (0, [.ref a1_bytes, .int uu.2.1, .int a1_limit, .int uu.2.2.1])), (a1_bytes, .inl (cy 1, 4096, .inl a1_bytes_f)), (a3, .inl (cy 0, 256, .inl uu.2.2.2))] t.heap ∧ va_K (dC, dI) classes (TY cy) t ∧ va_D A [(o, .inr (2, [.ref o_xs, .ref o_ys, .ref o_on, .ref o_lasts, .int o_points, .int o_contours, .int o_parts, .ref o_flags, .ref o_readers, .ref o_moves])), (o_flags, .inl (cy 0, 128, .inl o_flags_f)), (a1, .inr (0, [.ref a1_bytes, .int uu.2.1, .int a1_limit, .int uu.2.2.1])), (a1_bytes, .inl (cy 1, 4096, .inl a1_bytes_f)), (a3, .inl (cy 0, 256, .inl uu.2.2.2))]) A) args s 0 0 A) (F0 m 6 ls [])) (x2 : Int32) (x4 : Int32) (x5 : Int32) (x7 : Int32) (k0 : Int32) (k1 : Int32) (a1_place : Int32) (a1_whole : Int32) (a3_f : Nat → Int32) {H : Heap} {locs : List Loc} {ls : Array Slot} (h : P_Sh_readAxis_73 o_points o_flags_f a1_limit a1_bytes_f z6 x2 x4 x5 x7 k0 k1 a1_place a1_whole a3_f = some uu) : va_P (dC, dI) classes [(o, .inr (2, [.ref o_xs, .ref o_ys, .ref o_on, .ref o_lasts, .int o_points, .int o_contours, .int o_parts, .ref o_flags, .ref o_readers, .ref o_moves])), (o_flags, .inl (cy 0, 128, .inl o_flags_f)), (a1, .inr (0, [.ref a1_bytes, .int a1_place, .int a1_limit, .int a1_whole])), (a1_bytes, .inl (cy 1, 4096, .inl a1_bytes_f)), (a3, .inl (cy 0, 256, .inl a3_f))] H → va_D A [(o, .inr (2, [.ref o_xs, .ref o_ys, .ref o_on, .ref o_lasts, .int o_points, .int o_contours, .int o_parts, .ref o_flags, .ref o_readers, .ref o_moves])), (o_flags, .inl (cy 0, 128, .inl o_flags_f)), (a1, .inr (0, [.ref a1_bytes, .int a1_place, .int a1_limit, .int a1_whole])), (a1_bytes, .inl (cy 1, 4096, .inl a1_bytes_f)), (a3, .inl (cy 0, 256, .inl a3_f))] → va_S A s.heap H locs → lv_has ls 10 [(0, .ref o), (1, .ref a1), (2, .int x2), (3, .ref a3), (4, .int x4), (5, .int x5), (7, .int x7)] → W p l e ({ frames := 1, cells := 0, slots := 0, locals := 20 } : Room) s m args below meth c H locs 0 0 (MQ below (va_Qi (fun r (_ : Unit) => r = uu.1) (fun _ t => va_P (dC, dI) classes [(o, .inr (2, [.ref o_xs, .ref o_ys, .ref o_on, .ref o_lasts, .int o_points, .int o_contours, .int o_parts, .ref o_flags, .ref o_readers, .ref o_moves])), (o_flags, .inl (cy 0, 128, .inl o_flags_f)), (a1, .inr (0, [.ref a1_bytes, .int uu.2.1, .int a1_limit, .int uu.2.2.1])), (a1_bytes, .inl (cy 1, 4096, .inl a1_bytes_f)), (a3, .inl (cy 0, 256, .inl uu.2.2.2))] t.heap ∧ va_K (dC, dI) classes (TY cy) t ∧ va_D A [(o, .inr (2, [.ref o_xs, .ref o_ys, .ref o_on, .ref o_lasts, .int o_points, .int o_contours, .int o_parts, .ref o_flags, .ref o_readers, .ref o_moves])), (o_flags, .inl (cy 0, 128, .inl o_flags_f)), (a1, .inr (0, [.ref a1_bytes, .int uu.2.1, .int a1_limit, .int uu.2.2.1])), (a1_bytes, .inl (cy 1, 4096, .inl a1_bytes_f)), (a3, .inl (cy 0, 256, .inl uu.2.2.2))]) A) args s 0 0 A) (F0 m 73 ls [.int k0, .int k1]) := by
  intro hP hD hS hl
  obtain ⟨hx, hb, hr, hlocks, hml, hown, htsG, hA, hK⟩ := id C0
  unfold P_Sh_readAxis_73 at h
  refine lv_iadd hx hb d_Sh_readAxis_73 ?_
  refine lv_istore (lv' := [(6, .int (k1 + k0)), (0, .ref o), (1, .ref a1), (2, .int x2), (3, .ref a3), (4, .int x4), (5, .int x5), (7, .int x7)]) hx hb d_Sh_readAxis_74 hl (by decide) rfl (fun ls hl => ?_)
  refine lv_goto (tgt := 94) hx hb d_Sh_readAxis_76 (by decide) ?_
  exact w_Sh_readAxis_94 C0 o a1 a3 o_xs o_ys o_on o_lasts o_flags o_readers o_moves a1_bytes o_points o_contours o_parts o_flags_f a1_limit a1_bytes_f a2 a4 a5 uu z6 hz6 x2 x4 x5 (k1 + k0) x7 a1_place a1_whole a3_f h hP hD hS (lv_sub hl [1, 2, 3, 4, 5, 6, 0, 7] rfl)
def P_Sh_readAxis_35 (o_points : Int32) (o_flags_f : Nat → Int32) (a1_limit : Int32) (a1_bytes_f : Nat → Int32) (z6 : Int32 × Int32 × Int32 × Int32 × Int32 × Int32 × Int32 × (Nat → Int32) → Option (Int32 × Int32 × Int32 × (Nat → Int32))) (x2 : Int32) (x4 : Int32) (x5 : Int32) (x6 : Int32) (x7 : Int32) (k0 : Int32) (a1_place : Int32) (a1_whole : Int32) (a3_f : Nat → Int32) : Option (Int32 × Int32 × Int32 × (Nat → Int32)) :=
  bd (x7 - x2) 128 <| if ((o_flags_f (x7 - x2).toNatClampNeg) &&& x4) = 0 then (if k0 = 0 then ((P_Rd_two a1_place a1_limit a1_whole a1_bytes_f).bind <| unp fun r_4 => unp fun n_5 n_6 => P_Sh_readAxis_94 o_points o_flags_f a1_limit a1_bytes_f z6 x2 x4 x5 (x6 + (r_4.toInt16.toInt32)) x7 n_5 n_6 a3_f) else (P_Sh_readAxis_94 o_points o_flags_f a1_limit a1_bytes_f z6 x2 x4 x5 x6 x7 a1_place a1_whole a3_f)) else ((P_Rd_one a1_place a1_limit a1_whole a1_bytes_f).bind <| unp fun r_7 => unp fun n_8 n_9 => if k0 = 0 then (P_Sh_readAxis_73 o_points o_flags_f a1_limit a1_bytes_f z6 x2 x4 x5 x7 (-r_7) x6 n_8 n_9 a3_f) else (P_Sh_readAxis_73 o_points o_flags_f a1_limit a1_bytes_f z6 x2 x4 x5 x7 r_7 x6 n_8 n_9 a3_f))
set_option maxHeartbeats 4000000 in
set_option maxRecDepth 100000 in
theorem w_Sh_readAxis_35 (C0 : Cx p s m args meth c A dC dI cy b_Sh_readAxis 10 (some .boolean) "GlyphPage$Shape") (o : Nat) (a1 : Nat) (a3 : Nat) (o_xs : Nat) (o_ys : Nat) (o_on : Nat) (o_lasts : Nat) (o_flags : Nat) (o_readers : Nat) (o_moves : Nat) (a1_bytes : Nat) (o_points : Int32) (o_contours : Int32) (o_parts : Int32) (o_flags_f : Nat → Int32) (a1_limit : Int32) (a1_bytes_f : Nat → Int32) (a2 : Int32) (a4 : Int32) (a5 : Int32) (uu : Int32 × Int32 × Int32 × (Nat → Int32)) (z6 : Int32 × Int32 × Int32 × Int32 × Int32 × Int32 × Int32 × (Nat → Int32) → Option (Int32 × Int32 × Int32 × (Nat → Int32))) (hz6 : ∀ (x2 : Int32) (x4 : Int32) (x5 : Int32) (x6 : Int32) (x7 : Int32) (a1_place : Int32) (a1_whole : Int32) (a3_f : Nat → Int32) (H : Heap) (locs : List Loc) (ls : Array Slot), z6 (x2, x4, x5, x6, x7, a1_place, a1_whole, a3_f) = some uu → va_P (dC, dI) classes [(o, .inr (2, [.ref o_xs, .ref o_ys, .ref o_on, .ref o_lasts, .int o_points, .int o_contours, .int o_parts, .ref o_flags, .ref o_readers, .ref o_moves])), (o_flags, .inl (cy 0, 128, .inl o_flags_f)), (a1, .inr (0, [.ref a1_bytes, .int a1_place, .int a1_limit, .int a1_whole])), (a1_bytes, .inl (cy 1, 4096, .inl a1_bytes_f)), (a3, .inl (cy 0, 256, .inl a3_f))] H → va_D A [(o, .inr (2, [.ref o_xs, .ref o_ys, .ref o_on, .ref o_lasts, .int o_points, .int o_contours, .int o_parts, .ref o_flags, .ref o_readers, .ref o_moves])), (o_flags, .inl (cy 0, 128, .inl o_flags_f)), (a1, .inr (0, [.ref a1_bytes, .int a1_place, .int a1_limit, .int a1_whole])), (a1_bytes, .inl (cy 1, 4096, .inl a1_bytes_f)), (a3, .inl (cy 0, 256, .inl a3_f))] → va_S A s.heap H locs → lv_has ls 10 [(0, .ref o), (1, .ref a1), (2, .int x2), (3, .ref a3), (4, .int x4), (5, .int x5), (6, .int x6), (7, .int x7)] → W p l e ({ frames := 1, cells := 0, slots := 0, locals := 20 } : Room) s m args below meth c H locs 0 0 (MQ below (va_Qi (fun r (_ : Unit) => r = uu.1) (fun _ t => va_P (dC, dI) classes [(o, .inr (2, [.ref o_xs, .ref o_ys, .ref o_on, .ref o_lasts, .int o_points, .int o_contours, .int o_parts, .ref o_flags, .ref o_readers, .ref o_moves])), (o_flags, .inl (cy 0, 128, .inl o_flags_f)), (a1, .inr (0, [.ref a1_bytes, .int uu.2.1, .int a1_limit, .int uu.2.2.1])), (a1_bytes, .inl (cy 1, 4096, .inl a1_bytes_f)), (a3, .inl (cy 0, 256, .inl uu.2.2.2))] t.heap ∧ va_K (dC, dI) classes (TY cy) t ∧ va_D A [(o, .inr (2, [.ref o_xs, .ref o_ys, .ref o_on, .ref o_lasts, .int o_points, .int o_contours, .int o_parts, .ref o_flags, .ref o_readers, .ref o_moves])), (o_flags, .inl (cy 0, 128, .inl o_flags_f)), (a1, .inr (0, [.ref a1_bytes, .int uu.2.1, .int a1_limit, .int uu.2.2.1])), (a1_bytes, .inl (cy 1, 4096, .inl a1_bytes_f)), (a3, .inl (cy 0, 256, .inl uu.2.2.2))]) A) args s 0 0 A) (F0 m 6 ls [])) (x2 : Int32) (x4 : Int32) (x5 : Int32) (x6 : Int32) (x7 : Int32) (k0 : Int32) (a1_place : Int32) (a1_whole : Int32) (a3_f : Nat → Int32) {H : Heap} {locs : List Loc} {ls : Array Slot} (h : P_Sh_readAxis_35 o_points o_flags_f a1_limit a1_bytes_f z6 x2 x4 x5 x6 x7 k0 a1_place a1_whole a3_f = some uu) : va_P (dC, dI) classes [(o, .inr (2, [.ref o_xs, .ref o_ys, .ref o_on, .ref o_lasts, .int o_points, .int o_contours, .int o_parts, .ref o_flags, .ref o_readers, .ref o_moves])), (o_flags, .inl (cy 0, 128, .inl o_flags_f)), (a1, .inr (0, [.ref a1_bytes, .int a1_place, .int a1_limit, .int a1_whole])), (a1_bytes, .inl (cy 1, 4096, .inl a1_bytes_f)), (a3, .inl (cy 0, 256, .inl a3_f))] H → va_D A [(o, .inr (2, [.ref o_xs, .ref o_ys, .ref o_on, .ref o_lasts, .int o_points, .int o_contours, .int o_parts, .ref o_flags, .ref o_readers, .ref o_moves])), (o_flags, .inl (cy 0, 128, .inl o_flags_f)), (a1, .inr (0, [.ref a1_bytes, .int a1_place, .int a1_limit, .int a1_whole])), (a1_bytes, .inl (cy 1, 4096, .inl a1_bytes_f)), (a3, .inl (cy 0, 256, .inl a3_f))] → va_S A s.heap H locs → lv_has ls 10 [(0, .ref o), (1, .ref a1), (2, .int x2), (3, .ref a3), (4, .int x4), (5, .int x5), (6, .int x6), (7, .int x7)] → W p l e ({ frames := 1, cells := 0, slots := 0, locals := 20 } : Room) s m args below meth c H locs 0 0 (MQ below (va_Qi (fun r (_ : Unit) => r = uu.1) (fun _ t => va_P (dC, dI) classes [(o, .inr (2, [.ref o_xs, .ref o_ys, .ref o_on, .ref o_lasts, .int o_points, .int o_contours, .int o_parts, .ref o_flags, .ref o_readers, .ref o_moves])), (o_flags, .inl (cy 0, 128, .inl o_flags_f)), (a1, .inr (0, [.ref a1_bytes, .int uu.2.1, .int a1_limit, .int uu.2.2.1])), (a1_bytes, .inl (cy 1, 4096, .inl a1_bytes_f)), (a3, .inl (cy 0, 256, .inl uu.2.2.2))] t.heap ∧ va_K (dC, dI) classes (TY cy) t ∧ va_D A [(o, .inr (2, [.ref o_xs, .ref o_ys, .ref o_on, .ref o_lasts, .int o_points, .int o_contours, .int o_parts, .ref o_flags, .ref o_readers, .ref o_moves])), (o_flags, .inl (cy 0, 128, .inl o_flags_f)), (a1, .inr (0, [.ref a1_bytes, .int uu.2.1, .int a1_limit, .int uu.2.2.1])), (a1_bytes, .inl (cy 1, 4096, .inl a1_bytes_f)), (a3, .inl (cy 0, 256, .inl uu.2.2.2))]) A) args s 0 0 A) (F0 m 35 ls [.int k0]) := by
  intro hP hD hS hl
  obtain ⟨hx, hb, hr, hlocks, hml, hown, htsG, hA, hK⟩ := id C0
  unfold P_Sh_readAxis_35 at h
  refine lv_istore (lv' := [(8, .int k0), (0, .ref o), (1, .ref a1), (2, .int x2), (3, .ref a3), (4, .int x4), (5, .int x5), (6, .int x6), (7, .int x7)]) hx hb d_Sh_readAxis_35 hl (by decide) rfl (fun ls hl => ?_)
  refine lv_aload_n hx hb d_Sh_readAxis_37 rfl (lv_at hl 1 rfl) ?_
  refine va_get (D := (dC, dI)) (ci := 2) (v := .ref o_flags) (C := "GlyphPage$Shape") (T := F_Sh) (N := 10) hx hb htsG iG_Sh hown hK hP 0 rfl rfl 7 (by decide) (htsG _ mW102) (fun _ h9 => h9) rfl d_Sh_readAxis_38 ?_
  refine lv_iload hx hb d_Sh_readAxis_41 (lv_at hl 8 rfl) ?_
  refine lv_iload_n hx hb d_Sh_readAxis_43 rfl (lv_at hl 3 rfl) ?_
  refine lv_isub hx hb d_Sh_readAxis_44 ?_
  obtain ⟨hin_1, h⟩ := bd_some h
  refine va_iald hx hb hK hP 1 0 rfl rfl hin_1 d_Sh_readAxis_45 ?_
  refine lv_iload hx hb d_Sh_readAxis_46 (lv_at hl 5 rfl) ?_
  refine lv_iand hx hb d_Sh_readAxis_48 ?_
  refine lv_if_eq (tgt := 79) hx hb d_Sh_readAxis_49 (by decide) (fun c_2 => ?_) (fun c_2 => ?_)
  · replace h := (if_pos c_2).symm.trans h
    refine lv_iload hx hb d_Sh_readAxis_79 (lv_at hl 0 rfl) ?_
    refine lv_if_ne (tgt := 94) hx hb d_Sh_readAxis_81 (by decide) (fun c_3 => ?_) (fun c_3 => ?_)
    · replace h := (if_neg c_3).symm.trans h
      exact w_Sh_readAxis_94 C0 o a1 a3 o_xs o_ys o_on o_lasts o_flags o_readers o_moves a1_bytes o_points o_contours o_parts o_flags_f a1_limit a1_bytes_f a2 a4 a5 uu z6 hz6 x2 x4 x5 x6 x7 a1_place a1_whole a3_f h hP hD hS (lv_sub hl [1, 2, 3, 4, 5, 6, 7, 8] rfl)
    · replace h := (if_pos c_3).symm.trans h
      refine lv_iload hx hb d_Sh_readAxis_84 (lv_at hl 7 rfl) ?_
      refine lv_aload_n hx hb d_Sh_readAxis_86 rfl (lv_at hl 2 rfl) ?_
      obtain ⟨⟨r_4, n_5, n_6⟩, hq, h⟩ := Option.bind_eq_some_iff.mp h
      dsimp only [unp] at h
      have hPc := hP.sub (ws' := [(a1, .inr (0, [.ref a1_bytes, .int a1_place, .int a1_limit, .int a1_whole])), (a1_bytes, .inl (cy 1, 4096, .inl a1_bytes_f))]) [2, 3] rfl
      have hDc := hD.sub (ws' := [(a1, .inr (0, [.ref a1_bytes, .int a1_place, .int a1_limit, .int a1_whole])), (a1_bytes, .inl (cy 1, 4096, .inl a1_bytes_f))]) [2, 3] (by decide) rfl
      have hFc := va_free (wc := [(a1, .inr (0, [.ref a1_bytes, .int a1_place, .int a1_limit, .int a1_whole])), (a1_bytes, .inl (cy 1, 4096, .inl a1_bytes_f))]) hD hS hA [2, 3] rfl
      refine va_calli (va_runV (As := []) (rest := [.int x6]) ⟨hx, hb, hml, hown, htsG⟩ (c_Rd_two l dC dI cy H.size a1 a1_bytes a1_place a1_limit a1_whole a1_bytes_f (r_4, n_5, n_6) hq) (cwV 0 htsG (gV mW453 mW454 mW455 mW3 mW456) rfl rfl rfl (by decide +kernel) ⟨Nat.le_of_ble_eq_true rfl, Nat.le_of_ble_eq_true rfl⟩) ⟨fun a U g mk q => by obtain ⟨q0, q1, qP, qK, qD⟩ := q; exact ⟨q0, q1, qP, va_K.moved (u := U) (U := U.calling g mk a) (Vm.Alike.refl U.vm) qK, qD⟩, va_recv hK hPc (ci := 0) (q0 := 0) rfl rfl, fun U hU hW => ⟨rfl, by rw [hU], by rw [hU]; exact hPc, va_K.moved hW.alike hK, hDc.weaken (fun _ _ _ _ => trivial)⟩⟩ rfl rfl hl.1 rfl (lv_room (Nat.le_of_ble_eq_true rfl)) d_Sh_readAxis_87 ⟨Nat.le_of_ble_eq_true rfl, Nat.le_of_ble_eq_true rfl⟩) hS (fun q _ h => hFc q h) hFc (fun rr u t H1 locs ht hvm hw hB hz1 hk1 hS => ?_)
      obtain ⟨hP1, hK1, hD1⟩ := hB
      rw [ht] at hP1
      replace hw : r_4 = rr := hw.symm
      subst hw
      obtain ⟨hP, hD⟩ := va_join (wr := [(o, .inr (2, [.ref o_xs, .ref o_ys, .ref o_on, .ref o_lasts, .int o_points, .int o_contours, .int o_parts, .ref o_flags, .ref o_readers, .ref o_moves])), (o_flags, .inl (cy 0, 128, .inl o_flags_f)), (a3, .inl (cy 0, 256, .inl a3_f))]) (w1 := [(a1, .inr (0, [.ref a1_bytes, .int n_5, .int a1_limit, .int n_6])), (a1_bytes, .inl (cy 1, 4096, .inl a1_bytes_f))]) hP hD [2, 3] [0, 1, 4] rfl rfl (by decide) (by decide) hk1 hFc hP1 hD1
      generalize H1 = H at hP hS ⊢
      have hP := hP.sub (ws' := [(o, .inr (2, [.ref o_xs, .ref o_ys, .ref o_on, .ref o_lasts, .int o_points, .int o_contours, .int o_parts, .ref o_flags, .ref o_readers, .ref o_moves])), (o_flags, .inl (cy 0, 128, .inl o_flags_f)), (a1, .inr (0, [.ref a1_bytes, .int n_5, .int a1_limit, .int n_6])), (a1_bytes, .inl (cy 1, 4096, .inl a1_bytes_f)), (a3, .inl (cy 0, 256, .inl a3_f))]) [0, 1, 3, 4, 2] rfl
      have hD := hD.sub (ws' := [(o, .inr (2, [.ref o_xs, .ref o_ys, .ref o_on, .ref o_lasts, .int o_points, .int o_contours, .int o_parts, .ref o_flags, .ref o_readers, .ref o_moves])), (o_flags, .inl (cy 0, 128, .inl o_flags_f)), (a1, .inr (0, [.ref a1_bytes, .int n_5, .int a1_limit, .int n_6])), (a1_bytes, .inl (cy 1, 4096, .inl a1_bytes_f)), (a3, .inl (cy 0, 256, .inl a3_f))]) [0, 1, 3, 4, 2] (by decide) rfl
      refine W.widen (k := 0) (n := 0) (by decide) (by decide) ?_
      refine lv_i2s hx hb d_Sh_readAxis_90 rfl ?_
      refine lv_iadd hx hb d_Sh_readAxis_91 ?_
      refine lv_istore (lv' := [(6, .int (x6 + (r_4.toInt16.toInt32))), (8, .int k0), (0, .ref o), (1, .ref a1), (2, .int x2), (3, .ref a3), (4, .int x4), (5, .int x5), (7, .int x7)]) hx hb d_Sh_readAxis_92 hl (by decide) rfl (fun ls hl => ?_)
      exact w_Sh_readAxis_94 C0 o a1 a3 o_xs o_ys o_on o_lasts o_flags o_readers o_moves a1_bytes o_points o_contours o_parts o_flags_f a1_limit a1_bytes_f a2 a4 a5 uu z6 hz6 x2 x4 x5 (x6 + (r_4.toInt16.toInt32)) x7 n_5 n_6 a3_f h hP hD hS (lv_sub hl [2, 3, 4, 5, 6, 7, 0, 8] rfl)
  · replace h := (if_neg c_2).symm.trans h
    refine lv_aload_n hx hb d_Sh_readAxis_52 rfl (lv_at hl 2 rfl) ?_
    obtain ⟨⟨r_7, n_8, n_9⟩, hq, h⟩ := Option.bind_eq_some_iff.mp h
    dsimp only [unp] at h
    have hPc := hP.sub (ws' := [(a1, .inr (0, [.ref a1_bytes, .int a1_place, .int a1_limit, .int a1_whole])), (a1_bytes, .inl (cy 1, 4096, .inl a1_bytes_f))]) [2, 3] rfl
    have hDc := hD.sub (ws' := [(a1, .inr (0, [.ref a1_bytes, .int a1_place, .int a1_limit, .int a1_whole])), (a1_bytes, .inl (cy 1, 4096, .inl a1_bytes_f))]) [2, 3] (by decide) rfl
    have hFc := va_free (wc := [(a1, .inr (0, [.ref a1_bytes, .int a1_place, .int a1_limit, .int a1_whole])), (a1_bytes, .inl (cy 1, 4096, .inl a1_bytes_f))]) hD hS hA [2, 3] rfl
    refine va_calli (va_runV (As := []) (rest := []) ⟨hx, hb, hml, hown, htsG⟩ (c_Rd_one l dC dI cy H.size a1 a1_bytes a1_place a1_limit a1_whole a1_bytes_f (r_7, n_8, n_9) hq) (cwV 0 htsG (gV mW502 mW471 mW472 mW3 mW473) rfl rfl rfl (by decide +kernel) ⟨Nat.le_of_ble_eq_true rfl, Nat.le_of_ble_eq_true rfl⟩) ⟨fun a U g mk q => by obtain ⟨q0, q1, qP, qK, qD⟩ := q; exact ⟨q0, q1, qP, va_K.moved (u := U) (U := U.calling g mk a) (Vm.Alike.refl U.vm) qK, qD⟩, va_recv hK hPc (ci := 0) (q0 := 0) rfl rfl, fun U hU hW => ⟨rfl, by rw [hU], by rw [hU]; exact hPc, va_K.moved hW.alike hK, hDc.weaken (fun _ _ _ _ => trivial)⟩⟩ rfl rfl hl.1 rfl (lv_room (Nat.le_of_ble_eq_true rfl)) d_Sh_readAxis_53 ⟨Nat.le_of_ble_eq_true rfl, Nat.le_of_ble_eq_true rfl⟩) hS (fun q _ h => hFc q h) hFc (fun rr u t H1 locs ht hvm hw hB hz1 hk1 hS => ?_)
    obtain ⟨hP1, hK1, hD1⟩ := hB
    rw [ht] at hP1
    replace hw : r_7 = rr := hw.symm
    subst hw
    obtain ⟨hP, hD⟩ := va_join (wr := [(o, .inr (2, [.ref o_xs, .ref o_ys, .ref o_on, .ref o_lasts, .int o_points, .int o_contours, .int o_parts, .ref o_flags, .ref o_readers, .ref o_moves])), (o_flags, .inl (cy 0, 128, .inl o_flags_f)), (a3, .inl (cy 0, 256, .inl a3_f))]) (w1 := [(a1, .inr (0, [.ref a1_bytes, .int n_8, .int a1_limit, .int n_9])), (a1_bytes, .inl (cy 1, 4096, .inl a1_bytes_f))]) hP hD [2, 3] [0, 1, 4] rfl rfl (by decide) (by decide) hk1 hFc hP1 hD1
    generalize H1 = H at hP hS ⊢
    have hP := hP.sub (ws' := [(o, .inr (2, [.ref o_xs, .ref o_ys, .ref o_on, .ref o_lasts, .int o_points, .int o_contours, .int o_parts, .ref o_flags, .ref o_readers, .ref o_moves])), (o_flags, .inl (cy 0, 128, .inl o_flags_f)), (a1, .inr (0, [.ref a1_bytes, .int n_8, .int a1_limit, .int n_9])), (a1_bytes, .inl (cy 1, 4096, .inl a1_bytes_f)), (a3, .inl (cy 0, 256, .inl a3_f))]) [0, 1, 3, 4, 2] rfl
    have hD := hD.sub (ws' := [(o, .inr (2, [.ref o_xs, .ref o_ys, .ref o_on, .ref o_lasts, .int o_points, .int o_contours, .int o_parts, .ref o_flags, .ref o_readers, .ref o_moves])), (o_flags, .inl (cy 0, 128, .inl o_flags_f)), (a1, .inr (0, [.ref a1_bytes, .int n_8, .int a1_limit, .int n_9])), (a1_bytes, .inl (cy 1, 4096, .inl a1_bytes_f)), (a3, .inl (cy 0, 256, .inl a3_f))]) [0, 1, 3, 4, 2] (by decide) rfl
    refine W.widen (k := 0) (n := 0) (by decide) (by decide) ?_
    refine lv_istore (lv' := [(9, .int r_7), (8, .int k0), (0, .ref o), (1, .ref a1), (2, .int x2), (3, .ref a3), (4, .int x4), (5, .int x5), (6, .int x6), (7, .int x7)]) hx hb d_Sh_readAxis_56 hl (by decide) rfl (fun ls hl => ?_)
    refine lv_iload hx hb d_Sh_readAxis_58 (lv_at hl 8 rfl) ?_
    refine lv_iload hx hb d_Sh_readAxis_60 (lv_at hl 1 rfl) ?_
    refine lv_if_eq (tgt := 70) hx hb d_Sh_readAxis_62 (by decide) (fun c_10 => ?_) (fun c_10 => ?_)
    · replace h := (if_pos c_10).symm.trans h
      refine lv_iload hx hb d_Sh_readAxis_70 (lv_at hl 0 rfl) ?_
      refine lv_ineg hx hb d_Sh_readAxis_72 ?_
      exact w_Sh_readAxis_73 C0 o a1 a3 o_xs o_ys o_on o_lasts o_flags o_readers o_moves a1_bytes o_points o_contours o_parts o_flags_f a1_limit a1_bytes_f a2 a4 a5 uu z6 hz6 x2 x4 x5 x7 (-r_7) x6 n_8 n_9 a3_f h hP hD hS (lv_sub hl [2, 3, 4, 5, 6, 7, 9] rfl)
    · replace h := (if_neg c_10).symm.trans h
      refine lv_iload hx hb d_Sh_readAxis_65 (lv_at hl 0 rfl) ?_
      refine lv_goto (tgt := 73) hx hb d_Sh_readAxis_67 (by decide) ?_
      exact w_Sh_readAxis_73 C0 o a1 a3 o_xs o_ys o_on o_lasts o_flags o_readers o_moves a1_bytes o_points o_contours o_parts o_flags_f a1_limit a1_bytes_f a2 a4 a5 uu z6 hz6 x2 x4 x5 x7 r_7 x6 n_8 n_9 a3_f h hP hD hS (lv_sub hl [2, 3, 4, 5, 6, 7, 9] rfl)
def P_Sh_readAxis_6b (o_points : Int32) (o_flags_f : Nat → Int32) (a1_limit : Int32) (a1_bytes_f : Nat → Int32)  (z6 : Int32 × Int32 × Int32 × Int32 × Int32 × Int32 × Int32 × (Nat → Int32) → Option (Int32 × Int32 × Int32 × (Nat → Int32))) (x2 : Int32) (x4 : Int32) (x5 : Int32) (x6 : Int32) (x7 : Int32) (a1_place : Int32) (a1_whole : Int32) (a3_f : Nat → Int32) : Option (Int32 × Int32 × Int32 × (Nat → Int32)) :=
  if o_points ≤ x7 then (some ((1 : Int32), a1_place, a1_whole, a3_f)) else (bd (x7 - x2) 128 <| if ((o_flags_f (x7 - x2).toNatClampNeg) &&& x5) = 0 then (P_Sh_readAxis_35 o_points o_flags_f a1_limit a1_bytes_f z6 x2 x4 x5 x6 x7 (0 : Int32) a1_place a1_whole a3_f) else (P_Sh_readAxis_35 o_points o_flags_f a1_limit a1_bytes_f z6 x2 x4 x5 x6 x7 (1 : Int32) a1_place a1_whole a3_f))
def L_Sh_readAxis_6 (o_points : Int32) (o_flags_f : Nat → Int32) (a1_limit : Int32) (a1_bytes_f : Nat → Int32)  : (Int32 × Int32 × Int32 × Int32 × Int32 × Int32 × Int32 × (Nat → Int32) → Option (Int32 × Int32 × Int32 × (Nat → Int32))) → (Int32 × Int32 × Int32 × Int32 × Int32 × Int32 × Int32 × (Nat → Int32)) → Option (Int32 × Int32 × Int32 × (Nat → Int32)) :=
  fun z => unp fun x2 => unp fun x4 => unp fun x5 => unp fun x6 => unp fun x7 => unp fun a1_place => unp fun a1_whole a3_f => P_Sh_readAxis_6b o_points o_flags_f a1_limit a1_bytes_f z x2 x4 x5 x6 x7 a1_place a1_whole a3_f
def P_Sh_readAxis_6 (o_points : Int32) (o_flags_f : Nat → Int32) (a1_limit : Int32) (a1_bytes_f : Nat → Int32)  (x2 : Int32) (x4 : Int32) (x5 : Int32) (x6 : Int32) (x7 : Int32) (a1_place : Int32) (a1_whole : Int32) (a3_f : Nat → Int32) : Option (Int32 × Int32 × Int32 × (Nat → Int32)) :=
  lp (L_Sh_readAxis_6 o_points o_flags_f a1_limit a1_bytes_f) fuel (x2, x4, x5, x6, x7, a1_place, a1_whole, a3_f)
theorem e_Sh_readAxis_6 (o_points : Int32) (o_flags_f : Nat → Int32) (a1_limit : Int32) (a1_bytes_f : Nat → Int32)  (n : Nat) (x2 : Int32) (x4 : Int32) (x5 : Int32) (x6 : Int32) (x7 : Int32) (a1_place : Int32) (a1_whole : Int32) (a3_f : Nat → Int32) : lp (L_Sh_readAxis_6 o_points o_flags_f a1_limit a1_bytes_f) (n + 1) (x2, x4, x5, x6, x7, a1_place, a1_whole, a3_f) = P_Sh_readAxis_6b o_points o_flags_f a1_limit a1_bytes_f (lp (L_Sh_readAxis_6 o_points o_flags_f a1_limit a1_bytes_f) n) x2 x4 x5 x6 x7 a1_place a1_whole a3_f := rfl
set_option maxHeartbeats 4000000 in
set_option maxRecDepth 100000 in
theorem w_Sh_readAxis_6b (C0 : Cx p s m args meth c A dC dI cy b_Sh_readAxis 10 (some .boolean) "GlyphPage$Shape") (o : Nat) (a1 : Nat) (a3 : Nat) (o_xs : Nat) (o_ys : Nat) (o_on : Nat) (o_lasts : Nat) (o_flags : Nat) (o_readers : Nat) (o_moves : Nat) (a1_bytes : Nat) (o_points : Int32) (o_contours : Int32) (o_parts : Int32) (o_flags_f : Nat → Int32) (a1_limit : Int32) (a1_bytes_f : Nat → Int32) (a2 : Int32) (a4 : Int32) (a5 : Int32) (uu : Int32 × Int32 × Int32 × (Nat → Int32))  (z6 : Int32 × Int32 × Int32 × Int32 × Int32 × Int32 × Int32 × (Nat → Int32) → Option (Int32 × Int32 × Int32 × (Nat → Int32))) (hz6 : ∀ (x2 : Int32) (x4 : Int32) (x5 : Int32) (x6 : Int32) (x7 : Int32) (a1_place : Int32) (a1_whole : Int32) (a3_f : Nat → Int32) (H : Heap) (locs : List Loc) (ls : Array Slot), z6 (x2, x4, x5, x6, x7, a1_place, a1_whole, a3_f) = some uu → va_P (dC, dI) classes [(o, .inr (2, [.ref o_xs, .ref o_ys, .ref o_on, .ref o_lasts, .int o_points, .int o_contours, .int o_parts, .ref o_flags, .ref o_readers, .ref o_moves])), (o_flags, .inl (cy 0, 128, .inl o_flags_f)), (a1, .inr (0, [.ref a1_bytes, .int a1_place, .int a1_limit, .int a1_whole])), (a1_bytes, .inl (cy 1, 4096, .inl a1_bytes_f)), (a3, .inl (cy 0, 256, .inl a3_f))] H → va_D A [(o, .inr (2, [.ref o_xs, .ref o_ys, .ref o_on, .ref o_lasts, .int o_points, .int o_contours, .int o_parts, .ref o_flags, .ref o_readers, .ref o_moves])), (o_flags, .inl (cy 0, 128, .inl o_flags_f)), (a1, .inr (0, [.ref a1_bytes, .int a1_place, .int a1_limit, .int a1_whole])), (a1_bytes, .inl (cy 1, 4096, .inl a1_bytes_f)), (a3, .inl (cy 0, 256, .inl a3_f))] → va_S A s.heap H locs → lv_has ls 10 [(0, .ref o), (1, .ref a1), (2, .int x2), (3, .ref a3), (4, .int x4), (5, .int x5), (6, .int x6), (7, .int x7)] → W p l e ({ frames := 1, cells := 0, slots := 0, locals := 20 } : Room) s m args below meth c H locs 0 0 (MQ below (va_Qi (fun r (_ : Unit) => r = uu.1) (fun _ t => va_P (dC, dI) classes [(o, .inr (2, [.ref o_xs, .ref o_ys, .ref o_on, .ref o_lasts, .int o_points, .int o_contours, .int o_parts, .ref o_flags, .ref o_readers, .ref o_moves])), (o_flags, .inl (cy 0, 128, .inl o_flags_f)), (a1, .inr (0, [.ref a1_bytes, .int uu.2.1, .int a1_limit, .int uu.2.2.1])), (a1_bytes, .inl (cy 1, 4096, .inl a1_bytes_f)), (a3, .inl (cy 0, 256, .inl uu.2.2.2))] t.heap ∧ va_K (dC, dI) classes (TY cy) t ∧ va_D A [(o, .inr (2, [.ref o_xs, .ref o_ys, .ref o_on, .ref o_lasts, .int o_points, .int o_contours, .int o_parts, .ref o_flags, .ref o_readers, .ref o_moves])), (o_flags, .inl (cy 0, 128, .inl o_flags_f)), (a1, .inr (0, [.ref a1_bytes, .int uu.2.1, .int a1_limit, .int uu.2.2.1])), (a1_bytes, .inl (cy 1, 4096, .inl a1_bytes_f)), (a3, .inl (cy 0, 256, .inl uu.2.2.2))]) A) args s 0 0 A) (F0 m 6 ls [])) (x2 : Int32) (x4 : Int32) (x5 : Int32) (x6 : Int32) (x7 : Int32) (a1_place : Int32) (a1_whole : Int32) (a3_f : Nat → Int32) {H : Heap} {locs : List Loc} {ls : Array Slot} (h : P_Sh_readAxis_6b o_points o_flags_f a1_limit a1_bytes_f z6 x2 x4 x5 x6 x7 a1_place a1_whole a3_f = some uu) : va_P (dC, dI) classes [(o, .inr (2, [.ref o_xs, .ref o_ys, .ref o_on, .ref o_lasts, .int o_points, .int o_contours, .int o_parts, .ref o_flags, .ref o_readers, .ref o_moves])), (o_flags, .inl (cy 0, 128, .inl o_flags_f)), (a1, .inr (0, [.ref a1_bytes, .int a1_place, .int a1_limit, .int a1_whole])), (a1_bytes, .inl (cy 1, 4096, .inl a1_bytes_f)), (a3, .inl (cy 0, 256, .inl a3_f))] H → va_D A [(o, .inr (2, [.ref o_xs, .ref o_ys, .ref o_on, .ref o_lasts, .int o_points, .int o_contours, .int o_parts, .ref o_flags, .ref o_readers, .ref o_moves])), (o_flags, .inl (cy 0, 128, .inl o_flags_f)), (a1, .inr (0, [.ref a1_bytes, .int a1_place, .int a1_limit, .int a1_whole])), (a1_bytes, .inl (cy 1, 4096, .inl a1_bytes_f)), (a3, .inl (cy 0, 256, .inl a3_f))] → va_S A s.heap H locs → lv_has ls 10 [(0, .ref o), (1, .ref a1), (2, .int x2), (3, .ref a3), (4, .int x4), (5, .int x5), (6, .int x6), (7, .int x7)] → W p l e ({ frames := 1, cells := 0, slots := 0, locals := 20 } : Room) s m args below meth c H locs 0 0 (MQ below (va_Qi (fun r (_ : Unit) => r = uu.1) (fun _ t => va_P (dC, dI) classes [(o, .inr (2, [.ref o_xs, .ref o_ys, .ref o_on, .ref o_lasts, .int o_points, .int o_contours, .int o_parts, .ref o_flags, .ref o_readers, .ref o_moves])), (o_flags, .inl (cy 0, 128, .inl o_flags_f)), (a1, .inr (0, [.ref a1_bytes, .int uu.2.1, .int a1_limit, .int uu.2.2.1])), (a1_bytes, .inl (cy 1, 4096, .inl a1_bytes_f)), (a3, .inl (cy 0, 256, .inl uu.2.2.2))] t.heap ∧ va_K (dC, dI) classes (TY cy) t ∧ va_D A [(o, .inr (2, [.ref o_xs, .ref o_ys, .ref o_on, .ref o_lasts, .int o_points, .int o_contours, .int o_parts, .ref o_flags, .ref o_readers, .ref o_moves])), (o_flags, .inl (cy 0, 128, .inl o_flags_f)), (a1, .inr (0, [.ref a1_bytes, .int uu.2.1, .int a1_limit, .int uu.2.2.1])), (a1_bytes, .inl (cy 1, 4096, .inl a1_bytes_f)), (a3, .inl (cy 0, 256, .inl uu.2.2.2))]) A) args s 0 0 A) (F0 m 6 ls []) := by
  intro hP hD hS hl
  obtain ⟨hx, hb, hr, hlocks, hml, hown, htsG, hA, hK⟩ := id C0
  unfold P_Sh_readAxis_6b at h
  refine lv_iload hx hb d_Sh_readAxis_6 (lv_at hl 7 rfl) ?_
  refine lv_aload_n hx hb d_Sh_readAxis_8 rfl (lv_at hl 0 rfl) ?_
  refine va_get (D := (dC, dI)) (ci := 2) (v := .int o_points) (C := "GlyphPage$Shape") (T := F_Sh) (N := 10) hx hb htsG iG_Sh hown hK hP 0 rfl rfl 4 (by decide) (htsG _ mW95) (fun _ h9 => h9) rfl d_Sh_readAxis_9 ?_
  refine lv_icmp_ge (tgt := 116) hx hb d_Sh_readAxis_12 (by decide) (fun c_1 => ?_) (fun c_1 => ?_)
  · replace h := (if_pos c_1).symm.trans h
    refine lv_iconst (v := (1 : Int32)) hx hb d_Sh_readAxis_116 (by decide) ?_
    cases h
    exact W.zret (ty := .boolean) hx hb hr rfl (fun t ht hW => ⟨⟨_, (), rfl, rfl, by rw [ht]; exact hP, va_K.moved hW.alike hK, hD⟩, hS.F ht⟩) hS.2.2 d_Sh_readAxis_117 hlocks
  · replace h := (if_neg c_1).symm.trans h
    refine lv_aload_n hx hb d_Sh_readAxis_15 rfl (lv_at hl 0 rfl) ?_
    refine va_get (D := (dC, dI)) (ci := 2) (v := .ref o_flags) (C := "GlyphPage$Shape") (T := F_Sh) (N := 10) hx hb htsG iG_Sh hown hK hP 0 rfl rfl 7 (by decide) (htsG _ mW102) (fun _ h9 => h9) rfl d_Sh_readAxis_16 ?_
    refine lv_iload hx hb d_Sh_readAxis_19 (lv_at hl 7 rfl) ?_
    refine lv_iload_n hx hb d_Sh_readAxis_21 rfl (lv_at hl 2 rfl) ?_
    refine lv_isub hx hb d_Sh_readAxis_22 ?_
    obtain ⟨hin_2, h⟩ := bd_some h
    refine va_iald hx hb hK hP 1 0 rfl rfl hin_2 d_Sh_readAxis_23 ?_
    refine lv_iload hx hb d_Sh_readAxis_24 (lv_at hl 5 rfl) ?_
    refine lv_iand hx hb d_Sh_readAxis_26 ?_
    refine lv_if_eq (tgt := 34) hx hb d_Sh_readAxis_27 (by decide) (fun c_3 => ?_) (fun c_3 => ?_)
    · replace h := (if_pos c_3).symm.trans h
      refine lv_iconst (v := (0 : Int32)) hx hb d_Sh_readAxis_34 (by decide) ?_
      exact w_Sh_readAxis_35 C0 o a1 a3 o_xs o_ys o_on o_lasts o_flags o_readers o_moves a1_bytes o_points o_contours o_parts o_flags_f a1_limit a1_bytes_f a2 a4 a5 uu z6 hz6 x2 x4 x5 x6 x7 (0 : Int32) a1_place a1_whole a3_f h hP hD hS (lv_sub hl [0, 1, 2, 3, 4, 5, 6, 7] rfl)
    · replace h := (if_neg c_3).symm.trans h
      refine lv_iconst (v := (1 : Int32)) hx hb d_Sh_readAxis_30 (by decide) ?_
      refine lv_goto (tgt := 35) hx hb d_Sh_readAxis_31 (by decide) ?_
      exact w_Sh_readAxis_35 C0 o a1 a3 o_xs o_ys o_on o_lasts o_flags o_readers o_moves a1_bytes o_points o_contours o_parts o_flags_f a1_limit a1_bytes_f a2 a4 a5 uu z6 hz6 x2 x4 x5 x6 x7 (1 : Int32) a1_place a1_whole a3_f h hP hD hS (lv_sub hl [0, 1, 2, 3, 4, 5, 6, 7] rfl)
theorem w_Sh_readAxis_6 (C0 : Cx p s m args meth c A dC dI cy b_Sh_readAxis 10 (some .boolean) "GlyphPage$Shape") (o : Nat) (a1 : Nat) (a3 : Nat) (o_xs : Nat) (o_ys : Nat) (o_on : Nat) (o_lasts : Nat) (o_flags : Nat) (o_readers : Nat) (o_moves : Nat) (a1_bytes : Nat) (o_points : Int32) (o_contours : Int32) (o_parts : Int32) (o_flags_f : Nat → Int32) (a1_limit : Int32) (a1_bytes_f : Nat → Int32) (a2 : Int32) (a4 : Int32) (a5 : Int32) (uu : Int32 × Int32 × Int32 × (Nat → Int32))  (x2 : Int32) (x4 : Int32) (x5 : Int32) (x6 : Int32) (x7 : Int32) (a1_place : Int32) (a1_whole : Int32) (a3_f : Nat → Int32) {H : Heap} {locs : List Loc} {ls : Array Slot} (h : P_Sh_readAxis_6 o_points o_flags_f a1_limit a1_bytes_f x2 x4 x5 x6 x7 a1_place a1_whole a3_f = some uu) : va_P (dC, dI) classes [(o, .inr (2, [.ref o_xs, .ref o_ys, .ref o_on, .ref o_lasts, .int o_points, .int o_contours, .int o_parts, .ref o_flags, .ref o_readers, .ref o_moves])), (o_flags, .inl (cy 0, 128, .inl o_flags_f)), (a1, .inr (0, [.ref a1_bytes, .int a1_place, .int a1_limit, .int a1_whole])), (a1_bytes, .inl (cy 1, 4096, .inl a1_bytes_f)), (a3, .inl (cy 0, 256, .inl a3_f))] H → va_D A [(o, .inr (2, [.ref o_xs, .ref o_ys, .ref o_on, .ref o_lasts, .int o_points, .int o_contours, .int o_parts, .ref o_flags, .ref o_readers, .ref o_moves])), (o_flags, .inl (cy 0, 128, .inl o_flags_f)), (a1, .inr (0, [.ref a1_bytes, .int a1_place, .int a1_limit, .int a1_whole])), (a1_bytes, .inl (cy 1, 4096, .inl a1_bytes_f)), (a3, .inl (cy 0, 256, .inl a3_f))] → va_S A s.heap H locs → lv_has ls 10 [(0, .ref o), (1, .ref a1), (2, .int x2), (3, .ref a3), (4, .int x4), (5, .int x5), (6, .int x6), (7, .int x7)] → W p l e ({ frames := 1, cells := 0, slots := 0, locals := 20 } : Room) s m args below meth c H locs 0 0 (MQ below (va_Qi (fun r (_ : Unit) => r = uu.1) (fun _ t => va_P (dC, dI) classes [(o, .inr (2, [.ref o_xs, .ref o_ys, .ref o_on, .ref o_lasts, .int o_points, .int o_contours, .int o_parts, .ref o_flags, .ref o_readers, .ref o_moves])), (o_flags, .inl (cy 0, 128, .inl o_flags_f)), (a1, .inr (0, [.ref a1_bytes, .int uu.2.1, .int a1_limit, .int uu.2.2.1])), (a1_bytes, .inl (cy 1, 4096, .inl a1_bytes_f)), (a3, .inl (cy 0, 256, .inl uu.2.2.2))] t.heap ∧ va_K (dC, dI) classes (TY cy) t ∧ va_D A [(o, .inr (2, [.ref o_xs, .ref o_ys, .ref o_on, .ref o_lasts, .int o_points, .int o_contours, .int o_parts, .ref o_flags, .ref o_readers, .ref o_moves])), (o_flags, .inl (cy 0, 128, .inl o_flags_f)), (a1, .inr (0, [.ref a1_bytes, .int uu.2.1, .int a1_limit, .int uu.2.2.1])), (a1_bytes, .inl (cy 1, 4096, .inl a1_bytes_f)), (a3, .inl (cy 0, 256, .inl uu.2.2.2))]) A) args s 0 0 A) (F0 m 6 ls []) := by
  have key : ∀ (n : Nat) (x2 : Int32) (x4 : Int32) (x5 : Int32) (x6 : Int32) (x7 : Int32) (a1_place : Int32) (a1_whole : Int32) (a3_f : Nat → Int32) (H : Heap) (locs : List Loc) (ls : Array Slot), lp (L_Sh_readAxis_6 o_points o_flags_f a1_limit a1_bytes_f) n (x2, x4, x5, x6, x7, a1_place, a1_whole, a3_f) = some uu → va_P (dC, dI) classes [(o, .inr (2, [.ref o_xs, .ref o_ys, .ref o_on, .ref o_lasts, .int o_points, .int o_contours, .int o_parts, .ref o_flags, .ref o_readers, .ref o_moves])), (o_flags, .inl (cy 0, 128, .inl o_flags_f)), (a1, .inr (0, [.ref a1_bytes, .int a1_place, .int a1_limit, .int a1_whole])), (a1_bytes, .inl (cy 1, 4096, .inl a1_bytes_f)), (a3, .inl (cy 0, 256, .inl a3_f))] H → va_D A [(o, .inr (2, [.ref o_xs, .ref o_ys, .ref o_on, .ref o_lasts, .int o_points, .int o_contours, .int o_parts, .ref o_flags, .ref o_readers, .ref o_moves])), (o_flags, .inl (cy 0, 128, .inl o_flags_f)), (a1, .inr (0, [.ref a1_bytes, .int a1_place, .int a1_limit, .int a1_whole])), (a1_bytes, .inl (cy 1, 4096, .inl a1_bytes_f)), (a3, .inl (cy 0, 256, .inl a3_f))] → va_S A s.heap H locs → lv_has ls 10 [(0, .ref o), (1, .ref a1), (2, .int x2), (3, .ref a3), (4, .int x4), (5, .int x5), (6, .int x6), (7, .int x7)] → W p l e ({ frames := 1, cells := 0, slots := 0, locals := 20 } : Room) s m args below meth c H locs 0 0 (MQ below (va_Qi (fun r (_ : Unit) => r = uu.1) (fun _ t => va_P (dC, dI) classes [(o, .inr (2, [.ref o_xs, .ref o_ys, .ref o_on, .ref o_lasts, .int o_points, .int o_contours, .int o_parts, .ref o_flags, .ref o_readers, .ref o_moves])), (o_flags, .inl (cy 0, 128, .inl o_flags_f)), (a1, .inr (0, [.ref a1_bytes, .int uu.2.1, .int a1_limit, .int uu.2.2.1])), (a1_bytes, .inl (cy 1, 4096, .inl a1_bytes_f)), (a3, .inl (cy 0, 256, .inl uu.2.2.2))] t.heap ∧ va_K (dC, dI) classes (TY cy) t ∧ va_D A [(o, .inr (2, [.ref o_xs, .ref o_ys, .ref o_on, .ref o_lasts, .int o_points, .int o_contours, .int o_parts, .ref o_flags, .ref o_readers, .ref o_moves])), (o_flags, .inl (cy 0, 128, .inl o_flags_f)), (a1, .inr (0, [.ref a1_bytes, .int uu.2.1, .int a1_limit, .int uu.2.2.1])), (a1_bytes, .inl (cy 1, 4096, .inl a1_bytes_f)), (a3, .inl (cy 0, 256, .inl uu.2.2.2))]) A) args s 0 0 A) (F0 m 6 ls []) := by
    intro n
    induction n with
    | zero => intro x2 x4 x5 x6 x7 a1_place a1_whole a3_f H locs ls h; cases h
    | succ n ih => intro x2 x4 x5 x6 x7 a1_place a1_whole a3_f H locs ls h; exact w_Sh_readAxis_6b C0 o a1 a3 o_xs o_ys o_on o_lasts o_flags o_readers o_moves a1_bytes o_points o_contours o_parts o_flags_f a1_limit a1_bytes_f a2 a4 a5 uu  (lp (L_Sh_readAxis_6 o_points o_flags_f a1_limit a1_bytes_f) n) ih x2 x4 x5 x6 x7 a1_place a1_whole a3_f ((e_Sh_readAxis_6 o_points o_flags_f a1_limit a1_bytes_f n x2 x4 x5 x6 x7 a1_place a1_whole a3_f).symm.trans h)
  exact key fuel x2 x4 x5 x6 x7 a1_place a1_whole a3_f H locs ls h
def P_Sh_readAxis (o_points : Int32) (o_flags_f : Nat → Int32) (a1_place : Int32) (a1_limit : Int32) (a1_whole : Int32) (a1_bytes_f : Nat → Int32) (a3_f : Nat → Int32) (a2 : Int32) (a4 : Int32) (a5 : Int32) : Option (Int32 × Int32 × Int32 × (Nat → Int32)) :=
  P_Sh_readAxis_6 o_points o_flags_f a1_limit a1_bytes_f a2 a4 a5 (0 : Int32) a2 a1_place a1_whole a3_f
set_option maxHeartbeats 4000000 in
set_option maxRecDepth 100000 in
theorem c_Sh_readAxis (l : Launch) (dC : Nat → ClassId) (dI : Nat → Nat → Nat) (cy : Nat → ClassId) (sz : Nat) (o : Nat) (a1 : Nat) (a3 : Nat) (o_xs : Nat) (o_ys : Nat) (o_on : Nat) (o_lasts : Nat) (o_flags : Nat) (o_readers : Nat) (o_moves : Nat) (a1_bytes : Nat) (o_points : Int32) (o_contours : Int32) (o_parts : Int32) (o_flags_f : Nat → Int32) (a1_place : Int32) (a1_limit : Int32) (a1_whole : Int32) (a1_bytes_f : Nat → Int32) (a3_f : Nat → Int32) (a2 : Int32) (a4 : Int32) (a5 : Int32) (uu : Int32 × Int32 × Int32 × (Nat → Int32)) (h : P_Sh_readAxis o_points o_flags_f a1_place a1_limit a1_whole a1_bytes_f a3_f a2 a4 a5 = some uu) : Met l y_Sh_readAxis (Cond.code y_Sh_readAxis b_Sh_readAxis 10 (some .boolean) :: G) ({ frames := 1, cells := 0, slots := 0, locals := 20 } : Room) (va_Pc [.ref o, .ref a1, .int a2, .ref a3, .int a4, .int a5] (fun U => U.heap.size = sz ∧ va_P (dC, dI) classes [(o, .inr (2, [.ref o_xs, .ref o_ys, .ref o_on, .ref o_lasts, .int o_points, .int o_contours, .int o_parts, .ref o_flags, .ref o_readers, .ref o_moves])), (o_flags, .inl (cy 0, 128, .inl o_flags_f)), (a1, .inr (0, [.ref a1_bytes, .int a1_place, .int a1_limit, .int a1_whole])), (a1_bytes, .inl (cy 1, 4096, .inl a1_bytes_f)), (a3, .inl (cy 0, 256, .inl a3_f))] U.heap ∧ va_K (dC, dI) classes (TY cy) U ∧ va_D (fun _ => True) [(o, .inr (2, [.ref o_xs, .ref o_ys, .ref o_on, .ref o_lasts, .int o_points, .int o_contours, .int o_parts, .ref o_flags, .ref o_readers, .ref o_moves])), (o_flags, .inl (cy 0, 128, .inl o_flags_f)), (a1, .inr (0, [.ref a1_bytes, .int a1_place, .int a1_limit, .int a1_whole])), (a1_bytes, .inl (cy 1, 4096, .inl a1_bytes_f)), (a3, .inl (cy 0, 256, .inl a3_f))])) (va_Qi (fun r (_ : Unit) => r = uu.1) (fun _ t => va_P (dC, dI) classes [(o, .inr (2, [.ref o_xs, .ref o_ys, .ref o_on, .ref o_lasts, .int o_points, .int o_contours, .int o_parts, .ref o_flags, .ref o_readers, .ref o_moves])), (o_flags, .inl (cy 0, 128, .inl o_flags_f)), (a1, .inr (0, [.ref a1_bytes, .int uu.2.1, .int a1_limit, .int uu.2.2.1])), (a1_bytes, .inl (cy 1, 4096, .inl a1_bytes_f)), (a3, .inl (cy 0, 256, .inl uu.2.2.2))] t.heap ∧ va_K (dC, dI) classes (TY cy) t ∧ va_D (va_A [(o, .inr (2, [.ref o_xs, .ref o_ys, .ref o_on, .ref o_lasts, .int o_points, .int o_contours, .int o_parts, .ref o_flags, .ref o_readers, .ref o_moves])), (o_flags, .inl (cy 0, 128, .inl o_flags_f)), (a1, .inr (0, [.ref a1_bytes, .int a1_place, .int a1_limit, .int a1_whole])), (a1_bytes, .inl (cy 1, 4096, .inl a1_bytes_f)), (a3, .inl (cy 0, 256, .inl a3_f))] sz) [(o, .inr (2, [.ref o_xs, .ref o_ys, .ref o_on, .ref o_lasts, .int o_points, .int o_contours, .int o_parts, .ref o_flags, .ref o_readers, .ref o_moves])), (o_flags, .inl (cy 0, 128, .inl o_flags_f)), (a1, .inr (0, [.ref a1_bytes, .int uu.2.1, .int a1_limit, .int uu.2.2.1])), (a1_bytes, .inl (cy 1, 4096, .inl a1_bytes_f)), (a3, .inl (cy 0, 256, .inl uu.2.2.2))]) (va_A [(o, .inr (2, [.ref o_xs, .ref o_ys, .ref o_on, .ref o_lasts, .int o_points, .int o_contours, .int o_parts, .ref o_flags, .ref o_readers, .ref o_moves])), (o_flags, .inl (cy 0, 128, .inl o_flags_f)), (a1, .inr (0, [.ref a1_bytes, .int a1_place, .int a1_limit, .int a1_whole])), (a1_bytes, .inl (cy 1, 4096, .inl a1_bytes_f)), (a3, .inl (cy 0, 256, .inl a3_f))] sz)) 0 0 (va_A [(o, .inr (2, [.ref o_xs, .ref o_ys, .ref o_on, .ref o_lasts, .int o_points, .int o_contours, .int o_parts, .ref o_flags, .ref o_readers, .ref o_moves])), (o_flags, .inl (cy 0, 128, .inl o_flags_f)), (a1, .inr (0, [.ref a1_bytes, .int a1_place, .int a1_limit, .int a1_whole])), (a1_bytes, .inl (cy 1, 4096, .inl a1_bytes_f)), (a3, .inl (cy 0, 256, .inl a3_f))] sz) := by
  refine Met.ofW (cc := b_Sh_readAxis) (maxL := 10) (ret := (some .boolean)) (by decide) rfl ?_
  intro p e s m args below meth c s₁ B hml hv
  obtain ⟨rfl, hsz, hP, hK, hD0⟩ := hv
  have hx := B.exec
  have hb := B.bytes
  have hr := B.returns
  have hts := atoms_spec (ws := Cond.code y_Sh_readAxis b_Sh_readAxis 10 (some .boolean) :: G) B.pre
  have htsG : ∀ w ∈ G, w.before _ s = true := fun w hw => hts w (List.mem_cons_of_mem _ hw)
  have hown : s.vm.findClass "GlyphPage$Shape" = some m.cls := findClass_of_methodNamed B.named
  have hlocks := B.notSynchronized
  subst hsz
  have hD := hD0.self (sz := s.heap.size)
  generalize hAe : va_A [(o, .inr (2, [.ref o_xs, .ref o_ys, .ref o_on, .ref o_lasts, .int o_points, .int o_contours, .int o_parts, .ref o_flags, .ref o_readers, .ref o_moves])), (o_flags, .inl (cy 0, 128, .inl o_flags_f)), (a1, .inr (0, [.ref a1_bytes, .int a1_place, .int a1_limit, .int a1_whole])), (a1_bytes, .inl (cy 1, 4096, .inl a1_bytes_f)), (a3, .inl (cy 0, 256, .inl a3_f))] s.heap.size = A at hD ⊢
  have hA : ∀ q : Nat, s.heap.size ≤ q → A q := fun q h => by rw [← hAe]; exact Or.inr h
  have hS : va_S A s.heap s.heap [] := va_S.rf
  have hl := lv_entry ([.ref o, .ref a1, .int a2, .ref a3, .int a4, .int a5]) (n := 10) (Nat.le_of_ble_eq_true rfl)
  rw [lg_entry_eq]
  generalize (lg_sl ([.ref o, .ref a1, .int a2, .ref a3, .int a4, .int a5]) ++ List.replicate (10 - (lg_sl ([.ref o, .ref a1, .int a2, .ref a3, .int a4, .int a5])).length) Slot.unset).toArray = ls at hl ⊢
  have hl : lv_has ls 10 [(0, .ref o), (1, .ref a1), (2, .int a2), (3, .ref a3), (4, .int a4), (5, .int a5)] := hl
  have C0 : Cx p s m _ meth c A dC dI cy b_Sh_readAxis 10 (some .boolean) "GlyphPage$Shape" := ⟨hx, hb, hr, hlocks, hml, hown, htsG, hA, hK⟩
  unfold P_Sh_readAxis at h
  refine lv_iconst (v := (0 : Int32)) hx hb d_Sh_readAxis_0 (by decide) ?_
  refine lv_istore (lv' := [(6, .int (0 : Int32)), (0, .ref o), (1, .ref a1), (2, .int a2), (3, .ref a3), (4, .int a4), (5, .int a5)]) hx hb d_Sh_readAxis_1 hl (by decide) rfl (fun ls hl => ?_)
  refine lv_iload_n hx hb d_Sh_readAxis_3 rfl (lv_at hl 3 rfl) ?_
  refine lv_istore (lv' := [(7, .int a2), (6, .int (0 : Int32)), (0, .ref o), (1, .ref a1), (2, .int a2), (3, .ref a3), (4, .int a4), (5, .int a5)]) hx hb d_Sh_readAxis_4 hl (by decide) rfl (fun ls hl => ?_)
  exact w_Sh_readAxis_6 C0 o a1 a3 o_xs o_ys o_on o_lasts o_flags o_readers o_moves a1_bytes o_points o_contours o_parts o_flags_f a1_limit a1_bytes_f a2 a4 a5 uu  a2 a4 a5 (0 : Int32) a2 a1_place a1_whole a3_f h hP hD hS (lv_sub hl [2, 3, 4, 5, 6, 7, 1, 0] rfl)
def P_Sh_addContours_24b (a1_limit : Int32) (a1_bytes_f : Nat → Int32)  (z24 : Int32 × Int32 × Int32 × Int32 × Int32 × (Nat → Int32) × (Nat → Int32) × (Nat → Int32) × (Nat → Int32) × (Nat → Int32) × Int32 × Int32 → Option (Int32 × Int32 × Int32 × (Nat → Int32) × (Nat → Int32) × (Nat → Int32) × (Nat → Int32) × (Nat → Int32) × Int32 × Int32)) (x2 : Int32) (x3 : Int32) (x4 : Int32) (o_points : Int32) (o_contours : Int32) (o_xs_f : Nat → Int32) (o_ys_f : Nat → Int32) (o_on_f : Nat → Int32) (o_lasts_f : Nat → Int32) (o_flags_f : Nat → Int32) (a1_place : Int32) (a1_whole : Int32) : Option (Int32 × Int32 × Int32 × (Nat → Int32) × (Nat → Int32) × (Nat → Int32) × (Nat → Int32) × (Nat → Int32) × Int32 × Int32) :=
  if x2 ≤ x4 then (if ((o_points + x3) + (1 : Int32)) ≤ (256 : Int32) then ((P_Rd_two a1_place a1_limit a1_whole a1_bytes_f).bind <| unp fun r_3 => unp fun n_4 n_5 => (P_Rd_skip n_4 a1_limit n_5 r_3).bind <| unp fun n_6 n_7 => (P_Sh_readFlags ((o_points + x3) + (1 : Int32)) o_on_f o_flags_f n_6 a1_limit n_7 a1_bytes_f o_points).bind <| unp fun r_8 => unp fun n_9 => unp fun n_10 => unp fun n_11 n_12 => if r_8 = 0 then (some ((0 : Int32), ((o_points + x3) + (1 : Int32)), o_contours, o_xs_f, o_ys_f, n_9, o_lasts_f, n_10, n_11, n_12)) else ((P_Sh_readAxis ((o_points + x3) + (1 : Int32)) n_10 n_11 a1_limit n_12 a1_bytes_f o_xs_f o_points (2 : Int32) (16 : Int32)).bind <| unp fun r_14 => unp fun n_15 => unp fun n_16 n_17 => if r_14 = 0 then (some ((0 : Int32), ((o_points + x3) + (1 : Int32)), o_contours, n_17, o_ys_f, n_9, o_lasts_f, n_10, n_15, n_16)) else ((P_Sh_readAxis ((o_points + x3) + (1 : Int32)) n_10 n_15 a1_limit n_16 a1_bytes_f o_ys_f o_points (4 : Int32) (32 : Int32)).bind <| unp fun r_19 => unp fun n_20 => unp fun n_21 n_22 => if r_19 = 0 then (some ((0 : Int32), ((o_points + x3) + (1 : Int32)), o_contours, n_17, n_22, n_9, o_lasts_f, n_10, n_20, n_21)) else ((P_Rd_isWhole n_21).bind fun r_24 => if r_24 = 0 then (some ((0 : Int32), ((o_points + x3) + (1 : Int32)), o_contours, n_17, n_22, n_9, o_lasts_f, n_10, n_20, n_21)) else (some ((1 : Int32), ((o_points + x3) + (1 : Int32)), o_contours, n_17, n_22, n_9, o_lasts_f, n_10, n_20, n_21)))))) else (some ((0 : Int32), o_points, o_contours, o_xs_f, o_ys_f, o_on_f, o_lasts_f, o_flags_f, a1_place, a1_whole))) else ((P_Rd_two a1_place a1_limit a1_whole a1_bytes_f).bind <| unp fun r_26 => unp fun n_27 n_28 => if r_26 ≤ x3 then (some ((0 : Int32), o_points, o_contours, o_xs_f, o_ys_f, o_on_f, o_lasts_f, o_flags_f, n_27, n_28)) else (if r_26 < (128 : Int32) then (bd o_contours 32 <| z24 (x2, r_26, (x4 + (1 : Int32)), o_points, (o_contours + (1 : Int32)), o_xs_f, o_ys_f, o_on_f, (upd o_lasts_f o_contours.toNatClampNeg (o_points + r_26)), o_flags_f, n_27, n_28)) else (some ((0 : Int32), o_points, o_contours, o_xs_f, o_ys_f, o_on_f, o_lasts_f, o_flags_f, n_27, n_28))))
def L_Sh_addContours_24 (a1_limit : Int32) (a1_bytes_f : Nat → Int32)  : (Int32 × Int32 × Int32 × Int32 × Int32 × (Nat → Int32) × (Nat → Int32) × (Nat → Int32) × (Nat → Int32) × (Nat → Int32) × Int32 × Int32 → Option (Int32 × Int32 × Int32 × (Nat → Int32) × (Nat → Int32) × (Nat → Int32) × (Nat → Int32) × (Nat → Int32) × Int32 × Int32)) → (Int32 × Int32 × Int32 × Int32 × Int32 × (Nat → Int32) × (Nat → Int32) × (Nat → Int32) × (Nat → Int32) × (Nat → Int32) × Int32 × Int32) → Option (Int32 × Int32 × Int32 × (Nat → Int32) × (Nat → Int32) × (Nat → Int32) × (Nat → Int32) × (Nat → Int32) × Int32 × Int32) :=
  fun z => unp fun x2 => unp fun x3 => unp fun x4 => unp fun o_points => unp fun o_contours => unp fun o_xs_f => unp fun o_ys_f => unp fun o_on_f => unp fun o_lasts_f => unp fun o_flags_f => unp fun a1_place a1_whole => P_Sh_addContours_24b a1_limit a1_bytes_f z x2 x3 x4 o_points o_contours o_xs_f o_ys_f o_on_f o_lasts_f o_flags_f a1_place a1_whole
def P_Sh_addContours_24 (a1_limit : Int32) (a1_bytes_f : Nat → Int32)  (x2 : Int32) (x3 : Int32) (x4 : Int32) (o_points : Int32) (o_contours : Int32) (o_xs_f : Nat → Int32) (o_ys_f : Nat → Int32) (o_on_f : Nat → Int32) (o_lasts_f : Nat → Int32) (o_flags_f : Nat → Int32) (a1_place : Int32) (a1_whole : Int32) : Option (Int32 × Int32 × Int32 × (Nat → Int32) × (Nat → Int32) × (Nat → Int32) × (Nat → Int32) × (Nat → Int32) × Int32 × Int32) :=
  lp (L_Sh_addContours_24 a1_limit a1_bytes_f) fuel (x2, x3, x4, o_points, o_contours, o_xs_f, o_ys_f, o_on_f, o_lasts_f, o_flags_f, a1_place, a1_whole)
theorem e_Sh_addContours_24 (a1_limit : Int32) (a1_bytes_f : Nat → Int32)  (n : Nat) (x2 : Int32) (x3 : Int32) (x4 : Int32) (o_points : Int32) (o_contours : Int32) (o_xs_f : Nat → Int32) (o_ys_f : Nat → Int32) (o_on_f : Nat → Int32) (o_lasts_f : Nat → Int32) (o_flags_f : Nat → Int32) (a1_place : Int32) (a1_whole : Int32) : lp (L_Sh_addContours_24 a1_limit a1_bytes_f) (n + 1) (x2, x3, x4, o_points, o_contours, o_xs_f, o_ys_f, o_on_f, o_lasts_f, o_flags_f, a1_place, a1_whole) = P_Sh_addContours_24b a1_limit a1_bytes_f (lp (L_Sh_addContours_24 a1_limit a1_bytes_f) n) x2 x3 x4 o_points o_contours o_xs_f o_ys_f o_on_f o_lasts_f o_flags_f a1_place a1_whole := rfl
set_option maxHeartbeats 4000000 in
set_option maxRecDepth 100000 in
theorem w_Sh_addContours_24b (C0 : Cx p s m args meth c A dC dI cy b_Sh_addContours 6 (some .boolean) "GlyphPage$Shape") (o : Nat) (a1 : Nat) (o_xs : Nat) (o_ys : Nat) (o_on : Nat) (o_lasts : Nat) (o_flags : Nat) (o_readers : Nat) (o_moves : Nat) (a1_bytes : Nat) (o_parts : Int32) (a1_limit : Int32) (a1_bytes_f : Nat → Int32) (a2 : Int32) (uu : Int32 × Int32 × Int32 × (Nat → Int32) × (Nat → Int32) × (Nat → Int32) × (Nat → Int32) × (Nat → Int32) × Int32 × Int32)  (z24 : Int32 × Int32 × Int32 × Int32 × Int32 × (Nat → Int32) × (Nat → Int32) × (Nat → Int32) × (Nat → Int32) × (Nat → Int32) × Int32 × Int32 → Option (Int32 × Int32 × Int32 × (Nat → Int32) × (Nat → Int32) × (Nat → Int32) × (Nat → Int32) × (Nat → Int32) × Int32 × Int32)) (hz24 : ∀ (x2 : Int32) (x3 : Int32) (x4 : Int32) (o_points : Int32) (o_contours : Int32) (o_xs_f : Nat → Int32) (o_ys_f : Nat → Int32) (o_on_f : Nat → Int32) (o_lasts_f : Nat → Int32) (o_flags_f : Nat → Int32) (a1_place : Int32) (a1_whole : Int32) (H : Heap) (locs : List Loc) (ls : Array Slot), z24 (x2, x3, x4, o_points, o_contours, o_xs_f, o_ys_f, o_on_f, o_lasts_f, o_flags_f, a1_place, a1_whole) = some uu → va_P (dC, dI) classes [(o, .inr (2, [.ref o_xs, .ref o_ys, .ref o_on, .ref o_lasts, .int o_points, .int o_contours, .int o_parts, .ref o_flags, .ref o_readers, .ref o_moves])), (o_xs, .inl (cy 0, 256, .inl o_xs_f)), (o_ys, .inl (cy 0, 256, .inl o_ys_f)), (o_on, .inl (cy 2, 256, .inl o_on_f)), (o_lasts, .inl (cy 0, 32, .inl o_lasts_f)), (o_flags, .inl (cy 0, 128, .inl o_flags_f)), (a1, .inr (0, [.ref a1_bytes, .int a1_place, .int a1_limit, .int a1_whole])), (a1_bytes, .inl (cy 1, 4096, .inl a1_bytes_f))] H → va_D A [(o, .inr (2, [.ref o_xs, .ref o_ys, .ref o_on, .ref o_lasts, .int o_points, .int o_contours, .int o_parts, .ref o_flags, .ref o_readers, .ref o_moves])), (o_xs, .inl (cy 0, 256, .inl o_xs_f)), (o_ys, .inl (cy 0, 256, .inl o_ys_f)), (o_on, .inl (cy 2, 256, .inl o_on_f)), (o_lasts, .inl (cy 0, 32, .inl o_lasts_f)), (o_flags, .inl (cy 0, 128, .inl o_flags_f)), (a1, .inr (0, [.ref a1_bytes, .int a1_place, .int a1_limit, .int a1_whole])), (a1_bytes, .inl (cy 1, 4096, .inl a1_bytes_f))] → va_S A s.heap H locs → lv_has ls 6 [(0, .ref o), (1, .ref a1), (2, .int x2), (3, .int x3), (4, .int x4)] → W p l e ({ frames := 2, cells := 0, slots := 0, locals := 49 } : Room) s m args below meth c H locs 0 0 (MQ below (va_Qi (fun r (_ : Unit) => r = uu.1) (fun _ t => va_P (dC, dI) classes [(o, .inr (2, [.ref o_xs, .ref o_ys, .ref o_on, .ref o_lasts, .int uu.2.1, .int uu.2.2.1, .int o_parts, .ref o_flags, .ref o_readers, .ref o_moves])), (o_xs, .inl (cy 0, 256, .inl uu.2.2.2.1)), (o_ys, .inl (cy 0, 256, .inl uu.2.2.2.2.1)), (o_on, .inl (cy 2, 256, .inl uu.2.2.2.2.2.1)), (o_lasts, .inl (cy 0, 32, .inl uu.2.2.2.2.2.2.1)), (o_flags, .inl (cy 0, 128, .inl uu.2.2.2.2.2.2.2.1)), (a1, .inr (0, [.ref a1_bytes, .int uu.2.2.2.2.2.2.2.2.1, .int a1_limit, .int uu.2.2.2.2.2.2.2.2.2])), (a1_bytes, .inl (cy 1, 4096, .inl a1_bytes_f))] t.heap ∧ va_K (dC, dI) classes (TY cy) t ∧ va_D A [(o, .inr (2, [.ref o_xs, .ref o_ys, .ref o_on, .ref o_lasts, .int uu.2.1, .int uu.2.2.1, .int o_parts, .ref o_flags, .ref o_readers, .ref o_moves])), (o_xs, .inl (cy 0, 256, .inl uu.2.2.2.1)), (o_ys, .inl (cy 0, 256, .inl uu.2.2.2.2.1)), (o_on, .inl (cy 2, 256, .inl uu.2.2.2.2.2.1)), (o_lasts, .inl (cy 0, 32, .inl uu.2.2.2.2.2.2.1)), (o_flags, .inl (cy 0, 128, .inl uu.2.2.2.2.2.2.2.1)), (a1, .inr (0, [.ref a1_bytes, .int uu.2.2.2.2.2.2.2.2.1, .int a1_limit, .int uu.2.2.2.2.2.2.2.2.2])), (a1_bytes, .inl (cy 1, 4096, .inl a1_bytes_f))]) A) args s 0 0 A) (F0 m 24 ls [])) (x2 : Int32) (x3 : Int32) (x4 : Int32) (o_points : Int32) (o_contours : Int32) (o_xs_f : Nat → Int32) (o_ys_f : Nat → Int32) (o_on_f : Nat → Int32) (o_lasts_f : Nat → Int32) (o_flags_f : Nat → Int32) (a1_place : Int32) (a1_whole : Int32) {H : Heap} {locs : List Loc} {ls : Array Slot} (h : P_Sh_addContours_24b a1_limit a1_bytes_f z24 x2 x3 x4 o_points o_contours o_xs_f o_ys_f o_on_f o_lasts_f o_flags_f a1_place a1_whole = some uu) : va_P (dC, dI) classes [(o, .inr (2, [.ref o_xs, .ref o_ys, .ref o_on, .ref o_lasts, .int o_points, .int o_contours, .int o_parts, .ref o_flags, .ref o_readers, .ref o_moves])), (o_xs, .inl (cy 0, 256, .inl o_xs_f)), (o_ys, .inl (cy 0, 256, .inl o_ys_f)), (o_on, .inl (cy 2, 256, .inl o_on_f)), (o_lasts, .inl (cy 0, 32, .inl o_lasts_f)), (o_flags, .inl (cy 0, 128, .inl o_flags_f)), (a1, .inr (0, [.ref a1_bytes, .int a1_place, .int a1_limit, .int a1_whole])), (a1_bytes, .inl (cy 1, 4096, .inl a1_bytes_f))] H → va_D A [(o, .inr (2, [.ref o_xs, .ref o_ys, .ref o_on, .ref o_lasts, .int o_points, .int o_contours, .int o_parts, .ref o_flags, .ref o_readers, .ref o_moves])), (o_xs, .inl (cy 0, 256, .inl o_xs_f)), (o_ys, .inl (cy 0, 256, .inl o_ys_f)), (o_on, .inl (cy 2, 256, .inl o_on_f)), (o_lasts, .inl (cy 0, 32, .inl o_lasts_f)), (o_flags, .inl (cy 0, 128, .inl o_flags_f)), (a1, .inr (0, [.ref a1_bytes, .int a1_place, .int a1_limit, .int a1_whole])), (a1_bytes, .inl (cy 1, 4096, .inl a1_bytes_f))] → va_S A s.heap H locs → lv_has ls 6 [(0, .ref o), (1, .ref a1), (2, .int x2), (3, .int x3), (4, .int x4)] → W p l e ({ frames := 2, cells := 0, slots := 0, locals := 49 } : Room) s m args below meth c H locs 0 0 (MQ below (va_Qi (fun r (_ : Unit) => r = uu.1) (fun _ t => va_P (dC, dI) classes [(o, .inr (2, [.ref o_xs, .ref o_ys, .ref o_on, .ref o_lasts, .int uu.2.1, .int uu.2.2.1, .int o_parts, .ref o_flags, .ref o_readers, .ref o_moves])), (o_xs, .inl (cy 0, 256, .inl uu.2.2.2.1)), (o_ys, .inl (cy 0, 256, .inl uu.2.2.2.2.1)), (o_on, .inl (cy 2, 256, .inl uu.2.2.2.2.2.1)), (o_lasts, .inl (cy 0, 32, .inl uu.2.2.2.2.2.2.1)), (o_flags, .inl (cy 0, 128, .inl uu.2.2.2.2.2.2.2.1)), (a1, .inr (0, [.ref a1_bytes, .int uu.2.2.2.2.2.2.2.2.1, .int a1_limit, .int uu.2.2.2.2.2.2.2.2.2])), (a1_bytes, .inl (cy 1, 4096, .inl a1_bytes_f))] t.heap ∧ va_K (dC, dI) classes (TY cy) t ∧ va_D A [(o, .inr (2, [.ref o_xs, .ref o_ys, .ref o_on, .ref o_lasts, .int uu.2.1, .int uu.2.2.1, .int o_parts, .ref o_flags, .ref o_readers, .ref o_moves])), (o_xs, .inl (cy 0, 256, .inl uu.2.2.2.1)), (o_ys, .inl (cy 0, 256, .inl uu.2.2.2.2.1)), (o_on, .inl (cy 2, 256, .inl uu.2.2.2.2.2.1)), (o_lasts, .inl (cy 0, 32, .inl uu.2.2.2.2.2.2.1)), (o_flags, .inl (cy 0, 128, .inl uu.2.2.2.2.2.2.2.1)), (a1, .inr (0, [.ref a1_bytes, .int uu.2.2.2.2.2.2.2.2.1, .int a1_limit, .int uu.2.2.2.2.2.2.2.2.2])), (a1_bytes, .inl (cy 1, 4096, .inl a1_bytes_f))]) A) args s 0 0 A) (F0 m 24 ls []) := by
  intro hP hD hS hl
  obtain ⟨hx, hb, hr, hlocks, hml, hown, htsG, hA, hK⟩ := id C0
  unfold P_Sh_addContours_24b at h
  refine lv_iload hx hb d_Sh_addContours_24 (lv_at hl 4 rfl) ?_
  refine lv_iload_n hx hb d_Sh_addContours_26 rfl (lv_at hl 2 rfl) ?_
  refine lv_icmp_ge (tgt := 83) hx hb d_Sh_addContours_27 (by decide) (fun c_1 => ?_) (fun c_1 => ?_)
  · replace h := (if_pos c_1).symm.trans h
    refine lv_aload_n hx hb d_Sh_addContours_83 rfl (lv_at hl 0 rfl) ?_
    refine va_get (D := (dC, dI)) (ci := 2) (v := .int o_points) (C := "GlyphPage$Shape") (T := F_Sh) (N := 10) hx hb htsG iG_Sh hown hK hP 0 rfl rfl 4 (by decide) (htsG _ mW95) (fun _ h9 => h9) rfl d_Sh_addContours_84 ?_
    refine lv_istore (lv' := [(4, .int o_points), (0, .ref o), (1, .ref a1), (2, .int x2), (3, .int x3)]) hx hb d_Sh_addContours_87 hl (by decide) rfl (fun ls hl => ?_)
    refine lv_iload hx hb d_Sh_addContours_89 (lv_at hl 0 rfl) ?_
    refine lv_iload_n hx hb d_Sh_addContours_91 rfl (lv_at hl 4 rfl) ?_
    refine lv_iadd hx hb d_Sh_addContours_92 ?_
    refine lv_iconst (v := (1 : Int32)) hx hb d_Sh_addContours_93 (by decide) ?_
    refine lv_iadd hx hb d_Sh_addContours_94 ?_
    refine lv_sipush (v := (256 : Int32)) hx hb d_Sh_addContours_95 (by decide) ?_
    refine lv_icmp_le (tgt := 103) hx hb d_Sh_addContours_98 (by decide) (fun c_2 => ?_) (fun c_2 => ?_)
    · replace h := (if_pos c_2).symm.trans h
      refine lv_aload_n hx hb d_Sh_addContours_103 rfl (lv_at hl 1 rfl) ?_
      refine lv_iload hx hb d_Sh_addContours_104 (lv_at hl 0 rfl) ?_
      refine lv_iload_n hx hb d_Sh_addContours_106 rfl (lv_at hl 4 rfl) ?_
      refine lv_iadd hx hb d_Sh_addContours_107 ?_
      refine lv_iconst (v := (1 : Int32)) hx hb d_Sh_addContours_108 (by decide) ?_
      refine lv_iadd hx hb d_Sh_addContours_109 ?_
      refine va_put (D := (dC, dI)) (ci := 2) (v := .int ((o_points + x3) + (1 : Int32))) (ty := .int) (C := "GlyphPage$Shape") (T := F_Sh) (N := 10) hx hb htsG iG_Sh t_Sh t_Sh_ok n_Sh hown hK hP hD hS 0 rfl rfl 4 (by decide) (htsG _ mW95) (fun _ h9 => h9) rfl (by decide +kernel) rfl rfl (Nat.le_of_ble_eq_true rfl) d_Sh_addContours_110 (fun H locs hP hD hS => ?_)
      have hP : va_P (dC, dI) classes [(o, .inr (2, [.ref o_xs, .ref o_ys, .ref o_on, .ref o_lasts, .int ((o_points + x3) + (1 : Int32)), .int o_contours, .int o_parts, .ref o_flags, .ref o_readers, .ref o_moves])), (o_xs, .inl (cy 0, 256, .inl o_xs_f)), (o_ys, .inl (cy 0, 256, .inl o_ys_f)), (o_on, .inl (cy 2, 256, .inl o_on_f)), (o_lasts, .inl (cy 0, 32, .inl o_lasts_f)), (o_flags, .inl (cy 0, 128, .inl o_flags_f)), (a1, .inr (0, [.ref a1_bytes, .int a1_place, .int a1_limit, .int a1_whole])), (a1_bytes, .inl (cy 1, 4096, .inl a1_bytes_f))] H := hP
      have hD : va_D A [(o, .inr (2, [.ref o_xs, .ref o_ys, .ref o_on, .ref o_lasts, .int ((o_points + x3) + (1 : Int32)), .int o_contours, .int o_parts, .ref o_flags, .ref o_readers, .ref o_moves])), (o_xs, .inl (cy 0, 256, .inl o_xs_f)), (o_ys, .inl (cy 0, 256, .inl o_ys_f)), (o_on, .inl (cy 2, 256, .inl o_on_f)), (o_lasts, .inl (cy 0, 32, .inl o_lasts_f)), (o_flags, .inl (cy 0, 128, .inl o_flags_f)), (a1, .inr (0, [.ref a1_bytes, .int a1_place, .int a1_limit, .int a1_whole])), (a1_bytes, .inl (cy 1, 4096, .inl a1_bytes_f))] := hD
      refine lv_aload_n hx hb d_Sh_addContours_113 rfl (lv_at hl 2 rfl) ?_
      refine lv_aload_n hx hb d_Sh_addContours_114 rfl (lv_at hl 2 rfl) ?_
      obtain ⟨⟨r_3, n_4, n_5⟩, hq, h⟩ := Option.bind_eq_some_iff.mp h
      dsimp only [unp] at h
      have hPc := hP.sub (ws' := [(a1, .inr (0, [.ref a1_bytes, .int a1_place, .int a1_limit, .int a1_whole])), (a1_bytes, .inl (cy 1, 4096, .inl a1_bytes_f))]) [6, 7] rfl
      have hDc := hD.sub (ws' := [(a1, .inr (0, [.ref a1_bytes, .int a1_place, .int a1_limit, .int a1_whole])), (a1_bytes, .inl (cy 1, 4096, .inl a1_bytes_f))]) [6, 7] (by decide) rfl
      have hFc := va_free (wc := [(a1, .inr (0, [.ref a1_bytes, .int a1_place, .int a1_limit, .int a1_whole])), (a1_bytes, .inl (cy 1, 4096, .inl a1_bytes_f))]) hD hS hA [6, 7] rfl
      refine va_calli (va_runV (As := []) (rest := [.ref a1]) ⟨hx, hb, hml, hown, htsG⟩ (c_Rd_two l dC dI cy H.size a1 a1_bytes a1_place a1_limit a1_whole a1_bytes_f (r_3, n_4, n_5) hq) (cwV 0 htsG (gV mW453 mW454 mW455 mW3 mW456) rfl rfl rfl (by decide +kernel) ⟨Nat.le_of_ble_eq_true rfl, Nat.le_of_ble_eq_true rfl⟩) ⟨fun a U g mk q => by obtain ⟨q0, q1, qP, qK, qD⟩ := q; exact ⟨q0, q1, qP, va_K.moved (u := U) (U := U.calling g mk a) (Vm.Alike.refl U.vm) qK, qD⟩, va_recv hK hPc (ci := 0) (q0 := 0) rfl rfl, fun U hU hW => ⟨rfl, by rw [hU], by rw [hU]; exact hPc, va_K.moved hW.alike hK, hDc.weaken (fun _ _ _ _ => trivial)⟩⟩ rfl rfl hl.1 rfl (lv_room (Nat.le_of_ble_eq_true rfl)) d_Sh_addContours_115 ⟨Nat.le_of_ble_eq_true rfl, Nat.le_of_ble_eq_true rfl⟩) hS (fun q _ h => hFc q h) hFc (fun rr u t H1 locs ht hvm hw hB hz1 hk1 hS => ?_)
      obtain ⟨hP1, hK1, hD1⟩ := hB
      rw [ht] at hP1
      replace hw : r_3 = rr := hw.symm
      subst hw
      obtain ⟨hP, hD⟩ := va_join (wr := [(o, .inr (2, [.ref o_xs, .ref o_ys, .ref o_on, .ref o_lasts, .int ((o_points + x3) + (1 : Int32)), .int o_contours, .int o_parts, .ref o_flags, .ref o_readers, .ref o_moves])), (o_xs, .inl (cy 0, 256, .inl o_xs_f)), (o_ys, .inl (cy 0, 256, .inl o_ys_f)), (o_on, .inl (cy 2, 256, .inl o_on_f)), (o_lasts, .inl (cy 0, 32, .inl o_lasts_f)), (o_flags, .inl (cy 0, 128, .inl o_flags_f))]) (w1 := [(a1, .inr (0, [.ref a1_bytes, .int n_4, .int a1_limit, .int n_5])), (a1_bytes, .inl (cy 1, 4096, .inl a1_bytes_f))]) hP hD [6, 7] [0, 1, 2, 3, 4, 5] rfl rfl (by decide) (by decide) hk1 hFc hP1 hD1
      generalize H1 = H at hP hS ⊢
      have hP := hP.sub (ws' := [(o, .inr (2, [.ref o_xs, .ref o_ys, .ref o_on, .ref o_lasts, .int ((o_points + x3) + (1 : Int32)), .int o_contours, .int o_parts, .ref o_flags, .ref o_readers, .ref o_moves])), (o_xs, .inl (cy 0, 256, .inl o_xs_f)), (o_ys, .inl (cy 0, 256, .inl o_ys_f)), (o_on, .inl (cy 2, 256, .inl o_on_f)), (o_lasts, .inl (cy 0, 32, .inl o_lasts_f)), (o_flags, .inl (cy 0, 128, .inl o_flags_f)), (a1, .inr (0, [.ref a1_bytes, .int n_4, .int a1_limit, .int n_5])), (a1_bytes, .inl (cy 1, 4096, .inl a1_bytes_f))]) [0, 1, 2, 3, 4, 5, 6, 7] rfl
      have hD := hD.sub (ws' := [(o, .inr (2, [.ref o_xs, .ref o_ys, .ref o_on, .ref o_lasts, .int ((o_points + x3) + (1 : Int32)), .int o_contours, .int o_parts, .ref o_flags, .ref o_readers, .ref o_moves])), (o_xs, .inl (cy 0, 256, .inl o_xs_f)), (o_ys, .inl (cy 0, 256, .inl o_ys_f)), (o_on, .inl (cy 2, 256, .inl o_on_f)), (o_lasts, .inl (cy 0, 32, .inl o_lasts_f)), (o_flags, .inl (cy 0, 128, .inl o_flags_f)), (a1, .inr (0, [.ref a1_bytes, .int n_4, .int a1_limit, .int n_5])), (a1_bytes, .inl (cy 1, 4096, .inl a1_bytes_f))]) [0, 1, 2, 3, 4, 5, 6, 7] (by decide) rfl
      refine W.widen (k := 0) (n := 0) (by decide) (by decide) ?_
      obtain ⟨⟨n_6, n_7⟩, hq, h⟩ := Option.bind_eq_some_iff.mp h
      dsimp only [unp] at h
      have hPc := hP.sub (ws' := [(a1, .inr (0, [.ref a1_bytes, .int n_4, .int a1_limit, .int n_5]))]) [6] rfl
      have hDc := hD.sub (ws' := [(a1, .inr (0, [.ref a1_bytes, .int n_4, .int a1_limit, .int n_5]))]) [6] (by decide) rfl
      have hFc := va_free (wc := [(a1, .inr (0, [.ref a1_bytes, .int n_4, .int a1_limit, .int n_5]))]) hD hS hA [6] rfl
      refine va_callv (va_runV (As := [.int r_3]) (rest := []) ⟨hx, hb, hml, hown, htsG⟩ (c_Rd_skip l dC dI cy H.size a1 (some a1_bytes) n_4 a1_limit n_5 r_3 (n_6, n_7) hq) (cwV 1 htsG (gV mW457 mW458 mW459 mW3 mW460) rfl rfl rfl (by decide +kernel) ⟨Nat.le_of_ble_eq_true rfl, Nat.le_of_ble_eq_true rfl⟩) ⟨fun a U g mk q => by obtain ⟨q0, q1, qP, qK, qD⟩ := q; exact ⟨q0, q1, qP, va_K.moved (u := U) (U := U.calling g mk a) (Vm.Alike.refl U.vm) qK, qD⟩, va_recv hK hPc (ci := 0) (q0 := 0) rfl rfl, fun U hU hW => ⟨rfl, by rw [hU], by rw [hU]; exact hPc, va_K.moved hW.alike hK, hDc.weaken (fun _ _ _ _ => trivial)⟩⟩ rfl rfl hl.1 rfl (lv_room (Nat.le_of_ble_eq_true rfl)) d_Sh_addContours_118 ⟨Nat.le_of_ble_eq_true rfl, Nat.le_of_ble_eq_true rfl⟩) hS (fun q _ h => hFc q h) hFc (fun u t H1 locs ht hvm hw hB hz1 hk1 hS => ?_)
      obtain ⟨hP1, hK1, hD1⟩ := hB
      rw [ht] at hP1
      obtain ⟨hP, hD⟩ := va_join (wr := [(o, .inr (2, [.ref o_xs, .ref o_ys, .ref o_on, .ref o_lasts, .int ((o_points + x3) + (1 : Int32)), .int o_contours, .int o_parts, .ref o_flags, .ref o_readers, .ref o_moves])), (o_xs, .inl (cy 0, 256, .inl o_xs_f)), (o_ys, .inl (cy 0, 256, .inl o_ys_f)), (o_on, .inl (cy 2, 256, .inl o_on_f)), (o_lasts, .inl (cy 0, 32, .inl o_lasts_f)), (o_flags, .inl (cy 0, 128, .inl o_flags_f)), (a1_bytes, .inl (cy 1, 4096, .inl a1_bytes_f))]) (w1 := [(a1, .inr (0, [.ref a1_bytes, .int n_6, .int a1_limit, .int n_7]))]) hP hD [6] [0, 1, 2, 3, 4, 5, 7] rfl rfl (by decide) (by decide) hk1 hFc hP1 hD1
      generalize H1 = H at hP hS ⊢
      have hP := hP.sub (ws' := [(o, .inr (2, [.ref o_xs, .ref o_ys, .ref o_on, .ref o_lasts, .int ((o_points + x3) + (1 : Int32)), .int o_contours, .int o_parts, .ref o_flags, .ref o_readers, .ref o_moves])), (o_xs, .inl (cy 0, 256, .inl o_xs_f)), (o_ys, .inl (cy 0, 256, .inl o_ys_f)), (o_on, .inl (cy 2, 256, .inl o_on_f)), (o_lasts, .inl (cy 0, 32, .inl o_lasts_f)), (o_flags, .inl (cy 0, 128, .inl o_flags_f)), (a1, .inr (0, [.ref a1_bytes, .int n_6, .int a1_limit, .int n_7])), (a1_bytes, .inl (cy 1, 4096, .inl a1_bytes_f))]) [0, 1, 2, 3, 4, 5, 7, 6] rfl
      have hD := hD.sub (ws' := [(o, .inr (2, [.ref o_xs, .ref o_ys, .ref o_on, .ref o_lasts, .int ((o_points + x3) + (1 : Int32)), .int o_contours, .int o_parts, .ref o_flags, .ref o_readers, .ref o_moves])), (o_xs, .inl (cy 0, 256, .inl o_xs_f)), (o_ys, .inl (cy 0, 256, .inl o_ys_f)), (o_on, .inl (cy 2, 256, .inl o_on_f)), (o_lasts, .inl (cy 0, 32, .inl o_lasts_f)), (o_flags, .inl (cy 0, 128, .inl o_flags_f)), (a1, .inr (0, [.ref a1_bytes, .int n_6, .int a1_limit, .int n_7])), (a1_bytes, .inl (cy 1, 4096, .inl a1_bytes_f))]) [0, 1, 2, 3, 4, 5, 7, 6] (by decide) rfl
      refine W.widen (k := 0) (n := 0) (by decide) (by decide) ?_
      refine lv_aload_n hx hb d_Sh_addContours_121 rfl (lv_at hl 1 rfl) ?_
      refine lv_aload_n hx hb d_Sh_addContours_122 rfl (lv_at hl 2 rfl) ?_
      refine lv_iload hx hb d_Sh_addContours_123 (lv_at hl 0 rfl) ?_
      obtain ⟨⟨r_8, n_9, n_10, n_11, n_12⟩, hq, h⟩ := Option.bind_eq_some_iff.mp h
      dsimp only [unp] at h
      have hPc := hP.sub (ws' := [(o, .inr (2, [.ref o_xs, .ref o_ys, .ref o_on, .ref o_lasts, .int ((o_points + x3) + (1 : Int32)), .int o_contours, .int o_parts, .ref o_flags, .ref o_readers, .ref o_moves])), (o_on, .inl (cy 2, 256, .inl o_on_f)), (o_flags, .inl (cy 0, 128, .inl o_flags_f)), (a1, .inr (0, [.ref a1_bytes, .int n_6, .int a1_limit, .int n_7])), (a1_bytes, .inl (cy 1, 4096, .inl a1_bytes_f))]) [0, 3, 5, 6, 7] rfl
      have hDc := hD.sub (ws' := [(o, .inr (2, [.ref o_xs, .ref o_ys, .ref o_on, .ref o_lasts, .int ((o_points + x3) + (1 : Int32)), .int o_contours, .int o_parts, .ref o_flags, .ref o_readers, .ref o_moves])), (o_on, .inl (cy 2, 256, .inl o_on_f)), (o_flags, .inl (cy 0, 128, .inl o_flags_f)), (a1, .inr (0, [.ref a1_bytes, .int n_6, .int a1_limit, .int n_7])), (a1_bytes, .inl (cy 1, 4096, .inl a1_bytes_f))]) [0, 3, 5, 6, 7] (by decide) rfl
      have hFc := va_free (wc := [(o, .inr (2, [.ref o_xs, .ref o_ys, .ref o_on, .ref o_lasts, .int ((o_points + x3) + (1 : Int32)), .int o_contours, .int o_parts, .ref o_flags, .ref o_readers, .ref o_moves])), (o_on, .inl (cy 2, 256, .inl o_on_f)), (o_flags, .inl (cy 0, 128, .inl o_flags_f)), (a1, .inr (0, [.ref a1_bytes, .int n_6, .int a1_limit, .int n_7])), (a1_bytes, .inl (cy 1, 4096, .inl a1_bytes_f))]) hD hS hA [0, 3, 5, 6, 7] rfl
      refine va_calli (va_runV (As := [.ref a1, .int o_points]) (rest := []) ⟨hx, hb, hml, hown, htsG⟩ (c_Sh_readFlags l dC dI cy H.size o a1 o_xs o_ys o_on o_lasts o_flags o_readers o_moves a1_bytes ((o_points + x3) + (1 : Int32)) o_contours o_parts o_on_f o_flags_f n_6 a1_limit n_7 a1_bytes_f o_points (r_8, n_9, n_10, n_11, n_12) hq) (cwV 2 htsG (gV mW498 mW500 mS_Sh_readFlags mW2 mW501) rfl rfl rfl (by decide +kernel) ⟨Nat.le_of_ble_eq_true rfl, Nat.le_of_ble_eq_true rfl⟩) ⟨fun a U g mk q => by obtain ⟨q0, q1, qP, qK, qD⟩ := q; exact ⟨q0, q1, qP, va_K.moved (u := U) (U := U.calling g mk a) (Vm.Alike.refl U.vm) qK, qD⟩, va_recv hK hPc (ci := 2) (q0 := 0) rfl rfl, fun U hU hW => ⟨rfl, by rw [hU], by rw [hU]; exact hPc, va_K.moved hW.alike hK, hDc.weaken (fun _ _ _ _ => trivial)⟩⟩ rfl rfl hl.1 rfl (lv_room (Nat.le_of_ble_eq_true rfl)) d_Sh_addContours_125 ⟨Nat.le_of_ble_eq_true rfl, Nat.le_of_ble_eq_true rfl⟩) hS (fun q _ h => hFc q h) hFc (fun rr u t H1 locs ht hvm hw hB hz1 hk1 hS => ?_)
      obtain ⟨hP1, hK1, hD1⟩ := hB
      rw [ht] at hP1
      replace hw : r_8 = rr := hw.symm
      subst hw
      obtain ⟨hP, hD⟩ := va_join (wr := [(o_xs, .inl (cy 0, 256, .inl o_xs_f)), (o_ys, .inl (cy 0, 256, .inl o_ys_f)), (o_lasts, .inl (cy 0, 32, .inl o_lasts_f))]) (w1 := [(o, .inr (2, [.ref o_xs, .ref o_ys, .ref o_on, .ref o_lasts, .int ((o_points + x3) + (1 : Int32)), .int o_contours, .int o_parts, .ref o_flags, .ref o_readers, .ref o_moves])), (o_on, .inl (cy 2, 256, .inl n_9)), (o_flags, .inl (cy 0, 128, .inl n_10)), (a1, .inr (0, [.ref a1_bytes, .int n_11, .int a1_limit, .int n_12])), (a1_bytes, .inl (cy 1, 4096, .inl a1_bytes_f))]) hP hD [0, 3, 5, 6, 7] [1, 2, 4] rfl rfl (by decide) (by decide) hk1 hFc hP1 hD1
      generalize H1 = H at hP hS ⊢
      have hP := hP.sub (ws' := [(o, .inr (2, [.ref o_xs, .ref o_ys, .ref o_on, .ref o_lasts, .int ((o_points + x3) + (1 : Int32)), .int o_contours, .int o_parts, .ref o_flags, .ref o_readers, .ref o_moves])), (o_xs, .inl (cy 0, 256, .inl o_xs_f)), (o_ys, .inl (cy 0, 256, .inl o_ys_f)), (o_on, .inl (cy 2, 256, .inl n_9)), (o_lasts, .inl (cy 0, 32, .inl o_lasts_f)), (o_flags, .inl (cy 0, 128, .inl n_10)), (a1, .inr (0, [.ref a1_bytes, .int n_11, .int a1_limit, .int n_12])), (a1_bytes, .inl (cy 1, 4096, .inl a1_bytes_f))]) [3, 0, 1, 4, 2, 5, 6, 7] rfl
      have hD := hD.sub (ws' := [(o, .inr (2, [.ref o_xs, .ref o_ys, .ref o_on, .ref o_lasts, .int ((o_points + x3) + (1 : Int32)), .int o_contours, .int o_parts, .ref o_flags, .ref o_readers, .ref o_moves])), (o_xs, .inl (cy 0, 256, .inl o_xs_f)), (o_ys, .inl (cy 0, 256, .inl o_ys_f)), (o_on, .inl (cy 2, 256, .inl n_9)), (o_lasts, .inl (cy 0, 32, .inl o_lasts_f)), (o_flags, .inl (cy 0, 128, .inl n_10)), (a1, .inr (0, [.ref a1_bytes, .int n_11, .int a1_limit, .int n_12])), (a1_bytes, .inl (cy 1, 4096, .inl a1_bytes_f))]) [3, 0, 1, 4, 2, 5, 6, 7] (by decide) rfl
      refine W.widen (k := 0) (n := 0) (by decide) (by decide) ?_
      refine lv_if_eq (tgt := 176) hx hb d_Sh_addContours_128 (by decide) (fun c_13 => ?_) (fun c_13 => ?_)
      · replace h := (if_pos c_13).symm.trans h
        refine lv_iconst (v := (0 : Int32)) hx hb d_Sh_addContours_176 (by decide) ?_
        cases h
        exact W.zret (ty := .boolean) hx hb hr rfl (fun t ht hW => ⟨⟨_, (), rfl, rfl, by rw [ht]; exact hP, va_K.moved hW.alike hK, hD⟩, hS.F ht⟩) hS.2.2 d_Sh_addContours_177 hlocks
      · replace h := (if_neg c_13).symm.trans h
        refine lv_aload_n hx hb d_Sh_addContours_131 rfl (lv_at hl 1 rfl) ?_
        refine lv_aload_n hx hb d_Sh_addContours_132 rfl (lv_at hl 2 rfl) ?_
        refine lv_iload hx hb d_Sh_addContours_133 (lv_at hl 0 rfl) ?_
        refine lv_aload_n hx hb d_Sh_addContours_135 rfl (lv_at hl 1 rfl) ?_
        refine va_get (D := (dC, dI)) (ci := 2) (v := .ref o_xs) (C := "GlyphPage$Shape") (T := F_Sh) (N := 10) hx hb htsG iG_Sh hown hK hP 0 rfl rfl 0 (by decide) (htsG _ mW84) (fun _ h9 => h9) rfl d_Sh_addContours_136 ?_
        refine lv_iconst (v := (2 : Int32)) hx hb d_Sh_addContours_139 (by decide) ?_
        refine lv_bipush (v := (16 : Int32)) hx hb d_Sh_addContours_140 (by decide) ?_
        obtain ⟨⟨r_14, n_15, n_16, n_17⟩, hq, h⟩ := Option.bind_eq_some_iff.mp h
        dsimp only [unp] at h
        have hPc := hP.sub (ws' := [(o, .inr (2, [.ref o_xs, .ref o_ys, .ref o_on, .ref o_lasts, .int ((o_points + x3) + (1 : Int32)), .int o_contours, .int o_parts, .ref o_flags, .ref o_readers, .ref o_moves])), (o_flags, .inl (cy 0, 128, .inl n_10)), (a1, .inr (0, [.ref a1_bytes, .int n_11, .int a1_limit, .int n_12])), (a1_bytes, .inl (cy 1, 4096, .inl a1_bytes_f)), (o_xs, .inl (cy 0, 256, .inl o_xs_f))]) [0, 5, 6, 7, 1] rfl
        have hDc := hD.sub (ws' := [(o, .inr (2, [.ref o_xs, .ref o_ys, .ref o_on, .ref o_lasts, .int ((o_points + x3) + (1 : Int32)), .int o_contours, .int o_parts, .ref o_flags, .ref o_readers, .ref o_moves])), (o_flags, .inl (cy 0, 128, .inl n_10)), (a1, .inr (0, [.ref a1_bytes, .int n_11, .int a1_limit, .int n_12])), (a1_bytes, .inl (cy 1, 4096, .inl a1_bytes_f)), (o_xs, .inl (cy 0, 256, .inl o_xs_f))]) [0, 5, 6, 7, 1] (by decide) rfl
        have hFc := va_free (wc := [(o, .inr (2, [.ref o_xs, .ref o_ys, .ref o_on, .ref o_lasts, .int ((o_points + x3) + (1 : Int32)), .int o_contours, .int o_parts, .ref o_flags, .ref o_readers, .ref o_moves])), (o_flags, .inl (cy 0, 128, .inl n_10)), (a1, .inr (0, [.ref a1_bytes, .int n_11, .int a1_limit, .int n_12])), (a1_bytes, .inl (cy 1, 4096, .inl a1_bytes_f)), (o_xs, .inl (cy 0, 256, .inl o_xs_f))]) hD hS hA [0, 5, 6, 7, 1] rfl
        refine va_calli (va_runV (As := [.ref a1, .int o_points, .ref o_xs, .int (2 : Int32), .int (16 : Int32)]) (rest := []) ⟨hx, hb, hml, hown, htsG⟩ (c_Sh_readAxis l dC dI cy H.size o a1 o_xs o_xs o_ys o_on o_lasts o_flags o_readers o_moves a1_bytes ((o_points + x3) + (1 : Int32)) o_contours o_parts n_10 n_11 a1_limit n_12 a1_bytes_f o_xs_f o_points (2 : Int32) (16 : Int32) (r_14, n_15, n_16, n_17) hq) (cwV 5 htsG (gV mW503 mW505 mS_Sh_readAxis mW2 mW506) rfl rfl rfl (by decide +kernel) ⟨Nat.le_of_ble_eq_true rfl, Nat.le_of_ble_eq_true rfl⟩) ⟨fun a U g mk q => by obtain ⟨q0, q1, qP, qK, qD⟩ := q; exact ⟨q0, q1, qP, va_K.moved (u := U) (U := U.calling g mk a) (Vm.Alike.refl U.vm) qK, qD⟩, va_recv hK hPc (ci := 2) (q0 := 0) rfl rfl, fun U hU hW => ⟨rfl, by rw [hU], by rw [hU]; exact hPc, va_K.moved hW.alike hK, hDc.weaken (fun _ _ _ _ => trivial)⟩⟩ rfl rfl hl.1 rfl (lv_room (Nat.le_of_ble_eq_true rfl)) d_Sh_addContours_142 ⟨Nat.le_of_ble_eq_true rfl, Nat.le_of_ble_eq_true rfl⟩) hS (fun q _ h => hFc q h) hFc (fun rr u t H1 locs ht hvm hw hB hz1 hk1 hS => ?_)
        obtain ⟨hP1, hK1, hD1⟩ := hB
        rw [ht] at hP1
        replace hw : r_14 = rr := hw.symm
        subst hw
        obtain ⟨hP, hD⟩ := va_join (wr := [(o_ys, .inl (cy 0, 256, .inl o_ys_f)), (o_on, .inl (cy 2, 256, .inl n_9)), (o_lasts, .inl (cy 0, 32, .inl o_lasts_f))]) (w1 := [(o, .inr (2, [.ref o_xs, .ref o_ys, .ref o_on, .ref o_lasts, .int ((o_points + x3) + (1 : Int32)), .int o_contours, .int o_parts, .ref o_flags, .ref o_readers, .ref o_moves])), (o_flags, .inl (cy 0, 128, .inl n_10)), (a1, .inr (0, [.ref a1_bytes, .int n_15, .int a1_limit, .int n_16])), (a1_bytes, .inl (cy 1, 4096, .inl a1_bytes_f)), (o_xs, .inl (cy 0, 256, .inl n_17))]) hP hD [0, 5, 6, 7, 1] [2, 3, 4] rfl rfl (by decide) (by decide) hk1 hFc hP1 hD1
        generalize H1 = H at hP hS ⊢
        have hP := hP.sub (ws' := [(o, .inr (2, [.ref o_xs, .ref o_ys, .ref o_on, .ref o_lasts, .int ((o_points + x3) + (1 : Int32)), .int o_contours, .int o_parts, .ref o_flags, .ref o_readers, .ref o_moves])), (o_xs, .inl (cy 0, 256, .inl n_17)), (o_ys, .inl (cy 0, 256, .inl o_ys_f)), (o_on, .inl (cy 2, 256, .inl n_9)), (o_lasts, .inl (cy 0, 32, .inl o_lasts_f)), (o_flags, .inl (cy 0, 128, .inl n_10)), (a1, .inr (0, [.ref a1_bytes, .int n_15, .int a1_limit, .int n_16])), (a1_bytes, .inl (cy 1, 4096, .inl a1_bytes_f))]) [3, 7, 0, 1, 2, 4, 5, 6] rfl
        have hD := hD.sub (ws' := [(o, .inr (2, [.ref o_xs, .ref o_ys, .ref o_on, .ref o_lasts, .int ((o_points + x3) + (1 : Int32)), .int o_contours, .int o_parts, .ref o_flags, .ref o_readers, .ref o_moves])), (o_xs, .inl (cy 0, 256, .inl n_17)), (o_ys, .inl (cy 0, 256, .inl o_ys_f)), (o_on, .inl (cy 2, 256, .inl n_9)), (o_lasts, .inl (cy 0, 32, .inl o_lasts_f)), (o_flags, .inl (cy 0, 128, .inl n_10)), (a1, .inr (0, [.ref a1_bytes, .int n_15, .int a1_limit, .int n_16])), (a1_bytes, .inl (cy 1, 4096, .inl a1_bytes_f))]) [3, 7, 0, 1, 2, 4, 5, 6] (by decide) rfl
        refine W.widen (k := 0) (n := 0) (by decide) (by decide) ?_
        refine lv_if_eq (tgt := 176) hx hb d_Sh_addContours_145 (by decide) (fun c_18 => ?_) (fun c_18 => ?_)
        · replace h := (if_pos c_18).symm.trans h
          refine lv_iconst (v := (0 : Int32)) hx hb d_Sh_addContours_176 (by decide) ?_
          cases h
          exact W.zret (ty := .boolean) hx hb hr rfl (fun t ht hW => ⟨⟨_, (), rfl, rfl, by rw [ht]; exact hP, va_K.moved hW.alike hK, hD⟩, hS.F ht⟩) hS.2.2 d_Sh_addContours_177 hlocks
        · replace h := (if_neg c_18).symm.trans h
          refine lv_aload_n hx hb d_Sh_addContours_148 rfl (lv_at hl 1 rfl) ?_
          refine lv_aload_n hx hb d_Sh_addContours_149 rfl (lv_at hl 2 rfl) ?_
          refine lv_iload hx hb d_Sh_addContours_150 (lv_at hl 0 rfl) ?_
          refine lv_aload_n hx hb d_Sh_addContours_152 rfl (lv_at hl 1 rfl) ?_
          refine va_get (D := (dC, dI)) (ci := 2) (v := .ref o_ys) (C := "GlyphPage$Shape") (T := F_Sh) (N := 10) hx hb htsG iG_Sh hown hK hP 0 rfl rfl 1 (by decide) (htsG _ mW87) (fun _ h9 => h9) rfl d_Sh_addContours_153 ?_
          refine lv_iconst (v := (4 : Int32)) hx hb d_Sh_addContours_156 (by decide) ?_
          refine lv_bipush (v := (32 : Int32)) hx hb d_Sh_addContours_157 (by decide) ?_
          obtain ⟨⟨r_19, n_20, n_21, n_22⟩, hq, h⟩ := Option.bind_eq_some_iff.mp h
          dsimp only [unp] at h
          have hPc := hP.sub (ws' := [(o, .inr (2, [.ref o_xs, .ref o_ys, .ref o_on, .ref o_lasts, .int ((o_points + x3) + (1 : Int32)), .int o_contours, .int o_parts, .ref o_flags, .ref o_readers, .ref o_moves])), (o_flags, .inl (cy 0, 128, .inl n_10)), (a1, .inr (0, [.ref a1_bytes, .int n_15, .int a1_limit, .int n_16])), (a1_bytes, .inl (cy 1, 4096, .inl a1_bytes_f)), (o_ys, .inl (cy 0, 256, .inl o_ys_f))]) [0, 5, 6, 7, 2] rfl
          have hDc := hD.sub (ws' := [(o, .inr (2, [.ref o_xs, .ref o_ys, .ref o_on, .ref o_lasts, .int ((o_points + x3) + (1 : Int32)), .int o_contours, .int o_parts, .ref o_flags, .ref o_readers, .ref o_moves])), (o_flags, .inl (cy 0, 128, .inl n_10)), (a1, .inr (0, [.ref a1_bytes, .int n_15, .int a1_limit, .int n_16])), (a1_bytes, .inl (cy 1, 4096, .inl a1_bytes_f)), (o_ys, .inl (cy 0, 256, .inl o_ys_f))]) [0, 5, 6, 7, 2] (by decide) rfl
          have hFc := va_free (wc := [(o, .inr (2, [.ref o_xs, .ref o_ys, .ref o_on, .ref o_lasts, .int ((o_points + x3) + (1 : Int32)), .int o_contours, .int o_parts, .ref o_flags, .ref o_readers, .ref o_moves])), (o_flags, .inl (cy 0, 128, .inl n_10)), (a1, .inr (0, [.ref a1_bytes, .int n_15, .int a1_limit, .int n_16])), (a1_bytes, .inl (cy 1, 4096, .inl a1_bytes_f)), (o_ys, .inl (cy 0, 256, .inl o_ys_f))]) hD hS hA [0, 5, 6, 7, 2] rfl
          refine va_calli (va_runV (As := [.ref a1, .int o_points, .ref o_ys, .int (4 : Int32), .int (32 : Int32)]) (rest := []) ⟨hx, hb, hml, hown, htsG⟩ (c_Sh_readAxis l dC dI cy H.size o a1 o_ys o_xs o_ys o_on o_lasts o_flags o_readers o_moves a1_bytes ((o_points + x3) + (1 : Int32)) o_contours o_parts n_10 n_15 a1_limit n_16 a1_bytes_f o_ys_f o_points (4 : Int32) (32 : Int32) (r_19, n_20, n_21, n_22) hq) (cwV 5 htsG (gV mW503 mW505 mS_Sh_readAxis mW2 mW506) rfl rfl rfl (by decide +kernel) ⟨Nat.le_of_ble_eq_true rfl, Nat.le_of_ble_eq_true rfl⟩) ⟨fun a U g mk q => by obtain ⟨q0, q1, qP, qK, qD⟩ := q; exact ⟨q0, q1, qP, va_K.moved (u := U) (U := U.calling g mk a) (Vm.Alike.refl U.vm) qK, qD⟩, va_recv hK hPc (ci := 2) (q0 := 0) rfl rfl, fun U hU hW => ⟨rfl, by rw [hU], by rw [hU]; exact hPc, va_K.moved hW.alike hK, hDc.weaken (fun _ _ _ _ => trivial)⟩⟩ rfl rfl hl.1 rfl (lv_room (Nat.le_of_ble_eq_true rfl)) d_Sh_addContours_159 ⟨Nat.le_of_ble_eq_true rfl, Nat.le_of_ble_eq_true rfl⟩) hS (fun q _ h => hFc q h) hFc (fun rr u t H1 locs ht hvm hw hB hz1 hk1 hS => ?_)
          obtain ⟨hP1, hK1, hD1⟩ := hB
          rw [ht] at hP1
          replace hw : r_19 = rr := hw.symm
          subst hw
          obtain ⟨hP, hD⟩ := va_join (wr := [(o_xs, .inl (cy 0, 256, .inl n_17)), (o_on, .inl (cy 2, 256, .inl n_9)), (o_lasts, .inl (cy 0, 32, .inl o_lasts_f))]) (w1 := [(o, .inr (2, [.ref o_xs, .ref o_ys, .ref o_on, .ref o_lasts, .int ((o_points + x3) + (1 : Int32)), .int o_contours, .int o_parts, .ref o_flags, .ref o_readers, .ref o_moves])), (o_flags, .inl (cy 0, 128, .inl n_10)), (a1, .inr (0, [.ref a1_bytes, .int n_20, .int a1_limit, .int n_21])), (a1_bytes, .inl (cy 1, 4096, .inl a1_bytes_f)), (o_ys, .inl (cy 0, 256, .inl n_22))]) hP hD [0, 5, 6, 7, 2] [1, 3, 4] rfl rfl (by decide) (by decide) hk1 hFc hP1 hD1
          generalize H1 = H at hP hS ⊢
          have hP := hP.sub (ws' := [(o, .inr (2, [.ref o_xs, .ref o_ys, .ref o_on, .ref o_lasts, .int ((o_points + x3) + (1 : Int32)), .int o_contours, .int o_parts, .ref o_flags, .ref o_readers, .ref o_moves])), (o_xs, .inl (cy 0, 256, .inl n_17)), (o_ys, .inl (cy 0, 256, .inl n_22)), (o_on, .inl (cy 2, 256, .inl n_9)), (o_lasts, .inl (cy 0, 32, .inl o_lasts_f)), (o_flags, .inl (cy 0, 128, .inl n_10)), (a1, .inr (0, [.ref a1_bytes, .int n_20, .int a1_limit, .int n_21])), (a1_bytes, .inl (cy 1, 4096, .inl a1_bytes_f))]) [3, 0, 7, 1, 2, 4, 5, 6] rfl
          have hD := hD.sub (ws' := [(o, .inr (2, [.ref o_xs, .ref o_ys, .ref o_on, .ref o_lasts, .int ((o_points + x3) + (1 : Int32)), .int o_contours, .int o_parts, .ref o_flags, .ref o_readers, .ref o_moves])), (o_xs, .inl (cy 0, 256, .inl n_17)), (o_ys, .inl (cy 0, 256, .inl n_22)), (o_on, .inl (cy 2, 256, .inl n_9)), (o_lasts, .inl (cy 0, 32, .inl o_lasts_f)), (o_flags, .inl (cy 0, 128, .inl n_10)), (a1, .inr (0, [.ref a1_bytes, .int n_20, .int a1_limit, .int n_21])), (a1_bytes, .inl (cy 1, 4096, .inl a1_bytes_f))]) [3, 0, 7, 1, 2, 4, 5, 6] (by decide) rfl
          refine W.widen (k := 0) (n := 0) (by decide) (by decide) ?_
          refine lv_if_eq (tgt := 176) hx hb d_Sh_addContours_162 (by decide) (fun c_23 => ?_) (fun c_23 => ?_)
          · replace h := (if_pos c_23).symm.trans h
            refine lv_iconst (v := (0 : Int32)) hx hb d_Sh_addContours_176 (by decide) ?_
            cases h
            exact W.zret (ty := .boolean) hx hb hr rfl (fun t ht hW => ⟨⟨_, (), rfl, rfl, by rw [ht]; exact hP, va_K.moved hW.alike hK, hD⟩, hS.F ht⟩) hS.2.2 d_Sh_addContours_177 hlocks
          · replace h := (if_neg c_23).symm.trans h
            refine lv_aload_n hx hb d_Sh_addContours_165 rfl (lv_at hl 2 rfl) ?_
            obtain ⟨r_24, hq, h⟩ := Option.bind_eq_some_iff.mp h
            try dsimp only at h
            have hPc := hP.sub (ws' := [(a1, .inr (0, [.ref a1_bytes, .int n_20, .int a1_limit, .int n_21]))]) [6] rfl
            have hDc := hD.sub (ws' := [(a1, .inr (0, [.ref a1_bytes, .int n_20, .int a1_limit, .int n_21]))]) [6] (by decide) rfl
            have hFc := va_free (wc := [(a1, .inr (0, [.ref a1_bytes, .int n_20, .int a1_limit, .int n_21]))]) hD hS hA [6] rfl
            refine va_calli (va_runV (As := []) (rest := []) ⟨hx, hb, hml, hown, htsG⟩ (c_Rd_isWhole l dC dI cy H.size a1 (some a1_bytes) n_20 a1_limit n_21 r_24 hq) (cwV 0 htsG (gV mW507 mW475 mW476 mW3 mW477) rfl rfl rfl (by decide +kernel) ⟨Nat.le_of_ble_eq_true rfl, Nat.le_of_ble_eq_true rfl⟩) ⟨fun a U g mk q => by obtain ⟨q0, q1, qP, qK, qD⟩ := q; exact ⟨q0, q1, qP, va_K.moved (u := U) (U := U.calling g mk a) (Vm.Alike.refl U.vm) qK, qD⟩, va_recv hK hPc (ci := 0) (q0 := 0) rfl rfl, fun U hU hW => ⟨rfl, by rw [hU], by rw [hU]; exact hPc, va_K.moved hW.alike hK, hDc.weaken (fun _ _ _ _ => trivial)⟩⟩ rfl rfl hl.1 rfl (lv_room (Nat.le_of_ble_eq_true rfl)) d_Sh_addContours_166 ⟨Nat.le_of_ble_eq_true rfl, Nat.le_of_ble_eq_true rfl⟩) hS (fun q _ h => hFc q h) hFc (fun rr u t H1 locs ht hvm hw hB hz1 hk1 hS => ?_)
            obtain ⟨hP1, hK1, hD1⟩ := hB
            rw [ht] at hP1
            replace hw : r_24 = rr := hw.symm
            subst hw
            obtain ⟨hP, hD⟩ := va_join (wr := [(o, .inr (2, [.ref o_xs, .ref o_ys, .ref o_on, .ref o_lasts, .int ((o_points + x3) + (1 : Int32)), .int o_contours, .int o_parts, .ref o_flags, .ref o_readers, .ref o_moves])), (o_xs, .inl (cy 0, 256, .inl n_17)), (o_ys, .inl (cy 0, 256, .inl n_22)), (o_on, .inl (cy 2, 256, .inl n_9)), (o_lasts, .inl (cy 0, 32, .inl o_lasts_f)), (o_flags, .inl (cy 0, 128, .inl n_10)), (a1_bytes, .inl (cy 1, 4096, .inl a1_bytes_f))]) (w1 := [(a1, .inr (0, [.ref a1_bytes, .int n_20, .int a1_limit, .int n_21]))]) hP hD [6] [0, 1, 2, 3, 4, 5, 7] rfl rfl (by decide) (by decide) hk1 hFc hP1 hD1
            generalize H1 = H at hP hS ⊢
            have hP := hP.sub (ws' := [(o, .inr (2, [.ref o_xs, .ref o_ys, .ref o_on, .ref o_lasts, .int ((o_points + x3) + (1 : Int32)), .int o_contours, .int o_parts, .ref o_flags, .ref o_readers, .ref o_moves])), (o_xs, .inl (cy 0, 256, .inl n_17)), (o_ys, .inl (cy 0, 256, .inl n_22)), (o_on, .inl (cy 2, 256, .inl n_9)), (o_lasts, .inl (cy 0, 32, .inl o_lasts_f)), (o_flags, .inl (cy 0, 128, .inl n_10)), (a1, .inr (0, [.ref a1_bytes, .int n_20, .int a1_limit, .int n_21])), (a1_bytes, .inl (cy 1, 4096, .inl a1_bytes_f))]) [0, 1, 2, 3, 4, 5, 7, 6] rfl
            have hD := hD.sub (ws' := [(o, .inr (2, [.ref o_xs, .ref o_ys, .ref o_on, .ref o_lasts, .int ((o_points + x3) + (1 : Int32)), .int o_contours, .int o_parts, .ref o_flags, .ref o_readers, .ref o_moves])), (o_xs, .inl (cy 0, 256, .inl n_17)), (o_ys, .inl (cy 0, 256, .inl n_22)), (o_on, .inl (cy 2, 256, .inl n_9)), (o_lasts, .inl (cy 0, 32, .inl o_lasts_f)), (o_flags, .inl (cy 0, 128, .inl n_10)), (a1, .inr (0, [.ref a1_bytes, .int n_20, .int a1_limit, .int n_21])), (a1_bytes, .inl (cy 1, 4096, .inl a1_bytes_f))]) [0, 1, 2, 3, 4, 5, 7, 6] (by decide) rfl
            refine W.widen (k := 0) (n := 0) (by decide) (by decide) ?_
            refine lv_if_eq (tgt := 176) hx hb d_Sh_addContours_169 (by decide) (fun c_25 => ?_) (fun c_25 => ?_)
            · replace h := (if_pos c_25).symm.trans h
              refine lv_iconst (v := (0 : Int32)) hx hb d_Sh_addContours_176 (by decide) ?_
              cases h
              exact W.zret (ty := .boolean) hx hb hr rfl (fun t ht hW => ⟨⟨_, (), rfl, rfl, by rw [ht]; exact hP, va_K.moved hW.alike hK, hD⟩, hS.F ht⟩) hS.2.2 d_Sh_addContours_177 hlocks
            · replace h := (if_neg c_25).symm.trans h
              refine lv_iconst (v := (1 : Int32)) hx hb d_Sh_addContours_172 (by decide) ?_
              refine lv_goto (tgt := 177) hx hb d_Sh_addContours_173 (by decide) ?_
              cases h
              exact W.zret (ty := .boolean) hx hb hr rfl (fun t ht hW => ⟨⟨_, (), rfl, rfl, by rw [ht]; exact hP, va_K.moved hW.alike hK, hD⟩, hS.F ht⟩) hS.2.2 d_Sh_addContours_177 hlocks
    · replace h := (if_neg c_2).symm.trans h
      refine lv_iconst (v := (0 : Int32)) hx hb d_Sh_addContours_101 (by decide) ?_
      cases h
      exact W.zret (ty := .boolean) hx hb hr rfl (fun t ht hW => ⟨⟨_, (), rfl, rfl, by rw [ht]; exact hP, va_K.moved hW.alike hK, hD⟩, hS.F ht⟩) hS.2.2 d_Sh_addContours_102 hlocks
  · replace h := (if_neg c_1).symm.trans h
    refine lv_aload_n hx hb d_Sh_addContours_30 rfl (lv_at hl 1 rfl) ?_
    obtain ⟨⟨r_26, n_27, n_28⟩, hq, h⟩ := Option.bind_eq_some_iff.mp h
    dsimp only [unp] at h
    have hPc := hP.sub (ws' := [(a1, .inr (0, [.ref a1_bytes, .int a1_place, .int a1_limit, .int a1_whole])), (a1_bytes, .inl (cy 1, 4096, .inl a1_bytes_f))]) [6, 7] rfl
    have hDc := hD.sub (ws' := [(a1, .inr (0, [.ref a1_bytes, .int a1_place, .int a1_limit, .int a1_whole])), (a1_bytes, .inl (cy 1, 4096, .inl a1_bytes_f))]) [6, 7] (by decide) rfl
    have hFc := va_free (wc := [(a1, .inr (0, [.ref a1_bytes, .int a1_place, .int a1_limit, .int a1_whole])), (a1_bytes, .inl (cy 1, 4096, .inl a1_bytes_f))]) hD hS hA [6, 7] rfl
    refine va_calli (va_runV (As := []) (rest := []) ⟨hx, hb, hml, hown, htsG⟩ (c_Rd_two l dC dI cy H.size a1 a1_bytes a1_place a1_limit a1_whole a1_bytes_f (r_26, n_27, n_28) hq) (cwV 0 htsG (gV mW453 mW454 mW455 mW3 mW456) rfl rfl rfl (by decide +kernel) ⟨Nat.le_of_ble_eq_true rfl, Nat.le_of_ble_eq_true rfl⟩) ⟨fun a U g mk q => by obtain ⟨q0, q1, qP, qK, qD⟩ := q; exact ⟨q0, q1, qP, va_K.moved (u := U) (U := U.calling g mk a) (Vm.Alike.refl U.vm) qK, qD⟩, va_recv hK hPc (ci := 0) (q0 := 0) rfl rfl, fun U hU hW => ⟨rfl, by rw [hU], by rw [hU]; exact hPc, va_K.moved hW.alike hK, hDc.weaken (fun _ _ _ _ => trivial)⟩⟩ rfl rfl hl.1 rfl (lv_room (Nat.le_of_ble_eq_true rfl)) d_Sh_addContours_31 ⟨Nat.le_of_ble_eq_true rfl, Nat.le_of_ble_eq_true rfl⟩) hS (fun q _ h => hFc q h) hFc (fun rr u t H1 locs ht hvm hw hB hz1 hk1 hS => ?_)
    obtain ⟨hP1, hK1, hD1⟩ := hB
    rw [ht] at hP1
    replace hw : r_26 = rr := hw.symm
    subst hw
    obtain ⟨hP, hD⟩ := va_join (wr := [(o, .inr (2, [.ref o_xs, .ref o_ys, .ref o_on, .ref o_lasts, .int o_points, .int o_contours, .int o_parts, .ref o_flags, .ref o_readers, .ref o_moves])), (o_xs, .inl (cy 0, 256, .inl o_xs_f)), (o_ys, .inl (cy 0, 256, .inl o_ys_f)), (o_on, .inl (cy 2, 256, .inl o_on_f)), (o_lasts, .inl (cy 0, 32, .inl o_lasts_f)), (o_flags, .inl (cy 0, 128, .inl o_flags_f))]) (w1 := [(a1, .inr (0, [.ref a1_bytes, .int n_27, .int a1_limit, .int n_28])), (a1_bytes, .inl (cy 1, 4096, .inl a1_bytes_f))]) hP hD [6, 7] [0, 1, 2, 3, 4, 5] rfl rfl (by decide) (by decide) hk1 hFc hP1 hD1
    generalize H1 = H at hP hS ⊢
    have hP := hP.sub (ws' := [(o, .inr (2, [.ref o_xs, .ref o_ys, .ref o_on, .ref o_lasts, .int o_points, .int o_contours, .int o_parts, .ref o_flags, .ref o_readers, .ref o_moves])), (o_xs, .inl (cy 0, 256, .inl o_xs_f)), (o_ys, .inl (cy 0, 256, .inl o_ys_f)), (o_on, .inl (cy 2, 256, .inl o_on_f)), (o_lasts, .inl (cy 0, 32, .inl o_lasts_f)), (o_flags, .inl (cy 0, 128, .inl o_flags_f)), (a1, .inr (0, [.ref a1_bytes, .int n_27, .int a1_limit, .int n_28])), (a1_bytes, .inl (cy 1, 4096, .inl a1_bytes_f))]) [0, 1, 2, 3, 4, 5, 6, 7] rfl
    have hD := hD.sub (ws' := [(o, .inr (2, [.ref o_xs, .ref o_ys, .ref o_on, .ref o_lasts, .int o_points, .int o_contours, .int o_parts, .ref o_flags, .ref o_readers, .ref o_moves])), (o_xs, .inl (cy 0, 256, .inl o_xs_f)), (o_ys, .inl (cy 0, 256, .inl o_ys_f)), (o_on, .inl (cy 2, 256, .inl o_on_f)), (o_lasts, .inl (cy 0, 32, .inl o_lasts_f)), (o_flags, .inl (cy 0, 128, .inl o_flags_f)), (a1, .inr (0, [.ref a1_bytes, .int n_27, .int a1_limit, .int n_28])), (a1_bytes, .inl (cy 1, 4096, .inl a1_bytes_f))]) [0, 1, 2, 3, 4, 5, 6, 7] (by decide) rfl
    refine W.widen (k := 0) (n := 0) (by decide) (by decide) ?_
    refine lv_istore (lv' := [(5, .int r_26), (0, .ref o), (1, .ref a1), (2, .int x2), (3, .int x3), (4, .int x4)]) hx hb d_Sh_addContours_34 hl (by decide) rfl (fun ls hl => ?_)
    refine lv_iload hx hb d_Sh_addContours_36 (lv_at hl 0 rfl) ?_
    refine lv_iload_n hx hb d_Sh_addContours_38 rfl (lv_at hl 4 rfl) ?_
    refine lv_icmp_le (tgt := 50) hx hb d_Sh_addContours_39 (by decide) (fun c_29 => ?_) (fun c_29 => ?_)
    · replace h := (if_pos c_29).symm.trans h
      refine lv_iconst (v := (0 : Int32)) hx hb d_Sh_addContours_50 (by decide) ?_
      cases h
      exact W.zret (ty := .boolean) hx hb hr rfl (fun t ht hW => ⟨⟨_, (), rfl, rfl, by rw [ht]; exact hP, va_K.moved hW.alike hK, hD⟩, hS.F ht⟩) hS.2.2 d_Sh_addContours_51 hlocks
    · replace h := (if_neg c_29).symm.trans h
      refine lv_iload hx hb d_Sh_addContours_42 (lv_at hl 0 rfl) ?_
      refine lv_sipush (v := (128 : Int32)) hx hb d_Sh_addContours_44 (by decide) ?_
      refine lv_icmp_lt (tgt := 52) hx hb d_Sh_addContours_47 (by decide) (fun c_30 => ?_) (fun c_30 => ?_)
      · replace h := (if_pos c_30).symm.trans h
        refine lv_iload hx hb d_Sh_addContours_52 (lv_at hl 0 rfl) ?_
        refine lv_istore_n (lv' := [(3, .int r_26), (5, .int r_26), (0, .ref o), (1, .ref a1), (2, .int x2), (4, .int x4)]) hx hb d_Sh_addContours_54 rfl hl (by decide) rfl (fun ls hl => ?_)
        refine lv_aload_n hx hb d_Sh_addContours_55 rfl (lv_at hl 2 rfl) ?_
        refine va_get (D := (dC, dI)) (ci := 2) (v := .ref o_lasts) (C := "GlyphPage$Shape") (T := F_Sh) (N := 10) hx hb htsG iG_Sh hown hK hP 0 rfl rfl 3 (by decide) (htsG _ mW93) (fun _ h9 => h9) rfl d_Sh_addContours_56 ?_
        refine lv_aload_n hx hb d_Sh_addContours_59 rfl (lv_at hl 2 rfl) ?_
        refine lv_dup hx hb d_Sh_addContours_60 rfl ?_
        refine va_get (D := (dC, dI)) (ci := 2) (v := .int o_contours) (C := "GlyphPage$Shape") (T := F_Sh) (N := 10) hx hb htsG iG_Sh hown hK hP 0 rfl rfl 5 (by decide) (htsG _ mW98) (fun _ h9 => h9) rfl d_Sh_addContours_61 ?_
        refine lv_dup_x1 hx hb d_Sh_addContours_64 rfl rfl ?_
        refine lv_iconst (v := (1 : Int32)) hx hb d_Sh_addContours_65 (by decide) ?_
        refine lv_iadd hx hb d_Sh_addContours_66 ?_
        refine va_put (D := (dC, dI)) (ci := 2) (v := .int (o_contours + (1 : Int32))) (ty := .int) (C := "GlyphPage$Shape") (T := F_Sh) (N := 10) hx hb htsG iG_Sh t_Sh t_Sh_ok n_Sh hown hK hP hD hS 0 rfl rfl 5 (by decide) (htsG _ mW98) (fun _ h9 => h9) rfl (by decide +kernel) rfl rfl (Nat.le_of_ble_eq_true rfl) d_Sh_addContours_67 (fun H locs hP hD hS => ?_)
        have hP : va_P (dC, dI) classes [(o, .inr (2, [.ref o_xs, .ref o_ys, .ref o_on, .ref o_lasts, .int o_points, .int (o_contours + (1 : Int32)), .int o_parts, .ref o_flags, .ref o_readers, .ref o_moves])), (o_xs, .inl (cy 0, 256, .inl o_xs_f)), (o_ys, .inl (cy 0, 256, .inl o_ys_f)), (o_on, .inl (cy 2, 256, .inl o_on_f)), (o_lasts, .inl (cy 0, 32, .inl o_lasts_f)), (o_flags, .inl (cy 0, 128, .inl o_flags_f)), (a1, .inr (0, [.ref a1_bytes, .int n_27, .int a1_limit, .int n_28])), (a1_bytes, .inl (cy 1, 4096, .inl a1_bytes_f))] H := hP
        have hD : va_D A [(o, .inr (2, [.ref o_xs, .ref o_ys, .ref o_on, .ref o_lasts, .int o_points, .int (o_contours + (1 : Int32)), .int o_parts, .ref o_flags, .ref o_readers, .ref o_moves])), (o_xs, .inl (cy 0, 256, .inl o_xs_f)), (o_ys, .inl (cy 0, 256, .inl o_ys_f)), (o_on, .inl (cy 2, 256, .inl o_on_f)), (o_lasts, .inl (cy 0, 32, .inl o_lasts_f)), (o_flags, .inl (cy 0, 128, .inl o_flags_f)), (a1, .inr (0, [.ref a1_bytes, .int n_27, .int a1_limit, .int n_28])), (a1_bytes, .inl (cy 1, 4096, .inl a1_bytes_f))] := hD
        refine lv_aload_n hx hb d_Sh_addContours_70 rfl (lv_at hl 2 rfl) ?_
        refine va_get (D := (dC, dI)) (ci := 2) (v := .int o_points) (C := "GlyphPage$Shape") (T := F_Sh) (N := 10) hx hb htsG iG_Sh hown hK hP 0 rfl rfl 4 (by decide) (htsG _ mW95) (fun _ h9 => h9) rfl d_Sh_addContours_71 ?_
        refine lv_iload_n hx hb d_Sh_addContours_74 rfl (lv_at hl 0 rfl) ?_
        refine lv_iadd hx hb d_Sh_addContours_75 ?_
        obtain ⟨hin_31, h⟩ := bd_some h
        refine va_iast hx hb hK hP hD hS 4 0 rfl rfl hin_31 d_Sh_addContours_76 (fun H locs hP hD hS => ?_)
        have hP : va_P (dC, dI) classes [(o, .inr (2, [.ref o_xs, .ref o_ys, .ref o_on, .ref o_lasts, .int o_points, .int (o_contours + (1 : Int32)), .int o_parts, .ref o_flags, .ref o_readers, .ref o_moves])), (o_xs, .inl (cy 0, 256, .inl o_xs_f)), (o_ys, .inl (cy 0, 256, .inl o_ys_f)), (o_on, .inl (cy 2, 256, .inl o_on_f)), (o_lasts, .inl (cy 0, 32, .inl (upd o_lasts_f o_contours.toNatClampNeg (o_points + r_26)))), (o_flags, .inl (cy 0, 128, .inl o_flags_f)), (a1, .inr (0, [.ref a1_bytes, .int n_27, .int a1_limit, .int n_28])), (a1_bytes, .inl (cy 1, 4096, .inl a1_bytes_f))] H := hP
        have hD : va_D A [(o, .inr (2, [.ref o_xs, .ref o_ys, .ref o_on, .ref o_lasts, .int o_points, .int (o_contours + (1 : Int32)), .int o_parts, .ref o_flags, .ref o_readers, .ref o_moves])), (o_xs, .inl (cy 0, 256, .inl o_xs_f)), (o_ys, .inl (cy 0, 256, .inl o_ys_f)), (o_on, .inl (cy 2, 256, .inl o_on_f)), (o_lasts, .inl (cy 0, 32, .inl (upd o_lasts_f o_contours.toNatClampNeg (o_points + r_26)))), (o_flags, .inl (cy 0, 128, .inl o_flags_f)), (a1, .inr (0, [.ref a1_bytes, .int n_27, .int a1_limit, .int n_28])), (a1_bytes, .inl (cy 1, 4096, .inl a1_bytes_f))] := hD
        refine lv_iinc (v := (x4 + (1 : Int32))) (lv' := [(4, .int (x4 + (1 : Int32))), (3, .int r_26), (5, .int r_26), (0, .ref o), (1, .ref a1), (2, .int x2)]) hx hb d_Sh_addContours_77 hl (k := 5) rfl rfl (by decide) rfl (fun ls hl => ?_)
        refine lv_goto (tgt := 24) hx hb d_Sh_addContours_80 (by decide) ?_
        exact hz24 x2 r_26 (x4 + (1 : Int32)) o_points (o_contours + (1 : Int32)) o_xs_f o_ys_f o_on_f (upd o_lasts_f o_contours.toNatClampNeg (o_points + r_26)) o_flags_f n_27 n_28 _ _ _ h hP hD hS (lv_sub hl [3, 4, 5, 1, 0] rfl)
      · replace h := (if_neg c_30).symm.trans h
        refine lv_iconst (v := (0 : Int32)) hx hb d_Sh_addContours_50 (by decide) ?_
        cases h
        exact W.zret (ty := .boolean) hx hb hr rfl (fun t ht hW => ⟨⟨_, (), rfl, rfl, by rw [ht]; exact hP, va_K.moved hW.alike hK, hD⟩, hS.F ht⟩) hS.2.2 d_Sh_addContours_51 hlocks
theorem w_Sh_addContours_24 (C0 : Cx p s m args meth c A dC dI cy b_Sh_addContours 6 (some .boolean) "GlyphPage$Shape") (o : Nat) (a1 : Nat) (o_xs : Nat) (o_ys : Nat) (o_on : Nat) (o_lasts : Nat) (o_flags : Nat) (o_readers : Nat) (o_moves : Nat) (a1_bytes : Nat) (o_parts : Int32) (a1_limit : Int32) (a1_bytes_f : Nat → Int32) (a2 : Int32) (uu : Int32 × Int32 × Int32 × (Nat → Int32) × (Nat → Int32) × (Nat → Int32) × (Nat → Int32) × (Nat → Int32) × Int32 × Int32)  (x2 : Int32) (x3 : Int32) (x4 : Int32) (o_points : Int32) (o_contours : Int32) (o_xs_f : Nat → Int32) (o_ys_f : Nat → Int32) (o_on_f : Nat → Int32) (o_lasts_f : Nat → Int32) (o_flags_f : Nat → Int32) (a1_place : Int32) (a1_whole : Int32) {H : Heap} {locs : List Loc} {ls : Array Slot} (h : P_Sh_addContours_24 a1_limit a1_bytes_f x2 x3 x4 o_points o_contours o_xs_f o_ys_f o_on_f o_lasts_f o_flags_f a1_place a1_whole = some uu) : va_P (dC, dI) classes [(o, .inr (2, [.ref o_xs, .ref o_ys, .ref o_on, .ref o_lasts, .int o_points, .int o_contours, .int o_parts, .ref o_flags, .ref o_readers, .ref o_moves])), (o_xs, .inl (cy 0, 256, .inl o_xs_f)), (o_ys, .inl (cy 0, 256, .inl o_ys_f)), (o_on, .inl (cy 2, 256, .inl o_on_f)), (o_lasts, .inl (cy 0, 32, .inl o_lasts_f)), (o_flags, .inl (cy 0, 128, .inl o_flags_f)), (a1, .inr (0, [.ref a1_bytes, .int a1_place, .int a1_limit, .int a1_whole])), (a1_bytes, .inl (cy 1, 4096, .inl a1_bytes_f))] H → va_D A [(o, .inr (2, [.ref o_xs, .ref o_ys, .ref o_on, .ref o_lasts, .int o_points, .int o_contours, .int o_parts, .ref o_flags, .ref o_readers, .ref o_moves])), (o_xs, .inl (cy 0, 256, .inl o_xs_f)), (o_ys, .inl (cy 0, 256, .inl o_ys_f)), (o_on, .inl (cy 2, 256, .inl o_on_f)), (o_lasts, .inl (cy 0, 32, .inl o_lasts_f)), (o_flags, .inl (cy 0, 128, .inl o_flags_f)), (a1, .inr (0, [.ref a1_bytes, .int a1_place, .int a1_limit, .int a1_whole])), (a1_bytes, .inl (cy 1, 4096, .inl a1_bytes_f))] → va_S A s.heap H locs → lv_has ls 6 [(0, .ref o), (1, .ref a1), (2, .int x2), (3, .int x3), (4, .int x4)] → W p l e ({ frames := 2, cells := 0, slots := 0, locals := 49 } : Room) s m args below meth c H locs 0 0 (MQ below (va_Qi (fun r (_ : Unit) => r = uu.1) (fun _ t => va_P (dC, dI) classes [(o, .inr (2, [.ref o_xs, .ref o_ys, .ref o_on, .ref o_lasts, .int uu.2.1, .int uu.2.2.1, .int o_parts, .ref o_flags, .ref o_readers, .ref o_moves])), (o_xs, .inl (cy 0, 256, .inl uu.2.2.2.1)), (o_ys, .inl (cy 0, 256, .inl uu.2.2.2.2.1)), (o_on, .inl (cy 2, 256, .inl uu.2.2.2.2.2.1)), (o_lasts, .inl (cy 0, 32, .inl uu.2.2.2.2.2.2.1)), (o_flags, .inl (cy 0, 128, .inl uu.2.2.2.2.2.2.2.1)), (a1, .inr (0, [.ref a1_bytes, .int uu.2.2.2.2.2.2.2.2.1, .int a1_limit, .int uu.2.2.2.2.2.2.2.2.2])), (a1_bytes, .inl (cy 1, 4096, .inl a1_bytes_f))] t.heap ∧ va_K (dC, dI) classes (TY cy) t ∧ va_D A [(o, .inr (2, [.ref o_xs, .ref o_ys, .ref o_on, .ref o_lasts, .int uu.2.1, .int uu.2.2.1, .int o_parts, .ref o_flags, .ref o_readers, .ref o_moves])), (o_xs, .inl (cy 0, 256, .inl uu.2.2.2.1)), (o_ys, .inl (cy 0, 256, .inl uu.2.2.2.2.1)), (o_on, .inl (cy 2, 256, .inl uu.2.2.2.2.2.1)), (o_lasts, .inl (cy 0, 32, .inl uu.2.2.2.2.2.2.1)), (o_flags, .inl (cy 0, 128, .inl uu.2.2.2.2.2.2.2.1)), (a1, .inr (0, [.ref a1_bytes, .int uu.2.2.2.2.2.2.2.2.1, .int a1_limit, .int uu.2.2.2.2.2.2.2.2.2])), (a1_bytes, .inl (cy 1, 4096, .inl a1_bytes_f))]) A) args s 0 0 A) (F0 m 24 ls []) := by
  have key : ∀ (n : Nat) (x2 : Int32) (x3 : Int32) (x4 : Int32) (o_points : Int32) (o_contours : Int32) (o_xs_f : Nat → Int32) (o_ys_f : Nat → Int32) (o_on_f : Nat → Int32) (o_lasts_f : Nat → Int32) (o_flags_f : Nat → Int32) (a1_place : Int32) (a1_whole : Int32) (H : Heap) (locs : List Loc) (ls : Array Slot), lp (L_Sh_addContours_24 a1_limit a1_bytes_f) n (x2, x3, x4, o_points, o_contours, o_xs_f, o_ys_f, o_on_f, o_lasts_f, o_flags_f, a1_place, a1_whole) = some uu → va_P (dC, dI) classes [(o, .inr (2, [.ref o_xs, .ref o_ys, .ref o_on, .ref o_lasts, .int o_points, .int o_contours, .int o_parts, .ref o_flags, .ref o_readers, .ref o_moves])), (o_xs, .inl (cy 0, 256, .inl o_xs_f)), (o_ys, .inl (cy 0, 256, .inl o_ys_f)), (o_on, .inl (cy 2, 256, .inl o_on_f)), (o_lasts, .inl (cy 0, 32, .inl o_lasts_f)), (o_flags, .inl (cy 0, 128, .inl o_flags_f)), (a1, .inr (0, [.ref a1_bytes, .int a1_place, .int a1_limit, .int a1_whole])), (a1_bytes, .inl (cy 1, 4096, .inl a1_bytes_f))] H → va_D A [(o, .inr (2, [.ref o_xs, .ref o_ys, .ref o_on, .ref o_lasts, .int o_points, .int o_contours, .int o_parts, .ref o_flags, .ref o_readers, .ref o_moves])), (o_xs, .inl (cy 0, 256, .inl o_xs_f)), (o_ys, .inl (cy 0, 256, .inl o_ys_f)), (o_on, .inl (cy 2, 256, .inl o_on_f)), (o_lasts, .inl (cy 0, 32, .inl o_lasts_f)), (o_flags, .inl (cy 0, 128, .inl o_flags_f)), (a1, .inr (0, [.ref a1_bytes, .int a1_place, .int a1_limit, .int a1_whole])), (a1_bytes, .inl (cy 1, 4096, .inl a1_bytes_f))] → va_S A s.heap H locs → lv_has ls 6 [(0, .ref o), (1, .ref a1), (2, .int x2), (3, .int x3), (4, .int x4)] → W p l e ({ frames := 2, cells := 0, slots := 0, locals := 49 } : Room) s m args below meth c H locs 0 0 (MQ below (va_Qi (fun r (_ : Unit) => r = uu.1) (fun _ t => va_P (dC, dI) classes [(o, .inr (2, [.ref o_xs, .ref o_ys, .ref o_on, .ref o_lasts, .int uu.2.1, .int uu.2.2.1, .int o_parts, .ref o_flags, .ref o_readers, .ref o_moves])), (o_xs, .inl (cy 0, 256, .inl uu.2.2.2.1)), (o_ys, .inl (cy 0, 256, .inl uu.2.2.2.2.1)), (o_on, .inl (cy 2, 256, .inl uu.2.2.2.2.2.1)), (o_lasts, .inl (cy 0, 32, .inl uu.2.2.2.2.2.2.1)), (o_flags, .inl (cy 0, 128, .inl uu.2.2.2.2.2.2.2.1)), (a1, .inr (0, [.ref a1_bytes, .int uu.2.2.2.2.2.2.2.2.1, .int a1_limit, .int uu.2.2.2.2.2.2.2.2.2])), (a1_bytes, .inl (cy 1, 4096, .inl a1_bytes_f))] t.heap ∧ va_K (dC, dI) classes (TY cy) t ∧ va_D A [(o, .inr (2, [.ref o_xs, .ref o_ys, .ref o_on, .ref o_lasts, .int uu.2.1, .int uu.2.2.1, .int o_parts, .ref o_flags, .ref o_readers, .ref o_moves])), (o_xs, .inl (cy 0, 256, .inl uu.2.2.2.1)), (o_ys, .inl (cy 0, 256, .inl uu.2.2.2.2.1)), (o_on, .inl (cy 2, 256, .inl uu.2.2.2.2.2.1)), (o_lasts, .inl (cy 0, 32, .inl uu.2.2.2.2.2.2.1)), (o_flags, .inl (cy 0, 128, .inl uu.2.2.2.2.2.2.2.1)), (a1, .inr (0, [.ref a1_bytes, .int uu.2.2.2.2.2.2.2.2.1, .int a1_limit, .int uu.2.2.2.2.2.2.2.2.2])), (a1_bytes, .inl (cy 1, 4096, .inl a1_bytes_f))]) A) args s 0 0 A) (F0 m 24 ls []) := by
    intro n
    induction n with
    | zero => intro x2 x3 x4 o_points o_contours o_xs_f o_ys_f o_on_f o_lasts_f o_flags_f a1_place a1_whole H locs ls h; cases h
    | succ n ih => intro x2 x3 x4 o_points o_contours o_xs_f o_ys_f o_on_f o_lasts_f o_flags_f a1_place a1_whole H locs ls h; exact w_Sh_addContours_24b C0 o a1 o_xs o_ys o_on o_lasts o_flags o_readers o_moves a1_bytes o_parts a1_limit a1_bytes_f a2 uu  (lp (L_Sh_addContours_24 a1_limit a1_bytes_f) n) ih x2 x3 x4 o_points o_contours o_xs_f o_ys_f o_on_f o_lasts_f o_flags_f a1_place a1_whole ((e_Sh_addContours_24 a1_limit a1_bytes_f n x2 x3 x4 o_points o_contours o_xs_f o_ys_f o_on_f o_lasts_f o_flags_f a1_place a1_whole).symm.trans h)
  exact key fuel x2 x3 x4 o_points o_contours o_xs_f o_ys_f o_on_f o_lasts_f o_flags_f a1_place a1_whole H locs ls h
def P_Sh_addContours (o_points : Int32) (o_contours : Int32) (o_xs_f : Nat → Int32) (o_ys_f : Nat → Int32) (o_on_f : Nat → Int32) (o_lasts_f : Nat → Int32) (o_flags_f : Nat → Int32) (a1_place : Int32) (a1_limit : Int32) (a1_whole : Int32) (a1_bytes_f : Nat → Int32) (a2 : Int32) : Option (Int32 × Int32 × Int32 × (Nat → Int32) × (Nat → Int32) × (Nat → Int32) × (Nat → Int32) × (Nat → Int32) × Int32 × Int32) :=
  if (16 : Int32) < a2 then (some ((0 : Int32), o_points, o_contours, o_xs_f, o_ys_f, o_on_f, o_lasts_f, o_flags_f, a1_place, a1_whole)) else (if (o_contours + a2) ≤ (32 : Int32) then (P_Sh_addContours_24 a1_limit a1_bytes_f a2 (-1 : Int32) (0 : Int32) o_points o_contours o_xs_f o_ys_f o_on_f o_lasts_f o_flags_f a1_place a1_whole) else (some ((0 : Int32), o_points, o_contours, o_xs_f, o_ys_f, o_on_f, o_lasts_f, o_flags_f, a1_place, a1_whole)))
set_option maxHeartbeats 4000000 in
set_option maxRecDepth 100000 in
theorem c_Sh_addContours (l : Launch) (dC : Nat → ClassId) (dI : Nat → Nat → Nat) (cy : Nat → ClassId) (sz : Nat) (o : Nat) (a1 : Nat) (o_xs : Nat) (o_ys : Nat) (o_on : Nat) (o_lasts : Nat) (o_flags : Nat) (o_readers : Nat) (o_moves : Nat) (a1_bytes : Nat) (o_points : Int32) (o_contours : Int32) (o_parts : Int32) (o_xs_f : Nat → Int32) (o_ys_f : Nat → Int32) (o_on_f : Nat → Int32) (o_lasts_f : Nat → Int32) (o_flags_f : Nat → Int32) (a1_place : Int32) (a1_limit : Int32) (a1_whole : Int32) (a1_bytes_f : Nat → Int32) (a2 : Int32) (uu : Int32 × Int32 × Int32 × (Nat → Int32) × (Nat → Int32) × (Nat → Int32) × (Nat → Int32) × (Nat → Int32) × Int32 × Int32) (h : P_Sh_addContours o_points o_contours o_xs_f o_ys_f o_on_f o_lasts_f o_flags_f a1_place a1_limit a1_whole a1_bytes_f a2 = some uu) : Met l y_Sh_addContours (Cond.code y_Sh_addContours b_Sh_addContours 6 (some .boolean) :: G) ({ frames := 2, cells := 0, slots := 0, locals := 49 } : Room) (va_Pc [.ref o, .ref a1, .int a2] (fun U => U.heap.size = sz ∧ va_P (dC, dI) classes [(o, .inr (2, [.ref o_xs, .ref o_ys, .ref o_on, .ref o_lasts, .int o_points, .int o_contours, .int o_parts, .ref o_flags, .ref o_readers, .ref o_moves])), (o_xs, .inl (cy 0, 256, .inl o_xs_f)), (o_ys, .inl (cy 0, 256, .inl o_ys_f)), (o_on, .inl (cy 2, 256, .inl o_on_f)), (o_lasts, .inl (cy 0, 32, .inl o_lasts_f)), (o_flags, .inl (cy 0, 128, .inl o_flags_f)), (a1, .inr (0, [.ref a1_bytes, .int a1_place, .int a1_limit, .int a1_whole])), (a1_bytes, .inl (cy 1, 4096, .inl a1_bytes_f))] U.heap ∧ va_K (dC, dI) classes (TY cy) U ∧ va_D (fun _ => True) [(o, .inr (2, [.ref o_xs, .ref o_ys, .ref o_on, .ref o_lasts, .int o_points, .int o_contours, .int o_parts, .ref o_flags, .ref o_readers, .ref o_moves])), (o_xs, .inl (cy 0, 256, .inl o_xs_f)), (o_ys, .inl (cy 0, 256, .inl o_ys_f)), (o_on, .inl (cy 2, 256, .inl o_on_f)), (o_lasts, .inl (cy 0, 32, .inl o_lasts_f)), (o_flags, .inl (cy 0, 128, .inl o_flags_f)), (a1, .inr (0, [.ref a1_bytes, .int a1_place, .int a1_limit, .int a1_whole])), (a1_bytes, .inl (cy 1, 4096, .inl a1_bytes_f))])) (va_Qi (fun r (_ : Unit) => r = uu.1) (fun _ t => va_P (dC, dI) classes [(o, .inr (2, [.ref o_xs, .ref o_ys, .ref o_on, .ref o_lasts, .int uu.2.1, .int uu.2.2.1, .int o_parts, .ref o_flags, .ref o_readers, .ref o_moves])), (o_xs, .inl (cy 0, 256, .inl uu.2.2.2.1)), (o_ys, .inl (cy 0, 256, .inl uu.2.2.2.2.1)), (o_on, .inl (cy 2, 256, .inl uu.2.2.2.2.2.1)), (o_lasts, .inl (cy 0, 32, .inl uu.2.2.2.2.2.2.1)), (o_flags, .inl (cy 0, 128, .inl uu.2.2.2.2.2.2.2.1)), (a1, .inr (0, [.ref a1_bytes, .int uu.2.2.2.2.2.2.2.2.1, .int a1_limit, .int uu.2.2.2.2.2.2.2.2.2])), (a1_bytes, .inl (cy 1, 4096, .inl a1_bytes_f))] t.heap ∧ va_K (dC, dI) classes (TY cy) t ∧ va_D (va_A [(o, .inr (2, [.ref o_xs, .ref o_ys, .ref o_on, .ref o_lasts, .int o_points, .int o_contours, .int o_parts, .ref o_flags, .ref o_readers, .ref o_moves])), (o_xs, .inl (cy 0, 256, .inl o_xs_f)), (o_ys, .inl (cy 0, 256, .inl o_ys_f)), (o_on, .inl (cy 2, 256, .inl o_on_f)), (o_lasts, .inl (cy 0, 32, .inl o_lasts_f)), (o_flags, .inl (cy 0, 128, .inl o_flags_f)), (a1, .inr (0, [.ref a1_bytes, .int a1_place, .int a1_limit, .int a1_whole])), (a1_bytes, .inl (cy 1, 4096, .inl a1_bytes_f))] sz) [(o, .inr (2, [.ref o_xs, .ref o_ys, .ref o_on, .ref o_lasts, .int uu.2.1, .int uu.2.2.1, .int o_parts, .ref o_flags, .ref o_readers, .ref o_moves])), (o_xs, .inl (cy 0, 256, .inl uu.2.2.2.1)), (o_ys, .inl (cy 0, 256, .inl uu.2.2.2.2.1)), (o_on, .inl (cy 2, 256, .inl uu.2.2.2.2.2.1)), (o_lasts, .inl (cy 0, 32, .inl uu.2.2.2.2.2.2.1)), (o_flags, .inl (cy 0, 128, .inl uu.2.2.2.2.2.2.2.1)), (a1, .inr (0, [.ref a1_bytes, .int uu.2.2.2.2.2.2.2.2.1, .int a1_limit, .int uu.2.2.2.2.2.2.2.2.2])), (a1_bytes, .inl (cy 1, 4096, .inl a1_bytes_f))]) (va_A [(o, .inr (2, [.ref o_xs, .ref o_ys, .ref o_on, .ref o_lasts, .int o_points, .int o_contours, .int o_parts, .ref o_flags, .ref o_readers, .ref o_moves])), (o_xs, .inl (cy 0, 256, .inl o_xs_f)), (o_ys, .inl (cy 0, 256, .inl o_ys_f)), (o_on, .inl (cy 2, 256, .inl o_on_f)), (o_lasts, .inl (cy 0, 32, .inl o_lasts_f)), (o_flags, .inl (cy 0, 128, .inl o_flags_f)), (a1, .inr (0, [.ref a1_bytes, .int a1_place, .int a1_limit, .int a1_whole])), (a1_bytes, .inl (cy 1, 4096, .inl a1_bytes_f))] sz)) 0 0 (va_A [(o, .inr (2, [.ref o_xs, .ref o_ys, .ref o_on, .ref o_lasts, .int o_points, .int o_contours, .int o_parts, .ref o_flags, .ref o_readers, .ref o_moves])), (o_xs, .inl (cy 0, 256, .inl o_xs_f)), (o_ys, .inl (cy 0, 256, .inl o_ys_f)), (o_on, .inl (cy 2, 256, .inl o_on_f)), (o_lasts, .inl (cy 0, 32, .inl o_lasts_f)), (o_flags, .inl (cy 0, 128, .inl o_flags_f)), (a1, .inr (0, [.ref a1_bytes, .int a1_place, .int a1_limit, .int a1_whole])), (a1_bytes, .inl (cy 1, 4096, .inl a1_bytes_f))] sz) := by
  refine Met.ofW (cc := b_Sh_addContours) (maxL := 6) (ret := (some .boolean)) (by decide) rfl ?_
  intro p e s m args below meth c s₁ B hml hv
  obtain ⟨rfl, hsz, hP, hK, hD0⟩ := hv
  have hx := B.exec
  have hb := B.bytes
  have hr := B.returns
  have hts := atoms_spec (ws := Cond.code y_Sh_addContours b_Sh_addContours 6 (some .boolean) :: G) B.pre
  have htsG : ∀ w ∈ G, w.before _ s = true := fun w hw => hts w (List.mem_cons_of_mem _ hw)
  have hown : s.vm.findClass "GlyphPage$Shape" = some m.cls := findClass_of_methodNamed B.named
  have hlocks := B.notSynchronized
  subst hsz
  have hD := hD0.self (sz := s.heap.size)
  generalize hAe : va_A [(o, .inr (2, [.ref o_xs, .ref o_ys, .ref o_on, .ref o_lasts, .int o_points, .int o_contours, .int o_parts, .ref o_flags, .ref o_readers, .ref o_moves])), (o_xs, .inl (cy 0, 256, .inl o_xs_f)), (o_ys, .inl (cy 0, 256, .inl o_ys_f)), (o_on, .inl (cy 2, 256, .inl o_on_f)), (o_lasts, .inl (cy 0, 32, .inl o_lasts_f)), (o_flags, .inl (cy 0, 128, .inl o_flags_f)), (a1, .inr (0, [.ref a1_bytes, .int a1_place, .int a1_limit, .int a1_whole])), (a1_bytes, .inl (cy 1, 4096, .inl a1_bytes_f))] s.heap.size = A at hD ⊢
  have hA : ∀ q : Nat, s.heap.size ≤ q → A q := fun q h => by rw [← hAe]; exact Or.inr h
  have hS : va_S A s.heap s.heap [] := va_S.rf
  have hl := lv_entry ([.ref o, .ref a1, .int a2]) (n := 6) (Nat.le_of_ble_eq_true rfl)
  rw [lg_entry_eq]
  generalize (lg_sl ([.ref o, .ref a1, .int a2]) ++ List.replicate (6 - (lg_sl ([.ref o, .ref a1, .int a2])).length) Slot.unset).toArray = ls at hl ⊢
  have hl : lv_has ls 6 [(0, .ref o), (1, .ref a1), (2, .int a2)] := hl
  have C0 : Cx p s m _ meth c A dC dI cy b_Sh_addContours 6 (some .boolean) "GlyphPage$Shape" := ⟨hx, hb, hr, hlocks, hml, hown, htsG, hA, hK⟩
  unfold P_Sh_addContours at h
  refine lv_iload_n hx hb d_Sh_addContours_0 rfl (lv_at hl 2 rfl) ?_
  refine lv_bipush (v := (16 : Int32)) hx hb d_Sh_addContours_1 (by decide) ?_
  refine lv_icmp_gt (tgt := 17) hx hb d_Sh_addContours_3 (by decide) (fun c_1 => ?_) (fun c_1 => ?_)
  · replace h := (if_pos c_1).symm.trans h
    refine lv_iconst (v := (0 : Int32)) hx hb d_Sh_addContours_17 (by decide) ?_
    cases h
    exact W.zret (ty := .boolean) hx hb hr rfl (fun t ht hW => ⟨⟨_, (), rfl, rfl, by rw [ht]; exact hP, va_K.moved hW.alike hK, hD⟩, hS.F ht⟩) hS.2.2 d_Sh_addContours_18 hlocks
  · replace h := (if_neg c_1).symm.trans h
    refine lv_aload_n hx hb d_Sh_addContours_6 rfl (lv_at hl 0 rfl) ?_
    refine va_get (D := (dC, dI)) (ci := 2) (v := .int o_contours) (C := "GlyphPage$Shape") (T := F_Sh) (N := 10) hx hb htsG iG_Sh hown hK hP 0 rfl rfl 5 (by decide) (htsG _ mW98) (fun _ h9 => h9) rfl d_Sh_addContours_7 ?_
    refine lv_iload_n hx hb d_Sh_addContours_10 rfl (lv_at hl 2 rfl) ?_
    refine lv_iadd hx hb d_Sh_addContours_11 ?_
    refine lv_bipush (v := (32 : Int32)) hx hb d_Sh_addContours_12 (by decide) ?_
    refine lv_icmp_le (tgt := 19) hx hb d_Sh_addContours_14 (by decide) (fun c_2 => ?_) (fun c_2 => ?_)
    · replace h := (if_pos c_2).symm.trans h
      refine lv_iconst (v := (-1 : Int32)) hx hb d_Sh_addContours_19 (by decide) ?_
      refine lv_istore_n (lv' := [(3, .int (-1 : Int32)), (0, .ref o), (1, .ref a1), (2, .int a2)]) hx hb d_Sh_addContours_20 rfl hl (by decide) rfl (fun ls hl => ?_)
      refine lv_iconst (v := (0 : Int32)) hx hb d_Sh_addContours_21 (by decide) ?_
      refine lv_istore (lv' := [(4, .int (0 : Int32)), (3, .int (-1 : Int32)), (0, .ref o), (1, .ref a1), (2, .int a2)]) hx hb d_Sh_addContours_22 hl (by decide) rfl (fun ls hl => ?_)
      exact w_Sh_addContours_24 C0 o a1 o_xs o_ys o_on o_lasts o_flags o_readers o_moves a1_bytes o_parts a1_limit a1_bytes_f a2 uu  a2 (-1 : Int32) (0 : Int32) o_points o_contours o_xs_f o_ys_f o_on_f o_lasts_f o_flags_f a1_place a1_whole h hP hD hS (lv_sub hl [2, 3, 4, 1, 0] rfl)
    · replace h := (if_neg c_2).symm.trans h
      refine lv_iconst (v := (0 : Int32)) hx hb d_Sh_addContours_17 (by decide) ?_
      cases h
      exact W.zret (ty := .boolean) hx hb hr rfl (fun t ht hW => ⟨⟨_, (), rfl, rfl, by rw [ht]; exact hP, va_K.moved hW.alike hK, hD⟩, hS.F ht⟩) hS.2.2 d_Sh_addContours_18 hlocks
end
