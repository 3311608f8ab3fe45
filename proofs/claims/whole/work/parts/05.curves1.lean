theorem mW5 : (Jvm.Cond.initialized "GlyphPage$Curves") ∈ G := inG (inT1 (List.mem_of_getElem? (i := 5) rfl)) rfl
theorem mW13 : (Jvm.Cond.initialized "java/lang/Long") ∈ G := inG (inT1 (List.mem_of_getElem? (i := 13) rfl)) rfl
theorem mW132 : (Jvm.Cond.fieldLink "GlyphPage$Curves" (11 : Nat) "GlyphPage$Curves" "startX" "[I") ∈ G := inG (inT1 (List.mem_of_getElem? (i := 132) rfl)) rfl
theorem mW134 : (Jvm.Cond.fieldLink "GlyphPage$Curves" (15 : Nat) "GlyphPage$Curves" "startY" "[I") ∈ G := inG (inT1 (List.mem_of_getElem? (i := 134) rfl)) rfl
theorem mW144 : (Jvm.Cond.fieldLink "GlyphPage$Curves" (30 : Nat) "GlyphPage$Curves" "count" "I") ∈ G := inG (inT1 (List.mem_of_getElem? (i := 144) rfl)) rfl
theorem mW146 : (Jvm.Cond.fieldLink "GlyphPage$Curves" (34 : Nat) "GlyphPage$Curves" "slopeX" "[I") ∈ G := inG (inT1 (List.mem_of_getElem? (i := 146) rfl)) rfl
theorem mW147 : (Jvm.Cond.fieldLink "GlyphPage$Curves" (37 : Nat) "GlyphPage$Curves" "slopeY" "[I") ∈ G := inG (inT1 (List.mem_of_getElem? (i := 147) rfl)) rfl
theorem mW148 : (Jvm.Cond.fieldLink "GlyphPage$Curves" (40 : Nat) "GlyphPage$Curves" "squareX" "[I") ∈ G := inG (inT1 (List.mem_of_getElem? (i := 148) rfl)) rfl
theorem mW149 : (Jvm.Cond.fieldLink "GlyphPage$Curves" (43 : Nat) "GlyphPage$Curves" "squareY" "[I") ∈ G := inG (inT1 (List.mem_of_getElem? (i := 149) rfl)) rfl
theorem mW607 : (Jvm.Cond.methodLink "GlyphPage$Curves" (136 : Nat) ({ cls := "GlyphPage$Curves", name := "isFlat", desc := "(I)Z" } : Jvm.MethodName)) ∈ G := inG (inT3 (List.mem_of_getElem? (i := 127) rfl)) rfl
theorem mW608 : (Jvm.Cond.instanceMethod ({ cls := "GlyphPage$Curves", name := "isFlat", desc := "(I)Z" } : Jvm.MethodName)) ∈ G := inG (inT3 (List.mem_of_getElem? (i := 128) rfl)) rfl
theorem mW609 : (Jvm.Cond.selects "GlyphPage$Curves" ({ cls := "GlyphPage$Curves", name := "isFlat", desc := "(I)Z" } : Jvm.MethodName) ({ cls := "GlyphPage$Curves", name := "isFlat", desc := "(I)Z" } : Jvm.MethodName)) ∈ G := inG (inT3 (List.mem_of_getElem? (i := 129) rfl)) rfl
theorem mW610 : (Jvm.Cond.code ({ cls := "GlyphPage$Curves", name := "isFlat", desc := "(I)Z" } : Jvm.MethodName) prog_2_method_8_code (2 : Nat) (Option.some Jvm.ClassFile.FieldType.boolean)) ∈ G := inG (inT3 (List.mem_of_getElem? (i := 130) rfl)) rfl
theorem mW611 : (Jvm.Cond.methodLink "GlyphPage$Curves" (139 : Nat) ({ cls := "GlyphPage$Curves", name := "covers", desc := "(II)Z" } : Jvm.MethodName)) ∈ G := inG (inT3 (List.mem_of_getElem? (i := 131) rfl)) rfl
theorem mW612 : (Jvm.Cond.instanceMethod ({ cls := "GlyphPage$Curves", name := "covers", desc := "(II)Z" } : Jvm.MethodName)) ∈ G := inG (inT3 (List.mem_of_getElem? (i := 132) rfl)) rfl
theorem mW613 : (Jvm.Cond.selects "GlyphPage$Curves" ({ cls := "GlyphPage$Curves", name := "covers", desc := "(II)Z" } : Jvm.MethodName) ({ cls := "GlyphPage$Curves", name := "covers", desc := "(II)Z" } : Jvm.MethodName)) ∈ G := inG (inT3 (List.mem_of_getElem? (i := 133) rfl)) rfl
theorem mW614 : (Jvm.Cond.code ({ cls := "GlyphPage$Curves", name := "covers", desc := "(II)Z" } : Jvm.MethodName) prog_2_method_9_code (7 : Nat) (Option.some Jvm.ClassFile.FieldType.boolean)) ∈ G := inG (inT3 (List.mem_of_getElem? (i := 134) rfl)) rfl
theorem mW615 : (Jvm.Cond.methodLink "GlyphPage$Curves" (106 : Nat) ({ cls := "GlyphPage$Curves", name := "comesBack", desc := "(JJJ)Z" } : Jvm.MethodName)) ∈ G := inG (inT3 (List.mem_of_getElem? (i := 135) rfl)) rfl
theorem mW616 : (Jvm.Cond.static ({ cls := "GlyphPage$Curves", name := "comesBack", desc := "(JJJ)Z" } : Jvm.MethodName)) ∈ G := inG (inT3 (List.mem_of_getElem? (i := 136) rfl)) rfl
theorem mW617 : (Jvm.Cond.code ({ cls := "GlyphPage$Curves", name := "comesBack", desc := "(JJJ)Z" } : Jvm.MethodName) prog_2_method_11_code (7 : Nat) (Option.some Jvm.ClassFile.FieldType.boolean)) ∈ G := inG (inT3 (List.mem_of_getElem? (i := 137) rfl)) rfl
theorem mW618 : (Jvm.Cond.constantLong "GlyphPage$Curves" (110 : Nat) (2 : Int64)) ∈ G := inG (inT3 (List.mem_of_getElem? (i := 138) rfl)) rfl
theorem mW619 : (Jvm.Cond.constantLong "GlyphPage$Curves" (112 : Nat) (-2 : Int64)) ∈ G := inG (inT3 (List.mem_of_getElem? (i := 139) rfl)) rfl
theorem mW620 : (Jvm.Cond.constantLong "GlyphPage$Curves" (114 : Nat) (4 : Int64)) ∈ G := inG (inT3 (List.mem_of_getElem? (i := 140) rfl)) rfl
theorem mW621 : (Jvm.Cond.methodLink "GlyphPage$Curves" (143 : Nat) ({ cls := "GlyphPage$Curves", name := "crossings", desc := "(II)I" } : Jvm.MethodName)) ∈ G := inG (inT3 (List.mem_of_getElem? (i := 141) rfl)) rfl
theorem mW622 : (Jvm.Cond.instanceMethod ({ cls := "GlyphPage$Curves", name := "crossings", desc := "(II)I" } : Jvm.MethodName)) ∈ G := inG (inT3 (List.mem_of_getElem? (i := 142) rfl)) rfl
theorem mW623 : (Jvm.Cond.selects "GlyphPage$Curves" ({ cls := "GlyphPage$Curves", name := "crossings", desc := "(II)I" } : Jvm.MethodName) ({ cls := "GlyphPage$Curves", name := "crossings", desc := "(II)I" } : Jvm.MethodName)) ∈ G := inG (inT3 (List.mem_of_getElem? (i := 143) rfl)) rfl
theorem mW624 : (Jvm.Cond.code ({ cls := "GlyphPage$Curves", name := "crossings", desc := "(II)I" } : Jvm.MethodName) prog_2_method_10_code (7 : Nat) (Option.some Jvm.ClassFile.FieldType.int)) ∈ G := inG (inT3 (List.mem_of_getElem? (i := 144) rfl)) rfl
theorem mW625 : (Jvm.Cond.methodLink "GlyphPage$Curves" (146 : Nat) ({ cls := "GlyphPage$Curves", name := "side", desc := "(IIII)I" } : Jvm.MethodName)) ∈ G := inG (inT3 (List.mem_of_getElem? (i := 145) rfl)) rfl
theorem mW626 : (Jvm.Cond.instanceMethod ({ cls := "GlyphPage$Curves", name := "side", desc := "(IIII)I" } : Jvm.MethodName)) ∈ G := inG (inT3 (List.mem_of_getElem? (i := 146) rfl)) rfl
theorem mW627 : (Jvm.Cond.selects "GlyphPage$Curves" ({ cls := "GlyphPage$Curves", name := "side", desc := "(IIII)I" } : Jvm.MethodName) ({ cls := "GlyphPage$Curves", name := "side", desc := "(IIII)I" } : Jvm.MethodName)) ∈ G := inG (inT3 (List.mem_of_getElem? (i := 147) rfl)) rfl
theorem mW628 : (Jvm.Cond.code ({ cls := "GlyphPage$Curves", name := "side", desc := "(IIII)I" } : Jvm.MethodName) prog_2_method_12_code (25 : Nat) (Option.some Jvm.ClassFile.FieldType.int)) ∈ G := inG (inT3 (List.mem_of_getElem? (i := 148) rfl)) rfl
theorem mW629 : (Jvm.Cond.methodLink "GlyphPage$Curves" (116 : Nat) ({ cls := "java/lang/Long", name := "signum", desc := "(J)I" } : Jvm.MethodName)) ∈ G := inG (inT3 (List.mem_of_getElem? (i := 149) rfl)) rfl
theorem mW630 : (Jvm.Cond.static ({ cls := "java/lang/Long", name := "signum", desc := "(J)I" } : Jvm.MethodName)) ∈ G := inG (inT3 (List.mem_of_getElem? (i := 150) rfl)) rfl
theorem mW631 : (Jvm.Cond.code ({ cls := "java/lang/Long", name := "signum", desc := "(J)I" } : Jvm.MethodName) prog_12_method_57_code (2 : Nat) (Option.some Jvm.ClassFile.FieldType.int)) ∈ G := inG (inT3 (List.mem_of_getElem? (i := 151) rfl)) rfl
theorem mW632 : (Jvm.Cond.methodLink "GlyphPage$Curves" (122 : Nat) ({ cls := "GlyphPage$Curves", name := "squareLess", desc := "(JJJ)I" } : Jvm.MethodName)) ∈ G := inG (inT3 (List.mem_of_getElem? (i := 152) rfl)) rfl
theorem mW633 : (Jvm.Cond.static ({ cls := "GlyphPage$Curves", name := "squareLess", desc := "(JJJ)I" } : Jvm.MethodName)) ∈ G := inG (inT3 (List.mem_of_getElem? (i := 153) rfl)) rfl
theorem mW634 : (Jvm.Cond.code ({ cls := "GlyphPage$Curves", name := "squareLess", desc := "(JJJ)I" } : Jvm.MethodName) prog_2_method_13_code (19 : Nat) (Option.some Jvm.ClassFile.FieldType.int)) ∈ G := inG (inT3 (List.mem_of_getElem? (i := 154) rfl)) rfl
theorem mW635 : (Jvm.Cond.constantLong "GlyphPage$Curves" (126 : Nat) (1048575 : Int64)) ∈ G := inG (inT3 (List.mem_of_getElem? (i := 155) rfl)) rfl
theorem mW636 : (Jvm.Cond.methodLink "GlyphPage$Curves" (128 : Nat) ({ cls := "java/lang/Math", name := "abs", desc := "(J)J" } : Jvm.MethodName)) ∈ G := inG (inT3 (List.mem_of_getElem? (i := 156) rfl)) rfl
theorem mW637 : (Jvm.Cond.static ({ cls := "java/lang/Math", name := "abs", desc := "(J)J" } : Jvm.MethodName)) ∈ G := inG (inT3 (List.mem_of_getElem? (i := 157) rfl)) rfl
theorem mW638 : (Jvm.Cond.code ({ cls := "java/lang/Math", name := "abs", desc := "(J)J" } : Jvm.MethodName) prog_13_method_61_code (2 : Nat) (Option.some Jvm.ClassFile.FieldType.long)) ∈ G := inG (inT3 (List.mem_of_getElem? (i := 158) rfl)) rfl
theorem mW639 : (Jvm.Cond.methodLink "GlyphPage$Curves" (132 : Nat) ({ cls := "java/lang/Long", name := "compare", desc := "(JJ)I" } : Jvm.MethodName)) ∈ G := inG (inT3 (List.mem_of_getElem? (i := 159) rfl)) rfl
theorem mW640 : (Jvm.Cond.static ({ cls := "java/lang/Long", name := "compare", desc := "(JJ)I" } : Jvm.MethodName)) ∈ G := inG (inT3 (List.mem_of_getElem? (i := 160) rfl)) rfl
theorem mW641 : (Jvm.Cond.code ({ cls := "java/lang/Long", name := "compare", desc := "(JJ)I" } : Jvm.MethodName) prog_12_method_42_code (4 : Nat) (Option.some Jvm.ClassFile.FieldType.int)) ∈ G := inG (inT3 (List.mem_of_getElem? (i := 161) rfl)) rfl
abbrev b_Cv_isNear : ByteArray := prog_2_method_2_code
def y_Cv_isNear : MethodName := ⟨"GlyphPage$Curves", "isNear", "(I)Z"⟩
theorem d_Cv_isNear_0 : decode b_Cv_isNear 0 = .ok (.iload_n 0, 1) := by decide +kernel
theorem d_Cv_isNear_1 : decode b_Cv_isNear 1 = .ok (.sipush (-20000), 3) := by decide +kernel
theorem d_Cv_isNear_4 : decode b_Cv_isNear 4 = .ok (.if_icmp .lt 14, 3) := by decide +kernel
theorem d_Cv_isNear_7 : decode b_Cv_isNear 7 = .ok (.iload_n 0, 1) := by decide +kernel
theorem d_Cv_isNear_8 : decode b_Cv_isNear 8 = .ok (.sipush 20000, 3) := by decide +kernel
theorem d_Cv_isNear_11 : decode b_Cv_isNear 11 = .ok (.if_icmp .gt 7, 3) := by decide +kernel
theorem d_Cv_isNear_14 : decode b_Cv_isNear 14 = .ok (.iconst 1, 1) := by decide +kernel
theorem d_Cv_isNear_15 : decode b_Cv_isNear 15 = .ok (.goto 4, 3) := by decide +kernel
theorem d_Cv_isNear_18 : decode b_Cv_isNear 18 = .ok (.iconst 0, 1) := by decide +kernel
theorem d_Cv_isNear_19 : decode b_Cv_isNear 19 = .ok (.ireturn, 1) := by decide +kernel
abbrev b_Cv_comesBack : ByteArray := prog_2_method_11_code
def y_Cv_comesBack : MethodName := ⟨"GlyphPage$Curves", "comesBack", "(JJJ)Z"⟩
theorem d_Cv_comesBack_0 : decode b_Cv_comesBack 0 = .ok (.lload_n 0, 1) := by decide +kernel
theorem d_Cv_comesBack_1 : decode b_Cv_comesBack 1 = .ok (.lconst 0, 1) := by decide +kernel
theorem d_Cv_comesBack_2 : decode b_Cv_comesBack 2 = .ok (.lcmp, 1) := by decide +kernel
theorem d_Cv_comesBack_3 : decode b_Cv_comesBack 3 = .ok (.ifCond .le 28, 3) := by decide +kernel
theorem d_Cv_comesBack_6 : decode b_Cv_comesBack 6 = .ok (.lload_n 2, 1) := by decide +kernel
theorem d_Cv_comesBack_7 : decode b_Cv_comesBack 7 = .ok (.lconst 0, 1) := by decide +kernel
theorem d_Cv_comesBack_8 : decode b_Cv_comesBack 8 = .ok (.lcmp, 1) := by decide +kernel
theorem d_Cv_comesBack_9 : decode b_Cv_comesBack 9 = .ok (.ifCond .ge 18, 3) := by decide +kernel
theorem d_Cv_comesBack_12 : decode b_Cv_comesBack 12 = .ok (.lload_n 2, 1) := by decide +kernel
theorem d_Cv_comesBack_13 : decode b_Cv_comesBack 13 = .ok (.lneg, 1) := by decide +kernel
theorem d_Cv_comesBack_14 : decode b_Cv_comesBack 14 = .ok (.ldc2_w 110, 3) := by decide +kernel
theorem d_Cv_comesBack_17 : decode b_Cv_comesBack 17 = .ok (.lload_n 0, 1) := by decide +kernel
theorem d_Cv_comesBack_18 : decode b_Cv_comesBack 18 = .ok (.lmul, 1) := by decide +kernel
theorem d_Cv_comesBack_19 : decode b_Cv_comesBack 19 = .ok (.lcmp, 1) := by decide +kernel
theorem d_Cv_comesBack_20 : decode b_Cv_comesBack 20 = .ok (.ifCond .ge 7, 3) := by decide +kernel
theorem d_Cv_comesBack_23 : decode b_Cv_comesBack 23 = .ok (.iconst 1, 1) := by decide +kernel
theorem d_Cv_comesBack_24 : decode b_Cv_comesBack 24 = .ok (.goto 28, 3) := by decide +kernel
theorem d_Cv_comesBack_27 : decode b_Cv_comesBack 27 = .ok (.iconst 0, 1) := by decide +kernel
theorem d_Cv_comesBack_28 : decode b_Cv_comesBack 28 = .ok (.goto 24, 3) := by decide +kernel
theorem d_Cv_comesBack_31 : decode b_Cv_comesBack 31 = .ok (.lload_n 2, 1) := by decide +kernel
theorem d_Cv_comesBack_32 : decode b_Cv_comesBack 32 = .ok (.lconst 0, 1) := by decide +kernel
theorem d_Cv_comesBack_33 : decode b_Cv_comesBack 33 = .ok (.lcmp, 1) := by decide +kernel
theorem d_Cv_comesBack_34 : decode b_Cv_comesBack 34 = .ok (.ifCond .le 17, 3) := by decide +kernel
theorem d_Cv_comesBack_37 : decode b_Cv_comesBack 37 = .ok (.lload_n 2, 1) := by decide +kernel
theorem d_Cv_comesBack_38 : decode b_Cv_comesBack 38 = .ok (.ldc2_w 112, 3) := by decide +kernel
theorem d_Cv_comesBack_41 : decode b_Cv_comesBack 41 = .ok (.lload_n 0, 1) := by decide +kernel
theorem d_Cv_comesBack_42 : decode b_Cv_comesBack 42 = .ok (.lmul, 1) := by decide +kernel
theorem d_Cv_comesBack_43 : decode b_Cv_comesBack 43 = .ok (.lcmp, 1) := by decide +kernel
theorem d_Cv_comesBack_44 : decode b_Cv_comesBack 44 = .ok (.ifCond .ge 7, 3) := by decide +kernel
theorem d_Cv_comesBack_47 : decode b_Cv_comesBack 47 = .ok (.iconst 1, 1) := by decide +kernel
theorem d_Cv_comesBack_48 : decode b_Cv_comesBack 48 = .ok (.goto 4, 3) := by decide +kernel
theorem d_Cv_comesBack_51 : decode b_Cv_comesBack 51 = .ok (.iconst 0, 1) := by decide +kernel
theorem d_Cv_comesBack_52 : decode b_Cv_comesBack 52 = .ok (.istore 6, 2) := by decide +kernel
theorem d_Cv_comesBack_54 : decode b_Cv_comesBack 54 = .ok (.iload 6, 2) := by decide +kernel
theorem d_Cv_comesBack_56 : decode b_Cv_comesBack 56 = .ok (.ifCond .eq 48, 3) := by decide +kernel
theorem d_Cv_comesBack_59 : decode b_Cv_comesBack 59 = .ok (.lload 4, 2) := by decide +kernel
theorem d_Cv_comesBack_61 : decode b_Cv_comesBack 61 = .ok (.lconst 0, 1) := by decide +kernel
theorem d_Cv_comesBack_62 : decode b_Cv_comesBack 62 = .ok (.lcmp, 1) := by decide +kernel
theorem d_Cv_comesBack_63 : decode b_Cv_comesBack 63 = .ok (.ifCond .le 7, 3) := by decide +kernel
theorem d_Cv_comesBack_66 : decode b_Cv_comesBack 66 = .ok (.iconst 1, 1) := by decide +kernel
theorem d_Cv_comesBack_67 : decode b_Cv_comesBack 67 = .ok (.goto 4, 3) := by decide +kernel
theorem d_Cv_comesBack_70 : decode b_Cv_comesBack 70 = .ok (.iconst 0, 1) := by decide +kernel
theorem d_Cv_comesBack_71 : decode b_Cv_comesBack 71 = .ok (.lload_n 0, 1) := by decide +kernel
theorem d_Cv_comesBack_72 : decode b_Cv_comesBack 72 = .ok (.lconst 0, 1) := by decide +kernel
theorem d_Cv_comesBack_73 : decode b_Cv_comesBack 73 = .ok (.lcmp, 1) := by decide +kernel
theorem d_Cv_comesBack_74 : decode b_Cv_comesBack 74 = .ok (.ifCond .le 7, 3) := by decide +kernel
theorem d_Cv_comesBack_77 : decode b_Cv_comesBack 77 = .ok (.iconst 1, 1) := by decide +kernel
theorem d_Cv_comesBack_78 : decode b_Cv_comesBack 78 = .ok (.goto 4, 3) := by decide +kernel
theorem d_Cv_comesBack_81 : decode b_Cv_comesBack 81 = .ok (.iconst 0, 1) := by decide +kernel
theorem d_Cv_comesBack_82 : decode b_Cv_comesBack 82 = .ok (.if_icmp .ne 22, 3) := by decide +kernel
theorem d_Cv_comesBack_85 : decode b_Cv_comesBack 85 = .ok (.lload_n 2, 1) := by decide +kernel
theorem d_Cv_comesBack_86 : decode b_Cv_comesBack 86 = .ok (.lload_n 2, 1) := by decide +kernel
theorem d_Cv_comesBack_87 : decode b_Cv_comesBack 87 = .ok (.lmul, 1) := by decide +kernel
theorem d_Cv_comesBack_88 : decode b_Cv_comesBack 88 = .ok (.ldc2_w 114, 3) := by decide +kernel
theorem d_Cv_comesBack_91 : decode b_Cv_comesBack 91 = .ok (.lload_n 0, 1) := by decide +kernel
theorem d_Cv_comesBack_92 : decode b_Cv_comesBack 92 = .ok (.lmul, 1) := by decide +kernel
theorem d_Cv_comesBack_93 : decode b_Cv_comesBack 93 = .ok (.lload 4, 2) := by decide +kernel
theorem d_Cv_comesBack_95 : decode b_Cv_comesBack 95 = .ok (.lmul, 1) := by decide +kernel
theorem d_Cv_comesBack_96 : decode b_Cv_comesBack 96 = .ok (.lcmp, 1) := by decide +kernel
theorem d_Cv_comesBack_97 : decode b_Cv_comesBack 97 = .ok (.ifCond .lt 7, 3) := by decide +kernel
theorem d_Cv_comesBack_100 : decode b_Cv_comesBack 100 = .ok (.iconst 1, 1) := by decide +kernel
theorem d_Cv_comesBack_101 : decode b_Cv_comesBack 101 = .ok (.goto 4, 3) := by decide +kernel
theorem d_Cv_comesBack_104 : decode b_Cv_comesBack 104 = .ok (.iconst 0, 1) := by decide +kernel
theorem d_Cv_comesBack_105 : decode b_Cv_comesBack 105 = .ok (.ireturn, 1) := by decide +kernel
abbrev b_Cv_squareLess : ByteArray := prog_2_method_13_code
def y_Cv_squareLess : MethodName := ⟨"GlyphPage$Curves", "squareLess", "(JJJ)I"⟩
theorem d_Cv_squareLess_0 : decode b_Cv_squareLess 0 = .ok (.lload_n 2, 1) := by decide +kernel
theorem d_Cv_squareLess_1 : decode b_Cv_squareLess 1 = .ok (.invokestatic 116, 3) := by decide +kernel
theorem d_Cv_squareLess_4 : decode b_Cv_squareLess 4 = .ok (.lload 4, 2) := by decide +kernel
theorem d_Cv_squareLess_6 : decode b_Cv_squareLess 6 = .ok (.invokestatic 116, 3) := by decide +kernel
theorem d_Cv_squareLess_9 : decode b_Cv_squareLess 9 = .ok (.imul, 1) := by decide +kernel
theorem d_Cv_squareLess_10 : decode b_Cv_squareLess 10 = .ok (.ifCond .gt 28, 3) := by decide +kernel
theorem d_Cv_squareLess_13 : decode b_Cv_squareLess 13 = .ok (.lload_n 0, 1) := by decide +kernel
theorem d_Cv_squareLess_14 : decode b_Cv_squareLess 14 = .ok (.lconst 0, 1) := by decide +kernel
theorem d_Cv_squareLess_15 : decode b_Cv_squareLess 15 = .ok (.lcmp, 1) := by decide +kernel
theorem d_Cv_squareLess_16 : decode b_Cv_squareLess 16 = .ok (.ifCond .ne 20, 3) := by decide +kernel
theorem d_Cv_squareLess_19 : decode b_Cv_squareLess 19 = .ok (.lload_n 2, 1) := by decide +kernel
theorem d_Cv_squareLess_20 : decode b_Cv_squareLess 20 = .ok (.lconst 0, 1) := by decide +kernel
theorem d_Cv_squareLess_21 : decode b_Cv_squareLess 21 = .ok (.lcmp, 1) := by decide +kernel
theorem d_Cv_squareLess_22 : decode b_Cv_squareLess 22 = .ok (.ifCond .eq 10, 3) := by decide +kernel
theorem d_Cv_squareLess_25 : decode b_Cv_squareLess 25 = .ok (.lload 4, 2) := by decide +kernel
theorem d_Cv_squareLess_27 : decode b_Cv_squareLess 27 = .ok (.lconst 0, 1) := by decide +kernel
theorem d_Cv_squareLess_28 : decode b_Cv_squareLess 28 = .ok (.lcmp, 1) := by decide +kernel
theorem d_Cv_squareLess_29 : decode b_Cv_squareLess 29 = .ok (.ifCond .ne 7, 3) := by decide +kernel
theorem d_Cv_squareLess_32 : decode b_Cv_squareLess 32 = .ok (.iconst 0, 1) := by decide +kernel
theorem d_Cv_squareLess_33 : decode b_Cv_squareLess 33 = .ok (.goto 4, 3) := by decide +kernel
theorem d_Cv_squareLess_36 : decode b_Cv_squareLess 36 = .ok (.iconst 1, 1) := by decide +kernel
theorem d_Cv_squareLess_37 : decode b_Cv_squareLess 37 = .ok (.ireturn, 1) := by decide +kernel
theorem d_Cv_squareLess_38 : decode b_Cv_squareLess 38 = .ok (.ldc2_w 126, 3) := by decide +kernel
theorem d_Cv_squareLess_41 : decode b_Cv_squareLess 41 = .ok (.lstore 6, 2) := by decide +kernel
theorem d_Cv_squareLess_43 : decode b_Cv_squareLess 43 = .ok (.lload_n 0, 1) := by decide +kernel
theorem d_Cv_squareLess_44 : decode b_Cv_squareLess 44 = .ok (.invokestatic 128, 3) := by decide +kernel
theorem d_Cv_squareLess_47 : decode b_Cv_squareLess 47 = .ok (.lstore 8, 2) := by decide +kernel
theorem d_Cv_squareLess_49 : decode b_Cv_squareLess 49 = .ok (.lload_n 2, 1) := by decide +kernel
theorem d_Cv_squareLess_50 : decode b_Cv_squareLess 50 = .ok (.invokestatic 128, 3) := by decide +kernel
theorem d_Cv_squareLess_53 : decode b_Cv_squareLess 53 = .ok (.lstore 10, 2) := by decide +kernel
theorem d_Cv_squareLess_55 : decode b_Cv_squareLess 55 = .ok (.lload 4, 2) := by decide +kernel
theorem d_Cv_squareLess_57 : decode b_Cv_squareLess 57 = .ok (.invokestatic 128, 3) := by decide +kernel
theorem d_Cv_squareLess_60 : decode b_Cv_squareLess 60 = .ok (.lstore 12, 2) := by decide +kernel
theorem d_Cv_squareLess_62 : decode b_Cv_squareLess 62 = .ok (.lload 8, 2) := by decide +kernel
theorem d_Cv_squareLess_64 : decode b_Cv_squareLess 64 = .ok (.lload 6, 2) := by decide +kernel
theorem d_Cv_squareLess_66 : decode b_Cv_squareLess 66 = .ok (.land, 1) := by decide +kernel
theorem d_Cv_squareLess_67 : decode b_Cv_squareLess 67 = .ok (.lload 8, 2) := by decide +kernel
theorem d_Cv_squareLess_69 : decode b_Cv_squareLess 69 = .ok (.lmul, 1) := by decide +kernel
theorem d_Cv_squareLess_70 : decode b_Cv_squareLess 70 = .ok (.lstore 14, 2) := by decide +kernel
theorem d_Cv_squareLess_72 : decode b_Cv_squareLess 72 = .ok (.lload 10, 2) := by decide +kernel
theorem d_Cv_squareLess_74 : decode b_Cv_squareLess 74 = .ok (.lload 6, 2) := by decide +kernel
theorem d_Cv_squareLess_76 : decode b_Cv_squareLess 76 = .ok (.land, 1) := by decide +kernel
theorem d_Cv_squareLess_77 : decode b_Cv_squareLess 77 = .ok (.lload 12, 2) := by decide +kernel
theorem d_Cv_squareLess_79 : decode b_Cv_squareLess 79 = .ok (.lmul, 1) := by decide +kernel
theorem d_Cv_squareLess_80 : decode b_Cv_squareLess 80 = .ok (.lstore 16, 2) := by decide +kernel
theorem d_Cv_squareLess_82 : decode b_Cv_squareLess 82 = .ok (.lload 8, 2) := by decide +kernel
theorem d_Cv_squareLess_84 : decode b_Cv_squareLess 84 = .ok (.bipush 20, 2) := by decide +kernel
theorem d_Cv_squareLess_86 : decode b_Cv_squareLess 86 = .ok (.lshr, 1) := by decide +kernel
theorem d_Cv_squareLess_87 : decode b_Cv_squareLess 87 = .ok (.lload 8, 2) := by decide +kernel
theorem d_Cv_squareLess_89 : decode b_Cv_squareLess 89 = .ok (.lmul, 1) := by decide +kernel
theorem d_Cv_squareLess_90 : decode b_Cv_squareLess 90 = .ok (.lload 14, 2) := by decide +kernel
theorem d_Cv_squareLess_92 : decode b_Cv_squareLess 92 = .ok (.bipush 20, 2) := by decide +kernel
theorem d_Cv_squareLess_94 : decode b_Cv_squareLess 94 = .ok (.lshr, 1) := by decide +kernel
theorem d_Cv_squareLess_95 : decode b_Cv_squareLess 95 = .ok (.ladd, 1) := by decide +kernel
theorem d_Cv_squareLess_96 : decode b_Cv_squareLess 96 = .ok (.lload 10, 2) := by decide +kernel
theorem d_Cv_squareLess_98 : decode b_Cv_squareLess 98 = .ok (.bipush 20, 2) := by decide +kernel
theorem d_Cv_squareLess_100 : decode b_Cv_squareLess 100 = .ok (.lshr, 1) := by decide +kernel
theorem d_Cv_squareLess_101 : decode b_Cv_squareLess 101 = .ok (.lload 12, 2) := by decide +kernel
theorem d_Cv_squareLess_103 : decode b_Cv_squareLess 103 = .ok (.lmul, 1) := by decide +kernel
theorem d_Cv_squareLess_104 : decode b_Cv_squareLess 104 = .ok (.lload 16, 2) := by decide +kernel
theorem d_Cv_squareLess_106 : decode b_Cv_squareLess 106 = .ok (.bipush 20, 2) := by decide +kernel
theorem d_Cv_squareLess_108 : decode b_Cv_squareLess 108 = .ok (.lshr, 1) := by decide +kernel
theorem d_Cv_squareLess_109 : decode b_Cv_squareLess 109 = .ok (.ladd, 1) := by decide +kernel
theorem d_Cv_squareLess_110 : decode b_Cv_squareLess 110 = .ok (.invokestatic 132, 3) := by decide +kernel
theorem d_Cv_squareLess_113 : decode b_Cv_squareLess 113 = .ok (.istore 18, 2) := by decide +kernel
theorem d_Cv_squareLess_115 : decode b_Cv_squareLess 115 = .ok (.iload 18, 2) := by decide +kernel
theorem d_Cv_squareLess_117 : decode b_Cv_squareLess 117 = .ok (.ifCond .eq 8, 3) := by decide +kernel
theorem d_Cv_squareLess_120 : decode b_Cv_squareLess 120 = .ok (.iload 18, 2) := by decide +kernel
theorem d_Cv_squareLess_122 : decode b_Cv_squareLess 122 = .ok (.goto 16, 3) := by decide +kernel
theorem d_Cv_squareLess_125 : decode b_Cv_squareLess 125 = .ok (.lload 14, 2) := by decide +kernel
theorem d_Cv_squareLess_127 : decode b_Cv_squareLess 127 = .ok (.lload 6, 2) := by decide +kernel
theorem d_Cv_squareLess_129 : decode b_Cv_squareLess 129 = .ok (.land, 1) := by decide +kernel
theorem d_Cv_squareLess_130 : decode b_Cv_squareLess 130 = .ok (.lload 16, 2) := by decide +kernel
theorem d_Cv_squareLess_132 : decode b_Cv_squareLess 132 = .ok (.lload 6, 2) := by decide +kernel
theorem d_Cv_squareLess_134 : decode b_Cv_squareLess 134 = .ok (.land, 1) := by decide +kernel
theorem d_Cv_squareLess_135 : decode b_Cv_squareLess 135 = .ok (.invokestatic 132, 3) := by decide +kernel
theorem d_Cv_squareLess_138 : decode b_Cv_squareLess 138 = .ok (.ireturn, 1) := by decide +kernel
abbrev b_Cv_isFlat : ByteArray := prog_2_method_8_code
def y_Cv_isFlat : MethodName := ⟨"GlyphPage$Curves", "isFlat", "(I)Z"⟩
theorem d_Cv_isFlat_0 : decode b_Cv_isFlat 0 = .ok (.aload_n 0, 1) := by decide +kernel
theorem d_Cv_isFlat_1 : decode b_Cv_isFlat 1 = .ok (.getfield 37, 3) := by decide +kernel
theorem d_Cv_isFlat_4 : decode b_Cv_isFlat 4 = .ok (.iload_n 1, 1) := by decide +kernel
theorem d_Cv_isFlat_5 : decode b_Cv_isFlat 5 = .ok (.iaload, 1) := by decide +kernel
theorem d_Cv_isFlat_6 : decode b_Cv_isFlat 6 = .ok (.ifCond .ne 16, 3) := by decide +kernel
theorem d_Cv_isFlat_9 : decode b_Cv_isFlat 9 = .ok (.aload_n 0, 1) := by decide +kernel
theorem d_Cv_isFlat_10 : decode b_Cv_isFlat 10 = .ok (.getfield 43, 3) := by decide +kernel
theorem d_Cv_isFlat_13 : decode b_Cv_isFlat 13 = .ok (.iload_n 1, 1) := by decide +kernel
theorem d_Cv_isFlat_14 : decode b_Cv_isFlat 14 = .ok (.iaload, 1) := by decide +kernel
theorem d_Cv_isFlat_15 : decode b_Cv_isFlat 15 = .ok (.ifCond .ne 7, 3) := by decide +kernel
theorem d_Cv_isFlat_18 : decode b_Cv_isFlat 18 = .ok (.iconst 1, 1) := by decide +kernel
theorem d_Cv_isFlat_19 : decode b_Cv_isFlat 19 = .ok (.goto 4, 3) := by decide +kernel
theorem d_Cv_isFlat_22 : decode b_Cv_isFlat 22 = .ok (.iconst 0, 1) := by decide +kernel
theorem d_Cv_isFlat_23 : decode b_Cv_isFlat 23 = .ok (.ireturn, 1) := by decide +kernel
abbrev b_Cv_covers : ByteArray := prog_2_method_9_code
def y_Cv_covers : MethodName := ⟨"GlyphPage$Curves", "covers", "(II)Z"⟩
theorem d_Cv_covers_0 : decode b_Cv_covers 0 = .ok (.aload_n 0, 1) := by decide +kernel
theorem d_Cv_covers_1 : decode b_Cv_covers 1 = .ok (.getfield 11, 3) := by decide +kernel
theorem d_Cv_covers_4 : decode b_Cv_covers 4 = .ok (.iload_n 1, 1) := by decide +kernel
theorem d_Cv_covers_5 : decode b_Cv_covers 5 = .ok (.iaload, 1) := by decide +kernel
theorem d_Cv_covers_6 : decode b_Cv_covers 6 = .ok (.iload_n 2, 1) := by decide +kernel
theorem d_Cv_covers_7 : decode b_Cv_covers 7 = .ok (.isub, 1) := by decide +kernel
theorem d_Cv_covers_8 : decode b_Cv_covers 8 = .ok (.i2l, 1) := by decide +kernel
theorem d_Cv_covers_9 : decode b_Cv_covers 9 = .ok (.lstore_n 3, 1) := by decide +kernel
theorem d_Cv_covers_10 : decode b_Cv_covers 10 = .ok (.lload_n 3, 1) := by decide +kernel
theorem d_Cv_covers_11 : decode b_Cv_covers 11 = .ok (.aload_n 0, 1) := by decide +kernel
theorem d_Cv_covers_12 : decode b_Cv_covers 12 = .ok (.getfield 34, 3) := by decide +kernel
theorem d_Cv_covers_15 : decode b_Cv_covers 15 = .ok (.iload_n 1, 1) := by decide +kernel
theorem d_Cv_covers_16 : decode b_Cv_covers 16 = .ok (.iaload, 1) := by decide +kernel
theorem d_Cv_covers_17 : decode b_Cv_covers 17 = .ok (.i2l, 1) := by decide +kernel
theorem d_Cv_covers_18 : decode b_Cv_covers 18 = .ok (.ladd, 1) := by decide +kernel
theorem d_Cv_covers_19 : decode b_Cv_covers 19 = .ok (.aload_n 0, 1) := by decide +kernel
theorem d_Cv_covers_20 : decode b_Cv_covers 20 = .ok (.getfield 40, 3) := by decide +kernel
theorem d_Cv_covers_23 : decode b_Cv_covers 23 = .ok (.iload_n 1, 1) := by decide +kernel
theorem d_Cv_covers_24 : decode b_Cv_covers 24 = .ok (.iaload, 1) := by decide +kernel
theorem d_Cv_covers_25 : decode b_Cv_covers 25 = .ok (.i2l, 1) := by decide +kernel
theorem d_Cv_covers_26 : decode b_Cv_covers 26 = .ok (.ladd, 1) := by decide +kernel
theorem d_Cv_covers_27 : decode b_Cv_covers 27 = .ok (.lstore 5, 2) := by decide +kernel
theorem d_Cv_covers_29 : decode b_Cv_covers 29 = .ok (.lload_n 3, 1) := by decide +kernel
theorem d_Cv_covers_30 : decode b_Cv_covers 30 = .ok (.lconst 0, 1) := by decide +kernel
theorem d_Cv_covers_31 : decode b_Cv_covers 31 = .ok (.lcmp, 1) := by decide +kernel
theorem d_Cv_covers_32 : decode b_Cv_covers 32 = .ok (.ifCond .eq 57, 3) := by decide +kernel
theorem d_Cv_covers_35 : decode b_Cv_covers 35 = .ok (.lload 5, 2) := by decide +kernel
theorem d_Cv_covers_37 : decode b_Cv_covers 37 = .ok (.lconst 0, 1) := by decide +kernel
theorem d_Cv_covers_38 : decode b_Cv_covers 38 = .ok (.lcmp, 1) := by decide +kernel
theorem d_Cv_covers_39 : decode b_Cv_covers 39 = .ok (.ifCond .eq 50, 3) := by decide +kernel
theorem d_Cv_covers_42 : decode b_Cv_covers 42 = .ok (.lload_n 3, 1) := by decide +kernel
theorem d_Cv_covers_43 : decode b_Cv_covers 43 = .ok (.lconst 0, 1) := by decide +kernel
theorem d_Cv_covers_44 : decode b_Cv_covers 44 = .ok (.lcmp, 1) := by decide +kernel
theorem d_Cv_covers_45 : decode b_Cv_covers 45 = .ok (.ifCond .le 7, 3) := by decide +kernel
theorem d_Cv_covers_48 : decode b_Cv_covers 48 = .ok (.iconst 1, 1) := by decide +kernel
theorem d_Cv_covers_49 : decode b_Cv_covers 49 = .ok (.goto 4, 3) := by decide +kernel
theorem d_Cv_covers_52 : decode b_Cv_covers 52 = .ok (.iconst 0, 1) := by decide +kernel
theorem d_Cv_covers_53 : decode b_Cv_covers 53 = .ok (.lload 5, 2) := by decide +kernel
theorem d_Cv_covers_55 : decode b_Cv_covers 55 = .ok (.lconst 0, 1) := by decide +kernel
theorem d_Cv_covers_56 : decode b_Cv_covers 56 = .ok (.lcmp, 1) := by decide +kernel
theorem d_Cv_covers_57 : decode b_Cv_covers 57 = .ok (.ifCond .le 7, 3) := by decide +kernel
theorem d_Cv_covers_60 : decode b_Cv_covers 60 = .ok (.iconst 1, 1) := by decide +kernel
theorem d_Cv_covers_61 : decode b_Cv_covers 61 = .ok (.goto 4, 3) := by decide +kernel
theorem d_Cv_covers_64 : decode b_Cv_covers 64 = .ok (.iconst 0, 1) := by decide +kernel
theorem d_Cv_covers_65 : decode b_Cv_covers 65 = .ok (.if_icmp .ne 24, 3) := by decide +kernel
theorem d_Cv_covers_68 : decode b_Cv_covers 68 = .ok (.aload_n 0, 1) := by decide +kernel
theorem d_Cv_covers_69 : decode b_Cv_covers 69 = .ok (.getfield 40, 3) := by decide +kernel
theorem d_Cv_covers_72 : decode b_Cv_covers 72 = .ok (.iload_n 1, 1) := by decide +kernel
theorem d_Cv_covers_73 : decode b_Cv_covers 73 = .ok (.iaload, 1) := by decide +kernel
theorem d_Cv_covers_74 : decode b_Cv_covers 74 = .ok (.i2l, 1) := by decide +kernel
theorem d_Cv_covers_75 : decode b_Cv_covers 75 = .ok (.aload_n 0, 1) := by decide +kernel
theorem d_Cv_covers_76 : decode b_Cv_covers 76 = .ok (.getfield 34, 3) := by decide +kernel
theorem d_Cv_covers_79 : decode b_Cv_covers 79 = .ok (.iload_n 1, 1) := by decide +kernel
theorem d_Cv_covers_80 : decode b_Cv_covers 80 = .ok (.iaload, 1) := by decide +kernel
theorem d_Cv_covers_81 : decode b_Cv_covers 81 = .ok (.i2l, 1) := by decide +kernel
theorem d_Cv_covers_82 : decode b_Cv_covers 82 = .ok (.lload_n 3, 1) := by decide +kernel
theorem d_Cv_covers_83 : decode b_Cv_covers 83 = .ok (.invokestatic 106, 3) := by decide +kernel
theorem d_Cv_covers_86 : decode b_Cv_covers 86 = .ok (.ifCond .eq 7, 3) := by decide +kernel
theorem d_Cv_covers_89 : decode b_Cv_covers 89 = .ok (.iconst 1, 1) := by decide +kernel
theorem d_Cv_covers_90 : decode b_Cv_covers 90 = .ok (.goto 4, 3) := by decide +kernel
theorem d_Cv_covers_93 : decode b_Cv_covers 93 = .ok (.iconst 0, 1) := by decide +kernel
theorem d_Cv_covers_94 : decode b_Cv_covers 94 = .ok (.ireturn, 1) := by decide +kernel
abbrev b_Cv_crossings : ByteArray := prog_2_method_10_code
def y_Cv_crossings : MethodName := ⟨"GlyphPage$Curves", "crossings", "(II)I"⟩
theorem d_Cv_crossings_0 : decode b_Cv_crossings 0 = .ok (.aload_n 0, 1) := by decide +kernel
theorem d_Cv_crossings_1 : decode b_Cv_crossings 1 = .ok (.getfield 15, 3) := by decide +kernel
theorem d_Cv_crossings_4 : decode b_Cv_crossings 4 = .ok (.iload_n 1, 1) := by decide +kernel
theorem d_Cv_crossings_5 : decode b_Cv_crossings 5 = .ok (.iaload, 1) := by decide +kernel
theorem d_Cv_crossings_6 : decode b_Cv_crossings 6 = .ok (.iload_n 2, 1) := by decide +kernel
theorem d_Cv_crossings_7 : decode b_Cv_crossings 7 = .ok (.isub, 1) := by decide +kernel
theorem d_Cv_crossings_8 : decode b_Cv_crossings 8 = .ok (.i2l, 1) := by decide +kernel
theorem d_Cv_crossings_9 : decode b_Cv_crossings 9 = .ok (.lstore_n 3, 1) := by decide +kernel
theorem d_Cv_crossings_10 : decode b_Cv_crossings 10 = .ok (.lload_n 3, 1) := by decide +kernel
theorem d_Cv_crossings_11 : decode b_Cv_crossings 11 = .ok (.aload_n 0, 1) := by decide +kernel
theorem d_Cv_crossings_12 : decode b_Cv_crossings 12 = .ok (.getfield 37, 3) := by decide +kernel
theorem d_Cv_crossings_15 : decode b_Cv_crossings 15 = .ok (.iload_n 1, 1) := by decide +kernel
theorem d_Cv_crossings_16 : decode b_Cv_crossings 16 = .ok (.iaload, 1) := by decide +kernel
theorem d_Cv_crossings_17 : decode b_Cv_crossings 17 = .ok (.i2l, 1) := by decide +kernel
theorem d_Cv_crossings_18 : decode b_Cv_crossings 18 = .ok (.ladd, 1) := by decide +kernel
theorem d_Cv_crossings_19 : decode b_Cv_crossings 19 = .ok (.aload_n 0, 1) := by decide +kernel
theorem d_Cv_crossings_20 : decode b_Cv_crossings 20 = .ok (.getfield 43, 3) := by decide +kernel
theorem d_Cv_crossings_23 : decode b_Cv_crossings 23 = .ok (.iload_n 1, 1) := by decide +kernel
theorem d_Cv_crossings_24 : decode b_Cv_crossings 24 = .ok (.iaload, 1) := by decide +kernel
theorem d_Cv_crossings_25 : decode b_Cv_crossings 25 = .ok (.i2l, 1) := by decide +kernel
theorem d_Cv_crossings_26 : decode b_Cv_crossings 26 = .ok (.ladd, 1) := by decide +kernel
theorem d_Cv_crossings_27 : decode b_Cv_crossings 27 = .ok (.lstore 5, 2) := by decide +kernel
theorem d_Cv_crossings_29 : decode b_Cv_crossings 29 = .ok (.lload_n 3, 1) := by decide +kernel
theorem d_Cv_crossings_30 : decode b_Cv_crossings 30 = .ok (.lconst 0, 1) := by decide +kernel
theorem d_Cv_crossings_31 : decode b_Cv_crossings 31 = .ok (.lcmp, 1) := by decide +kernel
theorem d_Cv_crossings_32 : decode b_Cv_crossings 32 = .ok (.ifCond .le 7, 3) := by decide +kernel
theorem d_Cv_crossings_35 : decode b_Cv_crossings 35 = .ok (.iconst 1, 1) := by decide +kernel
theorem d_Cv_crossings_36 : decode b_Cv_crossings 36 = .ok (.goto 4, 3) := by decide +kernel
theorem d_Cv_crossings_39 : decode b_Cv_crossings 39 = .ok (.iconst 0, 1) := by decide +kernel
theorem d_Cv_crossings_40 : decode b_Cv_crossings 40 = .ok (.lload 5, 2) := by decide +kernel
theorem d_Cv_crossings_42 : decode b_Cv_crossings 42 = .ok (.lconst 0, 1) := by decide +kernel
theorem d_Cv_crossings_43 : decode b_Cv_crossings 43 = .ok (.lcmp, 1) := by decide +kernel
theorem d_Cv_crossings_44 : decode b_Cv_crossings 44 = .ok (.ifCond .le 7, 3) := by decide +kernel
theorem d_Cv_crossings_47 : decode b_Cv_crossings 47 = .ok (.iconst 1, 1) := by decide +kernel
theorem d_Cv_crossings_48 : decode b_Cv_crossings 48 = .ok (.goto 4, 3) := by decide +kernel
theorem d_Cv_crossings_51 : decode b_Cv_crossings 51 = .ok (.iconst 0, 1) := by decide +kernel
theorem d_Cv_crossings_52 : decode b_Cv_crossings 52 = .ok (.if_icmp .eq 16, 3) := by decide +kernel
theorem d_Cv_crossings_55 : decode b_Cv_crossings 55 = .ok (.lload 5, 2) := by decide +kernel
theorem d_Cv_crossings_57 : decode b_Cv_crossings 57 = .ok (.lconst 0, 1) := by decide +kernel
theorem d_Cv_crossings_58 : decode b_Cv_crossings 58 = .ok (.lcmp, 1) := by decide +kernel
theorem d_Cv_crossings_59 : decode b_Cv_crossings 59 = .ok (.ifCond .le 7, 3) := by decide +kernel
theorem d_Cv_crossings_62 : decode b_Cv_crossings 62 = .ok (.iconst 1, 1) := by decide +kernel
theorem d_Cv_crossings_63 : decode b_Cv_crossings 63 = .ok (.goto 4, 3) := by decide +kernel
theorem d_Cv_crossings_66 : decode b_Cv_crossings 66 = .ok (.iconst 2, 1) := by decide +kernel
theorem d_Cv_crossings_67 : decode b_Cv_crossings 67 = .ok (.ireturn, 1) := by decide +kernel
theorem d_Cv_crossings_68 : decode b_Cv_crossings 68 = .ok (.aload_n 0, 1) := by decide +kernel
theorem d_Cv_crossings_69 : decode b_Cv_crossings 69 = .ok (.getfield 43, 3) := by decide +kernel
theorem d_Cv_crossings_72 : decode b_Cv_crossings 72 = .ok (.iload_n 1, 1) := by decide +kernel
theorem d_Cv_crossings_73 : decode b_Cv_crossings 73 = .ok (.iaload, 1) := by decide +kernel
theorem d_Cv_crossings_74 : decode b_Cv_crossings 74 = .ok (.i2l, 1) := by decide +kernel
theorem d_Cv_crossings_75 : decode b_Cv_crossings 75 = .ok (.aload_n 0, 1) := by decide +kernel
theorem d_Cv_crossings_76 : decode b_Cv_crossings 76 = .ok (.getfield 37, 3) := by decide +kernel
theorem d_Cv_crossings_79 : decode b_Cv_crossings 79 = .ok (.iload_n 1, 1) := by decide +kernel
theorem d_Cv_crossings_80 : decode b_Cv_crossings 80 = .ok (.iaload, 1) := by decide +kernel
theorem d_Cv_crossings_81 : decode b_Cv_crossings 81 = .ok (.i2l, 1) := by decide +kernel
theorem d_Cv_crossings_82 : decode b_Cv_crossings 82 = .ok (.lload_n 3, 1) := by decide +kernel
theorem d_Cv_crossings_83 : decode b_Cv_crossings 83 = .ok (.invokestatic 106, 3) := by decide +kernel
theorem d_Cv_crossings_86 : decode b_Cv_crossings 86 = .ok (.ifCond .eq 7, 3) := by decide +kernel
theorem d_Cv_crossings_89 : decode b_Cv_crossings 89 = .ok (.iconst 3, 1) := by decide +kernel
theorem d_Cv_crossings_90 : decode b_Cv_crossings 90 = .ok (.goto 4, 3) := by decide +kernel
theorem d_Cv_crossings_93 : decode b_Cv_crossings 93 = .ok (.iconst 0, 1) := by decide +kernel
theorem d_Cv_crossings_94 : decode b_Cv_crossings 94 = .ok (.ireturn, 1) := by decide +kernel
abbrev b_Cv_side : ByteArray := prog_2_method_12_code
def y_Cv_side : MethodName := ⟨"GlyphPage$Curves", "side", "(IIII)I"⟩
theorem d_Cv_side_0 : decode b_Cv_side 0 = .ok (.aload_n 0, 1) := by decide +kernel
theorem d_Cv_side_1 : decode b_Cv_side 1 = .ok (.getfield 40, 3) := by decide +kernel
theorem d_Cv_side_4 : decode b_Cv_side 4 = .ok (.iload_n 1, 1) := by decide +kernel
theorem d_Cv_side_5 : decode b_Cv_side 5 = .ok (.iaload, 1) := by decide +kernel
theorem d_Cv_side_6 : decode b_Cv_side 6 = .ok (.i2l, 1) := by decide +kernel
theorem d_Cv_side_7 : decode b_Cv_side 7 = .ok (.lstore 5, 2) := by decide +kernel
theorem d_Cv_side_9 : decode b_Cv_side 9 = .ok (.aload_n 0, 1) := by decide +kernel
theorem d_Cv_side_10 : decode b_Cv_side 10 = .ok (.getfield 34, 3) := by decide +kernel
theorem d_Cv_side_13 : decode b_Cv_side 13 = .ok (.iload_n 1, 1) := by decide +kernel
theorem d_Cv_side_14 : decode b_Cv_side 14 = .ok (.iaload, 1) := by decide +kernel
theorem d_Cv_side_15 : decode b_Cv_side 15 = .ok (.i2l, 1) := by decide +kernel
theorem d_Cv_side_16 : decode b_Cv_side 16 = .ok (.lstore 7, 2) := by decide +kernel
theorem d_Cv_side_18 : decode b_Cv_side 18 = .ok (.aload_n 0, 1) := by decide +kernel
theorem d_Cv_side_19 : decode b_Cv_side 19 = .ok (.getfield 11, 3) := by decide +kernel
theorem d_Cv_side_22 : decode b_Cv_side 22 = .ok (.iload_n 1, 1) := by decide +kernel
theorem d_Cv_side_23 : decode b_Cv_side 23 = .ok (.iaload, 1) := by decide +kernel
theorem d_Cv_side_24 : decode b_Cv_side 24 = .ok (.iload_n 3, 1) := by decide +kernel
theorem d_Cv_side_25 : decode b_Cv_side 25 = .ok (.isub, 1) := by decide +kernel
theorem d_Cv_side_26 : decode b_Cv_side 26 = .ok (.i2l, 1) := by decide +kernel
theorem d_Cv_side_27 : decode b_Cv_side 27 = .ok (.lstore 9, 2) := by decide +kernel
theorem d_Cv_side_29 : decode b_Cv_side 29 = .ok (.aload_n 0, 1) := by decide +kernel
theorem d_Cv_side_30 : decode b_Cv_side 30 = .ok (.getfield 43, 3) := by decide +kernel
theorem d_Cv_side_33 : decode b_Cv_side 33 = .ok (.iload_n 1, 1) := by decide +kernel
theorem d_Cv_side_34 : decode b_Cv_side 34 = .ok (.iaload, 1) := by decide +kernel
theorem d_Cv_side_35 : decode b_Cv_side 35 = .ok (.i2l, 1) := by decide +kernel
theorem d_Cv_side_36 : decode b_Cv_side 36 = .ok (.lstore 11, 2) := by decide +kernel
theorem d_Cv_side_38 : decode b_Cv_side 38 = .ok (.aload_n 0, 1) := by decide +kernel
theorem d_Cv_side_39 : decode b_Cv_side 39 = .ok (.getfield 37, 3) := by decide +kernel
theorem d_Cv_side_42 : decode b_Cv_side 42 = .ok (.iload_n 1, 1) := by decide +kernel
theorem d_Cv_side_43 : decode b_Cv_side 43 = .ok (.iaload, 1) := by decide +kernel
theorem d_Cv_side_44 : decode b_Cv_side 44 = .ok (.i2l, 1) := by decide +kernel
theorem d_Cv_side_45 : decode b_Cv_side 45 = .ok (.lstore 13, 2) := by decide +kernel
theorem d_Cv_side_47 : decode b_Cv_side 47 = .ok (.aload_n 0, 1) := by decide +kernel
theorem d_Cv_side_48 : decode b_Cv_side 48 = .ok (.getfield 15, 3) := by decide +kernel
theorem d_Cv_side_51 : decode b_Cv_side 51 = .ok (.iload_n 1, 1) := by decide +kernel
theorem d_Cv_side_52 : decode b_Cv_side 52 = .ok (.iaload, 1) := by decide +kernel
theorem d_Cv_side_53 : decode b_Cv_side 53 = .ok (.iload 4, 2) := by decide +kernel
theorem d_Cv_side_55 : decode b_Cv_side 55 = .ok (.isub, 1) := by decide +kernel
theorem d_Cv_side_56 : decode b_Cv_side 56 = .ok (.i2l, 1) := by decide +kernel
theorem d_Cv_side_57 : decode b_Cv_side 57 = .ok (.lstore 15, 2) := by decide +kernel
theorem d_Cv_side_59 : decode b_Cv_side 59 = .ok (.lload 11, 2) := by decide +kernel
theorem d_Cv_side_61 : decode b_Cv_side 61 = .ok (.lconst 0, 1) := by decide +kernel
theorem d_Cv_side_62 : decode b_Cv_side 62 = .ok (.lcmp, 1) := by decide +kernel
theorem d_Cv_side_63 : decode b_Cv_side 63 = .ok (.ifCond .ne 33, 3) := by decide +kernel
theorem d_Cv_side_66 : decode b_Cv_side 66 = .ok (.lload 5, 2) := by decide +kernel
theorem d_Cv_side_68 : decode b_Cv_side 68 = .ok (.lload 15, 2) := by decide +kernel
theorem d_Cv_side_70 : decode b_Cv_side 70 = .ok (.lmul, 1) := by decide +kernel
theorem d_Cv_side_71 : decode b_Cv_side 71 = .ok (.lload 15, 2) := by decide +kernel
theorem d_Cv_side_73 : decode b_Cv_side 73 = .ok (.lmul, 1) := by decide +kernel
theorem d_Cv_side_74 : decode b_Cv_side 74 = .ok (.lload 7, 2) := by decide +kernel
theorem d_Cv_side_76 : decode b_Cv_side 76 = .ok (.lload 13, 2) := by decide +kernel
theorem d_Cv_side_78 : decode b_Cv_side 78 = .ok (.lmul, 1) := by decide +kernel
theorem d_Cv_side_79 : decode b_Cv_side 79 = .ok (.lload 15, 2) := by decide +kernel
theorem d_Cv_side_81 : decode b_Cv_side 81 = .ok (.lmul, 1) := by decide +kernel
theorem d_Cv_side_82 : decode b_Cv_side 82 = .ok (.lsub, 1) := by decide +kernel
theorem d_Cv_side_83 : decode b_Cv_side 83 = .ok (.lload 9, 2) := by decide +kernel
theorem d_Cv_side_85 : decode b_Cv_side 85 = .ok (.lload 13, 2) := by decide +kernel
theorem d_Cv_side_87 : decode b_Cv_side 87 = .ok (.lmul, 1) := by decide +kernel
theorem d_Cv_side_88 : decode b_Cv_side 88 = .ok (.lload 13, 2) := by decide +kernel
theorem d_Cv_side_90 : decode b_Cv_side 90 = .ok (.lmul, 1) := by decide +kernel
theorem d_Cv_side_91 : decode b_Cv_side 91 = .ok (.ladd, 1) := by decide +kernel
theorem d_Cv_side_92 : decode b_Cv_side 92 = .ok (.invokestatic 116, 3) := by decide +kernel
theorem d_Cv_side_95 : decode b_Cv_side 95 = .ok (.ireturn, 1) := by decide +kernel
theorem d_Cv_side_96 : decode b_Cv_side 96 = .ok (.lload 11, 2) := by decide +kernel
theorem d_Cv_side_98 : decode b_Cv_side 98 = .ok (.lload 7, 2) := by decide +kernel
theorem d_Cv_side_100 : decode b_Cv_side 100 = .ok (.lmul, 1) := by decide +kernel
theorem d_Cv_side_101 : decode b_Cv_side 101 = .ok (.lload 5, 2) := by decide +kernel
theorem d_Cv_side_103 : decode b_Cv_side 103 = .ok (.lload 13, 2) := by decide +kernel
theorem d_Cv_side_105 : decode b_Cv_side 105 = .ok (.lmul, 1) := by decide +kernel
theorem d_Cv_side_106 : decode b_Cv_side 106 = .ok (.lsub, 1) := by decide +kernel
theorem d_Cv_side_107 : decode b_Cv_side 107 = .ok (.lstore 17, 2) := by decide +kernel
theorem d_Cv_side_109 : decode b_Cv_side 109 = .ok (.lload 11, 2) := by decide +kernel
theorem d_Cv_side_111 : decode b_Cv_side 111 = .ok (.lload 9, 2) := by decide +kernel
theorem d_Cv_side_113 : decode b_Cv_side 113 = .ok (.lmul, 1) := by decide +kernel
theorem d_Cv_side_114 : decode b_Cv_side 114 = .ok (.lload 5, 2) := by decide +kernel
theorem d_Cv_side_116 : decode b_Cv_side 116 = .ok (.lload 15, 2) := by decide +kernel
theorem d_Cv_side_118 : decode b_Cv_side 118 = .ok (.lmul, 1) := by decide +kernel
theorem d_Cv_side_119 : decode b_Cv_side 119 = .ok (.lsub, 1) := by decide +kernel
theorem d_Cv_side_120 : decode b_Cv_side 120 = .ok (.lstore 19, 2) := by decide +kernel
theorem d_Cv_side_122 : decode b_Cv_side 122 = .ok (.lload 13, 2) := by decide +kernel
theorem d_Cv_side_124 : decode b_Cv_side 124 = .ok (.lload 9, 2) := by decide +kernel
theorem d_Cv_side_126 : decode b_Cv_side 126 = .ok (.lmul, 1) := by decide +kernel
theorem d_Cv_side_127 : decode b_Cv_side 127 = .ok (.lload 7, 2) := by decide +kernel
theorem d_Cv_side_129 : decode b_Cv_side 129 = .ok (.lload 15, 2) := by decide +kernel
theorem d_Cv_side_131 : decode b_Cv_side 131 = .ok (.lmul, 1) := by decide +kernel
theorem d_Cv_side_132 : decode b_Cv_side 132 = .ok (.lsub, 1) := by decide +kernel
theorem d_Cv_side_133 : decode b_Cv_side 133 = .ok (.lstore 21, 2) := by decide +kernel
theorem d_Cv_side_135 : decode b_Cv_side 135 = .ok (.ldc2_w 110, 3) := by decide +kernel
theorem d_Cv_side_138 : decode b_Cv_side 138 = .ok (.lload 11, 2) := by decide +kernel
theorem d_Cv_side_140 : decode b_Cv_side 140 = .ok (.lmul, 1) := by decide +kernel
theorem d_Cv_side_141 : decode b_Cv_side 141 = .ok (.lload 19, 2) := by decide +kernel
theorem d_Cv_side_143 : decode b_Cv_side 143 = .ok (.lmul, 1) := by decide +kernel
theorem d_Cv_side_144 : decode b_Cv_side 144 = .ok (.lload 13, 2) := by decide +kernel
theorem d_Cv_side_146 : decode b_Cv_side 146 = .ok (.lload 17, 2) := by decide +kernel
theorem d_Cv_side_148 : decode b_Cv_side 148 = .ok (.lmul, 1) := by decide +kernel
theorem d_Cv_side_149 : decode b_Cv_side 149 = .ok (.lsub, 1) := by decide +kernel
theorem d_Cv_side_150 : decode b_Cv_side 150 = .ok (.invokestatic 116, 3) := by decide +kernel
theorem d_Cv_side_153 : decode b_Cv_side 153 = .ok (.istore 23, 2) := by decide +kernel
theorem d_Cv_side_155 : decode b_Cv_side 155 = .ok (.lload 13, 2) := by decide +kernel
theorem d_Cv_side_157 : decode b_Cv_side 157 = .ok (.lload 13, 2) := by decide +kernel
theorem d_Cv_side_159 : decode b_Cv_side 159 = .ok (.lmul, 1) := by decide +kernel
theorem d_Cv_side_160 : decode b_Cv_side 160 = .ok (.ldc2_w 114, 3) := by decide +kernel
theorem d_Cv_side_163 : decode b_Cv_side 163 = .ok (.lload 11, 2) := by decide +kernel
theorem d_Cv_side_165 : decode b_Cv_side 165 = .ok (.lmul, 1) := by decide +kernel
theorem d_Cv_side_166 : decode b_Cv_side 166 = .ok (.lload 15, 2) := by decide +kernel
theorem d_Cv_side_168 : decode b_Cv_side 168 = .ok (.lmul, 1) := by decide +kernel
theorem d_Cv_side_169 : decode b_Cv_side 169 = .ok (.lcmp, 1) := by decide +kernel
theorem d_Cv_side_170 : decode b_Cv_side 170 = .ok (.ifCond .le 13, 3) := by decide +kernel
theorem d_Cv_side_173 : decode b_Cv_side 173 = .ok (.iload_n 2, 1) := by decide +kernel
theorem d_Cv_side_174 : decode b_Cv_side 174 = .ok (.lload 17, 2) := by decide +kernel
theorem d_Cv_side_176 : decode b_Cv_side 176 = .ok (.invokestatic 116, 3) := by decide +kernel
theorem d_Cv_side_179 : decode b_Cv_side 179 = .ok (.imul, 1) := by decide +kernel
theorem d_Cv_side_180 : decode b_Cv_side 180 = .ok (.goto 4, 3) := by decide +kernel
theorem d_Cv_side_183 : decode b_Cv_side 183 = .ok (.iconst 0, 1) := by decide +kernel
theorem d_Cv_side_184 : decode b_Cv_side 184 = .ok (.istore 24, 2) := by decide +kernel
theorem d_Cv_side_186 : decode b_Cv_side 186 = .ok (.iload 24, 2) := by decide +kernel
theorem d_Cv_side_188 : decode b_Cv_side 188 = .ok (.ifCond .eq 10, 3) := by decide +kernel
theorem d_Cv_side_191 : decode b_Cv_side 191 = .ok (.iload 23, 2) := by decide +kernel
theorem d_Cv_side_193 : decode b_Cv_side 193 = .ok (.iload 24, 2) := by decide +kernel
theorem d_Cv_side_195 : decode b_Cv_side 195 = .ok (.if_icmp .ne 6, 3) := by decide +kernel
theorem d_Cv_side_198 : decode b_Cv_side 198 = .ok (.iload 23, 2) := by decide +kernel
theorem d_Cv_side_200 : decode b_Cv_side 200 = .ok (.ireturn, 1) := by decide +kernel
theorem d_Cv_side_201 : decode b_Cv_side 201 = .ok (.iload 23, 2) := by decide +kernel
theorem d_Cv_side_203 : decode b_Cv_side 203 = .ok (.ifCond .ne 8, 3) := by decide +kernel
theorem d_Cv_side_206 : decode b_Cv_side 206 = .ok (.iload 24, 2) := by decide +kernel
theorem d_Cv_side_208 : decode b_Cv_side 208 = .ok (.goto 15, 3) := by decide +kernel
theorem d_Cv_side_211 : decode b_Cv_side 211 = .ok (.iload 23, 2) := by decide +kernel
theorem d_Cv_side_213 : decode b_Cv_side 213 = .ok (.lload 19, 2) := by decide +kernel
theorem d_Cv_side_215 : decode b_Cv_side 215 = .ok (.lload 17, 2) := by decide +kernel
theorem d_Cv_side_217 : decode b_Cv_side 217 = .ok (.lload 21, 2) := by decide +kernel
theorem d_Cv_side_219 : decode b_Cv_side 219 = .ok (.invokestatic 122, 3) := by decide +kernel
theorem d_Cv_side_222 : decode b_Cv_side 222 = .ok (.imul, 1) := by decide +kernel
theorem d_Cv_side_223 : decode b_Cv_side 223 = .ok (.ireturn, 1) := by decide +kernel
abbrev b_Cv_windingAt : ByteArray := prog_2_method_14_code
def y_Cv_windingAt : MethodName := ⟨"GlyphPage$Curves", "windingAt", "(II)I"⟩
theorem d_Cv_windingAt_0 : decode b_Cv_windingAt 0 = .ok (.iconst 0, 1) := by decide +kernel
theorem d_Cv_windingAt_1 : decode b_Cv_windingAt 1 = .ok (.istore_n 3, 1) := by decide +kernel
theorem d_Cv_windingAt_2 : decode b_Cv_windingAt 2 = .ok (.iconst 0, 1) := by decide +kernel
theorem d_Cv_windingAt_3 : decode b_Cv_windingAt 3 = .ok (.istore 4, 2) := by decide +kernel
theorem d_Cv_windingAt_5 : decode b_Cv_windingAt 5 = .ok (.iload 4, 2) := by decide +kernel
theorem d_Cv_windingAt_7 : decode b_Cv_windingAt 7 = .ok (.aload_n 0, 1) := by decide +kernel
theorem d_Cv_windingAt_8 : decode b_Cv_windingAt 8 = .ok (.getfield 30, 3) := by decide +kernel
theorem d_Cv_windingAt_11 : decode b_Cv_windingAt 11 = .ok (.if_icmp .ge 169, 3) := by decide +kernel
theorem d_Cv_windingAt_14 : decode b_Cv_windingAt 14 = .ok (.aload_n 0, 1) := by decide +kernel
theorem d_Cv_windingAt_15 : decode b_Cv_windingAt 15 = .ok (.getfield 11, 3) := by decide +kernel
theorem d_Cv_windingAt_18 : decode b_Cv_windingAt 18 = .ok (.iload 4, 2) := by decide +kernel
theorem d_Cv_windingAt_20 : decode b_Cv_windingAt 20 = .ok (.iaload, 1) := by decide +kernel
theorem d_Cv_windingAt_21 : decode b_Cv_windingAt 21 = .ok (.iload_n 1, 1) := by decide +kernel
theorem d_Cv_windingAt_22 : decode b_Cv_windingAt 22 = .ok (.if_icmp .ne 14, 3) := by decide +kernel
theorem d_Cv_windingAt_25 : decode b_Cv_windingAt 25 = .ok (.aload_n 0, 1) := by decide +kernel
theorem d_Cv_windingAt_26 : decode b_Cv_windingAt 26 = .ok (.getfield 15, 3) := by decide +kernel
theorem d_Cv_windingAt_29 : decode b_Cv_windingAt 29 = .ok (.iload 4, 2) := by decide +kernel
theorem d_Cv_windingAt_31 : decode b_Cv_windingAt 31 = .ok (.iaload, 1) := by decide +kernel
theorem d_Cv_windingAt_32 : decode b_Cv_windingAt 32 = .ok (.iload_n 2, 1) := by decide +kernel
theorem d_Cv_windingAt_33 : decode b_Cv_windingAt 33 = .ok (.if_icmp .eq 33, 3) := by decide +kernel
theorem d_Cv_windingAt_36 : decode b_Cv_windingAt 36 = .ok (.aload_n 0, 1) := by decide +kernel
theorem d_Cv_windingAt_37 : decode b_Cv_windingAt 37 = .ok (.iload 4, 2) := by decide +kernel
theorem d_Cv_windingAt_39 : decode b_Cv_windingAt 39 = .ok (.invokevirtual 136, 3) := by decide +kernel
theorem d_Cv_windingAt_42 : decode b_Cv_windingAt 42 = .ok (.ifCond .eq 28, 3) := by decide +kernel
theorem d_Cv_windingAt_45 : decode b_Cv_windingAt 45 = .ok (.aload_n 0, 1) := by decide +kernel
theorem d_Cv_windingAt_46 : decode b_Cv_windingAt 46 = .ok (.getfield 15, 3) := by decide +kernel
theorem d_Cv_windingAt_49 : decode b_Cv_windingAt 49 = .ok (.iload 4, 2) := by decide +kernel
theorem d_Cv_windingAt_51 : decode b_Cv_windingAt 51 = .ok (.iaload, 1) := by decide +kernel
theorem d_Cv_windingAt_52 : decode b_Cv_windingAt 52 = .ok (.iload_n 2, 1) := by decide +kernel
theorem d_Cv_windingAt_53 : decode b_Cv_windingAt 53 = .ok (.if_icmp .ne 17, 3) := by decide +kernel
theorem d_Cv_windingAt_56 : decode b_Cv_windingAt 56 = .ok (.aload_n 0, 1) := by decide +kernel
theorem d_Cv_windingAt_57 : decode b_Cv_windingAt 57 = .ok (.iload 4, 2) := by decide +kernel
theorem d_Cv_windingAt_59 : decode b_Cv_windingAt 59 = .ok (.iload_n 1, 1) := by decide +kernel
theorem d_Cv_windingAt_60 : decode b_Cv_windingAt 60 = .ok (.invokevirtual 139, 3) := by decide +kernel
theorem d_Cv_windingAt_63 : decode b_Cv_windingAt 63 = .ok (.ifCond .eq 7, 3) := by decide +kernel
theorem d_Cv_windingAt_66 : decode b_Cv_windingAt 66 = .ok (.sipush 1000, 3) := by decide +kernel
theorem d_Cv_windingAt_69 : decode b_Cv_windingAt 69 = .ok (.ireturn, 1) := by decide +kernel
theorem d_Cv_windingAt_70 : decode b_Cv_windingAt 70 = .ok (.aload_n 0, 1) := by decide +kernel
theorem d_Cv_windingAt_71 : decode b_Cv_windingAt 71 = .ok (.iload 4, 2) := by decide +kernel
theorem d_Cv_windingAt_73 : decode b_Cv_windingAt 73 = .ok (.invokevirtual 136, 3) := by decide +kernel
theorem d_Cv_windingAt_76 : decode b_Cv_windingAt 76 = .ok (.ifCond .eq 7, 3) := by decide +kernel
theorem d_Cv_windingAt_79 : decode b_Cv_windingAt 79 = .ok (.iconst 0, 1) := by decide +kernel
theorem d_Cv_windingAt_80 : decode b_Cv_windingAt 80 = .ok (.goto 10, 3) := by decide +kernel
theorem d_Cv_windingAt_83 : decode b_Cv_windingAt 83 = .ok (.aload_n 0, 1) := by decide +kernel
theorem d_Cv_windingAt_84 : decode b_Cv_windingAt 84 = .ok (.iload 4, 2) := by decide +kernel
theorem d_Cv_windingAt_86 : decode b_Cv_windingAt 86 = .ok (.iload_n 2, 1) := by decide +kernel
theorem d_Cv_windingAt_87 : decode b_Cv_windingAt 87 = .ok (.invokevirtual 143, 3) := by decide +kernel
theorem d_Cv_windingAt_90 : decode b_Cv_windingAt 90 = .ok (.istore 5, 2) := by decide +kernel
theorem d_Cv_windingAt_92 : decode b_Cv_windingAt 92 = .ok (.iload 5, 2) := by decide +kernel
theorem d_Cv_windingAt_94 : decode b_Cv_windingAt 94 = .ok (.iconst 1, 1) := by decide +kernel
theorem d_Cv_windingAt_95 : decode b_Cv_windingAt 95 = .ok (.iand, 1) := by decide +kernel
theorem d_Cv_windingAt_96 : decode b_Cv_windingAt 96 = .ok (.ifCond .eq 15, 3) := by decide +kernel
theorem d_Cv_windingAt_99 : decode b_Cv_windingAt 99 = .ok (.aload_n 0, 1) := by decide +kernel
theorem d_Cv_windingAt_100 : decode b_Cv_windingAt 100 = .ok (.iload 4, 2) := by decide +kernel
theorem d_Cv_windingAt_102 : decode b_Cv_windingAt 102 = .ok (.iconst 1, 1) := by decide +kernel
theorem d_Cv_windingAt_103 : decode b_Cv_windingAt 103 = .ok (.iload_n 1, 1) := by decide +kernel
theorem d_Cv_windingAt_104 : decode b_Cv_windingAt 104 = .ok (.iload_n 2, 1) := by decide +kernel
theorem d_Cv_windingAt_105 : decode b_Cv_windingAt 105 = .ok (.invokevirtual 146, 3) := by decide +kernel
theorem d_Cv_windingAt_108 : decode b_Cv_windingAt 108 = .ok (.goto 4, 3) := by decide +kernel
theorem d_Cv_windingAt_111 : decode b_Cv_windingAt 111 = .ok (.iconst (-1), 1) := by decide +kernel
theorem d_Cv_windingAt_112 : decode b_Cv_windingAt 112 = .ok (.istore 6, 2) := by decide +kernel
theorem d_Cv_windingAt_114 : decode b_Cv_windingAt 114 = .ok (.iload 5, 2) := by decide +kernel
theorem d_Cv_windingAt_116 : decode b_Cv_windingAt 116 = .ok (.iconst 2, 1) := by decide +kernel
theorem d_Cv_windingAt_117 : decode b_Cv_windingAt 117 = .ok (.iand, 1) := by decide +kernel
theorem d_Cv_windingAt_118 : decode b_Cv_windingAt 118 = .ok (.ifCond .eq 15, 3) := by decide +kernel
theorem d_Cv_windingAt_121 : decode b_Cv_windingAt 121 = .ok (.aload_n 0, 1) := by decide +kernel
theorem d_Cv_windingAt_122 : decode b_Cv_windingAt 122 = .ok (.iload 4, 2) := by decide +kernel
theorem d_Cv_windingAt_124 : decode b_Cv_windingAt 124 = .ok (.iconst (-1), 1) := by decide +kernel
theorem d_Cv_windingAt_125 : decode b_Cv_windingAt 125 = .ok (.iload_n 1, 1) := by decide +kernel
theorem d_Cv_windingAt_126 : decode b_Cv_windingAt 126 = .ok (.iload_n 2, 1) := by decide +kernel
theorem d_Cv_windingAt_127 : decode b_Cv_windingAt 127 = .ok (.invokevirtual 146, 3) := by decide +kernel
theorem d_Cv_windingAt_130 : decode b_Cv_windingAt 130 = .ok (.goto 4, 3) := by decide +kernel
theorem d_Cv_windingAt_133 : decode b_Cv_windingAt 133 = .ok (.iconst (-1), 1) := by decide +kernel
theorem d_Cv_windingAt_134 : decode b_Cv_windingAt 134 = .ok (.istore 7, 2) := by decide +kernel
theorem d_Cv_windingAt_136 : decode b_Cv_windingAt 136 = .ok (.iload 6, 2) := by decide +kernel
theorem d_Cv_windingAt_138 : decode b_Cv_windingAt 138 = .ok (.ifCond .eq 8, 3) := by decide +kernel
theorem d_Cv_windingAt_141 : decode b_Cv_windingAt 141 = .ok (.iload 7, 2) := by decide +kernel
theorem d_Cv_windingAt_143 : decode b_Cv_windingAt 143 = .ok (.ifCond .ne 7, 3) := by decide +kernel
theorem d_Cv_windingAt_146 : decode b_Cv_windingAt 146 = .ok (.sipush 1000, 3) := by decide +kernel
theorem d_Cv_windingAt_149 : decode b_Cv_windingAt 149 = .ok (.ireturn, 1) := by decide +kernel
theorem d_Cv_windingAt_150 : decode b_Cv_windingAt 150 = .ok (.iload_n 3, 1) := by decide +kernel
theorem d_Cv_windingAt_151 : decode b_Cv_windingAt 151 = .ok (.iload 6, 2) := by decide +kernel
theorem d_Cv_windingAt_153 : decode b_Cv_windingAt 153 = .ok (.ifCond .le 7, 3) := by decide +kernel
theorem d_Cv_windingAt_156 : decode b_Cv_windingAt 156 = .ok (.iconst 1, 1) := by decide +kernel
theorem d_Cv_windingAt_157 : decode b_Cv_windingAt 157 = .ok (.goto 4, 3) := by decide +kernel
theorem d_Cv_windingAt_160 : decode b_Cv_windingAt 160 = .ok (.iconst 0, 1) := by decide +kernel
theorem d_Cv_windingAt_161 : decode b_Cv_windingAt 161 = .ok (.iload 7, 2) := by decide +kernel
theorem d_Cv_windingAt_163 : decode b_Cv_windingAt 163 = .ok (.ifCond .le 7, 3) := by decide +kernel
theorem d_Cv_windingAt_166 : decode b_Cv_windingAt 166 = .ok (.iconst 1, 1) := by decide +kernel
theorem d_Cv_windingAt_167 : decode b_Cv_windingAt 167 = .ok (.goto 4, 3) := by decide +kernel
theorem d_Cv_windingAt_170 : decode b_Cv_windingAt 170 = .ok (.iconst 0, 1) := by decide +kernel
theorem d_Cv_windingAt_171 : decode b_Cv_windingAt 171 = .ok (.isub, 1) := by decide +kernel
theorem d_Cv_windingAt_172 : decode b_Cv_windingAt 172 = .ok (.iadd, 1) := by decide +kernel
theorem d_Cv_windingAt_173 : decode b_Cv_windingAt 173 = .ok (.istore_n 3, 1) := by decide +kernel
theorem d_Cv_windingAt_174 : decode b_Cv_windingAt 174 = .ok (.iinc 4 1, 3) := by decide +kernel
theorem d_Cv_windingAt_177 : decode b_Cv_windingAt 177 = .ok (.goto (-172), 3) := by decide +kernel
theorem d_Cv_windingAt_180 : decode b_Cv_windingAt 180 = .ok (.iload_n 3, 1) := by decide +kernel
theorem d_Cv_windingAt_181 : decode b_Cv_windingAt 181 = .ok (.ireturn, 1) := by decide +kernel
section
variable {p : Program} {l : Launch} {e : Env} {s : State} {m : MethodId} {args : Array Value} {below : List Frame} {meth : Method} {c : Code} {A : Nat → Prop} {dC : Nat → ClassId} {dI : Nat → Nat → Nat} {cy : Nat → ClassId}
def P_Cv_isNear  (a1 : Int32) : Option (Int32) :=
  if a1 < (-20000 : Int32) then (some (0 : Int32)) else (if (20000 : Int32) < a1 then (some (0 : Int32)) else (some (1 : Int32)))
set_option maxHeartbeats 4000000 in
set_option maxRecDepth 100000 in
theorem c_Cv_isNear (l : Launch) (dC : Nat → ClassId) (dI : Nat → Nat → Nat) (cy : Nat → ClassId) (sz : Nat)   (a1 : Int32) (uu : Int32) (h : P_Cv_isNear a1 = some uu) : Met l y_Cv_isNear (Cond.code y_Cv_isNear b_Cv_isNear 1 (some .boolean) :: G) ({ frames := 0, cells := 0, slots := 0, locals := 0 } : Room) (va_Pc [.int a1] (fun U => U.heap.size = sz ∧ va_P (dC, dI) classes [] U.heap ∧ va_K (dC, dI) classes (TY cy) U ∧ va_D (fun _ => True) [])) (va_Qi (fun r (_ : Unit) => r = uu) (fun _ t => va_P (dC, dI) classes [] t.heap ∧ va_K (dC, dI) classes (TY cy) t ∧ va_D (va_A [] sz) []) (va_A [] sz)) 0 0 (va_A [] sz) := by
  refine Met.ofW (cc := b_Cv_isNear) (maxL := 1) (ret := (some .boolean)) (by decide) rfl ?_
  intro p e s m args below meth c s₁ B hml hv
  obtain ⟨rfl, hsz, hP, hK, hD0⟩ := hv
  have hx := B.exec
  have hb := B.bytes
  have hr := B.returns
  have hts := atoms_spec (ws := Cond.code y_Cv_isNear b_Cv_isNear 1 (some .boolean) :: G) B.pre
  have htsG : ∀ w ∈ G, w.before _ s = true := fun w hw => hts w (List.mem_cons_of_mem _ hw)
  have hown : s.vm.findClass "GlyphPage$Curves" = some m.cls := findClass_of_methodNamed B.named
  have hlocks := B.notSynchronized
  subst hsz
  have hD := hD0.self (sz := s.heap.size)
  generalize hAe : va_A [] s.heap.size = A at hD ⊢
  have hA : ∀ q : Nat, s.heap.size ≤ q → A q := fun q h => by rw [← hAe]; exact Or.inr h
  have hS : va_S A s.heap s.heap [] := va_S.rf
  have hl := lv_entry ([.int a1]) (n := 1) (Nat.le_of_ble_eq_true rfl)
  rw [lg_entry_eq]
  generalize (lg_sl ([.int a1]) ++ List.replicate (1 - (lg_sl ([.int a1])).length) Slot.unset).toArray = ls at hl ⊢
  have hl : lv_has ls 1 [(0, .int a1)] := hl
  have C0 : Cx p s m _ meth c A dC dI cy b_Cv_isNear 1 (some .boolean) "GlyphPage$Curves" := ⟨hx, hb, hr, hlocks, hml, hown, htsG, hA, hK⟩
  unfold P_Cv_isNear at h
  refine lv_iload_n hx hb d_Cv_isNear_0 rfl (lv_at hl 0 rfl) ?_
  refine lv_sipush (v := (-20000 : Int32)) hx hb d_Cv_isNear_1 (by decide) ?_
  refine lv_icmp_lt (tgt := 18) hx hb d_Cv_isNear_4 (by decide) (fun c_1 => ?_) (fun c_1 => ?_)
  · replace h := (if_pos c_1).symm.trans h
    refine lv_iconst (v := (0 : Int32)) hx hb d_Cv_isNear_18 (by decide) ?_
    cases h
    exact W.zret (ty := .boolean) hx hb hr rfl (fun t ht hW => ⟨⟨_, (), rfl, rfl, by rw [ht]; exact hP, va_K.moved hW.alike hK, hD⟩, hS.F ht⟩) hS.2.2 d_Cv_isNear_19 hlocks
  · replace h := (if_neg c_1).symm.trans h
    refine lv_iload_n hx hb d_Cv_isNear_7 rfl (lv_at hl 0 rfl) ?_
    refine lv_sipush (v := (20000 : Int32)) hx hb d_Cv_isNear_8 (by decide) ?_
    refine lv_icmp_gt (tgt := 18) hx hb d_Cv_isNear_11 (by decide) (fun c_2 => ?_) (fun c_2 => ?_)
    · replace h := (if_pos c_2).symm.trans h
      refine lv_iconst (v := (0 : Int32)) hx hb d_Cv_isNear_18 (by decide) ?_
      cases h
      exact W.zret (ty := .boolean) hx hb hr rfl (fun t ht hW => ⟨⟨_, (), rfl, rfl, by rw [ht]; exact hP, va_K.moved hW.alike hK, hD⟩, hS.F ht⟩) hS.2.2 d_Cv_isNear_19 hlocks
    · replace h := (if_neg c_2).symm.trans h
      refine lv_iconst (v := (1 : Int32)) hx hb d_Cv_isNear_14 (by decide) ?_
      refine lv_goto (tgt := 19) hx hb d_Cv_isNear_15 (by decide) ?_
      cases h
      exact W.zret (ty := .boolean) hx hb hr rfl (fun t ht hW => ⟨⟨_, (), rfl, rfl, by rw [ht]; exact hP, va_K.moved hW.alike hK, hD⟩, hS.F ht⟩) hS.2.2 d_Cv_isNear_19 hlocks
def P_Cv_comesBack_82   (x0 : Int64) (x2 : Int64) (x4 : Int64) (k0 : Int32) (k1 : Int32) : Option (Int32) :=
  if k1 = k0 then (if (lg_cmp (x2 * x2) (((4 : Int64) * x0) * x4)) < 0 then (some (0 : Int32)) else (some (1 : Int32))) else (some (0 : Int32))
set_option maxHeartbeats 4000000 in
set_option maxRecDepth 100000 in
theorem w_Cv_comesBack_82 (C0 : Cx p s m args meth c A dC dI cy b_Cv_comesBack 7 (some .boolean) "GlyphPage$Curves") (a1 : Int64) (a2 : Int64) (a3 : Int64) (uu : Int32)  (x0 : Int64) (x2 : Int64) (x4 : Int64) (k0 : Int32) (k1 : Int32) {H : Heap} {locs : List Loc} {ls : Array Slot} (h : P_Cv_comesBack_82 x0 x2 x4 k0 k1 = some uu) : va_P (dC, dI) classes [] H → va_D A [] → va_S A s.heap H locs → lv_has ls 7 [(0, .long x0), (2, .long x2), (4, .long x4)] → W p l e ({ frames := 0, cells := 0, slots := 0, locals := 0 } : Room) s m args below meth c H locs 0 0 (MQ below (va_Qi (fun r (_ : Unit) => r = uu) (fun _ t => va_P (dC, dI) classes [] t.heap ∧ va_K (dC, dI) classes (TY cy) t ∧ va_D A []) A) args s 0 0 A) (F0 m 82 ls [.int k0, .int k1]) := by
  intro hP hD hS hl
  obtain ⟨hx, hb, hr, hlocks, hml, hown, htsG, hA, hK⟩ := id C0
  unfold P_Cv_comesBack_82 at h
  refine lv_icmp_ne (tgt := 104) hx hb d_Cv_comesBack_82 (by decide) (fun c_1 => ?_) (fun c_1 => ?_)
  · replace h := (if_neg c_1).symm.trans h
    refine lv_iconst (v := (0 : Int32)) hx hb d_Cv_comesBack_104 (by decide) ?_
    cases h
    exact W.zret (ty := .boolean) hx hb hr rfl (fun t ht hW => ⟨⟨_, (), rfl, rfl, by rw [ht]; exact hP, va_K.moved hW.alike hK, hD⟩, hS.F ht⟩) hS.2.2 d_Cv_comesBack_105 hlocks
  · replace h := (if_pos c_1).symm.trans h
    refine lv_lload_n hx hb d_Cv_comesBack_85 rfl (lv_at hl 1 rfl) ?_
    refine lv_lload_n hx hb d_Cv_comesBack_86 rfl (lv_at hl 1 rfl) ?_
    refine lv_lmul hx hb d_Cv_comesBack_87 ?_
    refine lv_ldc2 hx hb hown (htsG _ mW620) d_Cv_comesBack_88 ?_
    refine lv_lload_n hx hb d_Cv_comesBack_91 rfl (lv_at hl 0 rfl) ?_
    refine lv_lmul hx hb d_Cv_comesBack_92 ?_
    refine lv_lload hx hb d_Cv_comesBack_93 (lv_at hl 2 rfl) ?_
    refine lv_lmul hx hb d_Cv_comesBack_95 ?_
    refine W.lcmp hx hb d_Cv_comesBack_96 ?_
    refine lv_if_lt (tgt := 104) hx hb d_Cv_comesBack_97 (by decide) (fun c_2 => ?_) (fun c_2 => ?_)
    · replace h := (if_pos c_2).symm.trans h
      refine lv_iconst (v := (0 : Int32)) hx hb d_Cv_comesBack_104 (by decide) ?_
      cases h
      exact W.zret (ty := .boolean) hx hb hr rfl (fun t ht hW => ⟨⟨_, (), rfl, rfl, by rw [ht]; exact hP, va_K.moved hW.alike hK, hD⟩, hS.F ht⟩) hS.2.2 d_Cv_comesBack_105 hlocks
    · replace h := (if_neg c_2).symm.trans h
      refine lv_iconst (v := (1 : Int32)) hx hb d_Cv_comesBack_100 (by decide) ?_
      refine lv_goto (tgt := 105) hx hb d_Cv_comesBack_101 (by decide) ?_
      cases h
      exact W.zret (ty := .boolean) hx hb hr rfl (fun t ht hW => ⟨⟨_, (), rfl, rfl, by rw [ht]; exact hP, va_K.moved hW.alike hK, hD⟩, hS.F ht⟩) hS.2.2 d_Cv_comesBack_105 hlocks
def P_Cv_comesBack_71   (x0 : Int64) (x2 : Int64) (x4 : Int64) (k0 : Int32) : Option (Int32) :=
  if (lg_cmp x0 (0 : Int64)) ≤ 0 then (P_Cv_comesBack_82 x0 x2 x4 (0 : Int32) k0) else (P_Cv_comesBack_82 x0 x2 x4 (1 : Int32) k0)
set_option maxHeartbeats 4000000 in
set_option maxRecDepth 100000 in
theorem w_Cv_comesBack_71 (C0 : Cx p s m args meth c A dC dI cy b_Cv_comesBack 7 (some .boolean) "GlyphPage$Curves") (a1 : Int64) (a2 : Int64) (a3 : Int64) (uu : Int32)  (x0 : Int64) (x2 : Int64) (x4 : Int64) (k0 : Int32) {H : Heap} {locs : List Loc} {ls : Array Slot} (h : P_Cv_comesBack_71 x0 x2 x4 k0 = some uu) : va_P (dC, dI) classes [] H → va_D A [] → va_S A s.heap H locs → lv_has ls 7 [(0, .long x0), (2, .long x2), (4, .long x4)] → W p l e ({ frames := 0, cells := 0, slots := 0, locals := 0 } : Room) s m args below meth c H locs 0 0 (MQ below (va_Qi (fun r (_ : Unit) => r = uu) (fun _ t => va_P (dC, dI) classes [] t.heap ∧ va_K (dC, dI) classes (TY cy) t ∧ va_D A []) A) args s 0 0 A) (F0 m 71 ls [.int k0]) := by
  intro hP hD hS hl
  obtain ⟨hx, hb, hr, hlocks, hml, hown, htsG, hA, hK⟩ := id C0
  unfold P_Cv_comesBack_71 at h
  refine lv_lload_n hx hb d_Cv_comesBack_71 rfl (lv_at hl 0 rfl) ?_
  refine lv_lconst (v := (0 : Int64)) hx hb d_Cv_comesBack_72 (by decide) ?_
  refine W.lcmp hx hb d_Cv_comesBack_73 ?_
  refine lv_if_le (tgt := 81) hx hb d_Cv_comesBack_74 (by decide) (fun c_1 => ?_) (fun c_1 => ?_)
  · replace h := (if_pos c_1).symm.trans h
    refine lv_iconst (v := (0 : Int32)) hx hb d_Cv_comesBack_81 (by decide) ?_
    exact w_Cv_comesBack_82 C0 a1 a2 a3 uu  x0 x2 x4 (0 : Int32) k0 h hP hD hS (lv_sub hl [0, 1, 2] rfl)
  · replace h := (if_neg c_1).symm.trans h
    refine lv_iconst (v := (1 : Int32)) hx hb d_Cv_comesBack_77 (by decide) ?_
    refine lv_goto (tgt := 82) hx hb d_Cv_comesBack_78 (by decide) ?_
    exact w_Cv_comesBack_82 C0 a1 a2 a3 uu  x0 x2 x4 (1 : Int32) k0 h hP hD hS (lv_sub hl [0, 1, 2] rfl)
def P_Cv_comesBack_52   (x0 : Int64) (x2 : Int64) (x4 : Int64) (k0 : Int32) : Option (Int32) :=
  if k0 = 0 then (some (0 : Int32)) else (if (lg_cmp x4 (0 : Int64)) ≤ 0 then (P_Cv_comesBack_71 x0 x2 x4 (0 : Int32)) else (P_Cv_comesBack_71 x0 x2 x4 (1 : Int32)))
set_option maxHeartbeats 4000000 in
set_option maxRecDepth 100000 in
theorem w_Cv_comesBack_52 (C0 : Cx p s m args meth c A dC dI cy b_Cv_comesBack 7 (some .boolean) "GlyphPage$Curves") (a1 : Int64) (a2 : Int64) (a3 : Int64) (uu : Int32)  (x0 : Int64) (x2 : Int64) (x4 : Int64) (k0 : Int32) {H : Heap} {locs : List Loc} {ls : Array Slot} (h : P_Cv_comesBack_52 x0 x2 x4 k0 = some uu) : va_P (dC, dI) classes [] H → va_D A [] → va_S A s.heap H locs → lv_has ls 7 [(0, .long x0), (2, .long x2), (4, .long x4)] → W p l e ({ frames := 0, cells := 0, slots := 0, locals := 0 } : Room) s m args below meth c H locs 0 0 (MQ below (va_Qi (fun r (_ : Unit) => r = uu) (fun _ t => va_P (dC, dI) classes [] t.heap ∧ va_K (dC, dI) classes (TY cy) t ∧ va_D A []) A) args s 0 0 A) (F0 m 52 ls [.int k0]) := by
  intro hP hD hS hl
  obtain ⟨hx, hb, hr, hlocks, hml, hown, htsG, hA, hK⟩ := id C0
  unfold P_Cv_comesBack_52 at h
  refine lv_istore (lv' := [(6, .int k0), (0, .long x0), (2, .long x2), (4, .long x4)]) hx hb d_Cv_comesBack_52 hl (by decide) rfl (fun ls hl => ?_)
  refine lv_iload hx hb d_Cv_comesBack_54 (lv_at hl 0 rfl) ?_
  refine lv_if_eq (tgt := 104) hx hb d_Cv_comesBack_56 (by decide) (fun c_1 => ?_) (fun c_1 => ?_)
  · replace h := (if_pos c_1).symm.trans h
    refine lv_iconst (v := (0 : Int32)) hx hb d_Cv_comesBack_104 (by decide) ?_
    cases h
    exact W.zret (ty := .boolean) hx hb hr rfl (fun t ht hW => ⟨⟨_, (), rfl, rfl, by rw [ht]; exact hP, va_K.moved hW.alike hK, hD⟩, hS.F ht⟩) hS.2.2 d_Cv_comesBack_105 hlocks
  · replace h := (if_neg c_1).symm.trans h
    refine lv_lload hx hb d_Cv_comesBack_59 (lv_at hl 3 rfl) ?_
    refine lv_lconst (v := (0 : Int64)) hx hb d_Cv_comesBack_61 (by decide) ?_
    refine W.lcmp hx hb d_Cv_comesBack_62 ?_
    refine lv_if_le (tgt := 70) hx hb d_Cv_comesBack_63 (by decide) (fun c_2 => ?_) (fun c_2 => ?_)
    · replace h := (if_pos c_2).symm.trans h
      refine lv_iconst (v := (0 : Int32)) hx hb d_Cv_comesBack_70 (by decide) ?_
      exact w_Cv_comesBack_71 C0 a1 a2 a3 uu  x0 x2 x4 (0 : Int32) h hP hD hS (lv_sub hl [1, 2, 3] rfl)
    · replace h := (if_neg c_2).symm.trans h
      refine lv_iconst (v := (1 : Int32)) hx hb d_Cv_comesBack_66 (by decide) ?_
      refine lv_goto (tgt := 71) hx hb d_Cv_comesBack_67 (by decide) ?_
      exact w_Cv_comesBack_71 C0 a1 a2 a3 uu  x0 x2 x4 (1 : Int32) h hP hD hS (lv_sub hl [1, 2, 3] rfl)
def P_Cv_comesBack_51   (x0 : Int64) (x2 : Int64) (x4 : Int64) : Option (Int32) :=
  P_Cv_comesBack_52 x0 x2 x4 (0 : Int32)
set_option maxHeartbeats 4000000 in
set_option maxRecDepth 100000 in
theorem w_Cv_comesBack_51 (C0 : Cx p s m args meth c A dC dI cy b_Cv_comesBack 7 (some .boolean) "GlyphPage$Curves") (a1 : Int64) (a2 : Int64) (a3 : Int64) (uu : Int32)  (x0 : Int64) (x2 : Int64) (x4 : Int64) {H : Heap} {locs : List Loc} {ls : Array Slot} (h : P_Cv_comesBack_51 x0 x2 x4 = some uu) : va_P (dC, dI) classes [] H → va_D A [] → va_S A s.heap H locs → lv_has ls 7 [(0, .long x0), (2, .long x2), (4, .long x4)] → W p l e ({ frames := 0, cells := 0, slots := 0, locals := 0 } : Room) s m args below meth c H locs 0 0 (MQ below (va_Qi (fun r (_ : Unit) => r = uu) (fun _ t => va_P (dC, dI) classes [] t.heap ∧ va_K (dC, dI) classes (TY cy) t ∧ va_D A []) A) args s 0 0 A) (F0 m 51 ls []) := by
  intro hP hD hS hl
  obtain ⟨hx, hb, hr, hlocks, hml, hown, htsG, hA, hK⟩ := id C0
  unfold P_Cv_comesBack_51 at h
  refine lv_iconst (v := (0 : Int32)) hx hb d_Cv_comesBack_51 (by decide) ?_
  exact w_Cv_comesBack_52 C0 a1 a2 a3 uu  x0 x2 x4 (0 : Int32) h hP hD hS (lv_sub hl [0, 1, 2] rfl)
def P_Cv_comesBack_27   (x0 : Int64) (x2 : Int64) (x4 : Int64) : Option (Int32) :=
  P_Cv_comesBack_52 x0 x2 x4 (0 : Int32)
set_option maxHeartbeats 4000000 in
set_option maxRecDepth 100000 in
theorem w_Cv_comesBack_27 (C0 : Cx p s m args meth c A dC dI cy b_Cv_comesBack 7 (some .boolean) "GlyphPage$Curves") (a1 : Int64) (a2 : Int64) (a3 : Int64) (uu : Int32)  (x0 : Int64) (x2 : Int64) (x4 : Int64) {H : Heap} {locs : List Loc} {ls : Array Slot} (h : P_Cv_comesBack_27 x0 x2 x4 = some uu) : va_P (dC, dI) classes [] H → va_D A [] → va_S A s.heap H locs → lv_has ls 7 [(0, .long x0), (2, .long x2), (4, .long x4)] → W p l e ({ frames := 0, cells := 0, slots := 0, locals := 0 } : Room) s m args below meth c H locs 0 0 (MQ below (va_Qi (fun r (_ : Unit) => r = uu) (fun _ t => va_P (dC, dI) classes [] t.heap ∧ va_K (dC, dI) classes (TY cy) t ∧ va_D A []) A) args s 0 0 A) (F0 m 27 ls []) := by
  intro hP hD hS hl
  obtain ⟨hx, hb, hr, hlocks, hml, hown, htsG, hA, hK⟩ := id C0
  unfold P_Cv_comesBack_27 at h
  refine lv_iconst (v := (0 : Int32)) hx hb d_Cv_comesBack_27 (by decide) ?_
  refine lv_goto (tgt := 52) hx hb d_Cv_comesBack_28 (by decide) ?_
  exact w_Cv_comesBack_52 C0 a1 a2 a3 uu  x0 x2 x4 (0 : Int32) h hP hD hS (lv_sub hl [0, 1, 2] rfl)
def P_Cv_comesBack  (a1 : Int64) (a2 : Int64) (a3 : Int64) : Option (Int32) :=
  if (lg_cmp a1 (0 : Int64)) ≤ 0 then (if (lg_cmp a2 (0 : Int64)) ≤ 0 then (P_Cv_comesBack_51 a1 a2 a3) else (if 0 ≤ (lg_cmp a2 ((-2 : Int64) * a1)) then (P_Cv_comesBack_51 a1 a2 a3) else (P_Cv_comesBack_52 a1 a2 a3 (1 : Int32)))) else (if 0 ≤ (lg_cmp a2 (0 : Int64)) then (P_Cv_comesBack_27 a1 a2 a3) else (if 0 ≤ (lg_cmp (-a2) ((2 : Int64) * a1)) then (P_Cv_comesBack_27 a1 a2 a3) else (P_Cv_comesBack_52 a1 a2 a3 (1 : Int32))))
set_option maxHeartbeats 4000000 in
set_option maxRecDepth 100000 in
theorem c_Cv_comesBack (l : Launch) (dC : Nat → ClassId) (dI : Nat → Nat → Nat) (cy : Nat → ClassId) (sz : Nat)   (a1 : Int64) (a2 : Int64) (a3 : Int64) (uu : Int32) (h : P_Cv_comesBack a1 a2 a3 = some uu) : Met l y_Cv_comesBack (Cond.code y_Cv_comesBack b_Cv_comesBack 7 (some .boolean) :: G) ({ frames := 0, cells := 0, slots := 0, locals := 0 } : Room) (va_Pc [.long a1, .long a2, .long a3] (fun U => U.heap.size = sz ∧ va_P (dC, dI) classes [] U.heap ∧ va_K (dC, dI) classes (TY cy) U ∧ va_D (fun _ => True) [])) (va_Qi (fun r (_ : Unit) => r = uu) (fun _ t => va_P (dC, dI) classes [] t.heap ∧ va_K (dC, dI) classes (TY cy) t ∧ va_D (va_A [] sz) []) (va_A [] sz)) 0 0 (va_A [] sz) := by
  refine Met.ofW (cc := b_Cv_comesBack) (maxL := 7) (ret := (some .boolean)) (by decide) rfl ?_
  intro p e s m args below meth c s₁ B hml hv
  obtain ⟨rfl, hsz, hP, hK, hD0⟩ := hv
  have hx := B.exec
  have hb := B.bytes
  have hr := B.returns
  have hts := atoms_spec (ws := Cond.code y_Cv_comesBack b_Cv_comesBack 7 (some .boolean) :: G) B.pre
  have htsG : ∀ w ∈ G, w.before _ s = true := fun w hw => hts w (List.mem_cons_of_mem _ hw)
  have hown : s.vm.findClass "GlyphPage$Curves" = some m.cls := findClass_of_methodNamed B.named
  have hlocks := B.notSynchronized
  subst hsz
  have hD := hD0.self (sz := s.heap.size)
  generalize hAe : va_A [] s.heap.size = A at hD ⊢
  have hA : ∀ q : Nat, s.heap.size ≤ q → A q := fun q h => by rw [← hAe]; exact Or.inr h
  have hS : va_S A s.heap s.heap [] := va_S.rf
  have hl := lv_entry ([.long a1, .long a2, .long a3]) (n := 7) (Nat.le_of_ble_eq_true rfl)
  rw [lg_entry_eq]
  generalize (lg_sl ([.long a1, .long a2, .long a3]) ++ List.replicate (7 - (lg_sl ([.long a1, .long a2, .long a3])).length) Slot.unset).toArray = ls at hl ⊢
  have hl : lv_has ls 7 [(0, .long a1), (2, .long a2), (4, .long a3)] := hl
  have C0 : Cx p s m _ meth c A dC dI cy b_Cv_comesBack 7 (some .boolean) "GlyphPage$Curves" := ⟨hx, hb, hr, hlocks, hml, hown, htsG, hA, hK⟩
  unfold P_Cv_comesBack at h
  refine lv_lload_n hx hb d_Cv_comesBack_0 rfl (lv_at hl 0 rfl) ?_
  refine lv_lconst (v := (0 : Int64)) hx hb d_Cv_comesBack_1 (by decide) ?_
  refine W.lcmp hx hb d_Cv_comesBack_2 ?_
  refine lv_if_le (tgt := 31) hx hb d_Cv_comesBack_3 (by decide) (fun c_1 => ?_) (fun c_1 => ?_)
  · replace h := (if_pos c_1).symm.trans h
    refine lv_lload_n hx hb d_Cv_comesBack_31 rfl (lv_at hl 1 rfl) ?_
    refine lv_lconst (v := (0 : Int64)) hx hb d_Cv_comesBack_32 (by decide) ?_
    refine W.lcmp hx hb d_Cv_comesBack_33 ?_
    refine lv_if_le (tgt := 51) hx hb d_Cv_comesBack_34 (by decide) (fun c_2 => ?_) (fun c_2 => ?_)
    · replace h := (if_pos c_2).symm.trans h
      exact w_Cv_comesBack_51 C0 a1 a2 a3 uu  a1 a2 a3 h hP hD hS (lv_sub hl [0, 1, 2] rfl)
    · replace h := (if_neg c_2).symm.trans h
      refine lv_lload_n hx hb d_Cv_comesBack_37 rfl (lv_at hl 1 rfl) ?_
      refine lv_ldc2 hx hb hown (htsG _ mW619) d_Cv_comesBack_38 ?_
      refine lv_lload_n hx hb d_Cv_comesBack_41 rfl (lv_at hl 0 rfl) ?_
      refine lv_lmul hx hb d_Cv_comesBack_42 ?_
      refine W.lcmp hx hb d_Cv_comesBack_43 ?_
      refine lv_if_ge (tgt := 51) hx hb d_Cv_comesBack_44 (by decide) (fun c_3 => ?_) (fun c_3 => ?_)
      · replace h := (if_pos c_3).symm.trans h
        exact w_Cv_comesBack_51 C0 a1 a2 a3 uu  a1 a2 a3 h hP hD hS (lv_sub hl [0, 1, 2] rfl)
      · replace h := (if_neg c_3).symm.trans h
        refine lv_iconst (v := (1 : Int32)) hx hb d_Cv_comesBack_47 (by decide) ?_
        refine lv_goto (tgt := 52) hx hb d_Cv_comesBack_48 (by decide) ?_
        exact w_Cv_comesBack_52 C0 a1 a2 a3 uu  a1 a2 a3 (1 : Int32) h hP hD hS (lv_sub hl [0, 1, 2] rfl)
  · replace h := (if_neg c_1).symm.trans h
    refine lv_lload_n hx hb d_Cv_comesBack_6 rfl (lv_at hl 1 rfl) ?_
    refine lv_lconst (v := (0 : Int64)) hx hb d_Cv_comesBack_7 (by decide) ?_
    refine W.lcmp hx hb d_Cv_comesBack_8 ?_
    refine lv_if_ge (tgt := 27) hx hb d_Cv_comesBack_9 (by decide) (fun c_4 => ?_) (fun c_4 => ?_)
    · replace h := (if_pos c_4).symm.trans h
      exact w_Cv_comesBack_27 C0 a1 a2 a3 uu  a1 a2 a3 h hP hD hS (lv_sub hl [0, 1, 2] rfl)
    · replace h := (if_neg c_4).symm.trans h
      refine lv_lload_n hx hb d_Cv_comesBack_12 rfl (lv_at hl 1 rfl) ?_
      refine lv_lneg hx hb d_Cv_comesBack_13 ?_
      refine lv_ldc2 hx hb hown (htsG _ mW618) d_Cv_comesBack_14 ?_
      refine lv_lload_n hx hb d_Cv_comesBack_17 rfl (lv_at hl 0 rfl) ?_
      refine lv_lmul hx hb d_Cv_comesBack_18 ?_
      refine W.lcmp hx hb d_Cv_comesBack_19 ?_
      refine lv_if_ge (tgt := 27) hx hb d_Cv_comesBack_20 (by decide) (fun c_5 => ?_) (fun c_5 => ?_)
      · replace h := (if_pos c_5).symm.trans h
        exact w_Cv_comesBack_27 C0 a1 a2 a3 uu  a1 a2 a3 h hP hD hS (lv_sub hl [0, 1, 2] rfl)
      · replace h := (if_neg c_5).symm.trans h
        refine lv_iconst (v := (1 : Int32)) hx hb d_Cv_comesBack_23 (by decide) ?_
        refine lv_goto (tgt := 52) hx hb d_Cv_comesBack_24 (by decide) ?_
        exact w_Cv_comesBack_52 C0 a1 a2 a3 uu  a1 a2 a3 (1 : Int32) h hP hD hS (lv_sub hl [0, 1, 2] rfl)
def P_Cv_squareLess  (a1 : Int64) (a2 : Int64) (a3 : Int64) : Option (Int32) :=
  (P_Jl_signum a2).bind fun r_1 => (P_Jl_signum a3).bind fun r_2 => if 0 < (r_1 * r_2) then ((P_Jm_abs_JJ a1).bind fun r_4 => (P_Jm_abs_JJ a2).bind fun r_5 => (P_Jm_abs_JJ a3).bind fun r_6 => (P_Jl_compare (((r_4 >>> ((20 : Int32).toInt64 &&& 63)) * r_4) + (((r_4 &&& (1048575 : Int64)) * r_4) >>> ((20 : Int32).toInt64 &&& 63))) (((r_5 >>> ((20 : Int32).toInt64 &&& 63)) * r_6) + (((r_5 &&& (1048575 : Int64)) * r_6) >>> ((20 : Int32).toInt64 &&& 63)))).bind fun r_7 => if r_7 = 0 then ((P_Jl_compare (((r_4 &&& (1048575 : Int64)) * r_4) &&& (1048575 : Int64)) (((r_5 &&& (1048575 : Int64)) * r_6) &&& (1048575 : Int64))).bind fun r_9 => some r_9) else (some r_7)) else (if (lg_cmp a1 (0 : Int64)) = 0 then (if (lg_cmp a2 (0 : Int64)) = 0 then (some (0 : Int32)) else (if (lg_cmp a3 (0 : Int64)) = 0 then (some (0 : Int32)) else (some (1 : Int32)))) else (some (1 : Int32)))
set_option maxHeartbeats 4000000 in
set_option maxRecDepth 100000 in
theorem c_Cv_squareLess (l : Launch) (dC : Nat → ClassId) (dI : Nat → Nat → Nat) (cy : Nat → ClassId) (sz : Nat)   (a1 : Int64) (a2 : Int64) (a3 : Int64) (uu : Int32) (h : P_Cv_squareLess a1 a2 a3 = some uu) : Met l y_Cv_squareLess (Cond.code y_Cv_squareLess b_Cv_squareLess 19 (some .int) :: G) ({ frames := 1, cells := 0, slots := 0, locals := 23 } : Room) (va_Pc [.long a1, .long a2, .long a3] (fun U => U.heap.size = sz ∧ va_P (dC, dI) classes [] U.heap ∧ va_K (dC, dI) classes (TY cy) U ∧ va_D (fun _ => True) [])) (va_Qi (fun r (_ : Unit) => r = uu) (fun _ t => va_P (dC, dI) classes [] t.heap ∧ va_K (dC, dI) classes (TY cy) t ∧ va_D (va_A [] sz) []) (va_A [] sz)) 0 0 (va_A [] sz) := by
  refine Met.ofW (cc := b_Cv_squareLess) (maxL := 19) (ret := (some .int)) (by decide) rfl ?_
  intro p e s m args below meth c s₁ B hml hv
  obtain ⟨rfl, hsz, hP, hK, hD0⟩ := hv
  have hx := B.exec
  have hb := B.bytes
  have hr := B.returns
  have hts := atoms_spec (ws := Cond.code y_Cv_squareLess b_Cv_squareLess 19 (some .int) :: G) B.pre
  have htsG : ∀ w ∈ G, w.before _ s = true := fun w hw => hts w (List.mem_cons_of_mem _ hw)
  have hown : s.vm.findClass "GlyphPage$Curves" = some m.cls := findClass_of_methodNamed B.named
  have hlocks := B.notSynchronized
  subst hsz
  have hD := hD0.self (sz := s.heap.size)
  generalize hAe : va_A [] s.heap.size = A at hD ⊢
  have hA : ∀ q : Nat, s.heap.size ≤ q → A q := fun q h => by rw [← hAe]; exact Or.inr h
  have hS : va_S A s.heap s.heap [] := va_S.rf
  have hl := lv_entry ([.long a1, .long a2, .long a3]) (n := 19) (Nat.le_of_ble_eq_true rfl)
  rw [lg_entry_eq]
  generalize (lg_sl ([.long a1, .long a2, .long a3]) ++ List.replicate (19 - (lg_sl ([.long a1, .long a2, .long a3])).length) Slot.unset).toArray = ls at hl ⊢
  have hl : lv_has ls 19 [(0, .long a1), (2, .long a2), (4, .long a3)] := hl
  have C0 : Cx p s m _ meth c A dC dI cy b_Cv_squareLess 19 (some .int) "GlyphPage$Curves" := ⟨hx, hb, hr, hlocks, hml, hown, htsG, hA, hK⟩
  unfold P_Cv_squareLess at h
  refine lv_lload_n hx hb d_Cv_squareLess_0 rfl (lv_at hl 1 rfl) ?_
  obtain ⟨r_1, hq, h⟩ := Option.bind_eq_some_iff.mp h
  try dsimp only at h
  have hPc := hP.sub (ws' := []) [] rfl
  have hDc := hD.sub (ws' := []) [] (by decide) rfl
  have hFc := va_free (wc := []) hD hS hA [] rfl
  refine va_calli (va_runS (As := [.long a2]) (rest := []) ⟨hx, hb, hml, hown, htsG⟩ (c_Jl_signum l dC dI cy s.heap.size a2 r_1 hq) (va_cwS 1 htsG (gS mW629 mW630 mW13 mW631) rfl rfl rfl (by decide +kernel) ⟨Nat.le_of_ble_eq_true rfl, Nat.le_of_ble_eq_true rfl⟩) ⟨fun a U g mk q => by obtain ⟨q0, q1, qP, qK, qD⟩ := q; exact ⟨q0, q1, qP, va_K.moved (u := U) (U := U.calling g mk a) (Vm.Alike.refl U.vm) qK, qD⟩, fun U hU hW => ⟨rfl, by rw [hU], by rw [hU]; exact hPc, va_K.moved hW.alike hK, hDc.weaken (fun _ _ _ _ => trivial)⟩⟩ rfl rfl hl.1 rfl (lv_room (Nat.le_of_ble_eq_true rfl)) d_Cv_squareLess_1 ⟨Nat.le_of_ble_eq_true rfl, Nat.le_of_ble_eq_true rfl⟩) hS (fun q _ h => hFc q h) hFc (fun rr u t H1 locs ht hvm hw hB hz1 hk1 hS => ?_)
  obtain ⟨hP1, hK1, hD1⟩ := hB
  rw [ht] at hP1
  replace hw : r_1 = rr := hw.symm
  subst hw
  obtain ⟨hP, hD⟩ := va_join (wr := []) (w1 := []) hP hD [] [] rfl rfl (by decide) (by decide) hk1 hFc hP1 hD1
  generalize H1 = H at hP hS ⊢
  have hP := hP.sub (ws' := []) [] rfl
  have hD := hD.sub (ws' := []) [] (by decide) rfl
  refine W.widen (k := 0) (n := 0) (by decide) (by decide) ?_
  refine lv_lload hx hb d_Cv_squareLess_4 (lv_at hl 2 rfl) ?_
  obtain ⟨r_2, hq, h⟩ := Option.bind_eq_some_iff.mp h
  try dsimp only at h
  have hPc := hP.sub (ws' := []) [] rfl
  have hDc := hD.sub (ws' := []) [] (by decide) rfl
  have hFc := va_free (wc := []) hD hS hA [] rfl
  refine va_calli (va_runS (As := [.long a3]) (rest := [.int r_1]) ⟨hx, hb, hml, hown, htsG⟩ (c_Jl_signum l dC dI cy H.size a3 r_2 hq) (va_cwS 1 htsG (gS mW629 mW630 mW13 mW631) rfl rfl rfl (by decide +kernel) ⟨Nat.le_of_ble_eq_true rfl, Nat.le_of_ble_eq_true rfl⟩) ⟨fun a U g mk q => by obtain ⟨q0, q1, qP, qK, qD⟩ := q; exact ⟨q0, q1, qP, va_K.moved (u := U) (U := U.calling g mk a) (Vm.Alike.refl U.vm) qK, qD⟩, fun U hU hW => ⟨rfl, by rw [hU], by rw [hU]; exact hPc, va_K.moved hW.alike hK, hDc.weaken (fun _ _ _ _ => trivial)⟩⟩ rfl rfl hl.1 rfl (lv_room (Nat.le_of_ble_eq_true rfl)) d_Cv_squareLess_6 ⟨Nat.le_of_ble_eq_true rfl, Nat.le_of_ble_eq_true rfl⟩) hS (fun q _ h => hFc q h) hFc (fun rr u t H1 locs ht hvm hw hB hz1 hk1 hS => ?_)
  obtain ⟨hP1, hK1, hD1⟩ := hB
  rw [ht] at hP1
  replace hw : r_2 = rr := hw.symm
  subst hw
  obtain ⟨hP, hD⟩ := va_join (wr := []) (w1 := []) hP hD [] [] rfl rfl (by decide) (by decide) hk1 hFc hP1 hD1
  generalize H1 = H at hP hS ⊢
  have hP := hP.sub (ws' := []) [] rfl
  have hD := hD.sub (ws' := []) [] (by decide) rfl
  refine W.widen (k := 0) (n := 0) (by decide) (by decide) ?_
  refine lv_imul hx hb d_Cv_squareLess_9 ?_
  refine lv_if_gt (tgt := 38) hx hb d_Cv_squareLess_10 (by decide) (fun c_3 => ?_) (fun c_3 => ?_)
  · replace h := (if_pos c_3).symm.trans h
    refine lv_ldc2 hx hb hown (htsG _ mW635) d_Cv_squareLess_38 ?_
    refine lv_lstore (lv' := [(6, .long (1048575 : Int64)), (0, .long a1), (2, .long a2), (4, .long a3)]) hx hb d_Cv_squareLess_41 hl (by decide) rfl (fun ls hl => ?_)
    refine lv_lload_n hx hb d_Cv_squareLess_43 rfl (lv_at hl 1 rfl) ?_
    obtain ⟨r_4, hq, h⟩ := Option.bind_eq_some_iff.mp h
    try dsimp only at h
    have hPc := hP.sub (ws' := []) [] rfl
    have hDc := hD.sub (ws' := []) [] (by decide) rfl
    have hFc := va_free (wc := []) hD hS hA [] rfl
    refine va_calll (va_runS (As := [.long a1]) (rest := []) ⟨hx, hb, hml, hown, htsG⟩ (c_Jm_abs_JJ l dC dI cy H.size a1 r_4 hq) (va_cwS 1 htsG (gS mW636 mW637 mW8 mW638) rfl rfl rfl (by decide +kernel) ⟨Nat.le_of_ble_eq_true rfl, Nat.le_of_ble_eq_true rfl⟩) ⟨fun a U g mk q => by obtain ⟨q0, q1, qP, qK, qD⟩ := q; exact ⟨q0, q1, qP, va_K.moved (u := U) (U := U.calling g mk a) (Vm.Alike.refl U.vm) qK, qD⟩, fun U hU hW => ⟨rfl, by rw [hU], by rw [hU]; exact hPc, va_K.moved hW.alike hK, hDc.weaken (fun _ _ _ _ => trivial)⟩⟩ rfl rfl hl.1 rfl (lv_room (Nat.le_of_ble_eq_true rfl)) d_Cv_squareLess_44 ⟨Nat.le_of_ble_eq_true rfl, Nat.le_of_ble_eq_true rfl⟩) hS (fun q _ h => hFc q h) hFc (fun rr u t H1 locs ht hvm hw hB hz1 hk1 hS => ?_)
    obtain ⟨hP1, hK1, hD1⟩ := hB
    rw [ht] at hP1
    replace hw : r_4 = rr := hw.symm
    subst hw
    obtain ⟨hP, hD⟩ := va_join (wr := []) (w1 := []) hP hD [] [] rfl rfl (by decide) (by decide) hk1 hFc hP1 hD1
    generalize H1 = H at hP hS ⊢
    have hP := hP.sub (ws' := []) [] rfl
    have hD := hD.sub (ws' := []) [] (by decide) rfl
    refine W.widen (k := 0) (n := 0) (by decide) (by decide) ?_
    refine lv_lstore (lv' := [(8, .long r_4), (6, .long (1048575 : Int64)), (0, .long a1), (2, .long a2), (4, .long a3)]) hx hb d_Cv_squareLess_47 hl (by decide) rfl (fun ls hl => ?_)
    refine lv_lload_n hx hb d_Cv_squareLess_49 rfl (lv_at hl 3 rfl) ?_
    obtain ⟨r_5, hq, h⟩ := Option.bind_eq_some_iff.mp h
    try dsimp only at h
    have hPc := hP.sub (ws' := []) [] rfl
    have hDc := hD.sub (ws' := []) [] (by decide) rfl
    have hFc := va_free (wc := []) hD hS hA [] rfl
    refine va_calll (va_runS (As := [.long a2]) (rest := []) ⟨hx, hb, hml, hown, htsG⟩ (c_Jm_abs_JJ l dC dI cy H.size a2 r_5 hq) (va_cwS 1 htsG (gS mW636 mW637 mW8 mW638) rfl rfl rfl (by decide +kernel) ⟨Nat.le_of_ble_eq_true rfl, Nat.le_of_ble_eq_true rfl⟩) ⟨fun a U g mk q => by obtain ⟨q0, q1, qP, qK, qD⟩ := q; exact ⟨q0, q1, qP, va_K.moved (u := U) (U := U.calling g mk a) (Vm.Alike.refl U.vm) qK, qD⟩, fun U hU hW => ⟨rfl, by rw [hU], by rw [hU]; exact hPc, va_K.moved hW.alike hK, hDc.weaken (fun _ _ _ _ => trivial)⟩⟩ rfl rfl hl.1 rfl (lv_room (Nat.le_of_ble_eq_true rfl)) d_Cv_squareLess_50 ⟨Nat.le_of_ble_eq_true rfl, Nat.le_of_ble_eq_true rfl⟩) hS (fun q _ h => hFc q h) hFc (fun rr u t H1 locs ht hvm hw hB hz1 hk1 hS => ?_)
    obtain ⟨hP1, hK1, hD1⟩ := hB
    rw [ht] at hP1
    replace hw : r_5 = rr := hw.symm
    subst hw
    obtain ⟨hP, hD⟩ := va_join (wr := []) (w1 := []) hP hD [] [] rfl rfl (by decide) (by decide) hk1 hFc hP1 hD1
    generalize H1 = H at hP hS ⊢
    have hP := hP.sub (ws' := []) [] rfl
    have hD := hD.sub (ws' := []) [] (by decide) rfl
    refine W.widen (k := 0) (n := 0) (by decide) (by decide) ?_
    refine lv_lstore (lv' := [(10, .long r_5), (8, .long r_4), (6, .long (1048575 : Int64)), (0, .long a1), (2, .long a2), (4, .long a3)]) hx hb d_Cv_squareLess_53 hl (by decide) rfl (fun ls hl => ?_)
    refine lv_lload hx hb d_Cv_squareLess_55 (lv_at hl 5 rfl) ?_
    obtain ⟨r_6, hq, h⟩ := Option.bind_eq_some_iff.mp h
    try dsimp only at h
    have hPc := hP.sub (ws' := []) [] rfl
    have hDc := hD.sub (ws' := []) [] (by decide) rfl
    have hFc := va_free (wc := []) hD hS hA [] rfl
    refine va_calll (va_runS (As := [.long a3]) (rest := []) ⟨hx, hb, hml, hown, htsG⟩ (c_Jm_abs_JJ l dC dI cy H.size a3 r_6 hq) (va_cwS 1 htsG (gS mW636 mW637 mW8 mW638) rfl rfl rfl (by decide +kernel) ⟨Nat.le_of_ble_eq_true rfl, Nat.le_of_ble_eq_true rfl⟩) ⟨fun a U g mk q => by obtain ⟨q0, q1, qP, qK, qD⟩ := q; exact ⟨q0, q1, qP, va_K.moved (u := U) (U := U.calling g mk a) (Vm.Alike.refl U.vm) qK, qD⟩, fun U hU hW => ⟨rfl, by rw [hU], by rw [hU]; exact hPc, va_K.moved hW.alike hK, hDc.weaken (fun _ _ _ _ => trivial)⟩⟩ rfl rfl hl.1 rfl (lv_room (Nat.le_of_ble_eq_true rfl)) d_Cv_squareLess_57 ⟨Nat.le_of_ble_eq_true rfl, Nat.le_of_ble_eq_true rfl⟩) hS (fun q _ h => hFc q h) hFc (fun rr u t H1 locs ht hvm hw hB hz1 hk1 hS => ?_)
    obtain ⟨hP1, hK1, hD1⟩ := hB
    rw [ht] at hP1
    replace hw : r_6 = rr := hw.symm
    subst hw
    obtain ⟨hP, hD⟩ := va_join (wr := []) (w1 := []) hP hD [] [] rfl rfl (by decide) (by decide) hk1 hFc hP1 hD1
    generalize H1 = H at hP hS ⊢
    have hP := hP.sub (ws' := []) [] rfl
    have hD := hD.sub (ws' := []) [] (by decide) rfl
    refine W.widen (k := 0) (n := 0) (by decide) (by decide) ?_
    refine lv_lstore (lv' := [(12, .long r_6), (10, .long r_5), (8, .long r_4), (6, .long (1048575 : Int64)), (0, .long a1), (2, .long a2), (4, .long a3)]) hx hb d_Cv_squareLess_60 hl (by decide) rfl (fun ls hl => ?_)
    refine lv_lload hx hb d_Cv_squareLess_62 (lv_at hl 2 rfl) ?_
    refine lv_lload hx hb d_Cv_squareLess_64 (lv_at hl 3 rfl) ?_
    refine lv_land hx hb d_Cv_squareLess_66 ?_
    refine lv_lload hx hb d_Cv_squareLess_67 (lv_at hl 2 rfl) ?_
    refine lv_lmul hx hb d_Cv_squareLess_69 ?_
    refine lv_lstore (lv' := [(14, .long ((r_4 &&& (1048575 : Int64)) * r_4)), (12, .long r_6), (10, .long r_5), (8, .long r_4), (6, .long (1048575 : Int64)), (0, .long a1), (2, .long a2), (4, .long a3)]) hx hb d_Cv_squareLess_70 hl (by decide) rfl (fun ls hl => ?_)
    refine lv_lload hx hb d_Cv_squareLess_72 (lv_at hl 2 rfl) ?_
    refine lv_lload hx hb d_Cv_squareLess_74 (lv_at hl 4 rfl) ?_
    refine lv_land hx hb d_Cv_squareLess_76 ?_
    refine lv_lload hx hb d_Cv_squareLess_77 (lv_at hl 1 rfl) ?_
    refine lv_lmul hx hb d_Cv_squareLess_79 ?_
    refine lv_lstore (lv' := [(16, .long ((r_5 &&& (1048575 : Int64)) * r_6)), (14, .long ((r_4 &&& (1048575 : Int64)) * r_4)), (12, .long r_6), (10, .long r_5), (8, .long r_4), (6, .long (1048575 : Int64)), (0, .long a1), (2, .long a2), (4, .long a3)]) hx hb d_Cv_squareLess_80 hl (by decide) rfl (fun ls hl => ?_)
    refine lv_lload hx hb d_Cv_squareLess_82 (lv_at hl 4 rfl) ?_
    refine lv_bipush (v := (20 : Int32)) hx hb d_Cv_squareLess_84 (by decide) ?_
    refine lv_lshr hx hb d_Cv_squareLess_86 rfl ?_
    refine lv_lload hx hb d_Cv_squareLess_87 (lv_at hl 4 rfl) ?_
    refine lv_lmul hx hb d_Cv_squareLess_89 ?_
    refine lv_lload hx hb d_Cv_squareLess_90 (lv_at hl 1 rfl) ?_
    refine lv_bipush (v := (20 : Int32)) hx hb d_Cv_squareLess_92 (by decide) ?_
    refine lv_lshr hx hb d_Cv_squareLess_94 rfl ?_
    refine lv_ladd hx hb d_Cv_squareLess_95 ?_
    refine lv_lload hx hb d_Cv_squareLess_96 (lv_at hl 3 rfl) ?_
    refine lv_bipush (v := (20 : Int32)) hx hb d_Cv_squareLess_98 (by decide) ?_
    refine lv_lshr hx hb d_Cv_squareLess_100 rfl ?_
    refine lv_lload hx hb d_Cv_squareLess_101 (lv_at hl 2 rfl) ?_
    refine lv_lmul hx hb d_Cv_squareLess_103 ?_
    refine lv_lload hx hb d_Cv_squareLess_104 (lv_at hl 0 rfl) ?_
    refine lv_bipush (v := (20 : Int32)) hx hb d_Cv_squareLess_106 (by decide) ?_
    refine lv_lshr hx hb d_Cv_squareLess_108 rfl ?_
    refine lv_ladd hx hb d_Cv_squareLess_109 ?_
    obtain ⟨r_7, hq, h⟩ := Option.bind_eq_some_iff.mp h
    try dsimp only at h
    have hPc := hP.sub (ws' := []) [] rfl
    have hDc := hD.sub (ws' := []) [] (by decide) rfl
    have hFc := va_free (wc := []) hD hS hA [] rfl
    refine va_calli (va_runS (As := [.long (((r_4 >>> ((20 : Int32).toInt64 &&& 63)) * r_4) + (((r_4 &&& (1048575 : Int64)) * r_4) >>> ((20 : Int32).toInt64 &&& 63))), .long (((r_5 >>> ((20 : Int32).toInt64 &&& 63)) * r_6) + (((r_5 &&& (1048575 : Int64)) * r_6) >>> ((20 : Int32).toInt64 &&& 63)))]) (rest := []) ⟨hx, hb, hml, hown, htsG⟩ (c_Jl_compare l dC dI cy H.size (((r_4 >>> ((20 : Int32).toInt64 &&& 63)) * r_4) + (((r_4 &&& (1048575 : Int64)) * r_4) >>> ((20 : Int32).toInt64 &&& 63))) (((r_5 >>> ((20 : Int32).toInt64 &&& 63)) * r_6) + (((r_5 &&& (1048575 : Int64)) * r_6) >>> ((20 : Int32).toInt64 &&& 63))) r_7 hq) (va_cwS 2 htsG (gS mW639 mW640 mW13 mW641) rfl rfl rfl (by decide +kernel) ⟨Nat.le_of_ble_eq_true rfl, Nat.le_of_ble_eq_true rfl⟩) ⟨fun a U g mk q => by obtain ⟨q0, q1, qP, qK, qD⟩ := q; exact ⟨q0, q1, qP, va_K.moved (u := U) (U := U.calling g mk a) (Vm.Alike.refl U.vm) qK, qD⟩, fun U hU hW => ⟨rfl, by rw [hU], by rw [hU]; exact hPc, va_K.moved hW.alike hK, hDc.weaken (fun _ _ _ _ => trivial)⟩⟩ rfl rfl hl.1 rfl (lv_room (Nat.le_of_ble_eq_true rfl)) d_Cv_squareLess_110 ⟨Nat.le_of_ble_eq_true rfl, Nat.le_of_ble_eq_true rfl⟩) hS (fun q _ h => hFc q h) hFc (fun rr u t H1 locs ht hvm hw hB hz1 hk1 hS => ?_)
    obtain ⟨hP1, hK1, hD1⟩ := hB
    rw [ht] at hP1
    replace hw : r_7 = rr := hw.symm
    subst hw
    obtain ⟨hP, hD⟩ := va_join (wr := []) (w1 := []) hP hD [] [] rfl rfl (by decide) (by decide) hk1 hFc hP1 hD1
    generalize H1 = H at hP hS ⊢
    have hP := hP.sub (ws' := []) [] rfl
    have hD := hD.sub (ws' := []) [] (by decide) rfl
    refine W.widen (k := 0) (n := 0) (by decide) (by decide) ?_
    refine lv_istore (lv' := [(18, .int r_7), (16, .long ((r_5 &&& (1048575 : Int64)) * r_6)), (14, .long ((r_4 &&& (1048575 : Int64)) * r_4)), (12, .long r_6), (10, .long r_5), (8, .long r_4), (6, .long (1048575 : Int64)), (0, .long a1), (2, .long a2), (4, .long a3)]) hx hb d_Cv_squareLess_113 hl (by decide) rfl (fun ls hl => ?_)
    refine lv_iload hx hb d_Cv_squareLess_115 (lv_at hl 0 rfl) ?_
    refine lv_if_eq (tgt := 125) hx hb d_Cv_squareLess_117 (by decide) (fun c_8 => ?_) (fun c_8 => ?_)
    · replace h := (if_pos c_8).symm.trans h
      refine lv_lload hx hb d_Cv_squareLess_125 (lv_at hl 2 rfl) ?_
      refine lv_lload hx hb d_Cv_squareLess_127 (lv_at hl 6 rfl) ?_
      refine lv_land hx hb d_Cv_squareLess_129 ?_
      refine lv_lload hx hb d_Cv_squareLess_130 (lv_at hl 1 rfl) ?_
      refine lv_lload hx hb d_Cv_squareLess_132 (lv_at hl 6 rfl) ?_
      refine lv_land hx hb d_Cv_squareLess_134 ?_
      obtain ⟨r_9, hq, h⟩ := Option.bind_eq_some_iff.mp h
      try dsimp only at h
      have hPc := hP.sub (ws' := []) [] rfl
      have hDc := hD.sub (ws' := []) [] (by decide) rfl
      have hFc := va_free (wc := []) hD hS hA [] rfl
      refine va_calli (va_runS (As := [.long (((r_4 &&& (1048575 : Int64)) * r_4) &&& (1048575 : Int64)), .long (((r_5 &&& (1048575 : Int64)) * r_6) &&& (1048575 : Int64))]) (rest := []) ⟨hx, hb, hml, hown, htsG⟩ (c_Jl_compare l dC dI cy H.size (((r_4 &&& (1048575 : Int64)) * r_4) &&& (1048575 : Int64)) (((r_5 &&& (1048575 : Int64)) * r_6) &&& (1048575 : Int64)) r_9 hq) (va_cwS 2 htsG (gS mW639 mW640 mW13 mW641) rfl rfl rfl (by decide +kernel) ⟨Nat.le_of_ble_eq_true rfl, Nat.le_of_ble_eq_true rfl⟩) ⟨fun a U g mk q => by obtain ⟨q0, q1, qP, qK, qD⟩ := q; exact ⟨q0, q1, qP, va_K.moved (u := U) (U := U.calling g mk a) (Vm.Alike.refl U.vm) qK, qD⟩, fun U hU hW => ⟨rfl, by rw [hU], by rw [hU]; exact hPc, va_K.moved hW.alike hK, hDc.weaken (fun _ _ _ _ => trivial)⟩⟩ rfl rfl hl.1 rfl (lv_room (Nat.le_of_ble_eq_true rfl)) d_Cv_squareLess_135 ⟨Nat.le_of_ble_eq_true rfl, Nat.le_of_ble_eq_true rfl⟩) hS (fun q _ h => hFc q h) hFc (fun rr u t H1 locs ht hvm hw hB hz1 hk1 hS => ?_)
      obtain ⟨hP1, hK1, hD1⟩ := hB
      rw [ht] at hP1
      replace hw : r_9 = rr := hw.symm
      subst hw
      obtain ⟨hP, hD⟩ := va_join (wr := []) (w1 := []) hP hD [] [] rfl rfl (by decide) (by decide) hk1 hFc hP1 hD1
      generalize H1 = H at hP hS ⊢
      have hP := hP.sub (ws' := []) [] rfl
      have hD := hD.sub (ws' := []) [] (by decide) rfl
      refine W.widen (k := 0) (n := 0) (by decide) (by decide) ?_
      cases h
      exact W.iret hx hb hr (fun t ht hW => ⟨⟨_, (), rfl, rfl, by rw [ht]; exact hP, va_K.moved hW.alike hK, hD⟩, hS.F ht⟩) hS.2.2 d_Cv_squareLess_138 hlocks
    · replace h := (if_neg c_8).symm.trans h
      refine lv_iload hx hb d_Cv_squareLess_120 (lv_at hl 0 rfl) ?_
      refine lv_goto (tgt := 138) hx hb d_Cv_squareLess_122 (by decide) ?_
      cases h
      exact W.iret hx hb hr (fun t ht hW => ⟨⟨_, (), rfl, rfl, by rw [ht]; exact hP, va_K.moved hW.alike hK, hD⟩, hS.F ht⟩) hS.2.2 d_Cv_squareLess_138 hlocks
  · replace h := (if_neg c_3).symm.trans h
    refine lv_lload_n hx hb d_Cv_squareLess_13 rfl (lv_at hl 0 rfl) ?_
    refine lv_lconst (v := (0 : Int64)) hx hb d_Cv_squareLess_14 (by decide) ?_
    refine W.lcmp hx hb d_Cv_squareLess_15 ?_
    refine lv_if_ne (tgt := 36) hx hb d_Cv_squareLess_16 (by decide) (fun c_10 => ?_) (fun c_10 => ?_)
    · replace h := (if_neg c_10).symm.trans h
      refine lv_iconst (v := (1 : Int32)) hx hb d_Cv_squareLess_36 (by decide) ?_
      cases h
      exact W.iret hx hb hr (fun t ht hW => ⟨⟨_, (), rfl, rfl, by rw [ht]; exact hP, va_K.moved hW.alike hK, hD⟩, hS.F ht⟩) hS.2.2 d_Cv_squareLess_37 hlocks
    · replace h := (if_pos c_10).symm.trans h
      refine lv_lload_n hx hb d_Cv_squareLess_19 rfl (lv_at hl 1 rfl) ?_
      refine lv_lconst (v := (0 : Int64)) hx hb d_Cv_squareLess_20 (by decide) ?_
      refine W.lcmp hx hb d_Cv_squareLess_21 ?_
      refine lv_if_eq (tgt := 32) hx hb d_Cv_squareLess_22 (by decide) (fun c_11 => ?_) (fun c_11 => ?_)
      · replace h := (if_pos c_11).symm.trans h
        refine lv_iconst (v := (0 : Int32)) hx hb d_Cv_squareLess_32 (by decide) ?_
        refine lv_goto (tgt := 37) hx hb d_Cv_squareLess_33 (by decide) ?_
        cases h
        exact W.iret hx hb hr (fun t ht hW => ⟨⟨_, (), rfl, rfl, by rw [ht]; exact hP, va_K.moved hW.alike hK, hD⟩, hS.F ht⟩) hS.2.2 d_Cv_squareLess_37 hlocks
      · replace h := (if_neg c_11).symm.trans h
        refine lv_lload hx hb d_Cv_squareLess_25 (lv_at hl 2 rfl) ?_
        refine lv_lconst (v := (0 : Int64)) hx hb d_Cv_squareLess_27 (by decide) ?_
        refine W.lcmp hx hb d_Cv_squareLess_28 ?_
        refine lv_if_ne (tgt := 36) hx hb d_Cv_squareLess_29 (by decide) (fun c_12 => ?_) (fun c_12 => ?_)
        · replace h := (if_neg c_12).symm.trans h
          refine lv_iconst (v := (1 : Int32)) hx hb d_Cv_squareLess_36 (by decide) ?_
          cases h
          exact W.iret hx hb hr (fun t ht hW => ⟨⟨_, (), rfl, rfl, by rw [ht]; exact hP, va_K.moved hW.alike hK, hD⟩, hS.F ht⟩) hS.2.2 d_Cv_squareLess_37 hlocks
        · replace h := (if_pos c_12).symm.trans h
          refine lv_iconst (v := (0 : Int32)) hx hb d_Cv_squareLess_32 (by decide) ?_
          refine lv_goto (tgt := 37) hx hb d_Cv_squareLess_33 (by decide) ?_
          cases h
          exact W.iret hx hb hr (fun t ht hW => ⟨⟨_, (), rfl, rfl, by rw [ht]; exact hP, va_K.moved hW.alike hK, hD⟩, hS.F ht⟩) hS.2.2 d_Cv_squareLess_37 hlocks
def P_Cv_isFlat (o_slopeY_f : Nat → Int32) (o_squareY_f : Nat → Int32) (a1 : Int32) : Option (Int32) :=
  bd a1 256 <| if (o_slopeY_f a1.toNatClampNeg) = 0 then (bd a1 256 <| if (o_squareY_f a1.toNatClampNeg) = 0 then (some (1 : Int32)) else (some (0 : Int32))) else (some (0 : Int32))
set_option maxHeartbeats 4000000 in
set_option maxRecDepth 100000 in
theorem c_Cv_isFlat (l : Launch) (dC : Nat → ClassId) (dI : Nat → Nat → Nat) (cy : Nat → ClassId) (sz : Nat) (o : Nat) (o_startX : Nat) (o_startY : Nat) (o_left : Nat) (o_right : Nat) (o_top : Nat) (o_bottom : Nat) (o_slopeX : Nat) (o_slopeY : Nat) (o_squareX : Nat) (o_squareY : Nat) (o_placedX : Nat) (o_placedY : Nat) (o_count : Int32) (o_startX_f : Nat → Int32) (o_startY_f : Nat → Int32) (o_left_f : Nat → Int32) (o_right_f : Nat → Int32) (o_top_f : Nat → Int32) (o_bottom_f : Nat → Int32) (o_slopeX_f : Nat → Int32) (o_slopeY_f : Nat → Int32) (o_squareX_f : Nat → Int32) (o_squareY_f : Nat → Int32) (o_placedX_f : Nat → Int32) (o_placedY_f : Nat → Int32) (a1 : Int32) (uu : Int32) (h : P_Cv_isFlat o_slopeY_f o_squareY_f a1 = some uu) : Met l y_Cv_isFlat (Cond.code y_Cv_isFlat b_Cv_isFlat 2 (some .boolean) :: G) ({ frames := 0, cells := 0, slots := 0, locals := 0 } : Room) (va_Pc [.ref o, .int a1] (fun U => U.heap.size = sz ∧ va_P (dC, dI) classes [(o, .inr (3, [.ref o_startX, .ref o_startY, .ref o_left, .ref o_right, .ref o_top, .ref o_bottom, .int o_count, .ref o_slopeX, .ref o_slopeY, .ref o_squareX, .ref o_squareY, .ref o_placedX, .ref o_placedY])), (o_startX, .inl (cy 0, 256, .inl o_startX_f)), (o_startY, .inl (cy 0, 256, .inl o_startY_f)), (o_left, .inl (cy 0, 256, .inl o_left_f)), (o_right, .inl (cy 0, 256, .inl o_right_f)), (o_top, .inl (cy 0, 256, .inl o_top_f)), (o_bottom, .inl (cy 0, 256, .inl o_bottom_f)), (o_slopeX, .inl (cy 0, 256, .inl o_slopeX_f)), (o_slopeY, .inl (cy 0, 256, .inl o_slopeY_f)), (o_squareX, .inl (cy 0, 256, .inl o_squareX_f)), (o_squareY, .inl (cy 0, 256, .inl o_squareY_f)), (o_placedX, .inl (cy 0, 256, .inl o_placedX_f)), (o_placedY, .inl (cy 0, 256, .inl o_placedY_f))] U.heap ∧ va_K (dC, dI) classes (TY cy) U ∧ va_D (fun _ => True) [(o, .inr (3, [.ref o_startX, .ref o_startY, .ref o_left, .ref o_right, .ref o_top, .ref o_bottom, .int o_count, .ref o_slopeX, .ref o_slopeY, .ref o_squareX, .ref o_squareY, .ref o_placedX, .ref o_placedY])), (o_startX, .inl (cy 0, 256, .inl o_startX_f)), (o_startY, .inl (cy 0, 256, .inl o_startY_f)), (o_left, .inl (cy 0, 256, .inl o_left_f)), (o_right, .inl (cy 0, 256, .inl o_right_f)), (o_top, .inl (cy 0, 256, .inl o_top_f)), (o_bottom, .inl (cy 0, 256, .inl o_bottom_f)), (o_slopeX, .inl (cy 0, 256, .inl o_slopeX_f)), (o_slopeY, .inl (cy 0, 256, .inl o_slopeY_f)), (o_squareX, .inl (cy 0, 256, .inl o_squareX_f)), (o_squareY, .inl (cy 0, 256, .inl o_squareY_f)), (o_placedX, .inl (cy 0, 256, .inl o_placedX_f)), (o_placedY, .inl (cy 0, 256, .inl o_placedY_f))])) (va_Qi (fun r (_ : Unit) => r = uu) (fun _ t => va_P (dC, dI) classes [(o, .inr (3, [.ref o_startX, .ref o_startY, .ref o_left, .ref o_right, .ref o_top, .ref o_bottom, .int o_count, .ref o_slopeX, .ref o_slopeY, .ref o_squareX, .ref o_squareY, .ref o_placedX, .ref o_placedY])), (o_startX, .inl (cy 0, 256, .inl o_startX_f)), (o_startY, .inl (cy 0, 256, .inl o_startY_f)), (o_left, .inl (cy 0, 256, .inl o_left_f)), (o_right, .inl (cy 0, 256, .inl o_right_f)), (o_top, .inl (cy 0, 256, .inl o_top_f)), (o_bottom, .inl (cy 0, 256, .inl o_bottom_f)), (o_slopeX, .inl (cy 0, 256, .inl o_slopeX_f)), (o_slopeY, .inl (cy 0, 256, .inl o_slopeY_f)), (o_squareX, .inl (cy 0, 256, .inl o_squareX_f)), (o_squareY, .inl (cy 0, 256, .inl o_squareY_f)), (o_placedX, .inl (cy 0, 256, .inl o_placedX_f)), (o_placedY, .inl (cy 0, 256, .inl o_placedY_f))] t.heap ∧ va_K (dC, dI) classes (TY cy) t ∧ va_D (va_A [(o, .inr (3, [.ref o_startX, .ref o_startY, .ref o_left, .ref o_right, .ref o_top, .ref o_bottom, .int o_count, .ref o_slopeX, .ref o_slopeY, .ref o_squareX, .ref o_squareY, .ref o_placedX, .ref o_placedY])), (o_startX, .inl (cy 0, 256, .inl o_startX_f)), (o_startY, .inl (cy 0, 256, .inl o_startY_f)), (o_left, .inl (cy 0, 256, .inl o_left_f)), (o_right, .inl (cy 0, 256, .inl o_right_f)), (o_top, .inl (cy 0, 256, .inl o_top_f)), (o_bottom, .inl (cy 0, 256, .inl o_bottom_f)), (o_slopeX, .inl (cy 0, 256, .inl o_slopeX_f)), (o_slopeY, .inl (cy 0, 256, .inl o_slopeY_f)), (o_squareX, .inl (cy 0, 256, .inl o_squareX_f)), (o_squareY, .inl (cy 0, 256, .inl o_squareY_f)), (o_placedX, .inl (cy 0, 256, .inl o_placedX_f)), (o_placedY, .inl (cy 0, 256, .inl o_placedY_f))] sz) [(o, .inr (3, [.ref o_startX, .ref o_startY, .ref o_left, .ref o_right, .ref o_top, .ref o_bottom, .int o_count, .ref o_slopeX, .ref o_slopeY, .ref o_squareX, .ref o_squareY, .ref o_placedX, .ref o_placedY])), (o_startX, .inl (cy 0, 256, .inl o_startX_f)), (o_startY, .inl (cy 0, 256, .inl o_startY_f)), (o_left, .inl (cy 0, 256, .inl o_left_f)), (o_right, .inl (cy 0, 256, .inl o_right_f)), (o_top, .inl (cy 0, 256, .inl o_top_f)), (o_bottom, .inl (cy 0, 256, .inl o_bottom_f)), (o_slopeX, .inl (cy 0, 256, .inl o_slopeX_f)), (o_slopeY, .inl (cy 0, 256, .inl o_slopeY_f)), (o_squareX, .inl (cy 0, 256, .inl o_squareX_f)), (o_squareY, .inl (cy 0, 256, .inl o_squareY_f)), (o_placedX, .inl (cy 0, 256, .inl o_placedX_f)), (o_placedY, .inl (cy 0, 256, .inl o_placedY_f))]) (va_A [(o, .inr (3, [.ref o_startX, .ref o_startY, .ref o_left, .ref o_right, .ref o_top, .ref o_bottom, .int o_count, .ref o_slopeX, .ref o_slopeY, .ref o_squareX, .ref o_squareY, .ref o_placedX, .ref o_placedY])), (o_startX, .inl (cy 0, 256, .inl o_startX_f)), (o_startY, .inl (cy 0, 256, .inl o_startY_f)), (o_left, .inl (cy 0, 256, .inl o_left_f)), (o_right, .inl (cy 0, 256, .inl o_right_f)), (o_top, .inl (cy 0, 256, .inl o_top_f)), (o_bottom, .inl (cy 0, 256, .inl o_bottom_f)), (o_slopeX, .inl (cy 0, 256, .inl o_slopeX_f)), (o_slopeY, .inl (cy 0, 256, .inl o_slopeY_f)), (o_squareX, .inl (cy 0, 256, .inl o_squareX_f)), (o_squareY, .inl (cy 0, 256, .inl o_squareY_f)), (o_placedX, .inl (cy 0, 256, .inl o_placedX_f)), (o_placedY, .inl (cy 0, 256, .inl o_placedY_f))] sz)) 0 0 (va_A [(o, .inr (3, [.ref o_startX, .ref o_startY, .ref o_left, .ref o_right, .ref o_top, .ref o_bottom, .int o_count, .ref o_slopeX, .ref o_slopeY, .ref o_squareX, .ref o_squareY, .ref o_placedX, .ref o_placedY])), (o_startX, .inl (cy 0, 256, .inl o_startX_f)), (o_startY, .inl (cy 0, 256, .inl o_startY_f)), (o_left, .inl (cy 0, 256, .inl o_left_f)), (o_right, .inl (cy 0, 256, .inl o_right_f)), (o_top, .inl (cy 0, 256, .inl o_top_f)), (o_bottom, .inl (cy 0, 256, .inl o_bottom_f)), (o_slopeX, .inl (cy 0, 256, .inl o_slopeX_f)), (o_slopeY, .inl (cy 0, 256, .inl o_slopeY_f)), (o_squareX, .inl (cy 0, 256, .inl o_squareX_f)), (o_squareY, .inl (cy 0, 256, .inl o_squareY_f)), (o_placedX, .inl (cy 0, 256, .inl o_placedX_f)), (o_placedY, .inl (cy 0, 256, .inl o_placedY_f))] sz) := by
  refine Met.ofW (cc := b_Cv_isFlat) (maxL := 2) (ret := (some .boolean)) (by decide) rfl ?_
  intro p e s m args below meth c s₁ B hml hv
  obtain ⟨rfl, hsz, hP, hK, hD0⟩ := hv
  have hx := B.exec
  have hb := B.bytes
  have hr := B.returns
  have hts := atoms_spec (ws := Cond.code y_Cv_isFlat b_Cv_isFlat 2 (some .boolean) :: G) B.pre
  have htsG : ∀ w ∈ G, w.before _ s = true := fun w hw => hts w (List.mem_cons_of_mem _ hw)
  have hown : s.vm.findClass "GlyphPage$Curves" = some m.cls := findClass_of_methodNamed B.named
  have hlocks := B.notSynchronized
  subst hsz
  have hD := hD0.self (sz := s.heap.size)
  generalize hAe : va_A [(o, .inr (3, [.ref o_startX, .ref o_startY, .ref o_left, .ref o_right, .ref o_top, .ref o_bottom, .int o_count, .ref o_slopeX, .ref o_slopeY, .ref o_squareX, .ref o_squareY, .ref o_placedX, .ref o_placedY])), (o_startX, .inl (cy 0, 256, .inl o_startX_f)), (o_startY, .inl (cy 0, 256, .inl o_startY_f)), (o_left, .inl (cy 0, 256, .inl o_left_f)), (o_right, .inl (cy 0, 256, .inl o_right_f)), (o_top, .inl (cy 0, 256, .inl o_top_f)), (o_bottom, .inl (cy 0, 256, .inl o_bottom_f)), (o_slopeX, .inl (cy 0, 256, .inl o_slopeX_f)), (o_slopeY, .inl (cy 0, 256, .inl o_slopeY_f)), (o_squareX, .inl (cy 0, 256, .inl o_squareX_f)), (o_squareY, .inl (cy 0, 256, .inl o_squareY_f)), (o_placedX, .inl (cy 0, 256, .inl o_placedX_f)), (o_placedY, .inl (cy 0, 256, .inl o_placedY_f))] s.heap.size = A at hD ⊢
  have hA : ∀ q : Nat, s.heap.size ≤ q → A q := fun q h => by rw [← hAe]; exact Or.inr h
  have hS : va_S A s.heap s.heap [] := va_S.rf
  have hl := lv_entry ([.ref o, .int a1]) (n := 2) (Nat.le_of_ble_eq_true rfl)
  rw [lg_entry_eq]
  generalize (lg_sl ([.ref o, .int a1]) ++ List.replicate (2 - (lg_sl ([.ref o, .int a1])).length) Slot.unset).toArray = ls at hl ⊢
  have hl : lv_has ls 2 [(0, .ref o), (1, .int a1)] := hl
  have C0 : Cx p s m _ meth c A dC dI cy b_Cv_isFlat 2 (some .boolean) "GlyphPage$Curves" := ⟨hx, hb, hr, hlocks, hml, hown, htsG, hA, hK⟩
  unfold P_Cv_isFlat at h
  refine lv_aload_n hx hb d_Cv_isFlat_0 rfl (lv_at hl 0 rfl) ?_
  refine va_get (D := (dC, dI)) (ci := 3) (v := .ref o_slopeY) (C := "GlyphPage$Curves") (T := F_Cv) (N := 13) hx hb htsG iG_Cv hown hK hP 0 rfl rfl 8 (by decide) (htsG _ mW147) (fun _ h9 => h9) rfl d_Cv_isFlat_1 ?_
  refine lv_iload_n hx hb d_Cv_isFlat_4 rfl (lv_at hl 1 rfl) ?_
  obtain ⟨hin_1, h⟩ := bd_some h
  refine va_iald hx hb hK hP 8 0 rfl rfl hin_1 d_Cv_isFlat_5 ?_
  refine lv_if_ne (tgt := 22) hx hb d_Cv_isFlat_6 (by decide) (fun c_2 => ?_) (fun c_2 => ?_)
  · replace h := (if_neg c_2).symm.trans h
    refine lv_iconst (v := (0 : Int32)) hx hb d_Cv_isFlat_22 (by decide) ?_
    cases h
    exact W.zret (ty := .boolean) hx hb hr rfl (fun t ht hW => ⟨⟨_, (), rfl, rfl, by rw [ht]; exact hP, va_K.moved hW.alike hK, hD⟩, hS.F ht⟩) hS.2.2 d_Cv_isFlat_23 hlocks
  · replace h := (if_pos c_2).symm.trans h
    refine lv_aload_n hx hb d_Cv_isFlat_9 rfl (lv_at hl 0 rfl) ?_
    refine va_get (D := (dC, dI)) (ci := 3) (v := .ref o_squareY) (C := "GlyphPage$Curves") (T := F_Cv) (N := 13) hx hb htsG iG_Cv hown hK hP 0 rfl rfl 10 (by decide) (htsG _ mW149) (fun _ h9 => h9) rfl d_Cv_isFlat_10 ?_
    refine lv_iload_n hx hb d_Cv_isFlat_13 rfl (lv_at hl 1 rfl) ?_
    obtain ⟨hin_3, h⟩ := bd_some h
    refine va_iald hx hb hK hP 10 0 rfl rfl hin_3 d_Cv_isFlat_14 ?_
    refine lv_if_ne (tgt := 22) hx hb d_Cv_isFlat_15 (by decide) (fun c_4 => ?_) (fun c_4 => ?_)
    · replace h := (if_neg c_4).symm.trans h
      refine lv_iconst (v := (0 : Int32)) hx hb d_Cv_isFlat_22 (by decide) ?_
      cases h
      exact W.zret (ty := .boolean) hx hb hr rfl (fun t ht hW => ⟨⟨_, (), rfl, rfl, by rw [ht]; exact hP, va_K.moved hW.alike hK, hD⟩, hS.F ht⟩) hS.2.2 d_Cv_isFlat_23 hlocks
    · replace h := (if_pos c_4).symm.trans h
      refine lv_iconst (v := (1 : Int32)) hx hb d_Cv_isFlat_18 (by decide) ?_
      refine lv_goto (tgt := 23) hx hb d_Cv_isFlat_19 (by decide) ?_
      cases h
      exact W.zret (ty := .boolean) hx hb hr rfl (fun t ht hW => ⟨⟨_, (), rfl, rfl, by rw [ht]; exact hP, va_K.moved hW.alike hK, hD⟩, hS.F ht⟩) hS.2.2 d_Cv_isFlat_23 hlocks
def P_Cv_covers_65 (o_startX_f : Nat → Int32) (o_slopeX_f : Nat → Int32) (o_squareX_f : Nat → Int32)  (x1 : Int32) (x3 : Int64) (k0 : Int32) (k1 : Int32) : Option (Int32) :=
  if k1 = k0 then (bd x1 256 <| bd x1 256 <| (P_Cv_comesBack ((o_squareX_f x1.toNatClampNeg).toInt64) ((o_slopeX_f x1.toNatClampNeg).toInt64) x3).bind fun r_4 => if r_4 = 0 then (some (0 : Int32)) else (some (1 : Int32))) else (some (1 : Int32))
set_option maxHeartbeats 4000000 in
set_option maxRecDepth 100000 in
theorem w_Cv_covers_65 (C0 : Cx p s m args meth c A dC dI cy b_Cv_covers 7 (some .boolean) "GlyphPage$Curves") (o : Nat) (o_startX : Nat) (o_startY : Nat) (o_left : Nat) (o_right : Nat) (o_top : Nat) (o_bottom : Nat) (o_slopeX : Nat) (o_slopeY : Nat) (o_squareX : Nat) (o_squareY : Nat) (o_placedX : Nat) (o_placedY : Nat) (o_count : Int32) (o_startX_f : Nat → Int32) (o_startY_f : Nat → Int32) (o_left_f : Nat → Int32) (o_right_f : Nat → Int32) (o_top_f : Nat → Int32) (o_bottom_f : Nat → Int32) (o_slopeX_f : Nat → Int32) (o_slopeY_f : Nat → Int32) (o_squareX_f : Nat → Int32) (o_squareY_f : Nat → Int32) (o_placedX_f : Nat → Int32) (o_placedY_f : Nat → Int32) (a1 : Int32) (a2 : Int32) (uu : Int32)  (x1 : Int32) (x3 : Int64) (k0 : Int32) (k1 : Int32) {H : Heap} {locs : List Loc} {ls : Array Slot} (h : P_Cv_covers_65 o_startX_f o_slopeX_f o_squareX_f x1 x3 k0 k1 = some uu) : va_P (dC, dI) classes [(o, .inr (3, [.ref o_startX, .ref o_startY, .ref o_left, .ref o_right, .ref o_top, .ref o_bottom, .int o_count, .ref o_slopeX, .ref o_slopeY, .ref o_squareX, .ref o_squareY, .ref o_placedX, .ref o_placedY])), (o_startX, .inl (cy 0, 256, .inl o_startX_f)), (o_startY, .inl (cy 0, 256, .inl o_startY_f)), (o_left, .inl (cy 0, 256, .inl o_left_f)), (o_right, .inl (cy 0, 256, .inl o_right_f)), (o_top, .inl (cy 0, 256, .inl o_top_f)), (o_bottom, .inl (cy 0, 256, .inl o_bottom_f)), (o_slopeX, .inl (cy 0, 256, .inl o_slopeX_f)), (o_slopeY, .inl (cy 0, 256, .inl o_slopeY_f)), (o_squareX, .inl (cy 0, 256, .inl o_squareX_f)), (o_squareY, .inl (cy 0, 256, .inl o_squareY_f)), (o_placedX, .inl (cy 0, 256, .inl o_placedX_f)), (o_placedY, .inl (cy 0, 256, .inl o_placedY_f))] H → va_D A [(o, .inr (3, [.ref o_startX, .ref o_startY, .ref o_left, .ref o_right, .ref o_top, .ref o_bottom, .int o_count, .ref o_slopeX, .ref o_slopeY, .ref o_squareX, .ref o_squareY, .ref o_placedX, .ref o_placedY])), (o_startX, .inl (cy 0, 256, .inl o_startX_f)), (o_startY, .inl (cy 0, 256, .inl o_startY_f)), (o_left, .inl (cy 0, 256, .inl o_left_f)), (o_right, .inl (cy 0, 256, .inl o_right_f)), (o_top, .inl (cy 0, 256, .inl o_top_f)), (o_bottom, .inl (cy 0, 256, .inl o_bottom_f)), (o_slopeX, .inl (cy 0, 256, .inl o_slopeX_f)), (o_slopeY, .inl (cy 0, 256, .inl o_slopeY_f)), (o_squareX, .inl (cy 0, 256, .inl o_squareX_f)), (o_squareY, .inl (cy 0, 256, .inl o_squareY_f)), (o_placedX, .inl (cy 0, 256, .inl o_placedX_f)), (o_placedY, .inl (cy 0, 256, .inl o_placedY_f))] → va_S A s.heap H locs → lv_has ls 7 [(0, .ref o), (1, .int x1), (3, .long x3)] → W p l e ({ frames := 1, cells := 0, slots := 0, locals := 26 } : Room) s m args below meth c H locs 0 0 (MQ below (va_Qi (fun r (_ : Unit) => r = uu) (fun _ t => va_P (dC, dI) classes [(o, .inr (3, [.ref o_startX, .ref o_startY, .ref o_left, .ref o_right, .ref o_top, .ref o_bottom, .int o_count, .ref o_slopeX, .ref o_slopeY, .ref o_squareX, .ref o_squareY, .ref o_placedX, .ref o_placedY])), (o_startX, .inl (cy 0, 256, .inl o_startX_f)), (o_startY, .inl (cy 0, 256, .inl o_startY_f)), (o_left, .inl (cy 0, 256, .inl o_left_f)), (o_right, .inl (cy 0, 256, .inl o_right_f)), (o_top, .inl (cy 0, 256, .inl o_top_f)), (o_bottom, .inl (cy 0, 256, .inl o_bottom_f)), (o_slopeX, .inl (cy 0, 256, .inl o_slopeX_f)), (o_slopeY, .inl (cy 0, 256, .inl o_slopeY_f)), (o_squareX, .inl (cy 0, 256, .inl o_squareX_f)), (o_squareY, .inl (cy 0, 256, .inl o_squareY_f)), (o_placedX, .inl (cy 0, 256, .inl o_placedX_f)), (o_placedY, .inl (cy 0, 256, .inl o_placedY_f))] t.heap ∧ va_K (dC, dI) classes (TY cy) t ∧ va_D A [(o, .inr (3, [.ref o_startX, .ref o_startY, .ref o_left, .ref o_right, .ref o_top, .ref o_bottom, .int o_count, .ref o_slopeX, .ref o_slopeY, .ref o_squareX, .ref o_squareY, .ref o_placedX, .ref o_placedY])), (o_startX, .inl (cy 0, 256, .inl o_startX_f)), (o_startY, .inl (cy 0, 256, .inl o_startY_f)), (o_left, .inl (cy 0, 256, .inl o_left_f)), (o_right, .inl (cy 0, 256, .inl o_right_f)), (o_top, .inl (cy 0, 256, .inl o_top_f)), (o_bottom, .inl (cy 0, 256, .inl o_bottom_f)), (o_slopeX, .inl (cy 0, 256, .inl o_slopeX_f)), (o_slopeY, .inl (cy 0, 256, .inl o_slopeY_f)), (o_squareX, .inl (cy 0, 256, .inl o_squareX_f)), (o_squareY, .inl (cy 0, 256, .inl o_squareY_f)), (o_placedX, .inl (cy 0, 256, .inl o_placedX_f)), (o_placedY, .inl (cy 0, 256, .inl o_placedY_f))]) A) args s 0 0 A) (F0 m 65 ls [.int k0, .int k1]) := by
  intro hP hD hS hl
  obtain ⟨hx, hb, hr, hlocks, hml, hown, htsG, hA, hK⟩ := id C0
  unfold P_Cv_covers_65 at h
  refine lv_icmp_ne (tgt := 89) hx hb d_Cv_covers_65 (by decide) (fun c_1 => ?_) (fun c_1 => ?_)
  · replace h := (if_neg c_1).symm.trans h
    refine lv_iconst (v := (1 : Int32)) hx hb d_Cv_covers_89 (by decide) ?_
    refine lv_goto (tgt := 94) hx hb d_Cv_covers_90 (by decide) ?_
    cases h
    exact W.zret (ty := .boolean) hx hb hr rfl (fun t ht hW => ⟨⟨_, (), rfl, rfl, by rw [ht]; exact hP, va_K.moved hW.alike hK, hD⟩, hS.F ht⟩) hS.2.2 d_Cv_covers_94 hlocks
  · replace h := (if_pos c_1).symm.trans h
    refine lv_aload_n hx hb d_Cv_covers_68 rfl (lv_at hl 0 rfl) ?_
    refine va_get (D := (dC, dI)) (ci := 3) (v := .ref o_squareX) (C := "GlyphPage$Curves") (T := F_Cv) (N := 13) hx hb htsG iG_Cv hown hK hP 0 rfl rfl 9 (by decide) (htsG _ mW148) (fun _ h9 => h9) rfl d_Cv_covers_69 ?_
    refine lv_iload_n hx hb d_Cv_covers_72 rfl (lv_at hl 1 rfl) ?_
    obtain ⟨hin_2, h⟩ := bd_some h
    refine va_iald hx hb hK hP 9 0 rfl rfl hin_2 d_Cv_covers_73 ?_
    refine lv_i2l hx hb d_Cv_covers_74 rfl ?_
    refine lv_aload_n hx hb d_Cv_covers_75 rfl (lv_at hl 0 rfl) ?_
    refine va_get (D := (dC, dI)) (ci := 3) (v := .ref o_slopeX) (C := "GlyphPage$Curves") (T := F_Cv) (N := 13) hx hb htsG iG_Cv hown hK hP 0 rfl rfl 7 (by decide) (htsG _ mW146) (fun _ h9 => h9) rfl d_Cv_covers_76 ?_
    refine lv_iload_n hx hb d_Cv_covers_79 rfl (lv_at hl 1 rfl) ?_
    obtain ⟨hin_3, h⟩ := bd_some h
    refine va_iald hx hb hK hP 7 0 rfl rfl hin_3 d_Cv_covers_80 ?_
    refine lv_i2l hx hb d_Cv_covers_81 rfl ?_
    refine lv_lload_n hx hb d_Cv_covers_82 rfl (lv_at hl 2 rfl) ?_
    obtain ⟨r_4, hq, h⟩ := Option.bind_eq_some_iff.mp h
    try dsimp only at h
    have hPc := hP.sub (ws' := []) [] rfl
    have hDc := hD.sub (ws' := []) [] (by decide) rfl
    have hFc := va_free (wc := []) hD hS hA [] rfl
    refine va_calli (va_runS (As := [.long ((o_squareX_f x1.toNatClampNeg).toInt64), .long ((o_slopeX_f x1.toNatClampNeg).toInt64), .long x3]) (rest := []) ⟨hx, hb, hml, hown, htsG⟩ (c_Cv_comesBack l dC dI cy H.size ((o_squareX_f x1.toNatClampNeg).toInt64) ((o_slopeX_f x1.toNatClampNeg).toInt64) x3 r_4 hq) (va_cwS 3 htsG (gS mW615 mW616 mW5 mW617) rfl rfl rfl (by decide +kernel) ⟨Nat.le_of_ble_eq_true rfl, Nat.le_of_ble_eq_true rfl⟩) ⟨fun a U g mk q => by obtain ⟨q0, q1, qP, qK, qD⟩ := q; exact ⟨q0, q1, qP, va_K.moved (u := U) (U := U.calling g mk a) (Vm.Alike.refl U.vm) qK, qD⟩, fun U hU hW => ⟨rfl, by rw [hU], by rw [hU]; exact hPc, va_K.moved hW.alike hK, hDc.weaken (fun _ _ _ _ => trivial)⟩⟩ rfl rfl hl.1 rfl (lv_room (Nat.le_of_ble_eq_true rfl)) d_Cv_covers_83 ⟨Nat.le_of_ble_eq_true rfl, Nat.le_of_ble_eq_true rfl⟩) hS (fun q _ h => hFc q h) hFc (fun rr u t H1 locs ht hvm hw hB hz1 hk1 hS => ?_)
    obtain ⟨hP1, hK1, hD1⟩ := hB
    rw [ht] at hP1
    replace hw : r_4 = rr := hw.symm
    subst hw
    obtain ⟨hP, hD⟩ := va_join (wr := [(o, .inr (3, [.ref o_startX, .ref o_startY, .ref o_left, .ref o_right, .ref o_top, .ref o_bottom, .int o_count, .ref o_slopeX, .ref o_slopeY, .ref o_squareX, .ref o_squareY, .ref o_placedX, .ref o_placedY])), (o_startX, .inl (cy 0, 256, .inl o_startX_f)), (o_startY, .inl (cy 0, 256, .inl o_startY_f)), (o_left, .inl (cy 0, 256, .inl o_left_f)), (o_right, .inl (cy 0, 256, .inl o_right_f)), (o_top, .inl (cy 0, 256, .inl o_top_f)), (o_bottom, .inl (cy 0, 256, .inl o_bottom_f)), (o_slopeX, .inl (cy 0, 256, .inl o_slopeX_f)), (o_slopeY, .inl (cy 0, 256, .inl o_slopeY_f)), (o_squareX, .inl (cy 0, 256, .inl o_squareX_f)), (o_squareY, .inl (cy 0, 256, .inl o_squareY_f)), (o_placedX, .inl (cy 0, 256, .inl o_placedX_f)), (o_placedY, .inl (cy 0, 256, .inl o_placedY_f))]) (w1 := []) hP hD [] [0, 1, 2, 3, 4, 5, 6, 7, 8, 9, 10, 11, 12] rfl rfl (by decide) (by decide) hk1 hFc hP1 hD1
    generalize H1 = H at hP hS ⊢
    have hP := hP.sub (ws' := [(o, .inr (3, [.ref o_startX, .ref o_startY, .ref o_left, .ref o_right, .ref o_top, .ref o_bottom, .int o_count, .ref o_slopeX, .ref o_slopeY, .ref o_squareX, .ref o_squareY, .ref o_placedX, .ref o_placedY])), (o_startX, .inl (cy 0, 256, .inl o_startX_f)), (o_startY, .inl (cy 0, 256, .inl o_startY_f)), (o_left, .inl (cy 0, 256, .inl o_left_f)), (o_right, .inl (cy 0, 256, .inl o_right_f)), (o_top, .inl (cy 0, 256, .inl o_top_f)), (o_bottom, .inl (cy 0, 256, .inl o_bottom_f)), (o_slopeX, .inl (cy 0, 256, .inl o_slopeX_f)), (o_slopeY, .inl (cy 0, 256, .inl o_slopeY_f)), (o_squareX, .inl (cy 0, 256, .inl o_squareX_f)), (o_squareY, .inl (cy 0, 256, .inl o_squareY_f)), (o_placedX, .inl (cy 0, 256, .inl o_placedX_f)), (o_placedY, .inl (cy 0, 256, .inl o_placedY_f))]) [0, 1, 2, 3, 4, 5, 6, 7, 8, 9, 10, 11, 12] rfl
    have hD := hD.sub (ws' := [(o, .inr (3, [.ref o_startX, .ref o_startY, .ref o_left, .ref o_right, .ref o_top, .ref o_bottom, .int o_count, .ref o_slopeX, .ref o_slopeY, .ref o_squareX, .ref o_squareY, .ref o_placedX, .ref o_placedY])), (o_startX, .inl (cy 0, 256, .inl o_startX_f)), (o_startY, .inl (cy 0, 256, .inl o_startY_f)), (o_left, .inl (cy 0, 256, .inl o_left_f)), (o_right, .inl (cy 0, 256, .inl o_right_f)), (o_top, .inl (cy 0, 256, .inl o_top_f)), (o_bottom, .inl (cy 0, 256, .inl o_bottom_f)), (o_slopeX, .inl (cy 0, 256, .inl o_slopeX_f)), (o_slopeY, .inl (cy 0, 256, .inl o_slopeY_f)), (o_squareX, .inl (cy 0, 256, .inl o_squareX_f)), (o_squareY, .inl (cy 0, 256, .inl o_squareY_f)), (o_placedX, .inl (cy 0, 256, .inl o_placedX_f)), (o_placedY, .inl (cy 0, 256, .inl o_placedY_f))]) [0, 1, 2, 3, 4, 5, 6, 7, 8, 9, 10, 11, 12] (by decide) rfl
    refine W.widen (k := 0) (n := 0) (by decide) (by decide) ?_
    refine lv_if_eq (tgt := 93) hx hb d_Cv_covers_86 (by decide) (fun c_5 => ?_) (fun c_5 => ?_)
    · replace h := (if_pos c_5).symm.trans h
      refine lv_iconst (v := (0 : Int32)) hx hb d_Cv_covers_93 (by decide) ?_
      cases h
      exact W.zret (ty := .boolean) hx hb hr rfl (fun t ht hW => ⟨⟨_, (), rfl, rfl, by rw [ht]; exact hP, va_K.moved hW.alike hK, hD⟩, hS.F ht⟩) hS.2.2 d_Cv_covers_94 hlocks
    · replace h := (if_neg c_5).symm.trans h
      refine lv_iconst (v := (1 : Int32)) hx hb d_Cv_covers_89 (by decide) ?_
      refine lv_goto (tgt := 94) hx hb d_Cv_covers_90 (by decide) ?_
      cases h
      exact W.zret (ty := .boolean) hx hb hr rfl (fun t ht hW => ⟨⟨_, (), rfl, rfl, by rw [ht]; exact hP, va_K.moved hW.alike hK, hD⟩, hS.F ht⟩) hS.2.2 d_Cv_covers_94 hlocks
def P_Cv_covers_53 (o_startX_f : Nat → Int32) (o_slopeX_f : Nat → Int32) (o_squareX_f : Nat → Int32)  (x1 : Int32) (x3 : Int64) (x5 : Int64) (k0 : Int32) : Option (Int32) :=
  if (lg_cmp x5 (0 : Int64)) ≤ 0 then (P_Cv_covers_65 o_startX_f o_slopeX_f o_squareX_f x1 x3 (0 : Int32) k0) else (P_Cv_covers_65 o_startX_f o_slopeX_f o_squareX_f x1 x3 (1 : Int32) k0)
set_option maxHeartbeats 4000000 in
set_option maxRecDepth 100000 in
theorem w_Cv_covers_53 (C0 : Cx p s m args meth c A dC dI cy b_Cv_covers 7 (some .boolean) "GlyphPage$Curves") (o : Nat) (o_startX : Nat) (o_startY : Nat) (o_left : Nat) (o_right : Nat) (o_top : Nat) (o_bottom : Nat) (o_slopeX : Nat) (o_slopeY : Nat) (o_squareX : Nat) (o_squareY : Nat) (o_placedX : Nat) (o_placedY : Nat) (o_count : Int32) (o_startX_f : Nat → Int32) (o_startY_f : Nat → Int32) (o_left_f : Nat → Int32) (o_right_f : Nat → Int32) (o_top_f : Nat → Int32) (o_bottom_f : Nat → Int32) (o_slopeX_f : Nat → Int32) (o_slopeY_f : Nat → Int32) (o_squareX_f : Nat → Int32) (o_squareY_f : Nat → Int32) (o_placedX_f : Nat → Int32) (o_placedY_f : Nat → Int32) (a1 : Int32) (a2 : Int32) (uu : Int32)  (x1 : Int32) (x3 : Int64) (x5 : Int64) (k0 : Int32) {H : Heap} {locs : List Loc} {ls : Array Slot} (h : P_Cv_covers_53 o_startX_f o_slopeX_f o_squareX_f x1 x3 x5 k0 = some uu) : va_P (dC, dI) classes [(o, .inr (3, [.ref o_startX, .ref o_startY, .ref o_left, .ref o_right, .ref o_top, .ref o_bottom, .int o_count, .ref o_slopeX, .ref o_slopeY, .ref o_squareX, .ref o_squareY, .ref o_placedX, .ref o_placedY])), (o_startX, .inl (cy 0, 256, .inl o_startX_f)), (o_startY, .inl (cy 0, 256, .inl o_startY_f)), (o_left, .inl (cy 0, 256, .inl o_left_f)), (o_right, .inl (cy 0, 256, .inl o_right_f)), (o_top, .inl (cy 0, 256, .inl o_top_f)), (o_bottom, .inl (cy 0, 256, .inl o_bottom_f)), (o_slopeX, .inl (cy 0, 256, .inl o_slopeX_f)), (o_slopeY, .inl (cy 0, 256, .inl o_slopeY_f)), (o_squareX, .inl (cy 0, 256, .inl o_squareX_f)), (o_squareY, .inl (cy 0, 256, .inl o_squareY_f)), (o_placedX, .inl (cy 0, 256, .inl o_placedX_f)), (o_placedY, .inl (cy 0, 256, .inl o_placedY_f))] H → va_D A [(o, .inr (3, [.ref o_startX, .ref o_startY, .ref o_left, .ref o_right, .ref o_top, .ref o_bottom, .int o_count, .ref o_slopeX, .ref o_slopeY, .ref o_squareX, .ref o_squareY, .ref o_placedX, .ref o_placedY])), (o_startX, .inl (cy 0, 256, .inl o_startX_f)), (o_startY, .inl (cy 0, 256, .inl o_startY_f)), (o_left, .inl (cy 0, 256, .inl o_left_f)), (o_right, .inl (cy 0, 256, .inl o_right_f)), (o_top, .inl (cy 0, 256, .inl o_top_f)), (o_bottom, .inl (cy 0, 256, .inl o_bottom_f)), (o_slopeX, .inl (cy 0, 256, .inl o_slopeX_f)), (o_slopeY, .inl (cy 0, 256, .inl o_slopeY_f)), (o_squareX, .inl (cy 0, 256, .inl o_squareX_f)), (o_squareY, .inl (cy 0, 256, .inl o_squareY_f)), (o_placedX, .inl (cy 0, 256, .inl o_placedX_f)), (o_placedY, .inl (cy 0, 256, .inl o_placedY_f))] → va_S A s.heap H locs → lv_has ls 7 [(0, .ref o), (1, .int x1), (3, .long x3), (5, .long x5)] → W p l e ({ frames := 1, cells := 0, slots := 0, locals := 26 } : Room) s m args below meth c H locs 0 0 (MQ below (va_Qi (fun r (_ : Unit) => r = uu) (fun _ t => va_P (dC, dI) classes [(o, .inr (3, [.ref o_startX, .ref o_startY, .ref o_left, .ref o_right, .ref o_top, .ref o_bottom, .int o_count, .ref o_slopeX, .ref o_slopeY, .ref o_squareX, .ref o_squareY, .ref o_placedX, .ref o_placedY])), (o_startX, .inl (cy 0, 256, .inl o_startX_f)), (o_startY, .inl (cy 0, 256, .inl o_startY_f)), (o_left, .inl (cy 0, 256, .inl o_left_f)), (o_right, .inl (cy 0, 256, .inl o_right_f)), (o_top, .inl (cy 0, 256, .inl o_top_f)), (o_bottom, .inl (cy 0, 256, .inl o_bottom_f)), (o_slopeX, .inl (cy 0, 256, .inl o_slopeX_f)), (o_slopeY, .inl (cy 0, 256, .inl o_slopeY_f)), (o_squareX, .inl (cy 0, 256, .inl o_squareX_f)), (o_squareY, .inl (cy 0, 256, .inl o_squareY_f)), (o_placedX, .inl (cy 0, 256, .inl o_placedX_f)), (o_placedY, .inl (cy 0, 256, .inl o_placedY_f))] t.heap ∧ va_K (dC, dI) classes (TY cy) t ∧ va_D A [(o, .inr (3, [.ref o_startX, .ref o_startY, .ref o_left, .ref o_right, .ref o_top, .ref o_bottom, .int o_count, .ref o_slopeX, .ref o_slopeY, .ref o_squareX, .ref o_squareY, .ref o_placedX, .ref o_placedY])), (o_startX, .inl (cy 0, 256, .inl o_startX_f)), (o_startY, .inl (cy 0, 256, .inl o_startY_f)), (o_left, .inl (cy 0, 256, .inl o_left_f)), (o_right, .inl (cy 0, 256, .inl o_right_f)), (o_top, .inl (cy 0, 256, .inl o_top_f)), (o_bottom, .inl (cy 0, 256, .inl o_bottom_f)), (o_slopeX, .inl (cy 0, 256, .inl o_slopeX_f)), (o_slopeY, .inl (cy 0, 256, .inl o_slopeY_f)), (o_squareX, .inl (cy 0, 256, .inl o_squareX_f)), (o_squareY, .inl (cy 0, 256, .inl o_squareY_f)), (o_placedX, .inl (cy 0, 256, .inl o_placedX_f)), (o_placedY, .inl (cy 0, 256, .inl o_placedY_f))]) A) args s 0 0 A) (F0 m 53 ls [.int k0]) := by
  intro hP hD hS hl
  obtain ⟨hx, hb, hr, hlocks, hml, hown, htsG, hA, hK⟩ := id C0
  unfold P_Cv_covers_53 at h
  refine lv_lload hx hb d_Cv_covers_53 (lv_at hl 3 rfl) ?_
  refine lv_lconst (v := (0 : Int64)) hx hb d_Cv_covers_55 (by decide) ?_
  refine W.lcmp hx hb d_Cv_covers_56 ?_
  refine lv_if_le (tgt := 64) hx hb d_Cv_covers_57 (by decide) (fun c_1 => ?_) (fun c_1 => ?_)
  · replace h := (if_pos c_1).symm.trans h
    refine lv_iconst (v := (0 : Int32)) hx hb d_Cv_covers_64 (by decide) ?_
    exact w_Cv_covers_65 C0 o o_startX o_startY o_left o_right o_top o_bottom o_slopeX o_slopeY o_squareX o_squareY o_placedX o_placedY o_count o_startX_f o_startY_f o_left_f o_right_f o_top_f o_bottom_f o_slopeX_f o_slopeY_f o_squareX_f o_squareY_f o_placedX_f o_placedY_f a1 a2 uu  x1 x3 (0 : Int32) k0 h hP hD hS (lv_sub hl [0, 1, 2] rfl)
  · replace h := (if_neg c_1).symm.trans h
    refine lv_iconst (v := (1 : Int32)) hx hb d_Cv_covers_60 (by decide) ?_
    refine lv_goto (tgt := 65) hx hb d_Cv_covers_61 (by decide) ?_
    exact w_Cv_covers_65 C0 o o_startX o_startY o_left o_right o_top o_bottom o_slopeX o_slopeY o_squareX o_squareY o_placedX o_placedY o_count o_startX_f o_startY_f o_left_f o_right_f o_top_f o_bottom_f o_slopeX_f o_slopeY_f o_squareX_f o_squareY_f o_placedX_f o_placedY_f a1 a2 uu  x1 x3 (1 : Int32) k0 h hP hD hS (lv_sub hl [0, 1, 2] rfl)
def P_Cv_covers_29 (o_startX_f : Nat → Int32) (o_slopeX_f : Nat → Int32) (o_squareX_f : Nat → Int32)  (x1 : Int32) (x3 : Int64) (x5 : Int64) : Option (Int32) :=
  if (lg_cmp x3 (0 : Int64)) = 0 then (some (1 : Int32)) else (if (lg_cmp x5 (0 : Int64)) = 0 then (some (1 : Int32)) else (if (lg_cmp x3 (0 : Int64)) ≤ 0 then (P_Cv_covers_53 o_startX_f o_slopeX_f o_squareX_f x1 x3 x5 (0 : Int32)) else (P_Cv_covers_53 o_startX_f o_slopeX_f o_squareX_f x1 x3 x5 (1 : Int32))))
set_option maxHeartbeats 4000000 in
set_option maxRecDepth 100000 in
theorem w_Cv_covers_29 (C0 : Cx p s m args meth c A dC dI cy b_Cv_covers 7 (some .boolean) "GlyphPage$Curves") (o : Nat) (o_startX : Nat) (o_startY : Nat) (o_left : Nat) (o_right : Nat) (o_top : Nat) (o_bottom : Nat) (o_slopeX : Nat) (o_slopeY : Nat) (o_squareX : Nat) (o_squareY : Nat) (o_placedX : Nat) (o_placedY : Nat) (o_count : Int32) (o_startX_f : Nat → Int32) (o_startY_f : Nat → Int32) (o_left_f : Nat → Int32) (o_right_f : Nat → Int32) (o_top_f : Nat → Int32) (o_bottom_f : Nat → Int32) (o_slopeX_f : Nat → Int32) (o_slopeY_f : Nat → Int32) (o_squareX_f : Nat → Int32) (o_squareY_f : Nat → Int32) (o_placedX_f : Nat → Int32) (o_placedY_f : Nat → Int32) (a1 : Int32) (a2 : Int32) (uu : Int32)  (x1 : Int32) (x3 : Int64) (x5 : Int64) {H : Heap} {locs : List Loc} {ls : Array Slot} (h : P_Cv_covers_29 o_startX_f o_slopeX_f o_squareX_f x1 x3 x5 = some uu) : va_P (dC, dI) classes [(o, .inr (3, [.ref o_startX, .ref o_startY, .ref o_left, .ref o_right, .ref o_top, .ref o_bottom, .int o_count, .ref o_slopeX, .ref o_slopeY, .ref o_squareX, .ref o_squareY, .ref o_placedX, .ref o_placedY])), (o_startX, .inl (cy 0, 256, .inl o_startX_f)), (o_startY, .inl (cy 0, 256, .inl o_startY_f)), (o_left, .inl (cy 0, 256, .inl o_left_f)), (o_right, .inl (cy 0, 256, .inl o_right_f)), (o_top, .inl (cy 0, 256, .inl o_top_f)), (o_bottom, .inl (cy 0, 256, .inl o_bottom_f)), (o_slopeX, .inl (cy 0, 256, .inl o_slopeX_f)), (o_slopeY, .inl (cy 0, 256, .inl o_slopeY_f)), (o_squareX, .inl (cy 0, 256, .inl o_squareX_f)), (o_squareY, .inl (cy 0, 256, .inl o_squareY_f)), (o_placedX, .inl (cy 0, 256, .inl o_placedX_f)), (o_placedY, .inl (cy 0, 256, .inl o_placedY_f))] H → va_D A [(o, .inr (3, [.ref o_startX, .ref o_startY, .ref o_left, .ref o_right, .ref o_top, .ref o_bottom, .int o_count, .ref o_slopeX, .ref o_slopeY, .ref o_squareX, .ref o_squareY, .ref o_placedX, .ref o_placedY])), (o_startX, .inl (cy 0, 256, .inl o_startX_f)), (o_startY, .inl (cy 0, 256, .inl o_startY_f)), (o_left, .inl (cy 0, 256, .inl o_left_f)), (o_right, .inl (cy 0, 256, .inl o_right_f)), (o_top, .inl (cy 0, 256, .inl o_top_f)), (o_bottom, .inl (cy 0, 256, .inl o_bottom_f)), (o_slopeX, .inl (cy 0, 256, .inl o_slopeX_f)), (o_slopeY, .inl (cy 0, 256, .inl o_slopeY_f)), (o_squareX, .inl (cy 0, 256, .inl o_squareX_f)), (o_squareY, .inl (cy 0, 256, .inl o_squareY_f)), (o_placedX, .inl (cy 0, 256, .inl o_placedX_f)), (o_placedY, .inl (cy 0, 256, .inl o_placedY_f))] → va_S A s.heap H locs → lv_has ls 7 [(0, .ref o), (1, .int x1), (3, .long x3), (5, .long x5)] → W p l e ({ frames := 1, cells := 0, slots := 0, locals := 26 } : Room) s m args below meth c H locs 0 0 (MQ below (va_Qi (fun r (_ : Unit) => r = uu) (fun _ t => va_P (dC, dI) classes [(o, .inr (3, [.ref o_startX, .ref o_startY, .ref o_left, .ref o_right, .ref o_top, .ref o_bottom, .int o_count, .ref o_slopeX, .ref o_slopeY, .ref o_squareX, .ref o_squareY, .ref o_placedX, .ref o_placedY])), (o_startX, .inl (cy 0, 256, .inl o_startX_f)), (o_startY, .inl (cy 0, 256, .inl o_startY_f)), (o_left, .inl (cy 0, 256, .inl o_left_f)), (o_right, .inl (cy 0, 256, .inl o_right_f)), (o_top, .inl (cy 0, 256, .inl o_top_f)), (o_bottom, .inl (cy 0, 256, .inl o_bottom_f)), (o_slopeX, .inl (cy 0, 256, .inl o_slopeX_f)), (o_slopeY, .inl (cy 0, 256, .inl o_slopeY_f)), (o_squareX, .inl (cy 0, 256, .inl o_squareX_f)), (o_squareY, .inl (cy 0, 256, .inl o_squareY_f)), (o_placedX, .inl (cy 0, 256, .inl o_placedX_f)), (o_placedY, .inl (cy 0, 256, .inl o_placedY_f))] t.heap ∧ va_K (dC, dI) classes (TY cy) t ∧ va_D A [(o, .inr (3, [.ref o_startX, .ref o_startY, .ref o_left, .ref o_right, .ref o_top, .ref o_bottom, .int o_count, .ref o_slopeX, .ref o_slopeY, .ref o_squareX, .ref o_squareY, .ref o_placedX, .ref o_placedY])), (o_startX, .inl (cy 0, 256, .inl o_startX_f)), (o_startY, .inl (cy 0, 256, .inl o_startY_f)), (o_left, .inl (cy 0, 256, .inl o_left_f)), (o_right, .inl (cy 0, 256, .inl o_right_f)), (o_top, .inl (cy 0, 256, .inl o_top_f)), (o_bottom, .inl (cy 0, 256, .inl o_bottom_f)), (o_slopeX, .inl (cy 0, 256, .inl o_slopeX_f)), (o_slopeY, .inl (cy 0, 256, .inl o_slopeY_f)), (o_squareX, .inl (cy 0, 256, .inl o_squareX_f)), (o_squareY, .inl (cy 0, 256, .inl o_squareY_f)), (o_placedX, .inl (cy 0, 256, .inl o_placedX_f)), (o_placedY, .inl (cy 0, 256, .inl o_placedY_f))]) A) args s 0 0 A) (F0 m 29 ls []) := by
  intro hP hD hS hl
  obtain ⟨hx, hb, hr, hlocks, hml, hown, htsG, hA, hK⟩ := id C0
  unfold P_Cv_covers_29 at h
  refine lv_lload_n hx hb d_Cv_covers_29 rfl (lv_at hl 2 rfl) ?_
  refine lv_lconst (v := (0 : Int64)) hx hb d_Cv_covers_30 (by decide) ?_
  refine W.lcmp hx hb d_Cv_covers_31 ?_
  refine lv_if_eq (tgt := 89) hx hb d_Cv_covers_32 (by decide) (fun c_1 => ?_) (fun c_1 => ?_)
  · replace h := (if_pos c_1).symm.trans h
    refine lv_iconst (v := (1 : Int32)) hx hb d_Cv_covers_89 (by decide) ?_
    refine lv_goto (tgt := 94) hx hb d_Cv_covers_90 (by decide) ?_
    cases h
    exact W.zret (ty := .boolean) hx hb hr rfl (fun t ht hW => ⟨⟨_, (), rfl, rfl, by rw [ht]; exact hP, va_K.moved hW.alike hK, hD⟩, hS.F ht⟩) hS.2.2 d_Cv_covers_94 hlocks
  · replace h := (if_neg c_1).symm.trans h
    refine lv_lload hx hb d_Cv_covers_35 (lv_at hl 3 rfl) ?_
    refine lv_lconst (v := (0 : Int64)) hx hb d_Cv_covers_37 (by decide) ?_
    refine W.lcmp hx hb d_Cv_covers_38 ?_
    refine lv_if_eq (tgt := 89) hx hb d_Cv_covers_39 (by decide) (fun c_2 => ?_) (fun c_2 => ?_)
    · replace h := (if_pos c_2).symm.trans h
      refine lv_iconst (v := (1 : Int32)) hx hb d_Cv_covers_89 (by decide) ?_
      refine lv_goto (tgt := 94) hx hb d_Cv_covers_90 (by decide) ?_
      cases h
      exact W.zret (ty := .boolean) hx hb hr rfl (fun t ht hW => ⟨⟨_, (), rfl, rfl, by rw [ht]; exact hP, va_K.moved hW.alike hK, hD⟩, hS.F ht⟩) hS.2.2 d_Cv_covers_94 hlocks
    · replace h := (if_neg c_2).symm.trans h
      refine lv_lload_n hx hb d_Cv_covers_42 rfl (lv_at hl 2 rfl) ?_
      refine lv_lconst (v := (0 : Int64)) hx hb d_Cv_covers_43 (by decide) ?_
      refine W.lcmp hx hb d_Cv_covers_44 ?_
      refine lv_if_le (tgt := 52) hx hb d_Cv_covers_45 (by decide) (fun c_3 => ?_) (fun c_3 => ?_)
      · replace h := (if_pos c_3).symm.trans h
        refine lv_iconst (v := (0 : Int32)) hx hb d_Cv_covers_52 (by decide) ?_
        exact w_Cv_covers_53 C0 o o_startX o_startY o_left o_right o_top o_bottom o_slopeX o_slopeY o_squareX o_squareY o_placedX o_placedY o_count o_startX_f o_startY_f o_left_f o_right_f o_top_f o_bottom_f o_slopeX_f o_slopeY_f o_squareX_f o_squareY_f o_placedX_f o_placedY_f a1 a2 uu  x1 x3 x5 (0 : Int32) h hP hD hS (lv_sub hl [0, 1, 2, 3] rfl)
      · replace h := (if_neg c_3).symm.trans h
        refine lv_iconst (v := (1 : Int32)) hx hb d_Cv_covers_48 (by decide) ?_
        refine lv_goto (tgt := 53) hx hb d_Cv_covers_49 (by decide) ?_
        exact w_Cv_covers_53 C0 o o_startX o_startY o_left o_right o_top o_bottom o_slopeX o_slopeY o_squareX o_squareY o_placedX o_placedY o_count o_startX_f o_startY_f o_left_f o_right_f o_top_f o_bottom_f o_slopeX_f o_slopeY_f o_squareX_f o_squareY_f o_placedX_f o_placedY_f a1 a2 uu  x1 x3 x5 (1 : Int32) h hP hD hS (lv_sub hl [0, 1, 2, 3] rfl)
def P_Cv_covers (o_startX_f : Nat → Int32) (o_slopeX_f : Nat → Int32) (o_squareX_f : Nat → Int32) (a1 : Int32) (a2 : Int32) : Option (Int32) :=
  bd a1 256 <| bd a1 256 <| bd a1 256 <| P_Cv_covers_29 o_startX_f o_slopeX_f o_squareX_f a1 (((o_startX_f a1.toNatClampNeg) - a2).toInt64) (((((o_startX_f a1.toNatClampNeg) - a2).toInt64) + ((o_slopeX_f a1.toNatClampNeg).toInt64)) + ((o_squareX_f a1.toNatClampNeg).toInt64))
set_option maxHeartbeats 4000000 in
set_option maxRecDepth 100000 in
theorem c_Cv_covers (l : Launch) (dC : Nat → ClassId) (dI : Nat → Nat → Nat) (cy : Nat → ClassId) (sz : Nat) (o : Nat) (o_startX : Nat) (o_startY : Nat) (o_left : Nat) (o_right : Nat) (o_top : Nat) (o_bottom : Nat) (o_slopeX : Nat) (o_slopeY : Nat) (o_squareX : Nat) (o_squareY : Nat) (o_placedX : Nat) (o_placedY : Nat) (o_count : Int32) (o_startX_f : Nat → Int32) (o_startY_f : Nat → Int32) (o_left_f : Nat → Int32) (o_right_f : Nat → Int32) (o_top_f : Nat → Int32) (o_bottom_f : Nat → Int32) (o_slopeX_f : Nat → Int32) (o_slopeY_f : Nat → Int32) (o_squareX_f : Nat → Int32) (o_squareY_f : Nat → Int32) (o_placedX_f : Nat → Int32) (o_placedY_f : Nat → Int32) (a1 : Int32) (a2 : Int32) (uu : Int32) (h : P_Cv_covers o_startX_f o_slopeX_f o_squareX_f a1 a2 = some uu) : Met l y_Cv_covers (Cond.code y_Cv_covers b_Cv_covers 7 (some .boolean) :: G) ({ frames := 1, cells := 0, slots := 0, locals := 26 } : Room) (va_Pc [.ref o, .int a1, .int a2] (fun U => U.heap.size = sz ∧ va_P (dC, dI) classes [(o, .inr (3, [.ref o_startX, .ref o_startY, .ref o_left, .ref o_right, .ref o_top, .ref o_bottom, .int o_count, .ref o_slopeX, .ref o_slopeY, .ref o_squareX, .ref o_squareY, .ref o_placedX, .ref o_placedY])), (o_startX, .inl (cy 0, 256, .inl o_startX_f)), (o_startY, .inl (cy 0, 256, .inl o_startY_f)), (o_left, .inl (cy 0, 256, .inl o_left_f)), (o_right, .inl (cy 0, 256, .inl o_right_f)), (o_top, .inl (cy 0, 256, .inl o_top_f)), (o_bottom, .inl (cy 0, 256, .inl o_bottom_f)), (o_slopeX, .inl (cy 0, 256, .inl o_slopeX_f)), (o_slopeY, .inl (cy 0, 256, .inl o_slopeY_f)), (o_squareX, .inl (cy 0, 256, .inl o_squareX_f)), (o_squareY, .inl (cy 0, 256, .inl o_squareY_f)), (o_placedX, .inl (cy 0, 256, .inl o_placedX_f)), (o_placedY, .inl (cy 0, 256, .inl o_placedY_f))] U.heap ∧ va_K (dC, dI) classes (TY cy) U ∧ va_D (fun _ => True) [(o, .inr (3, [.ref o_startX, .ref o_startY, .ref o_left, .ref o_right, .ref o_top, .ref o_bottom, .int o_count, .ref o_slopeX, .ref o_slopeY, .ref o_squareX, .ref o_squareY, .ref o_placedX, .ref o_placedY])), (o_startX, .inl (cy 0, 256, .inl o_startX_f)), (o_startY, .inl (cy 0, 256, .inl o_startY_f)), (o_left, .inl (cy 0, 256, .inl o_left_f)), (o_right, .inl (cy 0, 256, .inl o_right_f)), (o_top, .inl (cy 0, 256, .inl o_top_f)), (o_bottom, .inl (cy 0, 256, .inl o_bottom_f)), (o_slopeX, .inl (cy 0, 256, .inl o_slopeX_f)), (o_slopeY, .inl (cy 0, 256, .inl o_slopeY_f)), (o_squareX, .inl (cy 0, 256, .inl o_squareX_f)), (o_squareY, .inl (cy 0, 256, .inl o_squareY_f)), (o_placedX, .inl (cy 0, 256, .inl o_placedX_f)), (o_placedY, .inl (cy 0, 256, .inl o_placedY_f))])) (va_Qi (fun r (_ : Unit) => r = uu) (fun _ t => va_P (dC, dI) classes [(o, .inr (3, [.ref o_startX, .ref o_startY, .ref o_left, .ref o_right, .ref o_top, .ref o_bottom, .int o_count, .ref o_slopeX, .ref o_slopeY, .ref o_squareX, .ref o_squareY, .ref o_placedX, .ref o_placedY])), (o_startX, .inl (cy 0, 256, .inl o_startX_f)), (o_startY, .inl (cy 0, 256, .inl o_startY_f)), (o_left, .inl (cy 0, 256, .inl o_left_f)), (o_right, .inl (cy 0, 256, .inl o_right_f)), (o_top, .inl (cy 0, 256, .inl o_top_f)), (o_bottom, .inl (cy 0, 256, .inl o_bottom_f)), (o_slopeX, .inl (cy 0, 256, .inl o_slopeX_f)), (o_slopeY, .inl (cy 0, 256, .inl o_slopeY_f)), (o_squareX, .inl (cy 0, 256, .inl o_squareX_f)), (o_squareY, .inl (cy 0, 256, .inl o_squareY_f)), (o_placedX, .inl (cy 0, 256, .inl o_placedX_f)), (o_placedY, .inl (cy 0, 256, .inl o_placedY_f))] t.heap ∧ va_K (dC, dI) classes (TY cy) t ∧ va_D (va_A [(o, .inr (3, [.ref o_startX, .ref o_startY, .ref o_left, .ref o_right, .ref o_top, .ref o_bottom, .int o_count, .ref o_slopeX, .ref o_slopeY, .ref o_squareX, .ref o_squareY, .ref o_placedX, .ref o_placedY])), (o_startX, .inl (cy 0, 256, .inl o_startX_f)), (o_startY, .inl (cy 0, 256, .inl o_startY_f)), (o_left, .inl (cy 0, 256, .inl o_left_f)), (o_right, .inl (cy 0, 256, .inl o_right_f)), (o_top, .inl (cy 0, 256, .inl o_top_f)), (o_bottom, .inl (cy 0, 256, .inl o_bottom_f)), (o_slopeX, .inl (cy 0, 256, .inl o_slopeX_f)), (o_slopeY, .inl (cy 0, 256, .inl o_slopeY_f)), (o_squareX, .inl (cy 0, 256, .inl o_squareX_f)), (o_squareY, .inl (cy 0, 256, .inl o_squareY_f)), (o_placedX, .inl (cy 0, 256, .inl o_placedX_f)), (o_placedY, .inl (cy 0, 256, .inl o_placedY_f))] sz) [(o, .inr (3, [.ref o_startX, .ref o_startY, .ref o_left, .ref o_right, .ref o_top, .ref o_bottom, .int o_count, .ref o_slopeX, .ref o_slopeY, .ref o_squareX, .ref o_squareY, .ref o_placedX, .ref o_placedY])), (o_startX, .inl (cy 0, 256, .inl o_startX_f)), (o_startY, .inl (cy 0, 256, .inl o_startY_f)), (o_left, .inl (cy 0, 256, .inl o_left_f)), (o_right, .inl (cy 0, 256, .inl o_right_f)), (o_top, .inl (cy 0, 256, .inl o_top_f)), (o_bottom, .inl (cy 0, 256, .inl o_bottom_f)), (o_slopeX, .inl (cy 0, 256, .inl o_slopeX_f)), (o_slopeY, .inl (cy 0, 256, .inl o_slopeY_f)), (o_squareX, .inl (cy 0, 256, .inl o_squareX_f)), (o_squareY, .inl (cy 0, 256, .inl o_squareY_f)), (o_placedX, .inl (cy 0, 256, .inl o_placedX_f)), (o_placedY, .inl (cy 0, 256, .inl o_placedY_f))]) (va_A [(o, .inr (3, [.ref o_startX, .ref o_startY, .ref o_left, .ref o_right, .ref o_top, .ref o_bottom, .int o_count, .ref o_slopeX, .ref o_slopeY, .ref o_squareX, .ref o_squareY, .ref o_placedX, .ref o_placedY])), (o_startX, .inl (cy 0, 256, .inl o_startX_f)), (o_startY, .inl (cy 0, 256, .inl o_startY_f)), (o_left, .inl (cy 0, 256, .inl o_left_f)), (o_right, .inl (cy 0, 256, .inl o_right_f)), (o_top, .inl (cy 0, 256, .inl o_top_f)), (o_bottom, .inl (cy 0, 256, .inl o_bottom_f)), (o_slopeX, .inl (cy 0, 256, .inl o_slopeX_f)), (o_slopeY, .inl (cy 0, 256, .inl o_slopeY_f)), (o_squareX, .inl (cy 0, 256, .inl o_squareX_f)), (o_squareY, .inl (cy 0, 256, .inl o_squareY_f)), (o_placedX, .inl (cy 0, 256, .inl o_placedX_f)), (o_placedY, .inl (cy 0, 256, .inl o_placedY_f))] sz)) 0 0 (va_A [(o, .inr (3, [.ref o_startX, .ref o_startY, .ref o_left, .ref o_right, .ref o_top, .ref o_bottom, .int o_count, .ref o_slopeX, .ref o_slopeY, .ref o_squareX, .ref o_squareY, .ref o_placedX, .ref o_placedY])), (o_startX, .inl (cy 0, 256, .inl o_startX_f)), (o_startY, .inl (cy 0, 256, .inl o_startY_f)), (o_left, .inl (cy 0, 256, .inl o_left_f)), (o_right, .inl (cy 0, 256, .inl o_right_f)), (o_top, .inl (cy 0, 256, .inl o_top_f)), (o_bottom, .inl (cy 0, 256, .inl o_bottom_f)), (o_slopeX, .inl (cy 0, 256, .inl o_slopeX_f)), (o_slopeY, .inl (cy 0, 256, .inl o_slopeY_f)), (o_squareX, .inl (cy 0, 256, .inl o_squareX_f)), (o_squareY, .inl (cy 0, 256, .inl o_squareY_f)), (o_placedX, .inl (cy 0, 256, .inl o_placedX_f)), (o_placedY, .inl (cy 0, 256, .inl o_placedY_f))] sz) := by
  refine Met.ofW (cc := b_Cv_covers) (maxL := 7) (ret := (some .boolean)) (by decide) rfl ?_
  intro p e s m args below meth c s₁ B hml hv
  obtain ⟨rfl, hsz, hP, hK, hD0⟩ := hv
  have hx := B.exec
  have hb := B.bytes
  have hr := B.returns
  have hts := atoms_spec (ws := Cond.code y_Cv_covers b_Cv_covers 7 (some .boolean) :: G) B.pre
  have htsG : ∀ w ∈ G, w.before _ s = true := fun w hw => hts w (List.mem_cons_of_mem _ hw)
  have hown : s.vm.findClass "GlyphPage$Curves" = some m.cls := findClass_of_methodNamed B.named
  have hlocks := B.notSynchronized
  subst hsz
  have hD := hD0.self (sz := s.heap.size)
  generalize hAe : va_A [(o, .inr (3, [.ref o_startX, .ref o_startY, .ref o_left, .ref o_right, .ref o_top, .ref o_bottom, .int o_count, .ref o_slopeX, .ref o_slopeY, .ref o_squareX, .ref o_squareY, .ref o_placedX, .ref o_placedY])), (o_startX, .inl (cy 0, 256, .inl o_startX_f)), (o_startY, .inl (cy 0, 256, .inl o_startY_f)), (o_left, .inl (cy 0, 256, .inl o_left_f)), (o_right, .inl (cy 0, 256, .inl o_right_f)), (o_top, .inl (cy 0, 256, .inl o_top_f)), (o_bottom, .inl (cy 0, 256, .inl o_bottom_f)), (o_slopeX, .inl (cy 0, 256, .inl o_slopeX_f)), (o_slopeY, .inl (cy 0, 256, .inl o_slopeY_f)), (o_squareX, .inl (cy 0, 256, .inl o_squareX_f)), (o_squareY, .inl (cy 0, 256, .inl o_squareY_f)), (o_placedX, .inl (cy 0, 256, .inl o_placedX_f)), (o_placedY, .inl (cy 0, 256, .inl o_placedY_f))] s.heap.size = A at hD ⊢
  have hA : ∀ q : Nat, s.heap.size ≤ q → A q := fun q h => by rw [← hAe]; exact Or.inr h
  have hS : va_S A s.heap s.heap [] := va_S.rf
  have hl := lv_entry ([.ref o, .int a1, .int a2]) (n := 7) (Nat.le_of_ble_eq_true rfl)
  rw [lg_entry_eq]
  generalize (lg_sl ([.ref o, .int a1, .int a2]) ++ List.replicate (7 - (lg_sl ([.ref o, .int a1, .int a2])).length) Slot.unset).toArray = ls at hl ⊢
  have hl : lv_has ls 7 [(0, .ref o), (1, .int a1), (2, .int a2)] := hl
  have C0 : Cx p s m _ meth c A dC dI cy b_Cv_covers 7 (some .boolean) "GlyphPage$Curves" := ⟨hx, hb, hr, hlocks, hml, hown, htsG, hA, hK⟩
  unfold P_Cv_covers at h
  refine lv_aload_n hx hb d_Cv_covers_0 rfl (lv_at hl 0 rfl) ?_
  refine va_get (D := (dC, dI)) (ci := 3) (v := .ref o_startX) (C := "GlyphPage$Curves") (T := F_Cv) (N := 13) hx hb htsG iG_Cv hown hK hP 0 rfl rfl 0 (by decide) (htsG _ mW132) (fun _ h9 => h9) rfl d_Cv_covers_1 ?_
  refine lv_iload_n hx hb d_Cv_covers_4 rfl (lv_at hl 1 rfl) ?_
  obtain ⟨hin_1, h⟩ := bd_some h
  refine va_iald hx hb hK hP 1 0 rfl rfl hin_1 d_Cv_covers_5 ?_
  refine lv_iload_n hx hb d_Cv_covers_6 rfl (lv_at hl 2 rfl) ?_
  refine lv_isub hx hb d_Cv_covers_7 ?_
  refine lv_i2l hx hb d_Cv_covers_8 rfl ?_
  refine lv_lstore_n (lv' := [(3, .long (((o_startX_f a1.toNatClampNeg) - a2).toInt64)), (0, .ref o), (1, .int a1), (2, .int a2)]) hx hb d_Cv_covers_9 rfl hl (by decide) rfl (fun ls hl => ?_)
  refine lv_lload_n hx hb d_Cv_covers_10 rfl (lv_at hl 0 rfl) ?_
  refine lv_aload_n hx hb d_Cv_covers_11 rfl (lv_at hl 1 rfl) ?_
  refine va_get (D := (dC, dI)) (ci := 3) (v := .ref o_slopeX) (C := "GlyphPage$Curves") (T := F_Cv) (N := 13) hx hb htsG iG_Cv hown hK hP 0 rfl rfl 7 (by decide) (htsG _ mW146) (fun _ h9 => h9) rfl d_Cv_covers_12 ?_
  refine lv_iload_n hx hb d_Cv_covers_15 rfl (lv_at hl 2 rfl) ?_
  obtain ⟨hin_2, h⟩ := bd_some h
  refine va_iald hx hb hK hP 7 0 rfl rfl hin_2 d_Cv_covers_16 ?_
  refine lv_i2l hx hb d_Cv_covers_17 rfl ?_
  refine lv_ladd hx hb d_Cv_covers_18 ?_
  refine lv_aload_n hx hb d_Cv_covers_19 rfl (lv_at hl 1 rfl) ?_
  refine va_get (D := (dC, dI)) (ci := 3) (v := .ref o_squareX) (C := "GlyphPage$Curves") (T := F_Cv) (N := 13) hx hb htsG iG_Cv hown hK hP 0 rfl rfl 9 (by decide) (htsG _ mW148) (fun _ h9 => h9) rfl d_Cv_covers_20 ?_
  refine lv_iload_n hx hb d_Cv_covers_23 rfl (lv_at hl 2 rfl) ?_
  obtain ⟨hin_3, h⟩ := bd_some h
  refine va_iald hx hb hK hP 9 0 rfl rfl hin_3 d_Cv_covers_24 ?_
  refine lv_i2l hx hb d_Cv_covers_25 rfl ?_
  refine lv_ladd hx hb d_Cv_covers_26 ?_
  refine lv_lstore (lv' := [(5, .long (((((o_startX_f a1.toNatClampNeg) - a2).toInt64) + ((o_slopeX_f a1.toNatClampNeg).toInt64)) + ((o_squareX_f a1.toNatClampNeg).toInt64))), (3, .long (((o_startX_f a1.toNatClampNeg) - a2).toInt64)), (0, .ref o), (1, .int a1), (2, .int a2)]) hx hb d_Cv_covers_27 hl (by decide) rfl (fun ls hl => ?_)
  exact w_Cv_covers_29 C0 o o_startX o_startY o_left o_right o_top o_bottom o_slopeX o_slopeY o_squareX o_squareY o_placedX o_placedY o_count o_startX_f o_startY_f o_left_f o_right_f o_top_f o_bottom_f o_slopeX_f o_slopeY_f o_squareX_f o_squareY_f o_placedX_f o_placedY_f a1 a2 uu  a1 (((o_startX_f a1.toNatClampNeg) - a2).toInt64) (((((o_startX_f a1.toNatClampNeg) - a2).toInt64) + ((o_slopeX_f a1.toNatClampNeg).toInt64)) + ((o_squareX_f a1.toNatClampNeg).toInt64)) h hP hD hS (lv_sub hl [2, 3, 1, 0] rfl)
def P_Cv_crossings_52 (o_startY_f : Nat → Int32) (o_slopeY_f : Nat → Int32) (o_squareY_f : Nat → Int32)  (x1 : Int32) (x3 : Int64) (x5 : Int64) (k0 : Int32) (k1 : Int32) : Option (Int32) :=
  if k1 = k0 then (bd x1 256 <| bd x1 256 <| (P_Cv_comesBack ((o_squareY_f x1.toNatClampNeg).toInt64) ((o_slopeY_f x1.toNatClampNeg).toInt64) x3).bind fun r_4 => if r_4 = 0 then (some (0 : Int32)) else (some (3 : Int32))) else (if (lg_cmp x5 (0 : Int64)) ≤ 0 then (some (2 : Int32)) else (some (1 : Int32)))
set_option maxHeartbeats 4000000 in
set_option maxRecDepth 100000 in
theorem w_Cv_crossings_52 (C0 : Cx p s m args meth c A dC dI cy b_Cv_crossings 7 (some .int) "GlyphPage$Curves") (o : Nat) (o_startX : Nat) (o_startY : Nat) (o_left : Nat) (o_right : Nat) (o_top : Nat) (o_bottom : Nat) (o_slopeX : Nat) (o_slopeY : Nat) (o_squareX : Nat) (o_squareY : Nat) (o_placedX : Nat) (o_placedY : Nat) (o_count : Int32) (o_startX_f : Nat → Int32) (o_startY_f : Nat → Int32) (o_left_f : Nat → Int32) (o_right_f : Nat → Int32) (o_top_f : Nat → Int32) (o_bottom_f : Nat → Int32) (o_slopeX_f : Nat → Int32) (o_slopeY_f : Nat → Int32) (o_squareX_f : Nat → Int32) (o_squareY_f : Nat → Int32) (o_placedX_f : Nat → Int32) (o_placedY_f : Nat → Int32) (a1 : Int32) (a2 : Int32) (uu : Int32)  (x1 : Int32) (x3 : Int64) (x5 : Int64) (k0 : Int32) (k1 : Int32) {H : Heap} {locs : List Loc} {ls : Array Slot} (h : P_Cv_crossings_52 o_startY_f o_slopeY_f o_squareY_f x1 x3 x5 k0 k1 = some uu) : va_P (dC, dI) classes [(o, .inr (3, [.ref o_startX, .ref o_startY, .ref o_left, .ref o_right, .ref o_top, .ref o_bottom, .int o_count, .ref o_slopeX, .ref o_slopeY, .ref o_squareX, .ref o_squareY, .ref o_placedX, .ref o_placedY])), (o_startX, .inl (cy 0, 256, .inl o_startX_f)), (o_startY, .inl (cy 0, 256, .inl o_startY_f)), (o_left, .inl (cy 0, 256, .inl o_left_f)), (o_right, .inl (cy 0, 256, .inl o_right_f)), (o_top, .inl (cy 0, 256, .inl o_top_f)), (o_bottom, .inl (cy 0, 256, .inl o_bottom_f)), (o_slopeX, .inl (cy 0, 256, .inl o_slopeX_f)), (o_slopeY, .inl (cy 0, 256, .inl o_slopeY_f)), (o_squareX, .inl (cy 0, 256, .inl o_squareX_f)), (o_squareY, .inl (cy 0, 256, .inl o_squareY_f)), (o_placedX, .inl (cy 0, 256, .inl o_placedX_f)), (o_placedY, .inl (cy 0, 256, .inl o_placedY_f))] H → va_D A [(o, .inr (3, [.ref o_startX, .ref o_startY, .ref o_left, .ref o_right, .ref o_top, .ref o_bottom, .int o_count, .ref o_slopeX, .ref o_slopeY, .ref o_squareX, .ref o_squareY, .ref o_placedX, .ref o_placedY])), (o_startX, .inl (cy 0, 256, .inl o_startX_f)), (o_startY, .inl (cy 0, 256, .inl o_startY_f)), (o_left, .inl (cy 0, 256, .inl o_left_f)), (o_right, .inl (cy 0, 256, .inl o_right_f)), (o_top, .inl (cy 0, 256, .inl o_top_f)), (o_bottom, .inl (cy 0, 256, .inl o_bottom_f)), (o_slopeX, .inl (cy 0, 256, .inl o_slopeX_f)), (o_slopeY, .inl (cy 0, 256, .inl o_slopeY_f)), (o_squareX, .inl (cy 0, 256, .inl o_squareX_f)), (o_squareY, .inl (cy 0, 256, .inl o_squareY_f)), (o_placedX, .inl (cy 0, 256, .inl o_placedX_f)), (o_placedY, .inl (cy 0, 256, .inl o_placedY_f))] → va_S A s.heap H locs → lv_has ls 7 [(0, .ref o), (1, .int x1), (3, .long x3), (5, .long x5)] → W p l e ({ frames := 1, cells := 0, slots := 0, locals := 26 } : Room) s m args below meth c H locs 0 0 (MQ below (va_Qi (fun r (_ : Unit) => r = uu) (fun _ t => va_P (dC, dI) classes [(o, .inr (3, [.ref o_startX, .ref o_startY, .ref o_left, .ref o_right, .ref o_top, .ref o_bottom, .int o_count, .ref o_slopeX, .ref o_slopeY, .ref o_squareX, .ref o_squareY, .ref o_placedX, .ref o_placedY])), (o_startX, .inl (cy 0, 256, .inl o_startX_f)), (o_startY, .inl (cy 0, 256, .inl o_startY_f)), (o_left, .inl (cy 0, 256, .inl o_left_f)), (o_right, .inl (cy 0, 256, .inl o_right_f)), (o_top, .inl (cy 0, 256, .inl o_top_f)), (o_bottom, .inl (cy 0, 256, .inl o_bottom_f)), (o_slopeX, .inl (cy 0, 256, .inl o_slopeX_f)), (o_slopeY, .inl (cy 0, 256, .inl o_slopeY_f)), (o_squareX, .inl (cy 0, 256, .inl o_squareX_f)), (o_squareY, .inl (cy 0, 256, .inl o_squareY_f)), (o_placedX, .inl (cy 0, 256, .inl o_placedX_f)), (o_placedY, .inl (cy 0, 256, .inl o_placedY_f))] t.heap ∧ va_K (dC, dI) classes (TY cy) t ∧ va_D A [(o, .inr (3, [.ref o_startX, .ref o_startY, .ref o_left, .ref o_right, .ref o_top, .ref o_bottom, .int o_count, .ref o_slopeX, .ref o_slopeY, .ref o_squareX, .ref o_squareY, .ref o_placedX, .ref o_placedY])), (o_startX, .inl (cy 0, 256, .inl o_startX_f)), (o_startY, .inl (cy 0, 256, .inl o_startY_f)), (o_left, .inl (cy 0, 256, .inl o_left_f)), (o_right, .inl (cy 0, 256, .inl o_right_f)), (o_top, .inl (cy 0, 256, .inl o_top_f)), (o_bottom, .inl (cy 0, 256, .inl o_bottom_f)), (o_slopeX, .inl (cy 0, 256, .inl o_slopeX_f)), (o_slopeY, .inl (cy 0, 256, .inl o_slopeY_f)), (o_squareX, .inl (cy 0, 256, .inl o_squareX_f)), (o_squareY, .inl (cy 0, 256, .inl o_squareY_f)), (o_placedX, .inl (cy 0, 256, .inl o_placedX_f)), (o_placedY, .inl (cy 0, 256, .inl o_placedY_f))]) A) args s 0 0 A) (F0 m 52 ls [.int k0, .int k1]) := by
  intro hP hD hS hl
  obtain ⟨hx, hb, hr, hlocks, hml, hown, htsG, hA, hK⟩ := id C0
  unfold P_Cv_crossings_52 at h
  refine lv_icmp_eq (tgt := 68) hx hb d_Cv_crossings_52 (by decide) (fun c_1 => ?_) (fun c_1 => ?_)
  · replace h := (if_pos c_1).symm.trans h
    refine lv_aload_n hx hb d_Cv_crossings_68 rfl (lv_at hl 0 rfl) ?_
    refine va_get (D := (dC, dI)) (ci := 3) (v := .ref o_squareY) (C := "GlyphPage$Curves") (T := F_Cv) (N := 13) hx hb htsG iG_Cv hown hK hP 0 rfl rfl 10 (by decide) (htsG _ mW149) (fun _ h9 => h9) rfl d_Cv_crossings_69 ?_
    refine lv_iload_n hx hb d_Cv_crossings_72 rfl (lv_at hl 1 rfl) ?_
    obtain ⟨hin_2, h⟩ := bd_some h
    refine va_iald hx hb hK hP 10 0 rfl rfl hin_2 d_Cv_crossings_73 ?_
    refine lv_i2l hx hb d_Cv_crossings_74 rfl ?_
    refine lv_aload_n hx hb d_Cv_crossings_75 rfl (lv_at hl 0 rfl) ?_
    refine va_get (D := (dC, dI)) (ci := 3) (v := .ref o_slopeY) (C := "GlyphPage$Curves") (T := F_Cv) (N := 13) hx hb htsG iG_Cv hown hK hP 0 rfl rfl 8 (by decide) (htsG _ mW147) (fun _ h9 => h9) rfl d_Cv_crossings_76 ?_
    refine lv_iload_n hx hb d_Cv_crossings_79 rfl (lv_at hl 1 rfl) ?_
    obtain ⟨hin_3, h⟩ := bd_some h
    refine va_iald hx hb hK hP 8 0 rfl rfl hin_3 d_Cv_crossings_80 ?_
    refine lv_i2l hx hb d_Cv_crossings_81 rfl ?_
    refine lv_lload_n hx hb d_Cv_crossings_82 rfl (lv_at hl 2 rfl) ?_
    obtain ⟨r_4, hq, h⟩ := Option.bind_eq_some_iff.mp h
    try dsimp only at h
    have hPc := hP.sub (ws' := []) [] rfl
    have hDc := hD.sub (ws' := []) [] (by decide) rfl
    have hFc := va_free (wc := []) hD hS hA [] rfl
    refine va_calli (va_runS (As := [.long ((o_squareY_f x1.toNatClampNeg).toInt64), .long ((o_slopeY_f x1.toNatClampNeg).toInt64), .long x3]) (rest := []) ⟨hx, hb, hml, hown, htsG⟩ (c_Cv_comesBack l dC dI cy H.size ((o_squareY_f x1.toNatClampNeg).toInt64) ((o_slopeY_f x1.toNatClampNeg).toInt64) x3 r_4 hq) (va_cwS 3 htsG (gS mW615 mW616 mW5 mW617) rfl rfl rfl (by decide +kernel) ⟨Nat.le_of_ble_eq_true rfl, Nat.le_of_ble_eq_true rfl⟩) ⟨fun a U g mk q => by obtain ⟨q0, q1, qP, qK, qD⟩ := q; exact ⟨q0, q1, qP, va_K.moved (u := U) (U := U.calling g mk a) (Vm.Alike.refl U.vm) qK, qD⟩, fun U hU hW => ⟨rfl, by rw [hU], by rw [hU]; exact hPc, va_K.moved hW.alike hK, hDc.weaken (fun _ _ _ _ => trivial)⟩⟩ rfl rfl hl.1 rfl (lv_room (Nat.le_of_ble_eq_true rfl)) d_Cv_crossings_83 ⟨Nat.le_of_ble_eq_true rfl, Nat.le_of_ble_eq_true rfl⟩) hS (fun q _ h => hFc q h) hFc (fun rr u t H1 locs ht hvm hw hB hz1 hk1 hS => ?_)
    obtain ⟨hP1, hK1, hD1⟩ := hB
    rw [ht] at hP1
    replace hw : r_4 = rr := hw.symm
    subst hw
    obtain ⟨hP, hD⟩ := va_join (wr := [(o, .inr (3, [.ref o_startX, .ref o_startY, .ref o_left, .ref o_right, .ref o_top, .ref o_bottom, .int o_count, .ref o_slopeX, .ref o_slopeY, .ref o_squareX, .ref o_squareY, .ref o_placedX, .ref o_placedY])), (o_startX, .inl (cy 0, 256, .inl o_startX_f)), (o_startY, .inl (cy 0, 256, .inl o_startY_f)), (o_left, .inl (cy 0, 256, .inl o_left_f)), (o_right, .inl (cy 0, 256, .inl o_right_f)), (o_top, .inl (cy 0, 256, .inl o_top_f)), (o_bottom, .inl (cy 0, 256, .inl o_bottom_f)), (o_slopeX, .inl (cy 0, 256, .inl o_slopeX_f)), (o_slopeY, .inl (cy 0, 256, .inl o_slopeY_f)), (o_squareX, .inl (cy 0, 256, .inl o_squareX_f)), (o_squareY, .inl (cy 0, 256, .inl o_squareY_f)), (o_placedX, .inl (cy 0, 256, .inl o_placedX_f)), (o_placedY, .inl (cy 0, 256, .inl o_placedY_f))]) (w1 := []) hP hD [] [0, 1, 2, 3, 4, 5, 6, 7, 8, 9, 10, 11, 12] rfl rfl (by decide) (by decide) hk1 hFc hP1 hD1
    generalize H1 = H at hP hS ⊢
    have hP := hP.sub (ws' := [(o, .inr (3, [.ref o_startX, .ref o_startY, .ref o_left, .ref o_right, .ref o_top, .ref o_bottom, .int o_count, .ref o_slopeX, .ref o_slopeY, .ref o_squareX, .ref o_squareY, .ref o_placedX, .ref o_placedY])), (o_startX, .inl (cy 0, 256, .inl o_startX_f)), (o_startY, .inl (cy 0, 256, .inl o_startY_f)), (o_left, .inl (cy 0, 256, .inl o_left_f)), (o_right, .inl (cy 0, 256, .inl o_right_f)), (o_top, .inl (cy 0, 256, .inl o_top_f)), (o_bottom, .inl (cy 0, 256, .inl o_bottom_f)), (o_slopeX, .inl (cy 0, 256, .inl o_slopeX_f)), (o_slopeY, .inl (cy 0, 256, .inl o_slopeY_f)), (o_squareX, .inl (cy 0, 256, .inl o_squareX_f)), (o_squareY, .inl (cy 0, 256, .inl o_squareY_f)), (o_placedX, .inl (cy 0, 256, .inl o_placedX_f)), (o_placedY, .inl (cy 0, 256, .inl o_placedY_f))]) [0, 1, 2, 3, 4, 5, 6, 7, 8, 9, 10, 11, 12] rfl
    have hD := hD.sub (ws' := [(o, .inr (3, [.ref o_startX, .ref o_startY, .ref o_left, .ref o_right, .ref o_top, .ref o_bottom, .int o_count, .ref o_slopeX, .ref o_slopeY, .ref o_squareX, .ref o_squareY, .ref o_placedX, .ref o_placedY])), (o_startX, .inl (cy 0, 256, .inl o_startX_f)), (o_startY, .inl (cy 0, 256, .inl o_startY_f)), (o_left, .inl (cy 0, 256, .inl o_left_f)), (o_right, .inl (cy 0, 256, .inl o_right_f)), (o_top, .inl (cy 0, 256, .inl o_top_f)), (o_bottom, .inl (cy 0, 256, .inl o_bottom_f)), (o_slopeX, .inl (cy 0, 256, .inl o_slopeX_f)), (o_slopeY, .inl (cy 0, 256, .inl o_slopeY_f)), (o_squareX, .inl (cy 0, 256, .inl o_squareX_f)), (o_squareY, .inl (cy 0, 256, .inl o_squareY_f)), (o_placedX, .inl (cy 0, 256, .inl o_placedX_f)), (o_placedY, .inl (cy 0, 256, .inl o_placedY_f))]) [0, 1, 2, 3, 4, 5, 6, 7, 8, 9, 10, 11, 12] (by decide) rfl
    refine W.widen (k := 0) (n := 0) (by decide) (by decide) ?_
    refine lv_if_eq (tgt := 93) hx hb d_Cv_crossings_86 (by decide) (fun c_5 => ?_) (fun c_5 => ?_)
    · replace h := (if_pos c_5).symm.trans h
      refine lv_iconst (v := (0 : Int32)) hx hb d_Cv_crossings_93 (by decide) ?_
      cases h
      exact W.iret hx hb hr (fun t ht hW => ⟨⟨_, (), rfl, rfl, by rw [ht]; exact hP, va_K.moved hW.alike hK, hD⟩, hS.F ht⟩) hS.2.2 d_Cv_crossings_94 hlocks
    · replace h := (if_neg c_5).symm.trans h
      refine lv_iconst (v := (3 : Int32)) hx hb d_Cv_crossings_89 (by decide) ?_
      refine lv_goto (tgt := 94) hx hb d_Cv_crossings_90 (by decide) ?_
      cases h
      exact W.iret hx hb hr (fun t ht hW => ⟨⟨_, (), rfl, rfl, by rw [ht]; exact hP, va_K.moved hW.alike hK, hD⟩, hS.F ht⟩) hS.2.2 d_Cv_crossings_94 hlocks
  · replace h := (if_neg c_1).symm.trans h
    refine lv_lload hx hb d_Cv_crossings_55 (lv_at hl 3 rfl) ?_
    refine lv_lconst (v := (0 : Int64)) hx hb d_Cv_crossings_57 (by decide) ?_
    refine W.lcmp hx hb d_Cv_crossings_58 ?_
    refine lv_if_le (tgt := 66) hx hb d_Cv_crossings_59 (by decide) (fun c_6 => ?_) (fun c_6 => ?_)
    · replace h := (if_pos c_6).symm.trans h
      refine lv_iconst (v := (2 : Int32)) hx hb d_Cv_crossings_66 (by decide) ?_
      cases h
      exact W.iret hx hb hr (fun t ht hW => ⟨⟨_, (), rfl, rfl, by rw [ht]; exact hP, va_K.moved hW.alike hK, hD⟩, hS.F ht⟩) hS.2.2 d_Cv_crossings_67 hlocks
    · replace h := (if_neg c_6).symm.trans h
      refine lv_iconst (v := (1 : Int32)) hx hb d_Cv_crossings_62 (by decide) ?_
      refine lv_goto (tgt := 67) hx hb d_Cv_crossings_63 (by decide) ?_
      cases h
      exact W.iret hx hb hr (fun t ht hW => ⟨⟨_, (), rfl, rfl, by rw [ht]; exact hP, va_K.moved hW.alike hK, hD⟩, hS.F ht⟩) hS.2.2 d_Cv_crossings_67 hlocks
def P_Cv_crossings_40 (o_startY_f : Nat → Int32) (o_slopeY_f : Nat → Int32) (o_squareY_f : Nat → Int32)  (x1 : Int32) (x3 : Int64) (x5 : Int64) (k0 : Int32) : Option (Int32) :=
  if (lg_cmp x5 (0 : Int64)) ≤ 0 then (P_Cv_crossings_52 o_startY_f o_slopeY_f o_squareY_f x1 x3 x5 (0 : Int32) k0) else (P_Cv_crossings_52 o_startY_f o_slopeY_f o_squareY_f x1 x3 x5 (1 : Int32) k0)
set_option maxHeartbeats 4000000 in
set_option maxRecDepth 100000 in
theorem w_Cv_crossings_40 (C0 : Cx p s m args meth c A dC dI cy b_Cv_crossings 7 (some .int) "GlyphPage$Curves") (o : Nat) (o_startX : Nat) (o_startY : Nat) (o_left : Nat) (o_right : Nat) (o_top : Nat) (o_bottom : Nat) (o_slopeX : Nat) (o_slopeY : Nat) (o_squareX : Nat) (o_squareY : Nat) (o_placedX : Nat) (o_placedY : Nat) (o_count : Int32) (o_startX_f : Nat → Int32) (o_startY_f : Nat → Int32) (o_left_f : Nat → Int32) (o_right_f : Nat → Int32) (o_top_f : Nat → Int32) (o_bottom_f : Nat → Int32) (o_slopeX_f : Nat → Int32) (o_slopeY_f : Nat → Int32) (o_squareX_f : Nat → Int32) (o_squareY_f : Nat → Int32) (o_placedX_f : Nat → Int32) (o_placedY_f : Nat → Int32) (a1 : Int32) (a2 : Int32) (uu : Int32)  (x1 : Int32) (x3 : Int64) (x5 : Int64) (k0 : Int32) {H : Heap} {locs : List Loc} {ls : Array Slot} (h : P_Cv_crossings_40 o_startY_f o_slopeY_f o_squareY_f x1 x3 x5 k0 = some uu) : va_P (dC, dI) classes [(o, .inr (3, [.ref o_startX, .ref o_startY, .ref o_left, .ref o_right, .ref o_top, .ref o_bottom, .int o_count, .ref o_slopeX, .ref o_slopeY, .ref o_squareX, .ref o_squareY, .ref o_placedX, .ref o_placedY])), (o_startX, .inl (cy 0, 256, .inl o_startX_f)), (o_startY, .inl (cy 0, 256, .inl o_startY_f)), (o_left, .inl (cy 0, 256, .inl o_left_f)), (o_right, .inl (cy 0, 256, .inl o_right_f)), (o_top, .inl (cy 0, 256, .inl o_top_f)), (o_bottom, .inl (cy 0, 256, .inl o_bottom_f)), (o_slopeX, .inl (cy 0, 256, .inl o_slopeX_f)), (o_slopeY, .inl (cy 0, 256, .inl o_slopeY_f)), (o_squareX, .inl (cy 0, 256, .inl o_squareX_f)), (o_squareY, .inl (cy 0, 256, .inl o_squareY_f)), (o_placedX, .inl (cy 0, 256, .inl o_placedX_f)), (o_placedY, .inl (cy 0, 256, .inl o_placedY_f))] H → va_D A [(o, .inr (3, [.ref o_startX, .ref o_startY, .ref o_left, .ref o_right, .ref o_top, .ref o_bottom, .int o_count, .ref o_slopeX, .ref o_slopeY, .ref o_squareX, .ref o_squareY, .ref o_placedX, .ref o_placedY])), (o_startX, .inl (cy 0, 256, .inl o_startX_f)), (o_startY, .inl (cy 0, 256, .inl o_startY_f)), (o_left, .inl (cy 0, 256, .inl o_left_f)), (o_right, .inl (cy 0, 256, .inl o_right_f)), (o_top, .inl (cy 0, 256, .inl o_top_f)), (o_bottom, .inl (cy 0, 256, .inl o_bottom_f)), (o_slopeX, .inl (cy 0, 256, .inl o_slopeX_f)), (o_slopeY, .inl (cy 0, 256, .inl o_slopeY_f)), (o_squareX, .inl (cy 0, 256, .inl o_squareX_f)), (o_squareY, .inl (cy 0, 256, .inl o_squareY_f)), (o_placedX, .inl (cy 0, 256, .inl o_placedX_f)), (o_placedY, .inl (cy 0, 256, .inl o_placedY_f))] → va_S A s.heap H locs → lv_has ls 7 [(0, .ref o), (1, .int x1), (3, .long x3), (5, .long x5)] → W p l e ({ frames := 1, cells := 0, slots := 0, locals := 26 } : Room) s m args below meth c H locs 0 0 (MQ below (va_Qi (fun r (_ : Unit) => r = uu) (fun _ t => va_P (dC, dI) classes [(o, .inr (3, [.ref o_startX, .ref o_startY, .ref o_left, .ref o_right, .ref o_top, .ref o_bottom, .int o_count, .ref o_slopeX, .ref o_slopeY, .ref o_squareX, .ref o_squareY, .ref o_placedX, .ref o_placedY])), (o_startX, .inl (cy 0, 256, .inl o_startX_f)), (o_startY, .inl (cy 0, 256, .inl o_startY_f)), (o_left, .inl (cy 0, 256, .inl o_left_f)), (o_right, .inl (cy 0, 256, .inl o_right_f)), (o_top, .inl (cy 0, 256, .inl o_top_f)), (o_bottom, .inl (cy 0, 256, .inl o_bottom_f)), (o_slopeX, .inl (cy 0, 256, .inl o_slopeX_f)), (o_slopeY, .inl (cy 0, 256, .inl o_slopeY_f)), (o_squareX, .inl (cy 0, 256, .inl o_squareX_f)), (o_squareY, .inl (cy 0, 256, .inl o_squareY_f)), (o_placedX, .inl (cy 0, 256, .inl o_placedX_f)), (o_placedY, .inl (cy 0, 256, .inl o_placedY_f))] t.heap ∧ va_K (dC, dI) classes (TY cy) t ∧ va_D A [(o, .inr (3, [.ref o_startX, .ref o_startY, .ref o_left, .ref o_right, .ref o_top, .ref o_bottom, .int o_count, .ref o_slopeX, .ref o_slopeY, .ref o_squareX, .ref o_squareY, .ref o_placedX, .ref o_placedY])), (o_startX, .inl (cy 0, 256, .inl o_startX_f)), (o_startY, .inl (cy 0, 256, .inl o_startY_f)), (o_left, .inl (cy 0, 256, .inl o_left_f)), (o_right, .inl (cy 0, 256, .inl o_right_f)), (o_top, .inl (cy 0, 256, .inl o_top_f)), (o_bottom, .inl (cy 0, 256, .inl o_bottom_f)), (o_slopeX, .inl (cy 0, 256, .inl o_slopeX_f)), (o_slopeY, .inl (cy 0, 256, .inl o_slopeY_f)), (o_squareX, .inl (cy 0, 256, .inl o_squareX_f)), (o_squareY, .inl (cy 0, 256, .inl o_squareY_f)), (o_placedX, .inl (cy 0, 256, .inl o_placedX_f)), (o_placedY, .inl (cy 0, 256, .inl o_placedY_f))]) A) args s 0 0 A) (F0 m 40 ls [.int k0]) := by
  intro hP hD hS hl
  obtain ⟨hx, hb, hr, hlocks, hml, hown, htsG, hA, hK⟩ := id C0
  unfold P_Cv_crossings_40 at h
  refine lv_lload hx hb d_Cv_crossings_40 (lv_at hl 3 rfl) ?_
  refine lv_lconst (v := (0 : Int64)) hx hb d_Cv_crossings_42 (by decide) ?_
  refine W.lcmp hx hb d_Cv_crossings_43 ?_
  refine lv_if_le (tgt := 51) hx hb d_Cv_crossings_44 (by decide) (fun c_1 => ?_) (fun c_1 => ?_)
  · replace h := (if_pos c_1).symm.trans h
    refine lv_iconst (v := (0 : Int32)) hx hb d_Cv_crossings_51 (by decide) ?_
    exact w_Cv_crossings_52 C0 o o_startX o_startY o_left o_right o_top o_bottom o_slopeX o_slopeY o_squareX o_squareY o_placedX o_placedY o_count o_startX_f o_startY_f o_left_f o_right_f o_top_f o_bottom_f o_slopeX_f o_slopeY_f o_squareX_f o_squareY_f o_placedX_f o_placedY_f a1 a2 uu  x1 x3 x5 (0 : Int32) k0 h hP hD hS (lv_sub hl [0, 1, 2, 3] rfl)
  · replace h := (if_neg c_1).symm.trans h
    refine lv_iconst (v := (1 : Int32)) hx hb d_Cv_crossings_47 (by decide) ?_
    refine lv_goto (tgt := 52) hx hb d_Cv_crossings_48 (by decide) ?_
    exact w_Cv_crossings_52 C0 o o_startX o_startY o_left o_right o_top o_bottom o_slopeX o_slopeY o_squareX o_squareY o_placedX o_placedY o_count o_startX_f o_startY_f o_left_f o_right_f o_top_f o_bottom_f o_slopeX_f o_slopeY_f o_squareX_f o_squareY_f o_placedX_f o_placedY_f a1 a2 uu  x1 x3 x5 (1 : Int32) k0 h hP hD hS (lv_sub hl [0, 1, 2, 3] rfl)
def P_Cv_crossings_29 (o_startY_f : Nat → Int32) (o_slopeY_f : Nat → Int32) (o_squareY_f : Nat → Int32)  (x1 : Int32) (x3 : Int64) (x5 : Int64) : Option (Int32) :=
  if (lg_cmp x3 (0 : Int64)) ≤ 0 then (P_Cv_crossings_40 o_startY_f o_slopeY_f o_squareY_f x1 x3 x5 (0 : Int32)) else (P_Cv_crossings_40 o_startY_f o_slopeY_f o_squareY_f x1 x3 x5 (1 : Int32))
set_option maxHeartbeats 4000000 in
set_option maxRecDepth 100000 in
theorem w_Cv_crossings_29 (C0 : Cx p s m args meth c A dC dI cy b_Cv_crossings 7 (some .int) "GlyphPage$Curves") (o : Nat) (o_startX : Nat) (o_startY : Nat) (o_left : Nat) (o_right : Nat) (o_top : Nat) (o_bottom : Nat) (o_slopeX : Nat) (o_slopeY : Nat) (o_squareX : Nat) (o_squareY : Nat) (o_placedX : Nat) (o_placedY : Nat) (o_count : Int32) (o_startX_f : Nat → Int32) (o_startY_f : Nat → Int32) (o_left_f : Nat → Int32) (o_right_f : Nat → Int32) (o_top_f : Nat → Int32) (o_bottom_f : Nat → Int32) (o_slopeX_f : Nat → Int32) (o_slopeY_f : Nat → Int32) (o_squareX_f : Nat → Int32) (o_squareY_f : Nat → Int32) (o_placedX_f : Nat → Int32) (o_placedY_f : Nat → Int32) (a1 : Int32) (a2 : Int32) (uu : Int32)  (x1 : Int32) (x3 : Int64) (x5 : Int64) {H : Heap} {locs : List Loc} {ls : Array Slot} (h : P_Cv_crossings_29 o_startY_f o_slopeY_f o_squareY_f x1 x3 x5 = some uu) : va_P (dC, dI) classes [(o, .inr (3, [.ref o_startX, .ref o_startY, .ref o_left, .ref o_right, .ref o_top, .ref o_bottom, .int o_count, .ref o_slopeX, .ref o_slopeY, .ref o_squareX, .ref o_squareY, .ref o_placedX, .ref o_placedY])), (o_startX, .inl (cy 0, 256, .inl o_startX_f)), (o_startY, .inl (cy 0, 256, .inl o_startY_f)), (o_left, .inl (cy 0, 256, .inl o_left_f)), (o_right, .inl (cy 0, 256, .inl o_right_f)), (o_top, .inl (cy 0, 256, .inl o_top_f)), (o_bottom, .inl (cy 0, 256, .inl o_bottom_f)), (o_slopeX, .inl (cy 0, 256, .inl o_slopeX_f)), (o_slopeY, .inl (cy 0, 256, .inl o_slopeY_f)), (o_squareX, .inl (cy 0, 256, .inl o_squareX_f)), (o_squareY, .inl (cy 0, 256, .inl o_squareY_f)), (o_placedX, .inl (cy 0, 256, .inl o_placedX_f)), (o_placedY, .inl (cy 0, 256, .inl o_placedY_f))] H → va_D A [(o, .inr (3, [.ref o_startX, .ref o_startY, .ref o_left, .ref o_right, .ref o_top, .ref o_bottom, .int o_count, .ref o_slopeX, .ref o_slopeY, .ref o_squareX, .ref o_squareY, .ref o_placedX, .ref o_placedY])), (o_startX, .inl (cy 0, 256, .inl o_startX_f)), (o_startY, .inl (cy 0, 256, .inl o_startY_f)), (o_left, .inl (cy 0, 256, .inl o_left_f)), (o_right, .inl (cy 0, 256, .inl o_right_f)), (o_top, .inl (cy 0, 256, .inl o_top_f)), (o_bottom, .inl (cy 0, 256, .inl o_bottom_f)), (o_slopeX, .inl (cy 0, 256, .inl o_slopeX_f)), (o_slopeY, .inl (cy 0, 256, .inl o_slopeY_f)), (o_squareX, .inl (cy 0, 256, .inl o_squareX_f)), (o_squareY, .inl (cy 0, 256, .inl o_squareY_f)), (o_placedX, .inl (cy 0, 256, .inl o_placedX_f)), (o_placedY, .inl (cy 0, 256, .inl o_placedY_f))] → va_S A s.heap H locs → lv_has ls 7 [(0, .ref o), (1, .int x1), (3, .long x3), (5, .long x5)] → W p l e ({ frames := 1, cells := 0, slots := 0, locals := 26 } : Room) s m args below meth c H locs 0 0 (MQ below (va_Qi (fun r (_ : Unit) => r = uu) (fun _ t => va_P (dC, dI) classes [(o, .inr (3, [.ref o_startX, .ref o_startY, .ref o_left, .ref o_right, .ref o_top, .ref o_bottom, .int o_count, .ref o_slopeX, .ref o_slopeY, .ref o_squareX, .ref o_squareY, .ref o_placedX, .ref o_placedY])), (o_startX, .inl (cy 0, 256, .inl o_startX_f)), (o_startY, .inl (cy 0, 256, .inl o_startY_f)), (o_left, .inl (cy 0, 256, .inl o_left_f)), (o_right, .inl (cy 0, 256, .inl o_right_f)), (o_top, .inl (cy 0, 256, .inl o_top_f)), (o_bottom, .inl (cy 0, 256, .inl o_bottom_f)), (o_slopeX, .inl (cy 0, 256, .inl o_slopeX_f)), (o_slopeY, .inl (cy 0, 256, .inl o_slopeY_f)), (o_squareX, .inl (cy 0, 256, .inl o_squareX_f)), (o_squareY, .inl (cy 0, 256, .inl o_squareY_f)), (o_placedX, .inl (cy 0, 256, .inl o_placedX_f)), (o_placedY, .inl (cy 0, 256, .inl o_placedY_f))] t.heap ∧ va_K (dC, dI) classes (TY cy) t ∧ va_D A [(o, .inr (3, [.ref o_startX, .ref o_startY, .ref o_left, .ref o_right, .ref o_top, .ref o_bottom, .int o_count, .ref o_slopeX, .ref o_slopeY, .ref o_squareX, .ref o_squareY, .ref o_placedX, .ref o_placedY])), (o_startX, .inl (cy 0, 256, .inl o_startX_f)), (o_startY, .inl (cy 0, 256, .inl o_startY_f)), (o_left, .inl (cy 0, 256, .inl o_left_f)), (o_right, .inl (cy 0, 256, .inl o_right_f)), (o_top, .inl (cy 0, 256, .inl o_top_f)), (o_bottom, .inl (cy 0, 256, .inl o_bottom_f)), (o_slopeX, .inl (cy 0, 256, .inl o_slopeX_f)), (o_slopeY, .inl (cy 0, 256, .inl o_slopeY_f)), (o_squareX, .inl (cy 0, 256, .inl o_squareX_f)), (o_squareY, .inl (cy 0, 256, .inl o_squareY_f)), (o_placedX, .inl (cy 0, 256, .inl o_placedX_f)), (o_placedY, .inl (cy 0, 256, .inl o_placedY_f))]) A) args s 0 0 A) (F0 m 29 ls []) := by
  intro hP hD hS hl
  obtain ⟨hx, hb, hr, hlocks, hml, hown, htsG, hA, hK⟩ := id C0
  unfold P_Cv_crossings_29 at h
  refine lv_lload_n hx hb d_Cv_crossings_29 rfl (lv_at hl 2 rfl) ?_
  refine lv_lconst (v := (0 : Int64)) hx hb d_Cv_crossings_30 (by decide) ?_
  refine W.lcmp hx hb d_Cv_crossings_31 ?_
  refine lv_if_le (tgt := 39) hx hb d_Cv_crossings_32 (by decide) (fun c_1 => ?_) (fun c_1 => ?_)
  · replace h := (if_pos c_1).symm.trans h
    refine lv_iconst (v := (0 : Int32)) hx hb d_Cv_crossings_39 (by decide) ?_
    exact w_Cv_crossings_40 C0 o o_startX o_startY o_left o_right o_top o_bottom o_slopeX o_slopeY o_squareX o_squareY o_placedX o_placedY o_count o_startX_f o_startY_f o_left_f o_right_f o_top_f o_bottom_f o_slopeX_f o_slopeY_f o_squareX_f o_squareY_f o_placedX_f o_placedY_f a1 a2 uu  x1 x3 x5 (0 : Int32) h hP hD hS (lv_sub hl [0, 1, 2, 3] rfl)
  · replace h := (if_neg c_1).symm.trans h
    refine lv_iconst (v := (1 : Int32)) hx hb d_Cv_crossings_35 (by decide) ?_
    refine lv_goto (tgt := 40) hx hb d_Cv_crossings_36 (by decide) ?_
    exact w_Cv_crossings_40 C0 o o_startX o_startY o_left o_right o_top o_bottom o_slopeX o_slopeY o_squareX o_squareY o_placedX o_placedY o_count o_startX_f o_startY_f o_left_f o_right_f o_top_f o_bottom_f o_slopeX_f o_slopeY_f o_squareX_f o_squareY_f o_placedX_f o_placedY_f a1 a2 uu  x1 x3 x5 (1 : Int32) h hP hD hS (lv_sub hl [0, 1, 2, 3] rfl)
def P_Cv_crossings (o_startY_f : Nat → Int32) (o_slopeY_f : Nat → Int32) (o_squareY_f : Nat → Int32) (a1 : Int32) (a2 : Int32) : Option (Int32) :=
  bd a1 256 <| bd a1 256 <| bd a1 256 <| P_Cv_crossings_29 o_startY_f o_slopeY_f o_squareY_f a1 (((o_startY_f a1.toNatClampNeg) - a2).toInt64) (((((o_startY_f a1.toNatClampNeg) - a2).toInt64) + ((o_slopeY_f a1.toNatClampNeg).toInt64)) + ((o_squareY_f a1.toNatClampNeg).toInt64))
set_option maxHeartbeats 4000000 in
set_option maxRecDepth 100000 in
theorem c_Cv_crossings (l : Launch) (dC : Nat → ClassId) (dI : Nat → Nat → Nat) (cy : Nat → ClassId) (sz : Nat) (o : Nat) (o_startX : Nat) (o_startY : Nat) (o_left : Nat) (o_right : Nat) (o_top : Nat) (o_bottom : Nat) (o_slopeX : Nat) (o_slopeY : Nat) (o_squareX : Nat) (o_squareY : Nat) (o_placedX : Nat) (o_placedY : Nat) (o_count : Int32) (o_startX_f : Nat → Int32) (o_startY_f : Nat → Int32) (o_left_f : Nat → Int32) (o_right_f : Nat → Int32) (o_top_f : Nat → Int32) (o_bottom_f : Nat → Int32) (o_slopeX_f : Nat → Int32) (o_slopeY_f : Nat → Int32) (o_squareX_f : Nat → Int32) (o_squareY_f : Nat → Int32) (o_placedX_f : Nat → Int32) (o_placedY_f : Nat → Int32) (a1 : Int32) (a2 : Int32) (uu : Int32) (h : P_Cv_crossings o_startY_f o_slopeY_f o_squareY_f a1 a2 = some uu) : Met l y_Cv_crossings (Cond.code y_Cv_crossings b_Cv_crossings 7 (some .int) :: G) ({ frames := 1, cells := 0, slots := 0, locals := 26 } : Room) (va_Pc [.ref o, .int a1, .int a2] (fun U => U.heap.size = sz ∧ va_P (dC, dI) classes [(o, .inr (3, [.ref o_startX, .ref o_startY, .ref o_left, .ref o_right, .ref o_top, .ref o_bottom, .int o_count, .ref o_slopeX, .ref o_slopeY, .ref o_squareX, .ref o_squareY, .ref o_placedX, .ref o_placedY])), (o_startX, .inl (cy 0, 256, .inl o_startX_f)), (o_startY, .inl (cy 0, 256, .inl o_startY_f)), (o_left, .inl (cy 0, 256, .inl o_left_f)), (o_right, .inl (cy 0, 256, .inl o_right_f)), (o_top, .inl (cy 0, 256, .inl o_top_f)), (o_bottom, .inl (cy 0, 256, .inl o_bottom_f)), (o_slopeX, .inl (cy 0, 256, .inl o_slopeX_f)), (o_slopeY, .inl (cy 0, 256, .inl o_slopeY_f)), (o_squareX, .inl (cy 0, 256, .inl o_squareX_f)), (o_squareY, .inl (cy 0, 256, .inl o_squareY_f)), (o_placedX, .inl (cy 0, 256, .inl o_placedX_f)), (o_placedY, .inl (cy 0, 256, .inl o_placedY_f))] U.heap ∧ va_K (dC, dI) classes (TY cy) U ∧ va_D (fun _ => True) [(o, .inr (3, [.ref o_startX, .ref o_startY, .ref o_left, .ref o_right, .ref o_top, .ref o_bottom, .int o_count, .ref o_slopeX, .ref o_slopeY, .ref o_squareX, .ref o_squareY, .ref o_placedX, .ref o_placedY])), (o_startX, .inl (cy 0, 256, .inl o_startX_f)), (o_startY, .inl (cy 0, 256, .inl o_startY_f)), (o_left, .inl (cy 0, 256, .inl o_left_f)), (o_right, .inl (cy 0, 256, .inl o_right_f)), (o_top, .inl (cy 0, 256, .inl o_top_f)), (o_bottom, .inl (cy 0, 256, .inl o_bottom_f)), (o_slopeX, .inl (cy 0, 256, .inl o_slopeX_f)), (o_slopeY, .inl (cy 0, 256, .inl o_slopeY_f)), (o_squareX, .inl (cy 0, 256, .inl o_squareX_f)), (o_squareY, .inl (cy 0, 256, .inl o_squareY_f)), (o_placedX, .inl (cy 0, 256, .inl o_placedX_f)), (o_placedY, .inl (cy 0, 256, .inl o_placedY_f))])) (va_Qi (fun r (_ : Unit) => r = uu) (fun _ t => va_P (dC, dI) classes [(o, .inr (3, [.ref o_startX, .ref o_startY, .ref o_left, .ref o_right, .ref o_top, .ref o_bottom, .int o_count, .ref o_slopeX, .ref o_slopeY, .ref o_squareX, .ref o_squareY, .ref o_placedX, .ref o_placedY])), (o_startX, .inl (cy 0, 256, .inl o_startX_f)), (o_startY, .inl (cy 0, 256, .inl o_startY_f)), (o_left, .inl (cy 0, 256, .inl o_left_f)), (o_right, .inl (cy 0, 256, .inl o_right_f)), (o_top, .inl (cy 0, 256, .inl o_top_f)), (o_bottom, .inl (cy 0, 256, .inl o_bottom_f)), (o_slopeX, .inl (cy 0, 256, .inl o_slopeX_f)), (o_slopeY, .inl (cy 0, 256, .inl o_slopeY_f)), (o_squareX, .inl (cy 0, 256, .inl o_squareX_f)), (o_squareY, .inl (cy 0, 256, .inl o_squareY_f)), (o_placedX, .inl (cy 0, 256, .inl o_placedX_f)), (o_placedY, .inl (cy 0, 256, .inl o_placedY_f))] t.heap ∧ va_K (dC, dI) classes (TY cy) t ∧ va_D (va_A [(o, .inr (3, [.ref o_startX, .ref o_startY, .ref o_left, .ref o_right, .ref o_top, .ref o_bottom, .int o_count, .ref o_slopeX, .ref o_slopeY, .ref o_squareX, .ref o_squareY, .ref o_placedX, .ref o_placedY])), (o_startX, .inl (cy 0, 256, .inl o_startX_f)), (o_startY, .inl (cy 0, 256, .inl o_startY_f)), (o_left, .inl (cy 0, 256, .inl o_left_f)), (o_right, .inl (cy 0, 256, .inl o_right_f)), (o_top, .inl (cy 0, 256, .inl o_top_f)), (o_bottom, .inl (cy 0, 256, .inl o_bottom_f)), (o_slopeX, .inl (cy 0, 256, .inl o_slopeX_f)), (o_slopeY, .inl (cy 0, 256, .inl o_slopeY_f)), (o_squareX, .inl (cy 0, 256, .inl o_squareX_f)), (o_squareY, .inl (cy 0, 256, .inl o_squareY_f)), (o_placedX, .inl (cy 0, 256, .inl o_placedX_f)), (o_placedY, .inl (cy 0, 256, .inl o_placedY_f))] sz) [(o, .inr (3, [.ref o_startX, .ref o_startY, .ref o_left, .ref o_right, .ref o_top, .ref o_bottom, .int o_count, .ref o_slopeX, .ref o_slopeY, .ref o_squareX, .ref o_squareY, .ref o_placedX, .ref o_placedY])), (o_startX, .inl (cy 0, 256, .inl o_startX_f)), (o_startY, .inl (cy 0, 256, .inl o_startY_f)), (o_left, .inl (cy 0, 256, .inl o_left_f)), (o_right, .inl (cy 0, 256, .inl o_right_f)), (o_top, .inl (cy 0, 256, .inl o_top_f)), (o_bottom, .inl (cy 0, 256, .inl o_bottom_f)), (o_slopeX, .inl (cy 0, 256, .inl o_slopeX_f)), (o_slopeY, .inl (cy 0, 256, .inl o_slopeY_f)), (o_squareX, .inl (cy 0, 256, .inl o_squareX_f)), (o_squareY, .inl (cy 0, 256, .inl o_squareY_f)), (o_placedX, .inl (cy 0, 256, .inl o_placedX_f)), (o_placedY, .inl (cy 0, 256, .inl o_placedY_f))]) (va_A [(o, .inr (3, [.ref o_startX, .ref o_startY, .ref o_left, .ref o_right, .ref o_top, .ref o_bottom, .int o_count, .ref o_slopeX, .ref o_slopeY, .ref o_squareX, .ref o_squareY, .ref o_placedX, .ref o_placedY])), (o_startX, .inl (cy 0, 256, .inl o_startX_f)), (o_startY, .inl (cy 0, 256, .inl o_startY_f)), (o_left, .inl (cy 0, 256, .inl o_left_f)), (o_right, .inl (cy 0, 256, .inl o_right_f)), (o_top, .inl (cy 0, 256, .inl o_top_f)), (o_bottom, .inl (cy 0, 256, .inl o_bottom_f)), (o_slopeX, .inl (cy 0, 256, .inl o_slopeX_f)), (o_slopeY, .inl (cy 0, 256, .inl o_slopeY_f)), (o_squareX, .inl (cy 0, 256, .inl o_squareX_f)), (o_squareY, .inl (cy 0, 256, .inl o_squareY_f)), (o_placedX, .inl (cy 0, 256, .inl o_placedX_f)), (o_placedY, .inl (cy 0, 256, .inl o_placedY_f))] sz)) 0 0 (va_A [(o, .inr (3, [.ref o_startX, .ref o_startY, .ref o_left, .ref o_right, .ref o_top, .ref o_bottom, .int o_count, .ref o_slopeX, .ref o_slopeY, .ref o_squareX, .ref o_squareY, .ref o_placedX, .ref o_placedY])), (o_startX, .inl (cy 0, 256, .inl o_startX_f)), (o_startY, .inl (cy 0, 256, .inl o_startY_f)), (o_left, .inl (cy 0, 256, .inl o_left_f)), (o_right, .inl (cy 0, 256, .inl o_right_f)), (o_top, .inl (cy 0, 256, .inl o_top_f)), (o_bottom, .inl (cy 0, 256, .inl o_bottom_f)), (o_slopeX, .inl (cy 0, 256, .inl o_slopeX_f)), (o_slopeY, .inl (cy 0, 256, .inl o_slopeY_f)), (o_squareX, .inl (cy 0, 256, .inl o_squareX_f)), (o_squareY, .inl (cy 0, 256, .inl o_squareY_f)), (o_placedX, .inl (cy 0, 256, .inl o_placedX_f)), (o_placedY, .inl (cy 0, 256, .inl o_placedY_f))] sz) := by
  refine Met.ofW (cc := b_Cv_crossings) (maxL := 7) (ret := (some .int)) (by decide) rfl ?_
  intro p e s m args below meth c s₁ B hml hv
  obtain ⟨rfl, hsz, hP, hK, hD0⟩ := hv
  have hx := B.exec
  have hb := B.bytes
  have hr := B.returns
  have hts := atoms_spec (ws := Cond.code y_Cv_crossings b_Cv_crossings 7 (some .int) :: G) B.pre
  have htsG : ∀ w ∈ G, w.before _ s = true := fun w hw => hts w (List.mem_cons_of_mem _ hw)
  have hown : s.vm.findClass "GlyphPage$Curves" = some m.cls := findClass_of_methodNamed B.named
  have hlocks := B.notSynchronized
  subst hsz
  have hD := hD0.self (sz := s.heap.size)
  generalize hAe : va_A [(o, .inr (3, [.ref o_startX, .ref o_startY, .ref o_left, .ref o_right, .ref o_top, .ref o_bottom, .int o_count, .ref o_slopeX, .ref o_slopeY, .ref o_squareX, .ref o_squareY, .ref o_placedX, .ref o_placedY])), (o_startX, .inl (cy 0, 256, .inl o_startX_f)), (o_startY, .inl (cy 0, 256, .inl o_startY_f)), (o_left, .inl (cy 0, 256, .inl o_left_f)), (o_right, .inl (cy 0, 256, .inl o_right_f)), (o_top, .inl (cy 0, 256, .inl o_top_f)), (o_bottom, .inl (cy 0, 256, .inl o_bottom_f)), (o_slopeX, .inl (cy 0, 256, .inl o_slopeX_f)), (o_slopeY, .inl (cy 0, 256, .inl o_slopeY_f)), (o_squareX, .inl (cy 0, 256, .inl o_squareX_f)), (o_squareY, .inl (cy 0, 256, .inl o_squareY_f)), (o_placedX, .inl (cy 0, 256, .inl o_placedX_f)), (o_placedY, .inl (cy 0, 256, .inl o_placedY_f))] s.heap.size = A at hD ⊢
  have hA : ∀ q : Nat, s.heap.size ≤ q → A q := fun q h => by rw [← hAe]; exact Or.inr h
  have hS : va_S A s.heap s.heap [] := va_S.rf
  have hl := lv_entry ([.ref o, .int a1, .int a2]) (n := 7) (Nat.le_of_ble_eq_true rfl)
  rw [lg_entry_eq]
  generalize (lg_sl ([.ref o, .int a1, .int a2]) ++ List.replicate (7 - (lg_sl ([.ref o, .int a1, .int a2])).length) Slot.unset).toArray = ls at hl ⊢
  have hl : lv_has ls 7 [(0, .ref o), (1, .int a1), (2, .int a2)] := hl
  have C0 : Cx p s m _ meth c A dC dI cy b_Cv_crossings 7 (some .int) "GlyphPage$Curves" := ⟨hx, hb, hr, hlocks, hml, hown, htsG, hA, hK⟩
  unfold P_Cv_crossings at h
  refine lv_aload_n hx hb d_Cv_crossings_0 rfl (lv_at hl 0 rfl) ?_
  refine va_get (D := (dC, dI)) (ci := 3) (v := .ref o_startY) (C := "GlyphPage$Curves") (T := F_Cv) (N := 13) hx hb htsG iG_Cv hown hK hP 0 rfl rfl 1 (by decide) (htsG _ mW134) (fun _ h9 => h9) rfl d_Cv_crossings_1 ?_
  refine lv_iload_n hx hb d_Cv_crossings_4 rfl (lv_at hl 1 rfl) ?_
  obtain ⟨hin_1, h⟩ := bd_some h
  refine va_iald hx hb hK hP 2 0 rfl rfl hin_1 d_Cv_crossings_5 ?_
  refine lv_iload_n hx hb d_Cv_crossings_6 rfl (lv_at hl 2 rfl) ?_
  refine lv_isub hx hb d_Cv_crossings_7 ?_
  refine lv_i2l hx hb d_Cv_crossings_8 rfl ?_
  refine lv_lstore_n (lv' := [(3, .long (((o_startY_f a1.toNatClampNeg) - a2).toInt64)), (0, .ref o), (1, .int a1), (2, .int a2)]) hx hb d_Cv_crossings_9 rfl hl (by decide) rfl (fun ls hl => ?_)
  refine lv_lload_n hx hb d_Cv_crossings_10 rfl (lv_at hl 0 rfl) ?_
  refine lv_aload_n hx hb d_Cv_crossings_11 rfl (lv_at hl 1 rfl) ?_
  refine va_get (D := (dC, dI)) (ci := 3) (v := .ref o_slopeY) (C := "GlyphPage$Curves") (T := F_Cv) (N := 13) hx hb htsG iG_Cv hown hK hP 0 rfl rfl 8 (by decide) (htsG _ mW147) (fun _ h9 => h9) rfl d_Cv_crossings_12 ?_
  refine lv_iload_n hx hb d_Cv_crossings_15 rfl (lv_at hl 2 rfl) ?_
  obtain ⟨hin_2, h⟩ := bd_some h
  refine va_iald hx hb hK hP 8 0 rfl rfl hin_2 d_Cv_crossings_16 ?_
  refine lv_i2l hx hb d_Cv_crossings_17 rfl ?_
  refine lv_ladd hx hb d_Cv_crossings_18 ?_
  refine lv_aload_n hx hb d_Cv_crossings_19 rfl (lv_at hl 1 rfl) ?_
  refine va_get (D := (dC, dI)) (ci := 3) (v := .ref o_squareY) (C := "GlyphPage$Curves") (T := F_Cv) (N := 13) hx hb htsG iG_Cv hown hK hP 0 rfl rfl 10 (by decide) (htsG _ mW149) (fun _ h9 => h9) rfl d_Cv_crossings_20 ?_
  refine lv_iload_n hx hb d_Cv_crossings_23 rfl (lv_at hl 2 rfl) ?_
  obtain ⟨hin_3, h⟩ := bd_some h
  refine va_iald hx hb hK hP 10 0 rfl rfl hin_3 d_Cv_crossings_24 ?_
  refine lv_i2l hx hb d_Cv_crossings_25 rfl ?_
  refine lv_ladd hx hb d_Cv_crossings_26 ?_
  refine lv_lstore (lv' := [(5, .long (((((o_startY_f a1.toNatClampNeg) - a2).toInt64) + ((o_slopeY_f a1.toNatClampNeg).toInt64)) + ((o_squareY_f a1.toNatClampNeg).toInt64))), (3, .long (((o_startY_f a1.toNatClampNeg) - a2).toInt64)), (0, .ref o), (1, .int a1), (2, .int a2)]) hx hb d_Cv_crossings_27 hl (by decide) rfl (fun ls hl => ?_)
  exact w_Cv_crossings_29 C0 o o_startX o_startY o_left o_right o_top o_bottom o_slopeX o_slopeY o_squareX o_squareY o_placedX o_placedY o_count o_startX_f o_startY_f o_left_f o_right_f o_top_f o_bottom_f o_slopeX_f o_slopeY_f o_squareX_f o_squareY_f o_placedX_f o_placedY_f a1 a2 uu  a1 (((o_startY_f a1.toNatClampNeg) - a2).toInt64) (((((o_startY_f a1.toNatClampNeg) - a2).toInt64) + ((o_slopeY_f a1.toNatClampNeg).toInt64)) + ((o_squareY_f a1.toNatClampNeg).toInt64)) h hP hD hS (lv_sub hl [2, 3, 1, 0] rfl)
def P_Cv_side_184 (o_startX_f : Nat → Int32) (o_startY_f : Nat → Int32) (o_slopeX_f : Nat → Int32) (o_slopeY_f : Nat → Int32) (o_squareX_f : Nat → Int32) (o_squareY_f : Nat → Int32)  (x17 : Int64) (x19 : Int64) (x21 : Int64) (x23 : Int32) (k0 : Int32) : Option (Int32) :=
  if k0 = 0 then (some x23) else (if x23 = k0 then (some x23) else (if x23 = 0 then (some k0) else ((P_Cv_squareLess x19 x17 x21).bind fun r_4 => some (x23 * r_4))))
set_option maxHeartbeats 4000000 in
set_option maxRecDepth 100000 in
theorem w_Cv_side_184 (C0 : Cx p s m args meth c A dC dI cy b_Cv_side 25 (some .int) "GlyphPage$Curves") (o : Nat) (o_startX : Nat) (o_startY : Nat) (o_left : Nat) (o_right : Nat) (o_top : Nat) (o_bottom : Nat) (o_slopeX : Nat) (o_slopeY : Nat) (o_squareX : Nat) (o_squareY : Nat) (o_placedX : Nat) (o_placedY : Nat) (o_count : Int32) (o_startX_f : Nat → Int32) (o_startY_f : Nat → Int32) (o_left_f : Nat → Int32) (o_right_f : Nat → Int32) (o_top_f : Nat → Int32) (o_bottom_f : Nat → Int32) (o_slopeX_f : Nat → Int32) (o_slopeY_f : Nat → Int32) (o_squareX_f : Nat → Int32) (o_squareY_f : Nat → Int32) (o_placedX_f : Nat → Int32) (o_placedY_f : Nat → Int32) (a1 : Int32) (a2 : Int32) (a3 : Int32) (a4 : Int32) (uu : Int32)  (x17 : Int64) (x19 : Int64) (x21 : Int64) (x23 : Int32) (k0 : Int32) {H : Heap} {locs : List Loc} {ls : Array Slot} (h : P_Cv_side_184 o_startX_f o_startY_f o_slopeX_f o_slopeY_f o_squareX_f o_squareY_f x17 x19 x21 x23 k0 = some uu) : va_P (dC, dI) classes [(o, .inr (3, [.ref o_startX, .ref o_startY, .ref o_left, .ref o_right, .ref o_top, .ref o_bottom, .int o_count, .ref o_slopeX, .ref o_slopeY, .ref o_squareX, .ref o_squareY, .ref o_placedX, .ref o_placedY])), (o_startX, .inl (cy 0, 256, .inl o_startX_f)), (o_startY, .inl (cy 0, 256, .inl o_startY_f)), (o_left, .inl (cy 0, 256, .inl o_left_f)), (o_right, .inl (cy 0, 256, .inl o_right_f)), (o_top, .inl (cy 0, 256, .inl o_top_f)), (o_bottom, .inl (cy 0, 256, .inl o_bottom_f)), (o_slopeX, .inl (cy 0, 256, .inl o_slopeX_f)), (o_slopeY, .inl (cy 0, 256, .inl o_slopeY_f)), (o_squareX, .inl (cy 0, 256, .inl o_squareX_f)), (o_squareY, .inl (cy 0, 256, .inl o_squareY_f)), (o_placedX, .inl (cy 0, 256, .inl o_placedX_f)), (o_placedY, .inl (cy 0, 256, .inl o_placedY_f))] H → va_D A [(o, .inr (3, [.ref o_startX, .ref o_startY, .ref o_left, .ref o_right, .ref o_top, .ref o_bottom, .int o_count, .ref o_slopeX, .ref o_slopeY, .ref o_squareX, .ref o_squareY, .ref o_placedX, .ref o_placedY])), (o_startX, .inl (cy 0, 256, .inl o_startX_f)), (o_startY, .inl (cy 0, 256, .inl o_startY_f)), (o_left, .inl (cy 0, 256, .inl o_left_f)), (o_right, .inl (cy 0, 256, .inl o_right_f)), (o_top, .inl (cy 0, 256, .inl o_top_f)), (o_bottom, .inl (cy 0, 256, .inl o_bottom_f)), (o_slopeX, .inl (cy 0, 256, .inl o_slopeX_f)), (o_slopeY, .inl (cy 0, 256, .inl o_slopeY_f)), (o_squareX, .inl (cy 0, 256, .inl o_squareX_f)), (o_squareY, .inl (cy 0, 256, .inl o_squareY_f)), (o_placedX, .inl (cy 0, 256, .inl o_placedX_f)), (o_placedY, .inl (cy 0, 256, .inl o_placedY_f))] → va_S A s.heap H locs → lv_has ls 25 [(17, .long x17), (19, .long x19), (21, .long x21), (23, .int x23)] → W p l e ({ frames := 2, cells := 0, slots := 0, locals := 61 } : Room) s m args below meth c H locs 0 0 (MQ below (va_Qi (fun r (_ : Unit) => r = uu) (fun _ t => va_P (dC, dI) classes [(o, .inr (3, [.ref o_startX, .ref o_startY, .ref o_left, .ref o_right, .ref o_top, .ref o_bottom, .int o_count, .ref o_slopeX, .ref o_slopeY, .ref o_squareX, .ref o_squareY, .ref o_placedX, .ref o_placedY])), (o_startX, .inl (cy 0, 256, .inl o_startX_f)), (o_startY, .inl (cy 0, 256, .inl o_startY_f)), (o_left, .inl (cy 0, 256, .inl o_left_f)), (o_right, .inl (cy 0, 256, .inl o_right_f)), (o_top, .inl (cy 0, 256, .inl o_top_f)), (o_bottom, .inl (cy 0, 256, .inl o_bottom_f)), (o_slopeX, .inl (cy 0, 256, .inl o_slopeX_f)), (o_slopeY, .inl (cy 0, 256, .inl o_slopeY_f)), (o_squareX, .inl (cy 0, 256, .inl o_squareX_f)), (o_squareY, .inl (cy 0, 256, .inl o_squareY_f)), (o_placedX, .inl (cy 0, 256, .inl o_placedX_f)), (o_placedY, .inl (cy 0, 256, .inl o_placedY_f))] t.heap ∧ va_K (dC, dI) classes (TY cy) t ∧ va_D A [(o, .inr (3, [.ref o_startX, .ref o_startY, .ref o_left, .ref o_right, .ref o_top, .ref o_bottom, .int o_count, .ref o_slopeX, .ref o_slopeY, .ref o_squareX, .ref o_squareY, .ref o_placedX, .ref o_placedY])), (o_startX, .inl (cy 0, 256, .inl o_startX_f)), (o_startY, .inl (cy 0, 256, .inl o_startY_f)), (o_left, .inl (cy 0, 256, .inl o_left_f)), (o_right, .inl (cy 0, 256, .inl o_right_f)), (o_top, .inl (cy 0, 256, .inl o_top_f)), (o_bottom, .inl (cy 0, 256, .inl o_bottom_f)), (o_slopeX, .inl (cy 0, 256, .inl o_slopeX_f)), (o_slopeY, .inl (cy 0, 256, .inl o_slopeY_f)), (o_squareX, .inl (cy 0, 256, .inl o_squareX_f)), (o_squareY, .inl (cy 0, 256, .inl o_squareY_f)), (o_placedX, .inl (cy 0, 256, .inl o_placedX_f)), (o_placedY, .inl (cy 0, 256, .inl o_placedY_f))]) A) args s 0 0 A) (F0 m 184 ls [.int k0]) := by
  intro hP hD hS hl
  obtain ⟨hx, hb, hr, hlocks, hml, hown, htsG, hA, hK⟩ := id C0
  unfold P_Cv_side_184 at h
  refine lv_istore (lv' := [(24, .int k0), (17, .long x17), (19, .long x19), (21, .long x21), (23, .int x23)]) hx hb d_Cv_side_184 hl (by decide) rfl (fun ls hl => ?_)
  refine lv_iload hx hb d_Cv_side_186 (lv_at hl 0 rfl) ?_
  refine lv_if_eq (tgt := 198) hx hb d_Cv_side_188 (by decide) (fun c_1 => ?_) (fun c_1 => ?_)
  · replace h := (if_pos c_1).symm.trans h
    refine lv_iload hx hb d_Cv_side_198 (lv_at hl 4 rfl) ?_
    cases h
    exact W.iret hx hb hr (fun t ht hW => ⟨⟨_, (), rfl, rfl, by rw [ht]; exact hP, va_K.moved hW.alike hK, hD⟩, hS.F ht⟩) hS.2.2 d_Cv_side_200 hlocks
  · replace h := (if_neg c_1).symm.trans h
    refine lv_iload hx hb d_Cv_side_191 (lv_at hl 4 rfl) ?_
    refine lv_iload hx hb d_Cv_side_193 (lv_at hl 0 rfl) ?_
    refine lv_icmp_ne (tgt := 201) hx hb d_Cv_side_195 (by decide) (fun c_2 => ?_) (fun c_2 => ?_)
    · replace h := (if_neg c_2).symm.trans h
      refine lv_iload hx hb d_Cv_side_201 (lv_at hl 4 rfl) ?_
      refine lv_if_ne (tgt := 211) hx hb d_Cv_side_203 (by decide) (fun c_3 => ?_) (fun c_3 => ?_)
      · replace h := (if_neg c_3).symm.trans h
        refine lv_iload hx hb d_Cv_side_211 (lv_at hl 4 rfl) ?_
        refine lv_lload hx hb d_Cv_side_213 (lv_at hl 2 rfl) ?_
        refine lv_lload hx hb d_Cv_side_215 (lv_at hl 1 rfl) ?_
        refine lv_lload hx hb d_Cv_side_217 (lv_at hl 3 rfl) ?_
        obtain ⟨r_4, hq, h⟩ := Option.bind_eq_some_iff.mp h
        try dsimp only at h
        have hPc := hP.sub (ws' := []) [] rfl
        have hDc := hD.sub (ws' := []) [] (by decide) rfl
        have hFc := va_free (wc := []) hD hS hA [] rfl
        refine va_calli (va_runS (As := [.long x19, .long x17, .long x21]) (rest := [.int x23]) ⟨hx, hb, hml, hown, htsG⟩ (c_Cv_squareLess l dC dI cy H.size x19 x17 x21 r_4 hq) (va_cwS 3 htsG (gS mW632 mW633 mW5 mW634) rfl rfl rfl (by decide +kernel) ⟨Nat.le_of_ble_eq_true rfl, Nat.le_of_ble_eq_true rfl⟩) ⟨fun a U g mk q => by obtain ⟨q0, q1, qP, qK, qD⟩ := q; exact ⟨q0, q1, qP, va_K.moved (u := U) (U := U.calling g mk a) (Vm.Alike.refl U.vm) qK, qD⟩, fun U hU hW => ⟨rfl, by rw [hU], by rw [hU]; exact hPc, va_K.moved hW.alike hK, hDc.weaken (fun _ _ _ _ => trivial)⟩⟩ rfl rfl hl.1 rfl (lv_room (Nat.le_of_ble_eq_true rfl)) d_Cv_side_219 ⟨Nat.le_of_ble_eq_true rfl, Nat.le_of_ble_eq_true rfl⟩) hS (fun q _ h => hFc q h) hFc (fun rr u t H1 locs ht hvm hw hB hz1 hk1 hS => ?_)
        obtain ⟨hP1, hK1, hD1⟩ := hB
        rw [ht] at hP1
        replace hw : r_4 = rr := hw.symm
        subst hw
        obtain ⟨hP, hD⟩ := va_join (wr := [(o, .inr (3, [.ref o_startX, .ref o_startY, .ref o_left, .ref o_right, .ref o_top, .ref o_bottom, .int o_count, .ref o_slopeX, .ref o_slopeY, .ref o_squareX, .ref o_squareY, .ref o_placedX, .ref o_placedY])), (o_startX, .inl (cy 0, 256, .inl o_startX_f)), (o_startY, .inl (cy 0, 256, .inl o_startY_f)), (o_left, .inl (cy 0, 256, .inl o_left_f)), (o_right, .inl (cy 0, 256, .inl o_right_f)), (o_top, .inl (cy 0, 256, .inl o_top_f)), (o_bottom, .inl (cy 0, 256, .inl o_bottom_f)), (o_slopeX, .inl (cy 0, 256, .inl o_slopeX_f)), (o_slopeY, .inl (cy 0, 256, .inl o_slopeY_f)), (o_squareX, .inl (cy 0, 256, .inl o_squareX_f)), (o_squareY, .inl (cy 0, 256, .inl o_squareY_f)), (o_placedX, .inl (cy 0, 256, .inl o_placedX_f)), (o_placedY, .inl (cy 0, 256, .inl o_placedY_f))]) (w1 := []) hP hD [] [0, 1, 2, 3, 4, 5, 6, 7, 8, 9, 10, 11, 12] rfl rfl (by decide) (by decide) hk1 hFc hP1 hD1
        generalize H1 = H at hP hS ⊢
        have hP := hP.sub (ws' := [(o, .inr (3, [.ref o_startX, .ref o_startY, .ref o_left, .ref o_right, .ref o_top, .ref o_bottom, .int o_count, .ref o_slopeX, .ref o_slopeY, .ref o_squareX, .ref o_squareY, .ref o_placedX, .ref o_placedY])), (o_startX, .inl (cy 0, 256, .inl o_startX_f)), (o_startY, .inl (cy 0, 256, .inl o_startY_f)), (o_left, .inl (cy 0, 256, .inl o_left_f)), (o_right, .inl (cy 0, 256, .inl o_right_f)), (o_top, .inl (cy 0, 256, .inl o_top_f)), (o_bottom, .inl (cy 0, 256, .inl o_bottom_f)), (o_slopeX, .inl (cy 0, 256, .inl o_slopeX_f)), (o_slopeY, .inl (cy 0, 256, .inl o_slopeY_f)), (o_squareX, .inl (cy 0, 256, .inl o_squareX_f)), (o_squareY, .inl (cy 0, 256, .inl o_squareY_f)), (o_placedX, .inl (cy 0, 256, .inl o_placedX_f)), (o_placedY, .inl (cy 0, 256, .inl o_placedY_f))]) [0, 1, 2, 3, 4, 5, 6, 7, 8, 9, 10, 11, 12] rfl
        have hD := hD.sub (ws' := [(o, .inr (3, [.ref o_startX, .ref o_startY, .ref o_left, .ref o_right, .ref o_top, .ref o_bottom, .int o_count, .ref o_slopeX, .ref o_slopeY, .ref o_squareX, .ref o_squareY, .ref o_placedX, .ref o_placedY])), (o_startX, .inl (cy 0, 256, .inl o_startX_f)), (o_startY, .inl (cy 0, 256, .inl o_startY_f)), (o_left, .inl (cy 0, 256, .inl o_left_f)), (o_right, .inl (cy 0, 256, .inl o_right_f)), (o_top, .inl (cy 0, 256, .inl o_top_f)), (o_bottom, .inl (cy 0, 256, .inl o_bottom_f)), (o_slopeX, .inl (cy 0, 256, .inl o_slopeX_f)), (o_slopeY, .inl (cy 0, 256, .inl o_slopeY_f)), (o_squareX, .inl (cy 0, 256, .inl o_squareX_f)), (o_squareY, .inl (cy 0, 256, .inl o_squareY_f)), (o_placedX, .inl (cy 0, 256, .inl o_placedX_f)), (o_placedY, .inl (cy 0, 256, .inl o_placedY_f))]) [0, 1, 2, 3, 4, 5, 6, 7, 8, 9, 10, 11, 12] (by decide) rfl
        refine W.widen (k := 0) (n := 0) (by decide) (by decide) ?_
        refine lv_imul hx hb d_Cv_side_222 ?_
        cases h
        exact W.iret hx hb hr (fun t ht hW => ⟨⟨_, (), rfl, rfl, by rw [ht]; exact hP, va_K.moved hW.alike hK, hD⟩, hS.F ht⟩) hS.2.2 d_Cv_side_223 hlocks
      · replace h := (if_pos c_3).symm.trans h
        refine lv_iload hx hb d_Cv_side_206 (lv_at hl 0 rfl) ?_
        refine lv_goto (tgt := 223) hx hb d_Cv_side_208 (by decide) ?_
        cases h
        exact W.iret hx hb hr (fun t ht hW => ⟨⟨_, (), rfl, rfl, by rw [ht]; exact hP, va_K.moved hW.alike hK, hD⟩, hS.F ht⟩) hS.2.2 d_Cv_side_223 hlocks
    · replace h := (if_pos c_2).symm.trans h
      refine lv_iload hx hb d_Cv_side_198 (lv_at hl 4 rfl) ?_
      cases h
      exact W.iret hx hb hr (fun t ht hW => ⟨⟨_, (), rfl, rfl, by rw [ht]; exact hP, va_K.moved hW.alike hK, hD⟩, hS.F ht⟩) hS.2.2 d_Cv_side_200 hlocks
def P_Cv_side_109 (o_startX_f : Nat → Int32) (o_startY_f : Nat → Int32) (o_slopeX_f : Nat → Int32) (o_slopeY_f : Nat → Int32) (o_squareX_f : Nat → Int32) (o_squareY_f : Nat → Int32)  (x2 : Int32) (x5 : Int64) (x7 : Int64) (x9 : Int64) (x11 : Int64) (x13 : Int64) (x15 : Int64) (x17 : Int64) : Option (Int32) :=
  (P_Jl_signum ((((2 : Int64) * x11) * ((x11 * x9) - (x5 * x15))) - (x13 * x17))).bind fun r_1 => if (lg_cmp (x13 * x13) (((4 : Int64) * x11) * x15)) ≤ 0 then (P_Cv_side_184 o_startX_f o_startY_f o_slopeX_f o_slopeY_f o_squareX_f o_squareY_f x17 ((x11 * x9) - (x5 * x15)) ((x13 * x9) - (x7 * x15)) r_1 (0 : Int32)) else ((P_Jl_signum x17).bind fun r_3 => P_Cv_side_184 o_startX_f o_startY_f o_slopeX_f o_slopeY_f o_squareX_f o_squareY_f x17 ((x11 * x9) - (x5 * x15)) ((x13 * x9) - (x7 * x15)) r_1 (x2 * r_3))
set_option maxHeartbeats 4000000 in
set_option maxRecDepth 100000 in
theorem w_Cv_side_109 (C0 : Cx p s m args meth c A dC dI cy b_Cv_side 25 (some .int) "GlyphPage$Curves") (o : Nat) (o_startX : Nat) (o_startY : Nat) (o_left : Nat) (o_right : Nat) (o_top : Nat) (o_bottom : Nat) (o_slopeX : Nat) (o_slopeY : Nat) (o_squareX : Nat) (o_squareY : Nat) (o_placedX : Nat) (o_placedY : Nat) (o_count : Int32) (o_startX_f : Nat → Int32) (o_startY_f : Nat → Int32) (o_left_f : Nat → Int32) (o_right_f : Nat → Int32) (o_top_f : Nat → Int32) (o_bottom_f : Nat → Int32) (o_slopeX_f : Nat → Int32) (o_slopeY_f : Nat → Int32) (o_squareX_f : Nat → Int32) (o_squareY_f : Nat → Int32) (o_placedX_f : Nat → Int32) (o_placedY_f : Nat → Int32) (a1 : Int32) (a2 : Int32) (a3 : Int32) (a4 : Int32) (uu : Int32)  (x2 : Int32) (x5 : Int64) (x7 : Int64) (x9 : Int64) (x11 : Int64) (x13 : Int64) (x15 : Int64) (x17 : Int64) {H : Heap} {locs : List Loc} {ls : Array Slot} (h : P_Cv_side_109 o_startX_f o_startY_f o_slopeX_f o_slopeY_f o_squareX_f o_squareY_f x2 x5 x7 x9 x11 x13 x15 x17 = some uu) : va_P (dC, dI) classes [(o, .inr (3, [.ref o_startX, .ref o_startY, .ref o_left, .ref o_right, .ref o_top, .ref o_bottom, .int o_count, .ref o_slopeX, .ref o_slopeY, .ref o_squareX, .ref o_squareY, .ref o_placedX, .ref o_placedY])), (o_startX, .inl (cy 0, 256, .inl o_startX_f)), (o_startY, .inl (cy 0, 256, .inl o_startY_f)), (o_left, .inl (cy 0, 256, .inl o_left_f)), (o_right, .inl (cy 0, 256, .inl o_right_f)), (o_top, .inl (cy 0, 256, .inl o_top_f)), (o_bottom, .inl (cy 0, 256, .inl o_bottom_f)), (o_slopeX, .inl (cy 0, 256, .inl o_slopeX_f)), (o_slopeY, .inl (cy 0, 256, .inl o_slopeY_f)), (o_squareX, .inl (cy 0, 256, .inl o_squareX_f)), (o_squareY, .inl (cy 0, 256, .inl o_squareY_f)), (o_placedX, .inl (cy 0, 256, .inl o_placedX_f)), (o_placedY, .inl (cy 0, 256, .inl o_placedY_f))] H → va_D A [(o, .inr (3, [.ref o_startX, .ref o_startY, .ref o_left, .ref o_right, .ref o_top, .ref o_bottom, .int o_count, .ref o_slopeX, .ref o_slopeY, .ref o_squareX, .ref o_squareY, .ref o_placedX, .ref o_placedY])), (o_startX, .inl (cy 0, 256, .inl o_startX_f)), (o_startY, .inl (cy 0, 256, .inl o_startY_f)), (o_left, .inl (cy 0, 256, .inl o_left_f)), (o_right, .inl (cy 0, 256, .inl o_right_f)), (o_top, .inl (cy 0, 256, .inl o_top_f)), (o_bottom, .inl (cy 0, 256, .inl o_bottom_f)), (o_slopeX, .inl (cy 0, 256, .inl o_slopeX_f)), (o_slopeY, .inl (cy 0, 256, .inl o_slopeY_f)), (o_squareX, .inl (cy 0, 256, .inl o_squareX_f)), (o_squareY, .inl (cy 0, 256, .inl o_squareY_f)), (o_placedX, .inl (cy 0, 256, .inl o_placedX_f)), (o_placedY, .inl (cy 0, 256, .inl o_placedY_f))] → va_S A s.heap H locs → lv_has ls 25 [(2, .int x2), (5, .long x5), (7, .long x7), (9, .long x9), (11, .long x11), (13, .long x13), (15, .long x15), (17, .long x17)] → W p l e ({ frames := 2, cells := 0, slots := 0, locals := 61 } : Room) s m args below meth c H locs 0 0 (MQ below (va_Qi (fun r (_ : Unit) => r = uu) (fun _ t => va_P (dC, dI) classes [(o, .inr (3, [.ref o_startX, .ref o_startY, .ref o_left, .ref o_right, .ref o_top, .ref o_bottom, .int o_count, .ref o_slopeX, .ref o_slopeY, .ref o_squareX, .ref o_squareY, .ref o_placedX, .ref o_placedY])), (o_startX, .inl (cy 0, 256, .inl o_startX_f)), (o_startY, .inl (cy 0, 256, .inl o_startY_f)), (o_left, .inl (cy 0, 256, .inl o_left_f)), (o_right, .inl (cy 0, 256, .inl o_right_f)), (o_top, .inl (cy 0, 256, .inl o_top_f)), (o_bottom, .inl (cy 0, 256, .inl o_bottom_f)), (o_slopeX, .inl (cy 0, 256, .inl o_slopeX_f)), (o_slopeY, .inl (cy 0, 256, .inl o_slopeY_f)), (o_squareX, .inl (cy 0, 256, .inl o_squareX_f)), (o_squareY, .inl (cy 0, 256, .inl o_squareY_f)), (o_placedX, .inl (cy 0, 256, .inl o_placedX_f)), (o_placedY, .inl (cy 0, 256, .inl o_placedY_f))] t.heap ∧ va_K (dC, dI) classes (TY cy) t ∧ va_D A [(o, .inr (3, [.ref o_startX, .ref o_startY, .ref o_left, .ref o_right, .ref o_top, .ref o_bottom, .int o_count, .ref o_slopeX, .ref o_slopeY, .ref o_squareX, .ref o_squareY, .ref o_placedX, .ref o_placedY])), (o_startX, .inl (cy 0, 256, .inl o_startX_f)), (o_startY, .inl (cy 0, 256, .inl o_startY_f)), (o_left, .inl (cy 0, 256, .inl o_left_f)), (o_right, .inl (cy 0, 256, .inl o_right_f)), (o_top, .inl (cy 0, 256, .inl o_top_f)), (o_bottom, .inl (cy 0, 256, .inl o_bottom_f)), (o_slopeX, .inl (cy 0, 256, .inl o_slopeX_f)), (o_slopeY, .inl (cy 0, 256, .inl o_slopeY_f)), (o_squareX, .inl (cy 0, 256, .inl o_squareX_f)), (o_squareY, .inl (cy 0, 256, .inl o_squareY_f)), (o_placedX, .inl (cy 0, 256, .inl o_placedX_f)), (o_placedY, .inl (cy 0, 256, .inl o_placedY_f))]) A) args s 0 0 A) (F0 m 109 ls []) := by
  intro hP hD hS hl
  obtain ⟨hx, hb, hr, hlocks, hml, hown, htsG, hA, hK⟩ := id C0
  unfold P_Cv_side_109 at h
  refine lv_lload hx hb d_Cv_side_109 (lv_at hl 4 rfl) ?_
  refine lv_lload hx hb d_Cv_side_111 (lv_at hl 3 rfl) ?_
  refine lv_lmul hx hb d_Cv_side_113 ?_
  refine lv_lload hx hb d_Cv_side_114 (lv_at hl 1 rfl) ?_
  refine lv_lload hx hb d_Cv_side_116 (lv_at hl 6 rfl) ?_
  refine lv_lmul hx hb d_Cv_side_118 ?_
  refine lv_lsub hx hb d_Cv_side_119 ?_
  refine lv_lstore (lv' := [(19, .long ((x11 * x9) - (x5 * x15))), (2, .int x2), (5, .long x5), (7, .long x7), (9, .long x9), (11, .long x11), (13, .long x13), (15, .long x15), (17, .long x17)]) hx hb d_Cv_side_120 hl (by decide) rfl (fun ls hl => ?_)
  refine lv_lload hx hb d_Cv_side_122 (lv_at hl 6 rfl) ?_
  refine lv_lload hx hb d_Cv_side_124 (lv_at hl 4 rfl) ?_
  refine lv_lmul hx hb d_Cv_side_126 ?_
  refine lv_lload hx hb d_Cv_side_127 (lv_at hl 3 rfl) ?_
  refine lv_lload hx hb d_Cv_side_129 (lv_at hl 7 rfl) ?_
  refine lv_lmul hx hb d_Cv_side_131 ?_
  refine lv_lsub hx hb d_Cv_side_132 ?_
  refine lv_lstore (lv' := [(21, .long ((x13 * x9) - (x7 * x15))), (19, .long ((x11 * x9) - (x5 * x15))), (2, .int x2), (5, .long x5), (7, .long x7), (9, .long x9), (11, .long x11), (13, .long x13), (15, .long x15), (17, .long x17)]) hx hb d_Cv_side_133 hl (by decide) rfl (fun ls hl => ?_)
  refine lv_ldc2 hx hb hown (htsG _ mW618) d_Cv_side_135 ?_
  refine lv_lload hx hb d_Cv_side_138 (lv_at hl 6 rfl) ?_
  refine lv_lmul hx hb d_Cv_side_140 ?_
  refine lv_lload hx hb d_Cv_side_141 (lv_at hl 1 rfl) ?_
  refine lv_lmul hx hb d_Cv_side_143 ?_
  refine lv_lload hx hb d_Cv_side_144 (lv_at hl 7 rfl) ?_
  refine lv_lload hx hb d_Cv_side_146 (lv_at hl 9 rfl) ?_
  refine lv_lmul hx hb d_Cv_side_148 ?_
  refine lv_lsub hx hb d_Cv_side_149 ?_
  obtain ⟨r_1, hq, h⟩ := Option.bind_eq_some_iff.mp h
  try dsimp only at h
  have hPc := hP.sub (ws' := []) [] rfl
  have hDc := hD.sub (ws' := []) [] (by decide) rfl
  have hFc := va_free (wc := []) hD hS hA [] rfl
  refine va_calli (va_runS (As := [.long ((((2 : Int64) * x11) * ((x11 * x9) - (x5 * x15))) - (x13 * x17))]) (rest := []) ⟨hx, hb, hml, hown, htsG⟩ (c_Jl_signum l dC dI cy H.size ((((2 : Int64) * x11) * ((x11 * x9) - (x5 * x15))) - (x13 * x17)) r_1 hq) (va_cwS 1 htsG (gS mW629 mW630 mW13 mW631) rfl rfl rfl (by decide +kernel) ⟨Nat.le_of_ble_eq_true rfl, Nat.le_of_ble_eq_true rfl⟩) ⟨fun a U g mk q => by obtain ⟨q0, q1, qP, qK, qD⟩ := q; exact ⟨q0, q1, qP, va_K.moved (u := U) (U := U.calling g mk a) (Vm.Alike.refl U.vm) qK, qD⟩, fun U hU hW => ⟨rfl, by rw [hU], by rw [hU]; exact hPc, va_K.moved hW.alike hK, hDc.weaken (fun _ _ _ _ => trivial)⟩⟩ rfl rfl hl.1 rfl (lv_room (Nat.le_of_ble_eq_true rfl)) d_Cv_side_150 ⟨Nat.le_of_ble_eq_true rfl, Nat.le_of_ble_eq_true rfl⟩) hS (fun q _ h => hFc q h) hFc (fun rr u t H1 locs ht hvm hw hB hz1 hk1 hS => ?_)
  obtain ⟨hP1, hK1, hD1⟩ := hB
  rw [ht] at hP1
  replace hw : r_1 = rr := hw.symm
  subst hw
  obtain ⟨hP, hD⟩ := va_join (wr := [(o, .inr (3, [.ref o_startX, .ref o_startY, .ref o_left, .ref o_right, .ref o_top, .ref o_bottom, .int o_count, .ref o_slopeX, .ref o_slopeY, .ref o_squareX, .ref o_squareY, .ref o_placedX, .ref o_placedY])), (o_startX, .inl (cy 0, 256, .inl o_startX_f)), (o_startY, .inl (cy 0, 256, .inl o_startY_f)), (o_left, .inl (cy 0, 256, .inl o_left_f)), (o_right, .inl (cy 0, 256, .inl o_right_f)), (o_top, .inl (cy 0, 256, .inl o_top_f)), (o_bottom, .inl (cy 0, 256, .inl o_bottom_f)), (o_slopeX, .inl (cy 0, 256, .inl o_slopeX_f)), (o_slopeY, .inl (cy 0, 256, .inl o_slopeY_f)), (o_squareX, .inl (cy 0, 256, .inl o_squareX_f)), (o_squareY, .inl (cy 0, 256, .inl o_squareY_f)), (o_placedX, .inl (cy 0, 256, .inl o_placedX_f)), (o_placedY, .inl (cy 0, 256, .inl o_placedY_f))]) (w1 := []) hP hD [] [0, 1, 2, 3, 4, 5, 6, 7, 8, 9, 10, 11, 12] rfl rfl (by decide) (by decide) hk1 hFc hP1 hD1
  generalize H1 = H at hP hS ⊢
  have hP := hP.sub (ws' := [(o, .inr (3, [.ref o_startX, .ref o_startY, .ref o_left, .ref o_right, .ref o_top, .ref o_bottom, .int o_count, .ref o_slopeX, .ref o_slopeY, .ref o_squareX, .ref o_squareY, .ref o_placedX, .ref o_placedY])), (o_startX, .inl (cy 0, 256, .inl o_startX_f)), (o_startY, .inl (cy 0, 256, .inl o_startY_f)), (o_left, .inl (cy 0, 256, .inl o_left_f)), (o_right, .inl (cy 0, 256, .inl o_right_f)), (o_top, .inl (cy 0, 256, .inl o_top_f)), (o_bottom, .inl (cy 0, 256, .inl o_bottom_f)), (o_slopeX, .inl (cy 0, 256, .inl o_slopeX_f)), (o_slopeY, .inl (cy 0, 256, .inl o_slopeY_f)), (o_squareX, .inl (cy 0, 256, .inl o_squareX_f)), (o_squareY, .inl (cy 0, 256, .inl o_squareY_f)), (o_placedX, .inl (cy 0, 256, .inl o_placedX_f)), (o_placedY, .inl (cy 0, 256, .inl o_placedY_f))]) [0, 1, 2, 3, 4, 5, 6, 7, 8, 9, 10, 11, 12] rfl
  have hD := hD.sub (ws' := [(o, .inr (3, [.ref o_startX, .ref o_startY, .ref o_left, .ref o_right, .ref o_top, .ref o_bottom, .int o_count, .ref o_slopeX, .ref o_slopeY, .ref o_squareX, .ref o_squareY, .ref o_placedX, .ref o_placedY])), (o_startX, .inl (cy 0, 256, .inl o_startX_f)), (o_startY, .inl (cy 0, 256, .inl o_startY_f)), (o_left, .inl (cy 0, 256, .inl o_left_f)), (o_right, .inl (cy 0, 256, .inl o_right_f)), (o_top, .inl (cy 0, 256, .inl o_top_f)), (o_bottom, .inl (cy 0, 256, .inl o_bottom_f)), (o_slopeX, .inl (cy 0, 256, .inl o_slopeX_f)), (o_slopeY, .inl (cy 0, 256, .inl o_slopeY_f)), (o_squareX, .inl (cy 0, 256, .inl o_squareX_f)), (o_squareY, .inl (cy 0, 256, .inl o_squareY_f)), (o_placedX, .inl (cy 0, 256, .inl o_placedX_f)), (o_placedY, .inl (cy 0, 256, .inl o_placedY_f))]) [0, 1, 2, 3, 4, 5, 6, 7, 8, 9, 10, 11, 12] (by decide) rfl
  refine W.widen (k := 0) (n := 0) (by decide) (by decide) ?_
  refine lv_istore (lv' := [(23, .int r_1), (21, .long ((x13 * x9) - (x7 * x15))), (19, .long ((x11 * x9) - (x5 * x15))), (2, .int x2), (5, .long x5), (7, .long x7), (9, .long x9), (11, .long x11), (13, .long x13), (15, .long x15), (17, .long x17)]) hx hb d_Cv_side_153 hl (by decide) rfl (fun ls hl => ?_)
  refine lv_lload hx hb d_Cv_side_155 (lv_at hl 8 rfl) ?_
  refine lv_lload hx hb d_Cv_side_157 (lv_at hl 8 rfl) ?_
  refine lv_lmul hx hb d_Cv_side_159 ?_
  refine lv_ldc2 hx hb hown (htsG _ mW620) d_Cv_side_160 ?_
  refine lv_lload hx hb d_Cv_side_163 (lv_at hl 7 rfl) ?_
  refine lv_lmul hx hb d_Cv_side_165 ?_
  refine lv_lload hx hb d_Cv_side_166 (lv_at hl 9 rfl) ?_
  refine lv_lmul hx hb d_Cv_side_168 ?_
  refine W.lcmp hx hb d_Cv_side_169 ?_
  refine lv_if_le (tgt := 183) hx hb d_Cv_side_170 (by decide) (fun c_2 => ?_) (fun c_2 => ?_)
  · replace h := (if_pos c_2).symm.trans h
    refine lv_iconst (v := (0 : Int32)) hx hb d_Cv_side_183 (by decide) ?_
    exact w_Cv_side_184 C0 o o_startX o_startY o_left o_right o_top o_bottom o_slopeX o_slopeY o_squareX o_squareY o_placedX o_placedY o_count o_startX_f o_startY_f o_left_f o_right_f o_top_f o_bottom_f o_slopeX_f o_slopeY_f o_squareX_f o_squareY_f o_placedX_f o_placedY_f a1 a2 a3 a4 uu  x17 ((x11 * x9) - (x5 * x15)) ((x13 * x9) - (x7 * x15)) r_1 (0 : Int32) h hP hD hS (lv_sub hl [10, 2, 1, 0] rfl)
  · replace h := (if_neg c_2).symm.trans h
    refine lv_iload_n hx hb d_Cv_side_173 rfl (lv_at hl 3 rfl) ?_
    refine lv_lload hx hb d_Cv_side_174 (lv_at hl 10 rfl) ?_
    obtain ⟨r_3, hq, h⟩ := Option.bind_eq_some_iff.mp h
    try dsimp only at h
    have hPc := hP.sub (ws' := []) [] rfl
    have hDc := hD.sub (ws' := []) [] (by decide) rfl
    have hFc := va_free (wc := []) hD hS hA [] rfl
    refine va_calli (va_runS (As := [.long x17]) (rest := [.int x2]) ⟨hx, hb, hml, hown, htsG⟩ (c_Jl_signum l dC dI cy H.size x17 r_3 hq) (va_cwS 1 htsG (gS mW629 mW630 mW13 mW631) rfl rfl rfl (by decide +kernel) ⟨Nat.le_of_ble_eq_true rfl, Nat.le_of_ble_eq_true rfl⟩) ⟨fun a U g mk q => by obtain ⟨q0, q1, qP, qK, qD⟩ := q; exact ⟨q0, q1, qP, va_K.moved (u := U) (U := U.calling g mk a) (Vm.Alike.refl U.vm) qK, qD⟩, fun U hU hW => ⟨rfl, by rw [hU], by rw [hU]; exact hPc, va_K.moved hW.alike hK, hDc.weaken (fun _ _ _ _ => trivial)⟩⟩ rfl rfl hl.1 rfl (lv_room (Nat.le_of_ble_eq_true rfl)) d_Cv_side_176 ⟨Nat.le_of_ble_eq_true rfl, Nat.le_of_ble_eq_true rfl⟩) hS (fun q _ h => hFc q h) hFc (fun rr u t H1 locs ht hvm hw hB hz1 hk1 hS => ?_)
    obtain ⟨hP1, hK1, hD1⟩ := hB
    rw [ht] at hP1
    replace hw : r_3 = rr := hw.symm
    subst hw
    obtain ⟨hP, hD⟩ := va_join (wr := [(o, .inr (3, [.ref o_startX, .ref o_startY, .ref o_left, .ref o_right, .ref o_top, .ref o_bottom, .int o_count, .ref o_slopeX, .ref o_slopeY, .ref o_squareX, .ref o_squareY, .ref o_placedX, .ref o_placedY])), (o_startX, .inl (cy 0, 256, .inl o_startX_f)), (o_startY, .inl (cy 0, 256, .inl o_startY_f)), (o_left, .inl (cy 0, 256, .inl o_left_f)), (o_right, .inl (cy 0, 256, .inl o_right_f)), (o_top, .inl (cy 0, 256, .inl o_top_f)), (o_bottom, .inl (cy 0, 256, .inl o_bottom_f)), (o_slopeX, .inl (cy 0, 256, .inl o_slopeX_f)), (o_slopeY, .inl (cy 0, 256, .inl o_slopeY_f)), (o_squareX, .inl (cy 0, 256, .inl o_squareX_f)), (o_squareY, .inl (cy 0, 256, .inl o_squareY_f)), (o_placedX, .inl (cy 0, 256, .inl o_placedX_f)), (o_placedY, .inl (cy 0, 256, .inl o_placedY_f))]) (w1 := []) hP hD [] [0, 1, 2, 3, 4, 5, 6, 7, 8, 9, 10, 11, 12] rfl rfl (by decide) (by decide) hk1 hFc hP1 hD1
    generalize H1 = H at hP hS ⊢
    have hP := hP.sub (ws' := [(o, .inr (3, [.ref o_startX, .ref o_startY, .ref o_left, .ref o_right, .ref o_top, .ref o_bottom, .int o_count, .ref o_slopeX, .ref o_slopeY, .ref o_squareX, .ref o_squareY, .ref o_placedX, .ref o_placedY])), (o_startX, .inl (cy 0, 256, .inl o_startX_f)), (o_startY, .inl (cy 0, 256, .inl o_startY_f)), (o_left, .inl (cy 0, 256, .inl o_left_f)), (o_right, .inl (cy 0, 256, .inl o_right_f)), (o_top, .inl (cy 0, 256, .inl o_top_f)), (o_bottom, .inl (cy 0, 256, .inl o_bottom_f)), (o_slopeX, .inl (cy 0, 256, .inl o_slopeX_f)), (o_slopeY, .inl (cy 0, 256, .inl o_slopeY_f)), (o_squareX, .inl (cy 0, 256, .inl o_squareX_f)), (o_squareY, .inl (cy 0, 256, .inl o_squareY_f)), (o_placedX, .inl (cy 0, 256, .inl o_placedX_f)), (o_placedY, .inl (cy 0, 256, .inl o_placedY_f))]) [0, 1, 2, 3, 4, 5, 6, 7, 8, 9, 10, 11, 12] rfl
    have hD := hD.sub (ws' := [(o, .inr (3, [.ref o_startX, .ref o_startY, .ref o_left, .ref o_right, .ref o_top, .ref o_bottom, .int o_count, .ref o_slopeX, .ref o_slopeY, .ref o_squareX, .ref o_squareY, .ref o_placedX, .ref o_placedY])), (o_startX, .inl (cy 0, 256, .inl o_startX_f)), (o_startY, .inl (cy 0, 256, .inl o_startY_f)), (o_left, .inl (cy 0, 256, .inl o_left_f)), (o_right, .inl (cy 0, 256, .inl o_right_f)), (o_top, .inl (cy 0, 256, .inl o_top_f)), (o_bottom, .inl (cy 0, 256, .inl o_bottom_f)), (o_slopeX, .inl (cy 0, 256, .inl o_slopeX_f)), (o_slopeY, .inl (cy 0, 256, .inl o_slopeY_f)), (o_squareX, .inl (cy 0, 256, .inl o_squareX_f)), (o_squareY, .inl (cy 0, 256, .inl o_squareY_f)), (o_placedX, .inl (cy 0, 256, .inl o_placedX_f)), (o_placedY, .inl (cy 0, 256, .inl o_placedY_f))]) [0, 1, 2, 3, 4, 5, 6, 7, 8, 9, 10, 11, 12] (by decide) rfl
    refine W.widen (k := 0) (n := 0) (by decide) (by decide) ?_
    refine lv_imul hx hb d_Cv_side_179 ?_
    refine lv_goto (tgt := 184) hx hb d_Cv_side_180 (by decide) ?_
    exact w_Cv_side_184 C0 o o_startX o_startY o_left o_right o_top o_bottom o_slopeX o_slopeY o_squareX o_squareY o_placedX o_placedY o_count o_startX_f o_startY_f o_left_f o_right_f o_top_f o_bottom_f o_slopeX_f o_slopeY_f o_squareX_f o_squareY_f o_placedX_f o_placedY_f a1 a2 a3 a4 uu  x17 ((x11 * x9) - (x5 * x15)) ((x13 * x9) - (x7 * x15)) r_1 (x2 * r_3) h hP hD hS (lv_sub hl [10, 2, 1, 0] rfl)
def P_Cv_side (o_startX_f : Nat → Int32) (o_startY_f : Nat → Int32) (o_slopeX_f : Nat → Int32) (o_slopeY_f : Nat → Int32) (o_squareX_f : Nat → Int32) (o_squareY_f : Nat → Int32) (a1 : Int32) (a2 : Int32) (a3 : Int32) (a4 : Int32) : Option (Int32) :=
  bd a1 256 <| bd a1 256 <| bd a1 256 <| bd a1 256 <| bd a1 256 <| bd a1 256 <| if (lg_cmp ((o_squareY_f a1.toNatClampNeg).toInt64) (0 : Int64)) = 0 then ((P_Jl_signum ((((((o_squareX_f a1.toNatClampNeg).toInt64) * (((o_startY_f a1.toNatClampNeg) - a4).toInt64)) * (((o_startY_f a1.toNatClampNeg) - a4).toInt64)) - ((((o_slopeX_f a1.toNatClampNeg).toInt64) * ((o_slopeY_f a1.toNatClampNeg).toInt64)) * (((o_startY_f a1.toNatClampNeg) - a4).toInt64))) + (((((o_startX_f a1.toNatClampNeg) - a3).toInt64) * ((o_slopeY_f a1.toNatClampNeg).toInt64)) * ((o_slopeY_f a1.toNatClampNeg).toInt64)))).bind fun r_8 => some r_8) else (P_Cv_side_109 o_startX_f o_startY_f o_slopeX_f o_slopeY_f o_squareX_f o_squareY_f a2 ((o_squareX_f a1.toNatClampNeg).toInt64) ((o_slopeX_f a1.toNatClampNeg).toInt64) (((o_startX_f a1.toNatClampNeg) - a3).toInt64) ((o_squareY_f a1.toNatClampNeg).toInt64) ((o_slopeY_f a1.toNatClampNeg).toInt64) (((o_startY_f a1.toNatClampNeg) - a4).toInt64) ((((o_squareY_f a1.toNatClampNeg).toInt64) * ((o_slopeX_f a1.toNatClampNeg).toInt64)) - (((o_squareX_f a1.toNatClampNeg).toInt64) * ((o_slopeY_f a1.toNatClampNeg).toInt64))))
set_option maxHeartbeats 4000000 in
set_option maxRecDepth 100000 in
theorem c_Cv_side (l : Launch) (dC : Nat → ClassId) (dI : Nat → Nat → Nat) (cy : Nat → ClassId) (sz : Nat) (o : Nat) (o_startX : Nat) (o_startY : Nat) (o_left : Nat) (o_right : Nat) (o_top : Nat) (o_bottom : Nat) (o_slopeX : Nat) (o_slopeY : Nat) (o_squareX : Nat) (o_squareY : Nat) (o_placedX : Nat) (o_placedY : Nat) (o_count : Int32) (o_startX_f : Nat → Int32) (o_startY_f : Nat → Int32) (o_left_f : Nat → Int32) (o_right_f : Nat → Int32) (o_top_f : Nat → Int32) (o_bottom_f : Nat → Int32) (o_slopeX_f : Nat → Int32) (o_slopeY_f : Nat → Int32) (o_squareX_f : Nat → Int32) (o_squareY_f : Nat → Int32) (o_placedX_f : Nat → Int32) (o_placedY_f : Nat → Int32) (a1 : Int32) (a2 : Int32) (a3 : Int32) (a4 : Int32) (uu : Int32) (h : P_Cv_side o_startX_f o_startY_f o_slopeX_f o_slopeY_f o_squareX_f o_squareY_f a1 a2 a3 a4 = some uu) : Met l y_Cv_side (Cond.code y_Cv_side b_Cv_side 25 (some .int) :: G) ({ frames := 2, cells := 0, slots := 0, locals := 61 } : Room) (va_Pc [.ref o, .int a1, .int a2, .int a3, .int a4] (fun U => U.heap.size = sz ∧ va_P (dC, dI) classes [(o, .inr (3, [.ref o_startX, .ref o_startY, .ref o_left, .ref o_right, .ref o_top, .ref o_bottom, .int o_count, .ref o_slopeX, .ref o_slopeY, .ref o_squareX, .ref o_squareY, .ref o_placedX, .ref o_placedY])), (o_startX, .inl (cy 0, 256, .inl o_startX_f)), (o_startY, .inl (cy 0, 256, .inl o_startY_f)), (o_left, .inl (cy 0, 256, .inl o_left_f)), (o_right, .inl (cy 0, 256, .inl o_right_f)), (o_top, .inl (cy 0, 256, .inl o_top_f)), (o_bottom, .inl (cy 0, 256, .inl o_bottom_f)), (o_slopeX, .inl (cy 0, 256, .inl o_slopeX_f)), (o_slopeY, .inl (cy 0, 256, .inl o_slopeY_f)), (o_squareX, .inl (cy 0, 256, .inl o_squareX_f)), (o_squareY, .inl (cy 0, 256, .inl o_squareY_f)), (o_placedX, .inl (cy 0, 256, .inl o_placedX_f)), (o_placedY, .inl (cy 0, 256, .inl o_placedY_f))] U.heap ∧ va_K (dC, dI) classes (TY cy) U ∧ va_D (fun _ => True) [(o, .inr (3, [.ref o_startX, .ref o_startY, .ref o_left, .ref o_right, .ref o_top, .ref o_bottom, .int o_count, .ref o_slopeX, .ref o_slopeY, .ref o_squareX, .ref o_squareY, .ref o_placedX, .ref o_placedY])), (o_startX, .inl (cy 0, 256, .inl o_startX_f)), (o_startY, .inl (cy 0, 256, .inl o_startY_f)), (o_left, .inl (cy 0, 256, .inl o_left_f)), (o_right, .inl (cy 0, 256, .inl o_right_f)), (o_top, .inl (cy 0, 256, .inl o_top_f)), (o_bottom, .inl (cy 0, 256, .inl o_bottom_f)), (o_slopeX, .inl (cy 0, 256, .inl o_slopeX_f)), (o_slopeY, .inl (cy 0, 256, .inl o_slopeY_f)), (o_squareX, .inl (cy 0, 256, .inl o_squareX_f)), (o_squareY, .inl (cy 0, 256, .inl o_squareY_f)), (o_placedX, .inl (cy 0, 256, .inl o_placedX_f)), (o_placedY, .inl (cy 0, 256, .inl o_placedY_f))])) (va_Qi (fun r (_ : Unit) => r = uu) (fun _ t => va_P (dC, dI) classes [(o, .inr (3, [.ref o_startX, .ref o_startY, .ref o_left, .ref o_right, .ref o_top, .ref o_bottom, .int o_count, .ref o_slopeX, .ref o_slopeY, .ref o_squareX, .ref o_squareY, .ref o_placedX, .ref o_placedY])), (o_startX, .inl (cy 0, 256, .inl o_startX_f)), (o_startY, .inl (cy 0, 256, .inl o_startY_f)), (o_left, .inl (cy 0, 256, .inl o_left_f)), (o_right, .inl (cy 0, 256, .inl o_right_f)), (o_top, .inl (cy 0, 256, .inl o_top_f)), (o_bottom, .inl (cy 0, 256, .inl o_bottom_f)), (o_slopeX, .inl (cy 0, 256, .inl o_slopeX_f)), (o_slopeY, .inl (cy 0, 256, .inl o_slopeY_f)), (o_squareX, .inl (cy 0, 256, .inl o_squareX_f)), (o_squareY, .inl (cy 0, 256, .inl o_squareY_f)), (o_placedX, .inl (cy 0, 256, .inl o_placedX_f)), (o_placedY, .inl (cy 0, 256, .inl o_placedY_f))] t.heap ∧ va_K (dC, dI) classes (TY cy) t ∧ va_D (va_A [(o, .inr (3, [.ref o_startX, .ref o_startY, .ref o_left, .ref o_right, .ref o_top, .ref o_bottom, .int o_count, .ref o_slopeX, .ref o_slopeY, .ref o_squareX, .ref o_squareY, .ref o_placedX, .ref o_placedY])), (o_startX, .inl (cy 0, 256, .inl o_startX_f)), (o_startY, .inl (cy 0, 256, .inl o_startY_f)), (o_left, .inl (cy 0, 256, .inl o_left_f)), (o_right, .inl (cy 0, 256, .inl o_right_f)), (o_top, .inl (cy 0, 256, .inl o_top_f)), (o_bottom, .inl (cy 0, 256, .inl o_bottom_f)), (o_slopeX, .inl (cy 0, 256, .inl o_slopeX_f)), (o_slopeY, .inl (cy 0, 256, .inl o_slopeY_f)), (o_squareX, .inl (cy 0, 256, .inl o_squareX_f)), (o_squareY, .inl (cy 0, 256, .inl o_squareY_f)), (o_placedX, .inl (cy 0, 256, .inl o_placedX_f)), (o_placedY, .inl (cy 0, 256, .inl o_placedY_f))] sz) [(o, .inr (3, [.ref o_startX, .ref o_startY, .ref o_left, .ref o_right, .ref o_top, .ref o_bottom, .int o_count, .ref o_slopeX, .ref o_slopeY, .ref o_squareX, .ref o_squareY, .ref o_placedX, .ref o_placedY])), (o_startX, .inl (cy 0, 256, .inl o_startX_f)), (o_startY, .inl (cy 0, 256, .inl o_startY_f)), (o_left, .inl (cy 0, 256, .inl o_left_f)), (o_right, .inl (cy 0, 256, .inl o_right_f)), (o_top, .inl (cy 0, 256, .inl o_top_f)), (o_bottom, .inl (cy 0, 256, .inl o_bottom_f)), (o_slopeX, .inl (cy 0, 256, .inl o_slopeX_f)), (o_slopeY, .inl (cy 0, 256, .inl o_slopeY_f)), (o_squareX, .inl (cy 0, 256, .inl o_squareX_f)), (o_squareY, .inl (cy 0, 256, .inl o_squareY_f)), (o_placedX, .inl (cy 0, 256, .inl o_placedX_f)), (o_placedY, .inl (cy 0, 256, .inl o_placedY_f))]) (va_A [(o, .inr (3, [.ref o_startX, .ref o_startY, .ref o_left, .ref o_right, .ref o_top, .ref o_bottom, .int o_count, .ref o_slopeX, .ref o_slopeY, .ref o_squareX, .ref o_squareY, .ref o_placedX, .ref o_placedY])), (o_startX, .inl (cy 0, 256, .inl o_startX_f)), (o_startY, .inl (cy 0, 256, .inl o_startY_f)), (o_left, .inl (cy 0, 256, .inl o_left_f)), (o_right, .inl (cy 0, 256, .inl o_right_f)), (o_top, .inl (cy 0, 256, .inl o_top_f)), (o_bottom, .inl (cy 0, 256, .inl o_bottom_f)), (o_slopeX, .inl (cy 0, 256, .inl o_slopeX_f)), (o_slopeY, .inl (cy 0, 256, .inl o_slopeY_f)), (o_squareX, .inl (cy 0, 256, .inl o_squareX_f)), (o_squareY, .inl (cy 0, 256, .inl o_squareY_f)), (o_placedX, .inl (cy 0, 256, .inl o_placedX_f)), (o_placedY, .inl (cy 0, 256, .inl o_placedY_f))] sz)) 0 0 (va_A [(o, .inr (3, [.ref o_startX, .ref o_startY, .ref o_left, .ref o_right, .ref o_top, .ref o_bottom, .int o_count, .ref o_slopeX, .ref o_slopeY, .ref o_squareX, .ref o_squareY, .ref o_placedX, .ref o_placedY])), (o_startX, .inl (cy 0, 256, .inl o_startX_f)), (o_startY, .inl (cy 0, 256, .inl o_startY_f)), (o_left, .inl (cy 0, 256, .inl o_left_f)), (o_right, .inl (cy 0, 256, .inl o_right_f)), (o_top, .inl (cy 0, 256, .inl o_top_f)), (o_bottom, .inl (cy 0, 256, .inl o_bottom_f)), (o_slopeX, .inl (cy 0, 256, .inl o_slopeX_f)), (o_slopeY, .inl (cy 0, 256, .inl o_slopeY_f)), (o_squareX, .inl (cy 0, 256, .inl o_squareX_f)), (o_squareY, .inl (cy 0, 256, .inl o_squareY_f)), (o_placedX, .inl (cy 0, 256, .inl o_placedX_f)), (o_placedY, .inl (cy 0, 256, .inl o_placedY_f))] sz) := by
  refine Met.ofW (cc := b_Cv_side) (maxL := 25) (ret := (some .int)) (by decide) rfl ?_
  intro p e s m args below meth c s₁ B hml hv
  obtain ⟨rfl, hsz, hP, hK, hD0⟩ := hv
  have hx := B.exec
  have hb := B.bytes
  have hr := B.returns
  have hts := atoms_spec (ws := Cond.code y_Cv_side b_Cv_side 25 (some .int) :: G) B.pre
  have htsG : ∀ w ∈ G, w.before _ s = true := fun w hw => hts w (List.mem_cons_of_mem _ hw)
  have hown : s.vm.findClass "GlyphPage$Curves" = some m.cls := findClass_of_methodNamed B.named
  have hlocks := B.notSynchronized
  subst hsz
  have hD := hD0.self (sz := s.heap.size)
  generalize hAe : va_A [(o, .inr (3, [.ref o_startX, .ref o_startY, .ref o_left, .ref o_right, .ref o_top, .ref o_bottom, .int o_count, .ref o_slopeX, .ref o_slopeY, .ref o_squareX, .ref o_squareY, .ref o_placedX, .ref o_placedY])), (o_startX, .inl (cy 0, 256, .inl o_startX_f)), (o_startY, .inl (cy 0, 256, .inl o_startY_f)), (o_left, .inl (cy 0, 256, .inl o_left_f)), (o_right, .inl (cy 0, 256, .inl o_right_f)), (o_top, .inl (cy 0, 256, .inl o_top_f)), (o_bottom, .inl (cy 0, 256, .inl o_bottom_f)), (o_slopeX, .inl (cy 0, 256, .inl o_slopeX_f)), (o_slopeY, .inl (cy 0, 256, .inl o_slopeY_f)), (o_squareX, .inl (cy 0, 256, .inl o_squareX_f)), (o_squareY, .inl (cy 0, 256, .inl o_squareY_f)), (o_placedX, .inl (cy 0, 256, .inl o_placedX_f)), (o_placedY, .inl (cy 0, 256, .inl o_placedY_f))] s.heap.size = A at hD ⊢
  have hA : ∀ q : Nat, s.heap.size ≤ q → A q := fun q h => by rw [← hAe]; exact Or.inr h
  have hS : va_S A s.heap s.heap [] := va_S.rf
  have hl := lv_entry ([.ref o, .int a1, .int a2, .int a3, .int a4]) (n := 25) (Nat.le_of_ble_eq_true rfl)
  rw [lg_entry_eq]
  generalize (lg_sl ([.ref o, .int a1, .int a2, .int a3, .int a4]) ++ List.replicate (25 - (lg_sl ([.ref o, .int a1, .int a2, .int a3, .int a4])).length) Slot.unset).toArray = ls at hl ⊢
  have hl : lv_has ls 25 [(0, .ref o), (1, .int a1), (2, .int a2), (3, .int a3), (4, .int a4)] := hl
  have C0 : Cx p s m _ meth c A dC dI cy b_Cv_side 25 (some .int) "GlyphPage$Curves" := ⟨hx, hb, hr, hlocks, hml, hown, htsG, hA, hK⟩
  unfold P_Cv_side at h
  refine lv_aload_n hx hb d_Cv_side_0 rfl (lv_at hl 0 rfl) ?_
  refine va_get (D := (dC, dI)) (ci := 3) (v := .ref o_squareX) (C := "GlyphPage$Curves") (T := F_Cv) (N := 13) hx hb htsG iG_Cv hown hK hP 0 rfl rfl 9 (by decide) (htsG _ mW148) (fun _ h9 => h9) rfl d_Cv_side_1 ?_
  refine lv_iload_n hx hb d_Cv_side_4 rfl (lv_at hl 1 rfl) ?_
  obtain ⟨hin_1, h⟩ := bd_some h
  refine va_iald hx hb hK hP 9 0 rfl rfl hin_1 d_Cv_side_5 ?_
  refine lv_i2l hx hb d_Cv_side_6 rfl ?_
  refine lv_lstore (lv' := [(5, .long ((o_squareX_f a1.toNatClampNeg).toInt64)), (0, .ref o), (1, .int a1), (2, .int a2), (3, .int a3), (4, .int a4)]) hx hb d_Cv_side_7 hl (by decide) rfl (fun ls hl => ?_)
  refine lv_aload_n hx hb d_Cv_side_9 rfl (lv_at hl 1 rfl) ?_
  refine va_get (D := (dC, dI)) (ci := 3) (v := .ref o_slopeX) (C := "GlyphPage$Curves") (T := F_Cv) (N := 13) hx hb htsG iG_Cv hown hK hP 0 rfl rfl 7 (by decide) (htsG _ mW146) (fun _ h9 => h9) rfl d_Cv_side_10 ?_
  refine lv_iload_n hx hb d_Cv_side_13 rfl (lv_at hl 2 rfl) ?_
  obtain ⟨hin_2, h⟩ := bd_some h
  refine va_iald hx hb hK hP 7 0 rfl rfl hin_2 d_Cv_side_14 ?_
  refine lv_i2l hx hb d_Cv_side_15 rfl ?_
  refine lv_lstore (lv' := [(7, .long ((o_slopeX_f a1.toNatClampNeg).toInt64)), (5, .long ((o_squareX_f a1.toNatClampNeg).toInt64)), (0, .ref o), (1, .int a1), (2, .int a2), (3, .int a3), (4, .int a4)]) hx hb d_Cv_side_16 hl (by decide) rfl (fun ls hl => ?_)
  refine lv_aload_n hx hb d_Cv_side_18 rfl (lv_at hl 2 rfl) ?_
  refine va_get (D := (dC, dI)) (ci := 3) (v := .ref o_startX) (C := "GlyphPage$Curves") (T := F_Cv) (N := 13) hx hb htsG iG_Cv hown hK hP 0 rfl rfl 0 (by decide) (htsG _ mW132) (fun _ h9 => h9) rfl d_Cv_side_19 ?_
  refine lv_iload_n hx hb d_Cv_side_22 rfl (lv_at hl 3 rfl) ?_
  obtain ⟨hin_3, h⟩ := bd_some h
  refine va_iald hx hb hK hP 1 0 rfl rfl hin_3 d_Cv_side_23 ?_
  refine lv_iload_n hx hb d_Cv_side_24 rfl (lv_at hl 5 rfl) ?_
  refine lv_isub hx hb d_Cv_side_25 ?_
  refine lv_i2l hx hb d_Cv_side_26 rfl ?_
  refine lv_lstore (lv' := [(9, .long (((o_startX_f a1.toNatClampNeg) - a3).toInt64)), (7, .long ((o_slopeX_f a1.toNatClampNeg).toInt64)), (5, .long ((o_squareX_f a1.toNatClampNeg).toInt64)), (0, .ref o), (1, .int a1), (2, .int a2), (3, .int a3), (4, .int a4)]) hx hb d_Cv_side_27 hl (by decide) rfl (fun ls hl => ?_)
  refine lv_aload_n hx hb d_Cv_side_29 rfl (lv_at hl 3 rfl) ?_
  refine va_get (D := (dC, dI)) (ci := 3) (v := .ref o_squareY) (C := "GlyphPage$Curves") (T := F_Cv) (N := 13) hx hb htsG iG_Cv hown hK hP 0 rfl rfl 10 (by decide) (htsG _ mW149) (fun _ h9 => h9) rfl d_Cv_side_30 ?_
  refine lv_iload_n hx hb d_Cv_side_33 rfl (lv_at hl 4 rfl) ?_
  obtain ⟨hin_4, h⟩ := bd_some h
  refine va_iald hx hb hK hP 10 0 rfl rfl hin_4 d_Cv_side_34 ?_
  refine lv_i2l hx hb d_Cv_side_35 rfl ?_
  refine lv_lstore (lv' := [(11, .long ((o_squareY_f a1.toNatClampNeg).toInt64)), (9, .long (((o_startX_f a1.toNatClampNeg) - a3).toInt64)), (7, .long ((o_slopeX_f a1.toNatClampNeg).toInt64)), (5, .long ((o_squareX_f a1.toNatClampNeg).toInt64)), (0, .ref o), (1, .int a1), (2, .int a2), (3, .int a3), (4, .int a4)]) hx hb d_Cv_side_36 hl (by decide) rfl (fun ls hl => ?_)
  refine lv_aload_n hx hb d_Cv_side_38 rfl (lv_at hl 4 rfl) ?_
  refine va_get (D := (dC, dI)) (ci := 3) (v := .ref o_slopeY) (C := "GlyphPage$Curves") (T := F_Cv) (N := 13) hx hb htsG iG_Cv hown hK hP 0 rfl rfl 8 (by decide) (htsG _ mW147) (fun _ h9 => h9) rfl d_Cv_side_39 ?_
  refine lv_iload_n hx hb d_Cv_side_42 rfl (lv_at hl 5 rfl) ?_
  obtain ⟨hin_5, h⟩ := bd_some h
  refine va_iald hx hb hK hP 8 0 rfl rfl hin_5 d_Cv_side_43 ?_
  refine lv_i2l hx hb d_Cv_side_44 rfl ?_
  refine lv_lstore (lv' := [(13, .long ((o_slopeY_f a1.toNatClampNeg).toInt64)), (11, .long ((o_squareY_f a1.toNatClampNeg).toInt64)), (9, .long (((o_startX_f a1.toNatClampNeg) - a3).toInt64)), (7, .long ((o_slopeX_f a1.toNatClampNeg).toInt64)), (5, .long ((o_squareX_f a1.toNatClampNeg).toInt64)), (0, .ref o), (1, .int a1), (2, .int a2), (3, .int a3), (4, .int a4)]) hx hb d_Cv_side_45 hl (by decide) rfl (fun ls hl => ?_)
  refine lv_aload_n hx hb d_Cv_side_47 rfl (lv_at hl 5 rfl) ?_
  refine va_get (D := (dC, dI)) (ci := 3) (v := .ref o_startY) (C := "GlyphPage$Curves") (T := F_Cv) (N := 13) hx hb htsG iG_Cv hown hK hP 0 rfl rfl 1 (by decide) (htsG _ mW134) (fun _ h9 => h9) rfl d_Cv_side_48 ?_
  refine lv_iload_n hx hb d_Cv_side_51 rfl (lv_at hl 6 rfl) ?_
  obtain ⟨hin_6, h⟩ := bd_some h
  refine va_iald hx hb hK hP 2 0 rfl rfl hin_6 d_Cv_side_52 ?_
  refine lv_iload hx hb d_Cv_side_53 (lv_at hl 9 rfl) ?_
  refine lv_isub hx hb d_Cv_side_55 ?_
  refine lv_i2l hx hb d_Cv_side_56 rfl ?_
  refine lv_lstore (lv' := [(15, .long (((o_startY_f a1.toNatClampNeg) - a4).toInt64)), (13, .long ((o_slopeY_f a1.toNatClampNeg).toInt64)), (11, .long ((o_squareY_f a1.toNatClampNeg).toInt64)), (9, .long (((o_startX_f a1.toNatClampNeg) - a3).toInt64)), (7, .long ((o_slopeX_f a1.toNatClampNeg).toInt64)), (5, .long ((o_squareX_f a1.toNatClampNeg).toInt64)), (0, .ref o), (1, .int a1), (2, .int a2), (3, .int a3), (4, .int a4)]) hx hb d_Cv_side_57 hl (by decide) rfl (fun ls hl => ?_)
  refine lv_lload hx hb d_Cv_side_59 (lv_at hl 2 rfl) ?_
  refine lv_lconst (v := (0 : Int64)) hx hb d_Cv_side_61 (by decide) ?_
  refine W.lcmp hx hb d_Cv_side_62 ?_
  refine lv_if_ne (tgt := 96) hx hb d_Cv_side_63 (by decide) (fun c_7 => ?_) (fun c_7 => ?_)
  · replace h := (if_neg c_7).symm.trans h
    refine lv_lload hx hb d_Cv_side_96 (lv_at hl 2 rfl) ?_
    refine lv_lload hx hb d_Cv_side_98 (lv_at hl 4 rfl) ?_
    refine lv_lmul hx hb d_Cv_side_100 ?_
    refine lv_lload hx hb d_Cv_side_101 (lv_at hl 5 rfl) ?_
    refine lv_lload hx hb d_Cv_side_103 (lv_at hl 1 rfl) ?_
    refine lv_lmul hx hb d_Cv_side_105 ?_
    refine lv_lsub hx hb d_Cv_side_106 ?_
    refine lv_lstore (lv' := [(17, .long ((((o_squareY_f a1.toNatClampNeg).toInt64) * ((o_slopeX_f a1.toNatClampNeg).toInt64)) - (((o_squareX_f a1.toNatClampNeg).toInt64) * ((o_slopeY_f a1.toNatClampNeg).toInt64)))), (15, .long (((o_startY_f a1.toNatClampNeg) - a4).toInt64)), (13, .long ((o_slopeY_f a1.toNatClampNeg).toInt64)), (11, .long ((o_squareY_f a1.toNatClampNeg).toInt64)), (9, .long (((o_startX_f a1.toNatClampNeg) - a3).toInt64)), (7, .long ((o_slopeX_f a1.toNatClampNeg).toInt64)), (5, .long ((o_squareX_f a1.toNatClampNeg).toInt64)), (0, .ref o), (1, .int a1), (2, .int a2), (3, .int a3), (4, .int a4)]) hx hb d_Cv_side_107 hl (by decide) rfl (fun ls hl => ?_)
    exact w_Cv_side_109 C0 o o_startX o_startY o_left o_right o_top o_bottom o_slopeX o_slopeY o_squareX o_squareY o_placedX o_placedY o_count o_startX_f o_startY_f o_left_f o_right_f o_top_f o_bottom_f o_slopeX_f o_slopeY_f o_squareX_f o_squareY_f o_placedX_f o_placedY_f a1 a2 a3 a4 uu  a2 ((o_squareX_f a1.toNatClampNeg).toInt64) ((o_slopeX_f a1.toNatClampNeg).toInt64) (((o_startX_f a1.toNatClampNeg) - a3).toInt64) ((o_squareY_f a1.toNatClampNeg).toInt64) ((o_slopeY_f a1.toNatClampNeg).toInt64) (((o_startY_f a1.toNatClampNeg) - a4).toInt64) ((((o_squareY_f a1.toNatClampNeg).toInt64) * ((o_slopeX_f a1.toNatClampNeg).toInt64)) - (((o_squareX_f a1.toNatClampNeg).toInt64) * ((o_slopeY_f a1.toNatClampNeg).toInt64))) h hP hD hS (lv_sub hl [9, 6, 5, 4, 3, 2, 1, 0] rfl)
  · replace h := (if_pos c_7).symm.trans h
    refine lv_lload hx hb d_Cv_side_66 (lv_at hl 5 rfl) ?_
    refine lv_lload hx hb d_Cv_side_68 (lv_at hl 0 rfl) ?_
    refine lv_lmul hx hb d_Cv_side_70 ?_
    refine lv_lload hx hb d_Cv_side_71 (lv_at hl 0 rfl) ?_
    refine lv_lmul hx hb d_Cv_side_73 ?_
    refine lv_lload hx hb d_Cv_side_74 (lv_at hl 4 rfl) ?_
    refine lv_lload hx hb d_Cv_side_76 (lv_at hl 1 rfl) ?_
    refine lv_lmul hx hb d_Cv_side_78 ?_
    refine lv_lload hx hb d_Cv_side_79 (lv_at hl 0 rfl) ?_
    refine lv_lmul hx hb d_Cv_side_81 ?_
    refine lv_lsub hx hb d_Cv_side_82 ?_
    refine lv_lload hx hb d_Cv_side_83 (lv_at hl 3 rfl) ?_
    refine lv_lload hx hb d_Cv_side_85 (lv_at hl 1 rfl) ?_
    refine lv_lmul hx hb d_Cv_side_87 ?_
    refine lv_lload hx hb d_Cv_side_88 (lv_at hl 1 rfl) ?_
    refine lv_lmul hx hb d_Cv_side_90 ?_
    refine lv_ladd hx hb d_Cv_side_91 ?_
    obtain ⟨r_8, hq, h⟩ := Option.bind_eq_some_iff.mp h
    try dsimp only at h
    have hPc := hP.sub (ws' := []) [] rfl
    have hDc := hD.sub (ws' := []) [] (by decide) rfl
    have hFc := va_free (wc := []) hD hS hA [] rfl
    refine va_calli (va_runS (As := [.long ((((((o_squareX_f a1.toNatClampNeg).toInt64) * (((o_startY_f a1.toNatClampNeg) - a4).toInt64)) * (((o_startY_f a1.toNatClampNeg) - a4).toInt64)) - ((((o_slopeX_f a1.toNatClampNeg).toInt64) * ((o_slopeY_f a1.toNatClampNeg).toInt64)) * (((o_startY_f a1.toNatClampNeg) - a4).toInt64))) + (((((o_startX_f a1.toNatClampNeg) - a3).toInt64) * ((o_slopeY_f a1.toNatClampNeg).toInt64)) * ((o_slopeY_f a1.toNatClampNeg).toInt64)))]) (rest := []) ⟨hx, hb, hml, hown, htsG⟩ (c_Jl_signum l dC dI cy s.heap.size ((((((o_squareX_f a1.toNatClampNeg).toInt64) * (((o_startY_f a1.toNatClampNeg) - a4).toInt64)) * (((o_startY_f a1.toNatClampNeg) - a4).toInt64)) - ((((o_slopeX_f a1.toNatClampNeg).toInt64) * ((o_slopeY_f a1.toNatClampNeg).toInt64)) * (((o_startY_f a1.toNatClampNeg) - a4).toInt64))) + (((((o_startX_f a1.toNatClampNeg) - a3).toInt64) * ((o_slopeY_f a1.toNatClampNeg).toInt64)) * ((o_slopeY_f a1.toNatClampNeg).toInt64))) r_8 hq) (va_cwS 1 htsG (gS mW629 mW630 mW13 mW631) rfl rfl rfl (by decide +kernel) ⟨Nat.le_of_ble_eq_true rfl, Nat.le_of_ble_eq_true rfl⟩) ⟨fun a U g mk q => by obtain ⟨q0, q1, qP, qK, qD⟩ := q; exact ⟨q0, q1, qP, va_K.moved (u := U) (U := U.calling g mk a) (Vm.Alike.refl U.vm) qK, qD⟩, fun U hU hW => ⟨rfl, by rw [hU], by rw [hU]; exact hPc, va_K.moved hW.alike hK, hDc.weaken (fun _ _ _ _ => trivial)⟩⟩ rfl rfl hl.1 rfl (lv_room (Nat.le_of_ble_eq_true rfl)) d_Cv_side_92 ⟨Nat.le_of_ble_eq_true rfl, Nat.le_of_ble_eq_true rfl⟩) hS (fun q _ h => hFc q h) hFc (fun rr u t H1 locs ht hvm hw hB hz1 hk1 hS => ?_)
    obtain ⟨hP1, hK1, hD1⟩ := hB
    rw [ht] at hP1
    replace hw : r_8 = rr := hw.symm
    subst hw
    obtain ⟨hP, hD⟩ := va_join (wr := [(o, .inr (3, [.ref o_startX, .ref o_startY, .ref o_left, .ref o_right, .ref o_top, .ref o_bottom, .int o_count, .ref o_slopeX, .ref o_slopeY, .ref o_squareX, .ref o_squareY, .ref o_placedX, .ref o_placedY])), (o_startX, .inl (cy 0, 256, .inl o_startX_f)), (o_startY, .inl (cy 0, 256, .inl o_startY_f)), (o_left, .inl (cy 0, 256, .inl o_left_f)), (o_right, .inl (cy 0, 256, .inl o_right_f)), (o_top, .inl (cy 0, 256, .inl o_top_f)), (o_bottom, .inl (cy 0, 256, .inl o_bottom_f)), (o_slopeX, .inl (cy 0, 256, .inl o_slopeX_f)), (o_slopeY, .inl (cy 0, 256, .inl o_slopeY_f)), (o_squareX, .inl (cy 0, 256, .inl o_squareX_f)), (o_squareY, .inl (cy 0, 256, .inl o_squareY_f)), (o_placedX, .inl (cy 0, 256, .inl o_placedX_f)), (o_placedY, .inl (cy 0, 256, .inl o_placedY_f))]) (w1 := []) hP hD [] [0, 1, 2, 3, 4, 5, 6, 7, 8, 9, 10, 11, 12] rfl rfl (by decide) (by decide) hk1 hFc hP1 hD1
    generalize H1 = H at hP hS ⊢
    have hP := hP.sub (ws' := [(o, .inr (3, [.ref o_startX, .ref o_startY, .ref o_left, .ref o_right, .ref o_top, .ref o_bottom, .int o_count, .ref o_slopeX, .ref o_slopeY, .ref o_squareX, .ref o_squareY, .ref o_placedX, .ref o_placedY])), (o_startX, .inl (cy 0, 256, .inl o_startX_f)), (o_startY, .inl (cy 0, 256, .inl o_startY_f)), (o_left, .inl (cy 0, 256, .inl o_left_f)), (o_right, .inl (cy 0, 256, .inl o_right_f)), (o_top, .inl (cy 0, 256, .inl o_top_f)), (o_bottom, .inl (cy 0, 256, .inl o_bottom_f)), (o_slopeX, .inl (cy 0, 256, .inl o_slopeX_f)), (o_slopeY, .inl (cy 0, 256, .inl o_slopeY_f)), (o_squareX, .inl (cy 0, 256, .inl o_squareX_f)), (o_squareY, .inl (cy 0, 256, .inl o_squareY_f)), (o_placedX, .inl (cy 0, 256, .inl o_placedX_f)), (o_placedY, .inl (cy 0, 256, .inl o_placedY_f))]) [0, 1, 2, 3, 4, 5, 6, 7, 8, 9, 10, 11, 12] rfl
    have hD := hD.sub (ws' := [(o, .inr (3, [.ref o_startX, .ref o_startY, .ref o_left, .ref o_right, .ref o_top, .ref o_bottom, .int o_count, .ref o_slopeX, .ref o_slopeY, .ref o_squareX, .ref o_squareY, .ref o_placedX, .ref o_placedY])), (o_startX, .inl (cy 0, 256, .inl o_startX_f)), (o_startY, .inl (cy 0, 256, .inl o_startY_f)), (o_left, .inl (cy 0, 256, .inl o_left_f)), (o_right, .inl (cy 0, 256, .inl o_right_f)), (o_top, .inl (cy 0, 256, .inl o_top_f)), (o_bottom, .inl (cy 0, 256, .inl o_bottom_f)), (o_slopeX, .inl (cy 0, 256, .inl o_slopeX_f)), (o_slopeY, .inl (cy 0, 256, .inl o_slopeY_f)), (o_squareX, .inl (cy 0, 256, .inl o_squareX_f)), (o_squareY, .inl (cy 0, 256, .inl o_squareY_f)), (o_placedX, .inl (cy 0, 256, .inl o_placedX_f)), (o_placedY, .inl (cy 0, 256, .inl o_placedY_f))]) [0, 1, 2, 3, 4, 5, 6, 7, 8, 9, 10, 11, 12] (by decide) rfl
    refine W.widen (k := 0) (n := 0) (by decide) (by decide) ?_
    cases h
    exact W.iret hx hb hr (fun t ht hW => ⟨⟨_, (), rfl, rfl, by rw [ht]; exact hP, va_K.moved hW.alike hK, hD⟩, hS.F ht⟩) hS.2.2 d_Cv_side_95 hlocks
def P_Cv_windingAt_171 (o_count : Int32) (o_startX_f : Nat → Int32) (o_startY_f : Nat → Int32) (o_slopeX_f : Nat → Int32) (o_slopeY_f : Nat → Int32) (o_squareX_f : Nat → Int32) (o_squareY_f : Nat → Int32) (z5 : Int32 × Int32 × Int32 × Int32 → Option (Int32)) (x1 : Int32) (x2 : Int32) (x4 : Int32) (k0 : Int32) (k1 : Int32) (k2 : Int32) : Option (Int32) :=
  z5 (x1, x2, (k2 + (k1 - k0)), (x4 + (1 : Int32)))
set_option maxHeartbeats 4000000 in
set_option maxRecDepth 100000 in
theorem w_Cv_windingAt_171 (C0 : Cx p s m args meth c A dC dI cy b_Cv_windingAt 8 (some .int) "GlyphPage$Curves") (o : Nat) (o_startX : Nat) (o_startY : Nat) (o_left : Nat) (o_right : Nat) (o_top : Nat) (o_bottom : Nat) (o_slopeX : Nat) (o_slopeY : Nat) (o_squareX : Nat) (o_squareY : Nat) (o_placedX : Nat) (o_placedY : Nat) (o_count : Int32) (o_startX_f : Nat → Int32) (o_startY_f : Nat → Int32) (o_left_f : Nat → Int32) (o_right_f : Nat → Int32) (o_top_f : Nat → Int32) (o_bottom_f : Nat → Int32) (o_slopeX_f : Nat → Int32) (o_slopeY_f : Nat → Int32) (o_squareX_f : Nat → Int32) (o_squareY_f : Nat → Int32) (o_placedX_f : Nat → Int32) (o_placedY_f : Nat → Int32) (a1 : Int32) (a2 : Int32) (uu : Int32) (z5 : Int32 × Int32 × Int32 × Int32 → Option (Int32)) (hz5 : ∀ (x1 : Int32) (x2 : Int32) (x3 : Int32) (x4 : Int32) (H : Heap) (locs : List Loc) (ls : Array Slot), z5 (x1, x2, x3, x4) = some uu → va_P (dC, dI) classes [(o, .inr (3, [.ref o_startX, .ref o_startY, .ref o_left, .ref o_right, .ref o_top, .ref o_bottom, .int o_count, .ref o_slopeX, .ref o_slopeY, .ref o_squareX, .ref o_squareY, .ref o_placedX, .ref o_placedY])), (o_startX, .inl (cy 0, 256, .inl o_startX_f)), (o_startY, .inl (cy 0, 256, .inl o_startY_f)), (o_left, .inl (cy 0, 256, .inl o_left_f)), (o_right, .inl (cy 0, 256, .inl o_right_f)), (o_top, .inl (cy 0, 256, .inl o_top_f)), (o_bottom, .inl (cy 0, 256, .inl o_bottom_f)), (o_slopeX, .inl (cy 0, 256, .inl o_slopeX_f)), (o_slopeY, .inl (cy 0, 256, .inl o_slopeY_f)), (o_squareX, .inl (cy 0, 256, .inl o_squareX_f)), (o_squareY, .inl (cy 0, 256, .inl o_squareY_f)), (o_placedX, .inl (cy 0, 256, .inl o_placedX_f)), (o_placedY, .inl (cy 0, 256, .inl o_placedY_f))] H → va_D A [(o, .inr (3, [.ref o_startX, .ref o_startY, .ref o_left, .ref o_right, .ref o_top, .ref o_bottom, .int o_count, .ref o_slopeX, .ref o_slopeY, .ref o_squareX, .ref o_squareY, .ref o_placedX, .ref o_placedY])), (o_startX, .inl (cy 0, 256, .inl o_startX_f)), (o_startY, .inl (cy 0, 256, .inl o_startY_f)), (o_left, .inl (cy 0, 256, .inl o_left_f)), (o_right, .inl (cy 0, 256, .inl o_right_f)), (o_top, .inl (cy 0, 256, .inl o_top_f)), (o_bottom, .inl (cy 0, 256, .inl o_bottom_f)), (o_slopeX, .inl (cy 0, 256, .inl o_slopeX_f)), (o_slopeY, .inl (cy 0, 256, .inl o_slopeY_f)), (o_squareX, .inl (cy 0, 256, .inl o_squareX_f)), (o_squareY, .inl (cy 0, 256, .inl o_squareY_f)), (o_placedX, .inl (cy 0, 256, .inl o_placedX_f)), (o_placedY, .inl (cy 0, 256, .inl o_placedY_f))] → va_S A s.heap H locs → lv_has ls 8 [(0, .ref o), (1, .int x1), (2, .int x2), (3, .int x3), (4, .int x4)] → W p l e ({ frames := 3, cells := 0, slots := 0, locals := 105 } : Room) s m args below meth c H locs 0 0 (MQ below (va_Qi (fun r (_ : Unit) => r = uu) (fun _ t => va_P (dC, dI) classes [(o, .inr (3, [.ref o_startX, .ref o_startY, .ref o_left, .ref o_right, .ref o_top, .ref o_bottom, .int o_count, .ref o_slopeX, .ref o_slopeY, .ref o_squareX, .ref o_squareY, .ref o_placedX, .ref o_placedY])), (o_startX, .inl (cy 0, 256, .inl o_startX_f)), (o_startY, .inl (cy 0, 256, .inl o_startY_f)), (o_left, .inl (cy 0, 256, .inl o_left_f)), (o_right, .inl (cy 0, 256, .inl o_right_f)), (o_top, .inl (cy 0, 256, .inl o_top_f)), (o_bottom, .inl (cy 0, 256, .inl o_bottom_f)), (o_slopeX, .inl (cy 0, 256, .inl o_slopeX_f)), (o_slopeY, .inl (cy 0, 256, .inl o_slopeY_f)), (o_squareX, .inl (cy 0, 256, .inl o_squareX_f)), (o_squareY, .inl (cy 0, 256, .inl o_squareY_f)), (o_placedX, .inl (cy 0, 256, .inl o_placedX_f)), (o_placedY, .inl (cy 0, 256, .inl o_placedY_f))] t.heap ∧ va_K (dC, dI) classes (TY cy) t ∧ va_D A [(o, .inr (3, [.ref o_startX, .ref o_startY, .ref o_left, .ref o_right, .ref o_top, .ref o_bottom, .int o_count, .ref o_slopeX, .ref o_slopeY, .ref o_squareX, .ref o_squareY, .ref o_placedX, .ref o_placedY])), (o_startX, .inl (cy 0, 256, .inl o_startX_f)), (o_startY, .inl (cy 0, 256, .inl o_startY_f)), (o_left, .inl (cy 0, 256, .inl o_left_f)), (o_right, .inl (cy 0, 256, .inl o_right_f)), (o_top, .inl (cy 0, 256, .inl o_top_f)), (o_bottom, .inl (cy 0, 256, .inl o_bottom_f)), (o_slopeX, .inl (cy 0, 256, .inl o_slopeX_f)), (o_slopeY, .inl (cy 0, 256, .inl o_slopeY_f)), (o_squareX, .inl (cy 0, 256, .inl o_squareX_f)), (o_squareY, .inl (cy 0, 256, .inl o_squareY_f)), (o_placedX, .inl (cy 0, 256, .inl o_placedX_f)), (o_placedY, .inl (cy 0, 256, .inl o_placedY_f))]) A) args s 0 0 A) (F0 m 5 ls [])) (x1 : Int32) (x2 : Int32) (x4 : Int32) (k0 : Int32) (k1 : Int32) (k2 : Int32) {H : Heap} {locs : List Loc} {ls : Array Slot} (h : P_Cv_windingAt_171 o_count o_startX_f o_startY_f o_slopeX_f o_slopeY_f o_squareX_f o_squareY_f z5 x1 x2 x4 k0 k1 k2 = some uu) : va_P (dC, dI) classes [(o, .inr (3, [.ref o_startX, .ref o_startY, .ref o_left, .ref o_right, .ref o_top, .ref o_bottom, .int o_count, .ref o_slopeX, .ref o_slopeY, .ref o_squareX, .ref o_squareY, .ref o_placedX, .ref o_placedY])), (o_startX, .inl (cy 0, 256, .inl o_startX_f)), (o_startY, .inl (cy 0, 256, .inl o_startY_f)), (o_left, .inl (cy 0, 256, .inl o_left_f)), (o_right, .inl (cy 0, 256, .inl o_right_f)), (o_top, .inl (cy 0, 256, .inl o_top_f)), (o_bottom, .inl (cy 0, 256, .inl o_bottom_f)), (o_slopeX, .inl (cy 0, 256, .inl o_slopeX_f)), (o_slopeY, .inl (cy 0, 256, .inl o_slopeY_f)), (o_squareX, .inl (cy 0, 256, .inl o_squareX_f)), (o_squareY, .inl (cy 0, 256, .inl o_squareY_f)), (o_placedX, .inl (cy 0, 256, .inl o_placedX_f)), (o_placedY, .inl (cy 0, 256, .inl o_placedY_f))] H → va_D A [(o, .inr (3, [.ref o_startX, .ref o_startY, .ref o_left, .ref o_right, .ref o_top, .ref o_bottom, .int o_count, .ref o_slopeX, .ref o_slopeY, .ref o_squareX, .ref o_squareY, .ref o_placedX, .ref o_placedY])), (o_startX, .inl (cy 0, 256, .inl o_startX_f)), (o_startY, .inl (cy 0, 256, .inl o_startY_f)), (o_left, .inl (cy 0, 256, .inl o_left_f)), (o_right, .inl (cy 0, 256, .inl o_right_f)), (o_top, .inl (cy 0, 256, .inl o_top_f)), (o_bottom, .inl (cy 0, 256, .inl o_bottom_f)), (o_slopeX, .inl (cy 0, 256, .inl o_slopeX_f)), (o_slopeY, .inl (cy 0, 256, .inl o_slopeY_f)), (o_squareX, .inl (cy 0, 256, .inl o_squareX_f)), (o_squareY, .inl (cy 0, 256, .inl o_squareY_f)), (o_placedX, .inl (cy 0, 256, .inl o_placedX_f)), (o_placedY, .inl (cy 0, 256, .inl o_placedY_f))] → va_S A s.heap H locs → lv_has ls 8 [(0, .ref o), (1, .int x1), (2, .int x2), (4, .int x4)] → W p l e ({ frames := 3, cells := 0, slots := 0, locals := 105 } : Room) s m args below meth c H locs 0 0 (MQ below (va_Qi (fun r (_ : Unit) => r = uu) (fun _ t => va_P (dC, dI) classes [(o, .inr (3, [.ref o_startX, .ref o_startY, .ref o_left, .ref o_right, .ref o_top, .ref o_bottom, .int o_count, .ref o_slopeX, .ref o_slopeY, .ref o_squareX, .ref o_squareY, .ref o_placedX, .ref o_placedY])), (o_startX, .inl (cy 0, 256, .inl o_startX_f)), (o_startY, .inl (cy 0, 256, .inl o_startY_f)), (o_left, .inl (cy 0, 256, .inl o_left_f)), (o_right, .inl (cy 0, 256, .inl o_right_f)), (o_top, .inl (cy 0, 256, .inl o_top_f)), (o_bottom, .inl (cy 0, 256, .inl o_bottom_f)), (o_slopeX, .inl (cy 0, 256, .inl o_slopeX_f)), (o_slopeY, .inl (cy 0, 256, .inl o_slopeY_f)), (o_squareX, .inl (cy 0, 256, .inl o_squareX_f)), (o_squareY, .inl (cy 0, 256, .inl o_squareY_f)), (o_placedX, .inl (cy 0, 256, .inl o_placedX_f)), (o_placedY, .inl (cy 0, 256, .inl o_placedY_f))] t.heap ∧ va_K (dC, dI) classes (TY cy) t ∧ va_D A [(o, .inr (3, [.ref o_startX, .ref o_startY, .ref o_left, .ref o_right, .ref o_top, .ref o_bottom, .int o_count, .ref o_slopeX, .ref o_slopeY, .ref o_squareX, .ref o_squareY, .ref o_placedX, .ref o_placedY])), (o_startX, .inl (cy 0, 256, .inl o_startX_f)), (o_startY, .inl (cy 0, 256, .inl o_startY_f)), (o_left, .inl (cy 0, 256, .inl o_left_f)), (o_right, .inl (cy 0, 256, .inl o_right_f)), (o_top, .inl (cy 0, 256, .inl o_top_f)), (o_bottom, .inl (cy 0, 256, .inl o_bottom_f)), (o_slopeX, .inl (cy 0, 256, .inl o_slopeX_f)), (o_slopeY, .inl (cy 0, 256, .inl o_slopeY_f)), (o_squareX, .inl (cy 0, 256, .inl o_squareX_f)), (o_squareY, .inl (cy 0, 256, .inl o_squareY_f)), (o_placedX, .inl (cy 0, 256, .inl o_placedX_f)), (o_placedY, .inl (cy 0, 256, .inl o_placedY_f))]) A) args s 0 0 A) (F0 m 171 ls [.int k0, .int k1, .int k2]) := by
  intro hP hD hS hl
  obtain ⟨hx, hb, hr, hlocks, hml, hown, htsG, hA, hK⟩ := id C0
  unfold P_Cv_windingAt_171 at h
  refine lv_isub hx hb d_Cv_windingAt_171 ?_
  refine lv_iadd hx hb d_Cv_windingAt_172 ?_
  refine lv_istore_n (lv' := [(3, .int (k2 + (k1 - k0))), (0, .ref o), (1, .int x1), (2, .int x2), (4, .int x4)]) hx hb d_Cv_windingAt_173 rfl hl (by decide) rfl (fun ls hl => ?_)
  refine lv_iinc (v := (x4 + (1 : Int32))) (lv' := [(4, .int (x4 + (1 : Int32))), (3, .int (k2 + (k1 - k0))), (0, .ref o), (1, .int x1), (2, .int x2)]) hx hb d_Cv_windingAt_174 hl (k := 4) rfl rfl (by decide) rfl (fun ls hl => ?_)
  refine lv_goto (tgt := 5) hx hb d_Cv_windingAt_177 (by decide) ?_
  exact hz5 x1 x2 (k2 + (k1 - k0)) (x4 + (1 : Int32)) _ _ _ h hP hD hS (lv_sub hl [2, 3, 4, 1, 0] rfl)
def P_Cv_windingAt_161 (o_count : Int32) (o_startX_f : Nat → Int32) (o_startY_f : Nat → Int32) (o_slopeX_f : Nat → Int32) (o_slopeY_f : Nat → Int32) (o_squareX_f : Nat → Int32) (o_squareY_f : Nat → Int32) (z5 : Int32 × Int32 × Int32 × Int32 → Option (Int32)) (x1 : Int32) (x2 : Int32) (x4 : Int32) (x7 : Int32) (k0 : Int32) (k1 : Int32) : Option (Int32) :=
  if x7 ≤ 0 then (P_Cv_windingAt_171 o_count o_startX_f o_startY_f o_slopeX_f o_slopeY_f o_squareX_f o_squareY_f z5 x1 x2 x4 (0 : Int32) k0 k1) else (P_Cv_windingAt_171 o_count o_startX_f o_startY_f o_slopeX_f o_slopeY_f o_squareX_f o_squareY_f z5 x1 x2 x4 (1 : Int32) k0 k1)
set_option maxHeartbeats 4000000 in
set_option maxRecDepth 100000 in
theorem w_Cv_windingAt_161 (C0 : Cx p s m args meth c A dC dI cy b_Cv_windingAt 8 (some .int) "GlyphPage$Curves") (o : Nat) (o_startX : Nat) (o_startY : Nat) (o_left : Nat) (o_right : Nat) (o_top : Nat) (o_bottom : Nat) (o_slopeX : Nat) (o_slopeY : Nat) (o_squareX : Nat) (o_squareY : Nat) (o_placedX : Nat) (o_placedY : Nat) (o_count : Int32) (o_startX_f : Nat → Int32) (o_startY_f : Nat → Int32) (o_left_f : Nat → Int32) (o_right_f : Nat → Int32) (o_top_f : Nat → Int32) (o_bottom_f : Nat → Int32) (o_slopeX_f : Nat → Int32) (o_slopeY_f : Nat → Int32) (o_squareX_f : Nat → Int32) (o_squareY_f : Nat → Int32) (o_placedX_f : Nat → Int32) (o_placedY_f : Nat → Int32) (a1 : Int32) (a2 : Int32) (uu : Int32) (z5 : Int32 × Int32 × Int32 × Int32 → Option (Int32)) (hz5 : ∀ (x1 : Int32) (x2 : Int32) (x3 : Int32) (x4 : Int32) (H : Heap) (locs : List Loc) (ls : Array Slot), z5 (x1, x2, x3, x4) = some uu → va_P (dC, dI) classes [(o, .inr (3, [.ref o_startX, .ref o_startY, .ref o_left, .ref o_right, .ref o_top, .ref o_bottom, .int o_count, .ref o_slopeX, .ref o_slopeY, .ref o_squareX, .ref o_squareY, .ref o_placedX, .ref o_placedY])), (o_startX, .inl (cy 0, 256, .inl o_startX_f)), (o_startY, .inl (cy 0, 256, .inl o_startY_f)), (o_left, .inl (cy 0, 256, .inl o_left_f)), (o_right, .inl (cy 0, 256, .inl o_right_f)), (o_top, .inl (cy 0, 256, .inl o_top_f)), (o_bottom, .inl (cy 0, 256, .inl o_bottom_f)), (o_slopeX, .inl (cy 0, 256, .inl o_slopeX_f)), (o_slopeY, .inl (cy 0, 256, .inl o_slopeY_f)), (o_squareX, .inl (cy 0, 256, .inl o_squareX_f)), (o_squareY, .inl (cy 0, 256, .inl o_squareY_f)), (o_placedX, .inl (cy 0, 256, .inl o_placedX_f)), (o_placedY, .inl (cy 0, 256, .inl o_placedY_f))] H → va_D A [(o, .inr (3, [.ref o_startX, .ref o_startY, .ref o_left, .ref o_right, .ref o_top, .ref o_bottom, .int o_count, .ref o_slopeX, .ref o_slopeY, .ref o_squareX, .ref o_squareY, .ref o_placedX, .ref o_placedY])), (o_startX, .inl (cy 0, 256, .inl o_startX_f)), (o_startY, .inl (cy 0, 256, .inl o_startY_f)), (o_left, .inl (cy 0, 256, .inl o_left_f)), (o_right, .inl (cy 0, 256, .inl o_right_f)), (o_top, .inl (cy 0, 256, .inl o_top_f)), (o_bottom, .inl (cy 0, 256, .inl o_bottom_f)), (o_slopeX, .inl (cy 0, 256, .inl o_slopeX_f)), (o_slopeY, .inl (cy 0, 256, .inl o_slopeY_f)), (o_squareX, .inl (cy 0, 256, .inl o_squareX_f)), (o_squareY, .inl (cy 0, 256, .inl o_squareY_f)), (o_placedX, .inl (cy 0, 256, .inl o_placedX_f)), (o_placedY, .inl (cy 0, 256, .inl o_placedY_f))] → va_S A s.heap H locs → lv_has ls 8 [(0, .ref o), (1, .int x1), (2, .int x2), (3, .int x3), (4, .int x4)] → W p l e ({ frames := 3, cells := 0, slots := 0, locals := 105 } : Room) s m args below meth c H locs 0 0 (MQ below (va_Qi (fun r (_ : Unit) => r = uu) (fun _ t => va_P (dC, dI) classes [(o, .inr (3, [.ref o_startX, .ref o_startY, .ref o_left, .ref o_right, .ref o_top, .ref o_bottom, .int o_count, .ref o_slopeX, .ref o_slopeY, .ref o_squareX, .ref o_squareY, .ref o_placedX, .ref o_placedY])), (o_startX, .inl (cy 0, 256, .inl o_startX_f)), (o_startY, .inl (cy 0, 256, .inl o_startY_f)), (o_left, .inl (cy 0, 256, .inl o_left_f)), (o_right, .inl (cy 0, 256, .inl o_right_f)), (o_top, .inl (cy 0, 256, .inl o_top_f)), (o_bottom, .inl (cy 0, 256, .inl o_bottom_f)), (o_slopeX, .inl (cy 0, 256, .inl o_slopeX_f)), (o_slopeY, .inl (cy 0, 256, .inl o_slopeY_f)), (o_squareX, .inl (cy 0, 256, .inl o_squareX_f)), (o_squareY, .inl (cy 0, 256, .inl o_squareY_f)), (o_placedX, .inl (cy 0, 256, .inl o_placedX_f)), (o_placedY, .inl (cy 0, 256, .inl o_placedY_f))] t.heap ∧ va_K (dC, dI) classes (TY cy) t ∧ va_D A [(o, .inr (3, [.ref o_startX, .ref o_startY, .ref o_left, .ref o_right, .ref o_top, .ref o_bottom, .int o_count, .ref o_slopeX, .ref o_slopeY, .ref o_squareX, .ref o_squareY, .ref o_placedX, .ref o_placedY])), (o_startX, .inl (cy 0, 256, .inl o_startX_f)), (o_startY, .inl (cy 0, 256, .inl o_startY_f)), (o_left, .inl (cy 0, 256, .inl o_left_f)), (o_right, .inl (cy 0, 256, .inl o_right_f)), (o_top, .inl (cy 0, 256, .inl o_top_f)), (o_bottom, .inl (cy 0, 256, .inl o_bottom_f)), (o_slopeX, .inl (cy 0, 256, .inl o_slopeX_f)), (o_slopeY, .inl (cy 0, 256, .inl o_slopeY_f)), (o_squareX, .inl (cy 0, 256, .inl o_squareX_f)), (o_squareY, .inl (cy 0, 256, .inl o_squareY_f)), (o_placedX, .inl (cy 0, 256, .inl o_placedX_f)), (o_placedY, .inl (cy 0, 256, .inl o_placedY_f))]) A) args s 0 0 A) (F0 m 5 ls [])) (x1 : Int32) (x2 : Int32) (x4 : Int32) (x7 : Int32) (k0 : Int32) (k1 : Int32) {H : Heap} {locs : List Loc} {ls : Array Slot} (h : P_Cv_windingAt_161 o_count o_startX_f o_startY_f o_slopeX_f o_slopeY_f o_squareX_f o_squareY_f z5 x1 x2 x4 x7 k0 k1 = some uu) : va_P (dC, dI) classes [(o, .inr (3, [.ref o_startX, .ref o_startY, .ref o_left, .ref o_right, .ref o_top, .ref o_bottom, .int o_count, .ref o_slopeX, .ref o_slopeY, .ref o_squareX, .ref o_squareY, .ref o_placedX, .ref o_placedY])), (o_startX, .inl (cy 0, 256, .inl o_startX_f)), (o_startY, .inl (cy 0, 256, .inl o_startY_f)), (o_left, .inl (cy 0, 256, .inl o_left_f)), (o_right, .inl (cy 0, 256, .inl o_right_f)), (o_top, .inl (cy 0, 256, .inl o_top_f)), (o_bottom, .inl (cy 0, 256, .inl o_bottom_f)), (o_slopeX, .inl (cy 0, 256, .inl o_slopeX_f)), (o_slopeY, .inl (cy 0, 256, .inl o_slopeY_f)), (o_squareX, .inl (cy 0, 256, .inl o_squareX_f)), (o_squareY, .inl (cy 0, 256, .inl o_squareY_f)), (o_placedX, .inl (cy 0, 256, .inl o_placedX_f)), (o_placedY, .inl (cy 0, 256, .inl o_placedY_f))] H → va_D A [(o, .inr (3, [.ref o_startX, .ref o_startY, .ref o_left, .ref o_right, .ref o_top, .ref o_bottom, .int o_count, .ref o_slopeX, .ref o_slopeY, .ref o_squareX, .ref o_squareY, .ref o_placedX, .ref o_placedY])), (o_startX, .inl (cy 0, 256, .inl o_startX_f)), (o_startY, .inl (cy 0, 256, .inl o_startY_f)), (o_left, .inl (cy 0, 256, .inl o_left_f)), (o_right, .inl (cy 0, 256, .inl o_right_f)), (o_top, .inl (cy 0, 256, .inl o_top_f)), (o_bottom, .inl (cy 0, 256, .inl o_bottom_f)), (o_slopeX, .inl (cy 0, 256, .inl o_slopeX_f)), (o_slopeY, .inl (cy 0, 256, .inl o_slopeY_f)), (o_squareX, .inl (cy 0, 256, .inl o_squareX_f)), (o_squareY, .inl (cy 0, 256, .inl o_squareY_f)), (o_placedX, .inl (cy 0, 256, .inl o_placedX_f)), (o_placedY, .inl (cy 0, 256, .inl o_placedY_f))] → va_S A s.heap H locs → lv_has ls 8 [(0, .ref o), (1, .int x1), (2, .int x2), (4, .int x4), (7, .int x7)] → W p l e ({ frames := 3, cells := 0, slots := 0, locals := 105 } : Room) s m args below meth c H locs 0 0 (MQ below (va_Qi (fun r (_ : Unit) => r = uu) (fun _ t => va_P (dC, dI) classes [(o, .inr (3, [.ref o_startX, .ref o_startY, .ref o_left, .ref o_right, .ref o_top, .ref o_bottom, .int o_count, .ref o_slopeX, .ref o_slopeY, .ref o_squareX, .ref o_squareY, .ref o_placedX, .ref o_placedY])), (o_startX, .inl (cy 0, 256, .inl o_startX_f)), (o_startY, .inl (cy 0, 256, .inl o_startY_f)), (o_left, .inl (cy 0, 256, .inl o_left_f)), (o_right, .inl (cy 0, 256, .inl o_right_f)), (o_top, .inl (cy 0, 256, .inl o_top_f)), (o_bottom, .inl (cy 0, 256, .inl o_bottom_f)), (o_slopeX, .inl (cy 0, 256, .inl o_slopeX_f)), (o_slopeY, .inl (cy 0, 256, .inl o_slopeY_f)), (o_squareX, .inl (cy 0, 256, .inl o_squareX_f)), (o_squareY, .inl (cy 0, 256, .inl o_squareY_f)), (o_placedX, .inl (cy 0, 256, .inl o_placedX_f)), (o_placedY, .inl (cy 0, 256, .inl o_placedY_f))] t.heap ∧ va_K (dC, dI) classes (TY cy) t ∧ va_D A [(o, .inr (3, [.ref o_startX, .ref o_startY, .ref o_left, .ref o_right, .ref o_top, .ref o_bottom, .int o_count, .ref o_slopeX, .ref o_slopeY, .ref o_squareX, .ref o_squareY, .ref o_placedX, .ref o_placedY])), (o_startX, .inl (cy 0, 256, .inl o_startX_f)), (o_startY, .inl (cy 0, 256, .inl o_startY_f)), (o_left, .inl (cy 0, 256, .inl o_left_f)), (o_right, .inl (cy 0, 256, .inl o_right_f)), (o_top, .inl (cy 0, 256, .inl o_top_f)), (o_bottom, .inl (cy 0, 256, .inl o_bottom_f)), (o_slopeX, .inl (cy 0, 256, .inl o_slopeX_f)), (o_slopeY, .inl (cy 0, 256, .inl o_slopeY_f)), (o_squareX, .inl (cy 0, 256, .inl o_squareX_f)), (o_squareY, .inl (cy 0, 256, .inl o_squareY_f)), (o_placedX, .inl (cy 0, 256, .inl o_placedX_f)), (o_placedY, .inl (cy 0, 256, .inl o_placedY_f))]) A) args s 0 0 A) (F0 m 161 ls [.int k0, .int k1]) := by
  intro hP hD hS hl
  obtain ⟨hx, hb, hr, hlocks, hml, hown, htsG, hA, hK⟩ := id C0
  unfold P_Cv_windingAt_161 at h
  refine lv_iload hx hb d_Cv_windingAt_161 (lv_at hl 4 rfl) ?_
  refine lv_if_le (tgt := 170) hx hb d_Cv_windingAt_163 (by decide) (fun c_1 => ?_) (fun c_1 => ?_)
  · replace h := (if_pos c_1).symm.trans h
    refine lv_iconst (v := (0 : Int32)) hx hb d_Cv_windingAt_170 (by decide) ?_
    exact w_Cv_windingAt_171 C0 o o_startX o_startY o_left o_right o_top o_bottom o_slopeX o_slopeY o_squareX o_squareY o_placedX o_placedY o_count o_startX_f o_startY_f o_left_f o_right_f o_top_f o_bottom_f o_slopeX_f o_slopeY_f o_squareX_f o_squareY_f o_placedX_f o_placedY_f a1 a2 uu z5 hz5 x1 x2 x4 (0 : Int32) k0 k1 h hP hD hS (lv_sub hl [0, 1, 2, 3] rfl)
  · replace h := (if_neg c_1).symm.trans h
    refine lv_iconst (v := (1 : Int32)) hx hb d_Cv_windingAt_166 (by decide) ?_
    refine lv_goto (tgt := 171) hx hb d_Cv_windingAt_167 (by decide) ?_
    exact w_Cv_windingAt_171 C0 o o_startX o_startY o_left o_right o_top o_bottom o_slopeX o_slopeY o_squareX o_squareY o_placedX o_placedY o_count o_startX_f o_startY_f o_left_f o_right_f o_top_f o_bottom_f o_slopeX_f o_slopeY_f o_squareX_f o_squareY_f o_placedX_f o_placedY_f a1 a2 uu z5 hz5 x1 x2 x4 (1 : Int32) k0 k1 h hP hD hS (lv_sub hl [0, 1, 2, 3] rfl)
def P_Cv_windingAt_134 (o_count : Int32) (o_startX_f : Nat → Int32) (o_startY_f : Nat → Int32) (o_slopeX_f : Nat → Int32) (o_slopeY_f : Nat → Int32) (o_squareX_f : Nat → Int32) (o_squareY_f : Nat → Int32) (z5 : Int32 × Int32 × Int32 × Int32 → Option (Int32)) (x1 : Int32) (x2 : Int32) (x3 : Int32) (x4 : Int32) (x6 : Int32) (k0 : Int32) : Option (Int32) :=
  if x6 = 0 then (some (1000 : Int32)) else (if k0 = 0 then (some (1000 : Int32)) else (if x6 ≤ 0 then (P_Cv_windingAt_161 o_count o_startX_f o_startY_f o_slopeX_f o_slopeY_f o_squareX_f o_squareY_f z5 x1 x2 x4 k0 (0 : Int32) x3) else (P_Cv_windingAt_161 o_count o_startX_f o_startY_f o_slopeX_f o_slopeY_f o_squareX_f o_squareY_f z5 x1 x2 x4 k0 (1 : Int32) x3)))
set_option maxHeartbeats 4000000 in
set_option maxRecDepth 100000 in
theorem w_Cv_windingAt_134 (C0 : Cx p s m args meth c A dC dI cy b_Cv_windingAt 8 (some .int) "GlyphPage$Curves") (o : Nat) (o_startX : Nat) (o_startY : Nat) (o_left : Nat) (o_right : Nat) (o_top : Nat) (o_bottom : Nat) (o_slopeX : Nat) (o_slopeY : Nat) (o_squareX : Nat) (o_squareY : Nat) (o_placedX : Nat) (o_placedY : Nat) (o_count : Int32) (o_startX_f : Nat → Int32) (o_startY_f : Nat → Int32) (o_left_f : Nat → Int32) (o_right_f : Nat → Int32) (o_top_f : Nat → Int32) (o_bottom_f : Nat → Int32) (o_slopeX_f : Nat → Int32) (o_slopeY_f : Nat → Int32) (o_squareX_f : Nat → Int32) (o_squareY_f : Nat → Int32) (o_placedX_f : Nat → Int32) (o_placedY_f : Nat → Int32) (a1 : Int32) (a2 : Int32) (uu : Int32) (z5 : Int32 × Int32 × Int32 × Int32 → Option (Int32)) (hz5 : ∀ (x1 : Int32) (x2 : Int32) (x3 : Int32) (x4 : Int32) (H : Heap) (locs : List Loc) (ls : Array Slot), z5 (x1, x2, x3, x4) = some uu → va_P (dC, dI) classes [(o, .inr (3, [.ref o_startX, .ref o_startY, .ref o_left, .ref o_right, .ref o_top, .ref o_bottom, .int o_count, .ref o_slopeX, .ref o_slopeY, .ref o_squareX, .ref o_squareY, .ref o_placedX, .ref o_placedY])), (o_startX, .inl (cy 0, 256, .inl o_startX_f)), (o_startY, .inl (cy 0, 256, .inl o_startY_f)), (o_left, .inl (cy 0, 256, .inl o_left_f)), (o_right, .inl (cy 0, 256, .inl o_right_f)), (o_top, .inl (cy 0, 256, .inl o_top_f)), (o_bottom, .inl (cy 0, 256, .inl o_bottom_f)), (o_slopeX, .inl (cy 0, 256, .inl o_slopeX_f)), (o_slopeY, .inl (cy 0, 256, .inl o_slopeY_f)), (o_squareX, .inl (cy 0, 256, .inl o_squareX_f)), (o_squareY, .inl (cy 0, 256, .inl o_squareY_f)), (o_placedX, .inl (cy 0, 256, .inl o_placedX_f)), (o_placedY, .inl (cy 0, 256, .inl o_placedY_f))] H → va_D A [(o, .inr (3, [.ref o_startX, .ref o_startY, .ref o_left, .ref o_right, .ref o_top, .ref o_bottom, .int o_count, .ref o_slopeX, .ref o_slopeY, .ref o_squareX, .ref o_squareY, .ref o_placedX, .ref o_placedY])), (o_startX, .inl (cy 0, 256, .inl o_startX_f)), (o_startY, .inl (cy 0, 256, .inl o_startY_f)), (o_left, .inl (cy 0, 256, .inl o_left_f)), (o_right, .inl (cy 0, 256, .inl o_right_f)), (o_top, .inl (cy 0, 256, .inl o_top_f)), (o_bottom, .inl (cy 0, 256, .inl o_bottom_f)), (o_slopeX, .inl (cy 0, 256, .inl o_slopeX_f)), (o_slopeY, .inl (cy 0, 256, .inl o_slopeY_f)), (o_squareX, .inl (cy 0, 256, .inl o_squareX_f)), (o_squareY, .inl (cy 0, 256, .inl o_squareY_f)), (o_placedX, .inl (cy 0, 256, .inl o_placedX_f)), (o_placedY, .inl (cy 0, 256, .inl o_placedY_f))] → va_S A s.heap H locs → lv_has ls 8 [(0, .ref o), (1, .int x1), (2, .int x2), (3, .int x3), (4, .int x4)] → W p l e ({ frames := 3, cells := 0, slots := 0, locals := 105 } : Room) s m args below meth c H locs 0 0 (MQ below (va_Qi (fun r (_ : Unit) => r = uu) (fun _ t => va_P (dC, dI) classes [(o, .inr (3, [.ref o_startX, .ref o_startY, .ref o_left, .ref o_right, .ref o_top, .ref o_bottom, .int o_count, .ref o_slopeX, .ref o_slopeY, .ref o_squareX, .ref o_squareY, .ref o_placedX, .ref o_placedY])), (o_startX, .inl (cy 0, 256, .inl o_startX_f)), (o_startY, .inl (cy 0, 256, .inl o_startY_f)), (o_left, .inl (cy 0, 256, .inl o_left_f)), (o_right, .inl (cy 0, 256, .inl o_right_f)), (o_top, .inl (cy 0, 256, .inl o_top_f)), (o_bottom, .inl (cy 0, 256, .inl o_bottom_f)), (o_slopeX, .inl (cy 0, 256, .inl o_slopeX_f)), (o_slopeY, .inl (cy 0, 256, .inl o_slopeY_f)), (o_squareX, .inl (cy 0, 256, .inl o_squareX_f)), (o_squareY, .inl (cy 0, 256, .inl o_squareY_f)), (o_placedX, .inl (cy 0, 256, .inl o_placedX_f)), (o_placedY, .inl (cy 0, 256, .inl o_placedY_f))] t.heap ∧ va_K (dC, dI) classes (TY cy) t ∧ va_D A [(o, .inr (3, [.ref o_startX, .ref o_startY, .ref o_left, .ref o_right, .ref o_top, .ref o_bottom, .int o_count, .ref o_slopeX, .ref o_slopeY, .ref o_squareX, .ref o_squareY, .ref o_placedX, .ref o_placedY])), (o_startX, .inl (cy 0, 256, .inl o_startX_f)), (o_startY, .inl (cy 0, 256, .inl o_startY_f)), (o_left, .inl (cy 0, 256, .inl o_left_f)), (o_right, .inl (cy 0, 256, .inl o_right_f)), (o_top, .inl (cy 0, 256, .inl o_top_f)), (o_bottom, .inl (cy 0, 256, .inl o_bottom_f)), (o_slopeX, .inl (cy 0, 256, .inl o_slopeX_f)), (o_slopeY, .inl (cy 0, 256, .inl o_slopeY_f)), (o_squareX, .inl (cy 0, 256, .inl o_squareX_f)), (o_squareY, .inl (cy 0, 256, .inl o_squareY_f)), (o_placedX, .inl (cy 0, 256, .inl o_placedX_f)), (o_placedY, .inl (cy 0, 256, .inl o_placedY_f))]) A) args s 0 0 A) (F0 m 5 ls [])) (x1 : Int32) (x2 : Int32) (x3 : Int32) (x4 : Int32) (x6 : Int32) (k0 : Int32) {H : Heap} {locs : List Loc} {ls : Array Slot} (h : P_Cv_windingAt_134 o_count o_startX_f o_startY_f o_slopeX_f o_slopeY_f o_squareX_f o_squareY_f z5 x1 x2 x3 x4 x6 k0 = some uu) : va_P (dC, dI) classes [(o, .inr (3, [.ref o_startX, .ref o_startY, .ref o_left, .ref o_right, .ref o_top, .ref o_bottom, .int o_count, .ref o_slopeX, .ref o_slopeY, .ref o_squareX, .ref o_squareY, .ref o_placedX, .ref o_placedY])), (o_startX, .inl (cy 0, 256, .inl o_startX_f)), (o_startY, .inl (cy 0, 256, .inl o_startY_f)), (o_left, .inl (cy 0, 256, .inl o_left_f)), (o_right, .inl (cy 0, 256, .inl o_right_f)), (o_top, .inl (cy 0, 256, .inl o_top_f)), (o_bottom, .inl (cy 0, 256, .inl o_bottom_f)), (o_slopeX, .inl (cy 0, 256, .inl o_slopeX_f)), (o_slopeY, .inl (cy 0, 256, .inl o_slopeY_f)), (o_squareX, .inl (cy 0, 256, .inl o_squareX_f)), (o_squareY, .inl (cy 0, 256, .inl o_squareY_f)), (o_placedX, .inl (cy 0, 256, .inl o_placedX_f)), (o_placedY, .inl (cy 0, 256, .inl o_placedY_f))] H → va_D A [(o, .inr (3, [.ref o_startX, .ref o_startY, .ref o_left, .ref o_right, .ref o_top, .ref o_bottom, .int o_count, .ref o_slopeX, .ref o_slopeY, .ref o_squareX, .ref o_squareY, .ref o_placedX, .ref o_placedY])), (o_startX, .inl (cy 0, 256, .inl o_startX_f)), (o_startY, .inl (cy 0, 256, .inl o_startY_f)), (o_left, .inl (cy 0, 256, .inl o_left_f)), (o_right, .inl (cy 0, 256, .inl o_right_f)), (o_top, .inl (cy 0, 256, .inl o_top_f)), (o_bottom, .inl (cy 0, 256, .inl o_bottom_f)), (o_slopeX, .inl (cy 0, 256, .inl o_slopeX_f)), (o_slopeY, .inl (cy 0, 256, .inl o_slopeY_f)), (o_squareX, .inl (cy 0, 256, .inl o_squareX_f)), (o_squareY, .inl (cy 0, 256, .inl o_squareY_f)), (o_placedX, .inl (cy 0, 256, .inl o_placedX_f)), (o_placedY, .inl (cy 0, 256, .inl o_placedY_f))] → va_S A s.heap H locs → lv_has ls 8 [(0, .ref o), (1, .int x1), (2, .int x2), (3, .int x3), (4, .int x4), (6, .int x6)] → W p l e ({ frames := 3, cells := 0, slots := 0, locals := 105 } : Room) s m args below meth c H locs 0 0 (MQ below (va_Qi (fun r (_ : Unit) => r = uu) (fun _ t => va_P (dC, dI) classes [(o, .inr (3, [.ref o_startX, .ref o_startY, .ref o_left, .ref o_right, .ref o_top, .ref o_bottom, .int o_count, .ref o_slopeX, .ref o_slopeY, .ref o_squareX, .ref o_squareY, .ref o_placedX, .ref o_placedY])), (o_startX, .inl (cy 0, 256, .inl o_startX_f)), (o_startY, .inl (cy 0, 256, .inl o_startY_f)), (o_left, .inl (cy 0, 256, .inl o_left_f)), (o_right, .inl (cy 0, 256, .inl o_right_f)), (o_top, .inl (cy 0, 256, .inl o_top_f)), (o_bottom, .inl (cy 0, 256, .inl o_bottom_f)), (o_slopeX, .inl (cy 0, 256, .inl o_slopeX_f)), (o_slopeY, .inl (cy 0, 256, .inl o_slopeY_f)), (o_squareX, .inl (cy 0, 256, .inl o_squareX_f)), (o_squareY, .inl (cy 0, 256, .inl o_squareY_f)), (o_placedX, .inl (cy 0, 256, .inl o_placedX_f)), (o_placedY, .inl (cy 0, 256, .inl o_placedY_f))] t.heap ∧ va_K (dC, dI) classes (TY cy) t ∧ va_D A [(o, .inr (3, [.ref o_startX, .ref o_startY, .ref o_left, .ref o_right, .ref o_top, .ref o_bottom, .int o_count, .ref o_slopeX, .ref o_slopeY, .ref o_squareX, .ref o_squareY, .ref o_placedX, .ref o_placedY])), (o_startX, .inl (cy 0, 256, .inl o_startX_f)), (o_startY, .inl (cy 0, 256, .inl o_startY_f)), (o_left, .inl (cy 0, 256, .inl o_left_f)), (o_right, .inl (cy 0, 256, .inl o_right_f)), (o_top, .inl (cy 0, 256, .inl o_top_f)), (o_bottom, .inl (cy 0, 256, .inl o_bottom_f)), (o_slopeX, .inl (cy 0, 256, .inl o_slopeX_f)), (o_slopeY, .inl (cy 0, 256, .inl o_slopeY_f)), (o_squareX, .inl (cy 0, 256, .inl o_squareX_f)), (o_squareY, .inl (cy 0, 256, .inl o_squareY_f)), (o_placedX, .inl (cy 0, 256, .inl o_placedX_f)), (o_placedY, .inl (cy 0, 256, .inl o_placedY_f))]) A) args s 0 0 A) (F0 m 134 ls [.int k0]) := by
  intro hP hD hS hl
  obtain ⟨hx, hb, hr, hlocks, hml, hown, htsG, hA, hK⟩ := id C0
  unfold P_Cv_windingAt_134 at h
  refine lv_istore (lv' := [(7, .int k0), (0, .ref o), (1, .int x1), (2, .int x2), (3, .int x3), (4, .int x4), (6, .int x6)]) hx hb d_Cv_windingAt_134 hl (by decide) rfl (fun ls hl => ?_)
  refine lv_iload hx hb d_Cv_windingAt_136 (lv_at hl 6 rfl) ?_
  refine lv_if_eq (tgt := 146) hx hb d_Cv_windingAt_138 (by decide) (fun c_1 => ?_) (fun c_1 => ?_)
  · replace h := (if_pos c_1).symm.trans h
    refine lv_sipush (v := (1000 : Int32)) hx hb d_Cv_windingAt_146 (by decide) ?_
    cases h
    exact W.iret hx hb hr (fun t ht hW => ⟨⟨_, (), rfl, rfl, by rw [ht]; exact hP, va_K.moved hW.alike hK, hD⟩, hS.F ht⟩) hS.2.2 d_Cv_windingAt_149 hlocks
  · replace h := (if_neg c_1).symm.trans h
    refine lv_iload hx hb d_Cv_windingAt_141 (lv_at hl 0 rfl) ?_
    refine lv_if_ne (tgt := 150) hx hb d_Cv_windingAt_143 (by decide) (fun c_2 => ?_) (fun c_2 => ?_)
    · replace h := (if_neg c_2).symm.trans h
      refine lv_iload_n hx hb d_Cv_windingAt_150 rfl (lv_at hl 4 rfl) ?_
      refine lv_iload hx hb d_Cv_windingAt_151 (lv_at hl 6 rfl) ?_
      refine lv_if_le (tgt := 160) hx hb d_Cv_windingAt_153 (by decide) (fun c_3 => ?_) (fun c_3 => ?_)
      · replace h := (if_pos c_3).symm.trans h
        refine lv_iconst (v := (0 : Int32)) hx hb d_Cv_windingAt_160 (by decide) ?_
        exact w_Cv_windingAt_161 C0 o o_startX o_startY o_left o_right o_top o_bottom o_slopeX o_slopeY o_squareX o_squareY o_placedX o_placedY o_count o_startX_f o_startY_f o_left_f o_right_f o_top_f o_bottom_f o_slopeX_f o_slopeY_f o_squareX_f o_squareY_f o_placedX_f o_placedY_f a1 a2 uu z5 hz5 x1 x2 x4 k0 (0 : Int32) x3 h hP hD hS (lv_sub hl [1, 2, 3, 5, 0] rfl)
      · replace h := (if_neg c_3).symm.trans h
        refine lv_iconst (v := (1 : Int32)) hx hb d_Cv_windingAt_156 (by decide) ?_
        refine lv_goto (tgt := 161) hx hb d_Cv_windingAt_157 (by decide) ?_
        exact w_Cv_windingAt_161 C0 o o_startX o_startY o_left o_right o_top o_bottom o_slopeX o_slopeY o_squareX o_squareY o_placedX o_placedY o_count o_startX_f o_startY_f o_left_f o_right_f o_top_f o_bottom_f o_slopeX_f o_slopeY_f o_squareX_f o_squareY_f o_placedX_f o_placedY_f a1 a2 uu z5 hz5 x1 x2 x4 k0 (1 : Int32) x3 h hP hD hS (lv_sub hl [1, 2, 3, 5, 0] rfl)
    · replace h := (if_pos c_2).symm.trans h
      refine lv_sipush (v := (1000 : Int32)) hx hb d_Cv_windingAt_146 (by decide) ?_
      cases h
      exact W.iret hx hb hr (fun t ht hW => ⟨⟨_, (), rfl, rfl, by rw [ht]; exact hP, va_K.moved hW.alike hK, hD⟩, hS.F ht⟩) hS.2.2 d_Cv_windingAt_149 hlocks
def P_Cv_windingAt_112 (o_count : Int32) (o_startX_f : Nat → Int32) (o_startY_f : Nat → Int32) (o_slopeX_f : Nat → Int32) (o_slopeY_f : Nat → Int32) (o_squareX_f : Nat → Int32) (o_squareY_f : Nat → Int32) (z5 : Int32 × Int32 × Int32 × Int32 → Option (Int32)) (x1 : Int32) (x2 : Int32) (x3 : Int32) (x4 : Int32) (x5 : Int32) (k0 : Int32) : Option (Int32) :=
  if (x5 &&& (2 : Int32)) = 0 then (P_Cv_windingAt_134 o_count o_startX_f o_startY_f o_slopeX_f o_slopeY_f o_squareX_f o_squareY_f z5 x1 x2 x3 x4 k0 (-1 : Int32)) else ((P_Cv_side o_startX_f o_startY_f o_slopeX_f o_slopeY_f o_squareX_f o_squareY_f x4 (-1 : Int32) x1 x2).bind fun r_2 => P_Cv_windingAt_134 o_count o_startX_f o_startY_f o_slopeX_f o_slopeY_f o_squareX_f o_squareY_f z5 x1 x2 x3 x4 k0 r_2)
set_option maxHeartbeats 4000000 in
set_option maxRecDepth 100000 in
theorem w_Cv_windingAt_112 (C0 : Cx p s m args meth c A dC dI cy b_Cv_windingAt 8 (some .int) "GlyphPage$Curves") (o : Nat) (o_startX : Nat) (o_startY : Nat) (o_left : Nat) (o_right : Nat) (o_top : Nat) (o_bottom : Nat) (o_slopeX : Nat) (o_slopeY : Nat) (o_squareX : Nat) (o_squareY : Nat) (o_placedX : Nat) (o_placedY : Nat) (o_count : Int32) (o_startX_f : Nat → Int32) (o_startY_f : Nat → Int32) (o_left_f : Nat → Int32) (o_right_f : Nat → Int32) (o_top_f : Nat → Int32) (o_bottom_f : Nat → Int32) (o_slopeX_f : Nat → Int32) (o_slopeY_f : Nat → Int32) (o_squareX_f : Nat → Int32) (o_squareY_f : Nat → Int32) (o_placedX_f : Nat → Int32) (o_placedY_f : Nat → Int32) (a1 : Int32) (a2 : Int32) (uu : Int32) (z5 : Int32 × Int32 × Int32 × Int32 → Option (Int32)) (hz5 : ∀ (x1 : Int32) (x2 : Int32) (x3 : Int32) (x4 : Int32) (H : Heap) (locs : List Loc) (ls : Array Slot), z5 (x1, x2, x3, x4) = some uu → va_P (dC, dI) classes [(o, .inr (3, [.ref o_startX, .ref o_startY, .ref o_left, .ref o_right, .ref o_top, .ref o_bottom, .int o_count, .ref o_slopeX, .ref o_slopeY, .ref o_squareX, .ref o_squareY, .ref o_placedX, .ref o_placedY])), (o_startX, .inl (cy 0, 256, .inl o_startX_f)), (o_startY, .inl (cy 0, 256, .inl o_startY_f)), (o_left, .inl (cy 0, 256, .inl o_left_f)), (o_right, .inl (cy 0, 256, .inl o_right_f)), (o_top, .inl (cy 0, 256, .inl o_top_f)), (o_bottom, .inl (cy 0, 256, .inl o_bottom_f)), (o_slopeX, .inl (cy 0, 256, .inl o_slopeX_f)), (o_slopeY, .inl (cy 0, 256, .inl o_slopeY_f)), (o_squareX, .inl (cy 0, 256, .inl o_squareX_f)), (o_squareY, .inl (cy 0, 256, .inl o_squareY_f)), (o_placedX, .inl (cy 0, 256, .inl o_placedX_f)), (o_placedY, .inl (cy 0, 256, .inl o_placedY_f))] H → va_D A [(o, .inr (3, [.ref o_startX, .ref o_startY, .ref o_left, .ref o_right, .ref o_top, .ref o_bottom, .int o_count, .ref o_slopeX, .ref o_slopeY, .ref o_squareX, .ref o_squareY, .ref o_placedX, .ref o_placedY])), (o_startX, .inl (cy 0, 256, .inl o_startX_f)), (o_startY, .inl (cy 0, 256, .inl o_startY_f)), (o_left, .inl (cy 0, 256, .inl o_left_f)), (o_right, .inl (cy 0, 256, .inl o_right_f)), (o_top, .inl (cy 0, 256, .inl o_top_f)), (o_bottom, .inl (cy 0, 256, .inl o_bottom_f)), (o_slopeX, .inl (cy 0, 256, .inl o_slopeX_f)), (o_slopeY, .inl (cy 0, 256, .inl o_slopeY_f)), (o_squareX, .inl (cy 0, 256, .inl o_squareX_f)), (o_squareY, .inl (cy 0, 256, .inl o_squareY_f)), (o_placedX, .inl (cy 0, 256, .inl o_placedX_f)), (o_placedY, .inl (cy 0, 256, .inl o_placedY_f))] → va_S A s.heap H locs → lv_has ls 8 [(0, .ref o), (1, .int x1), (2, .int x2), (3, .int x3), (4, .int x4)] → W p l e ({ frames := 3, cells := 0, slots := 0, locals := 105 } : Room) s m args below meth c H locs 0 0 (MQ below (va_Qi (fun r (_ : Unit) => r = uu) (fun _ t => va_P (dC, dI) classes [(o, .inr (3, [.ref o_startX, .ref o_startY, .ref o_left, .ref o_right, .ref o_top, .ref o_bottom, .int o_count, .ref o_slopeX, .ref o_slopeY, .ref o_squareX, .ref o_squareY, .ref o_placedX, .ref o_placedY])), (o_startX, .inl (cy 0, 256, .inl o_startX_f)), (o_startY, .inl (cy 0, 256, .inl o_startY_f)), (o_left, .inl (cy 0, 256, .inl o_left_f)), (o_right, .inl (cy 0, 256, .inl o_right_f)), (o_top, .inl (cy 0, 256, .inl o_top_f)), (o_bottom, .inl (cy 0, 256, .inl o_bottom_f)), (o_slopeX, .inl (cy 0, 256, .inl o_slopeX_f)), (o_slopeY, .inl (cy 0, 256, .inl o_slopeY_f)), (o_squareX, .inl (cy 0, 256, .inl o_squareX_f)), (o_squareY, .inl (cy 0, 256, .inl o_squareY_f)), (o_placedX, .inl (cy 0, 256, .inl o_placedX_f)), (o_placedY, .inl (cy 0, 256, .inl o_placedY_f))] t.heap ∧ va_K (dC, dI) classes (TY cy) t ∧ va_D A [(o, .inr (3, [.ref o_startX, .ref o_startY, .ref o_left, .ref o_right, .ref o_top, .ref o_bottom, .int o_count, .ref o_slopeX, .ref o_slopeY, .ref o_squareX, .ref o_squareY, .ref o_placedX, .ref o_placedY])), (o_startX, .inl (cy 0, 256, .inl o_startX_f)), (o_startY, .inl (cy 0, 256, .inl o_startY_f)), (o_left, .inl (cy 0, 256, .inl o_left_f)), (o_right, .inl (cy 0, 256, .inl o_right_f)), (o_top, .inl (cy 0, 256, .inl o_top_f)), (o_bottom, .inl (cy 0, 256, .inl o_bottom_f)), (o_slopeX, .inl (cy 0, 256, .inl o_slopeX_f)), (o_slopeY, .inl (cy 0, 256, .inl o_slopeY_f)), (o_squareX, .inl (cy 0, 256, .inl o_squareX_f)), (o_squareY, .inl (cy 0, 256, .inl o_squareY_f)), (o_placedX, .inl (cy 0, 256, .inl o_placedX_f)), (o_placedY, .inl (cy 0, 256, .inl o_placedY_f))]) A) args s 0 0 A) (F0 m 5 ls [])) (x1 : Int32) (x2 : Int32) (x3 : Int32) (x4 : Int32) (x5 : Int32) (k0 : Int32) {H : Heap} {locs : List Loc} {ls : Array Slot} (h : P_Cv_windingAt_112 o_count o_startX_f o_startY_f o_slopeX_f o_slopeY_f o_squareX_f o_squareY_f z5 x1 x2 x3 x4 x5 k0 = some uu) : va_P (dC, dI) classes [(o, .inr (3, [.ref o_startX, .ref o_startY, .ref o_left, .ref o_right, .ref o_top, .ref o_bottom, .int o_count, .ref o_slopeX, .ref o_slopeY, .ref o_squareX, .ref o_squareY, .ref o_placedX, .ref o_placedY])), (o_startX, .inl (cy 0, 256, .inl o_startX_f)), (o_startY, .inl (cy 0, 256, .inl o_startY_f)), (o_left, .inl (cy 0, 256, .inl o_left_f)), (o_right, .inl (cy 0, 256, .inl o_right_f)), (o_top, .inl (cy 0, 256, .inl o_top_f)), (o_bottom, .inl (cy 0, 256, .inl o_bottom_f)), (o_slopeX, .inl (cy 0, 256, .inl o_slopeX_f)), (o_slopeY, .inl (cy 0, 256, .inl o_slopeY_f)), (o_squareX, .inl (cy 0, 256, .inl o_squareX_f)), (o_squareY, .inl (cy 0, 256, .inl o_squareY_f)), (o_placedX, .inl (cy 0, 256, .inl o_placedX_f)), (o_placedY, .inl (cy 0, 256, .inl o_placedY_f))] H → va_D A [(o, .inr (3, [.ref o_startX, .ref o_startY, .ref o_left, .ref o_right, .ref o_top, .ref o_bottom, .int o_count, .ref o_slopeX, .ref o_slopeY, .ref o_squareX, .ref o_squareY, .ref o_placedX, .ref o_placedY])), (o_startX, .inl (cy 0, 256, .inl o_startX_f)), (o_startY, .inl (cy 0, 256, .inl o_startY_f)), (o_left, .inl (cy 0, 256, .inl o_left_f)), (o_right, .inl (cy 0, 256, .inl o_right_f)), (o_top, .inl (cy 0, 256, .inl o_top_f)), (o_bottom, .inl (cy 0, 256, .inl o_bottom_f)), (o_slopeX, .inl (cy 0, 256, .inl o_slopeX_f)), (o_slopeY, .inl (cy 0, 256, .inl o_slopeY_f)), (o_squareX, .inl (cy 0, 256, .inl o_squareX_f)), (o_squareY, .inl (cy 0, 256, .inl o_squareY_f)), (o_placedX, .inl (cy 0, 256, .inl o_placedX_f)), (o_placedY, .inl (cy 0, 256, .inl o_placedY_f))] → va_S A s.heap H locs → lv_has ls 8 [(0, .ref o), (1, .int x1), (2, .int x2), (3, .int x3), (4, .int x4), (5, .int x5)] → W p l e ({ frames := 3, cells := 0, slots := 0, locals := 105 } : Room) s m args below meth c H locs 0 0 (MQ below (va_Qi (fun r (_ : Unit) => r = uu) (fun _ t => va_P (dC, dI) classes [(o, .inr (3, [.ref o_startX, .ref o_startY, .ref o_left, .ref o_right, .ref o_top, .ref o_bottom, .int o_count, .ref o_slopeX, .ref o_slopeY, .ref o_squareX, .ref o_squareY, .ref o_placedX, .ref o_placedY])), (o_startX, .inl (cy 0, 256, .inl o_startX_f)), (o_startY, .inl (cy 0, 256, .inl o_startY_f)), (o_left, .inl (cy 0, 256, .inl o_left_f)), (o_right, .inl (cy 0, 256, .inl o_right_f)), (o_top, .inl (cy 0, 256, .inl o_top_f)), (o_bottom, .inl (cy 0, 256, .inl o_bottom_f)), (o_slopeX, .inl (cy 0, 256, .inl o_slopeX_f)), (o_slopeY, .inl (cy 0, 256, .inl o_slopeY_f)), (o_squareX, .inl (cy 0, 256, .inl o_squareX_f)), (o_squareY, .inl (cy 0, 256, .inl o_squareY_f)), (o_placedX, .inl (cy 0, 256, .inl o_placedX_f)), (o_placedY, .inl (cy 0, 256, .inl o_placedY_f))] t.heap ∧ va_K (dC, dI) classes (TY cy) t ∧ va_D A [(o, .inr (3, [.ref o_startX, .ref o_startY, .ref o_left, .ref o_right, .ref o_top, .ref o_bottom, .int o_count, .ref o_slopeX, .ref o_slopeY, .ref o_squareX, .ref o_squareY, .ref o_placedX, .ref o_placedY])), (o_startX, .inl (cy 0, 256, .inl o_startX_f)), (o_startY, .inl (cy 0, 256, .inl o_startY_f)), (o_left, .inl (cy 0, 256, .inl o_left_f)), (o_right, .inl (cy 0, 256, .inl o_right_f)), (o_top, .inl (cy 0, 256, .inl o_top_f)), (o_bottom, .inl (cy 0, 256, .inl o_bottom_f)), (o_slopeX, .inl (cy 0, 256, .inl o_slopeX_f)), (o_slopeY, .inl (cy 0, 256, .inl o_slopeY_f)), (o_squareX, .inl (cy 0, 256, .inl o_squareX_f)), (o_squareY, .inl (cy 0, 256, .inl o_squareY_f)), (o_placedX, .inl (cy 0, 256, .inl o_placedX_f)), (o_placedY, .inl (cy 0, 256, .inl o_placedY_f))]) A) args s 0 0 A) (F0 m 112 ls [.int k0]) := by
  intro hP hD hS hl
  obtain ⟨hx, hb, hr, hlocks, hml, hown, htsG, hA, hK⟩ := id C0
  unfold P_Cv_windingAt_112 at h
  refine lv_istore (lv' := [(6, .int k0), (0, .ref o), (1, .int x1), (2, .int x2), (3, .int x3), (4, .int x4), (5, .int x5)]) hx hb d_Cv_windingAt_112 hl (by decide) rfl (fun ls hl => ?_)
  refine lv_iload hx hb d_Cv_windingAt_114 (lv_at hl 6 rfl) ?_
  refine lv_iconst (v := (2 : Int32)) hx hb d_Cv_windingAt_116 (by decide) ?_
  refine lv_iand hx hb d_Cv_windingAt_117 ?_
  refine lv_if_eq (tgt := 133) hx hb d_Cv_windingAt_118 (by decide) (fun c_1 => ?_) (fun c_1 => ?_)
  · replace h := (if_pos c_1).symm.trans h
    refine lv_iconst (v := (-1 : Int32)) hx hb d_Cv_windingAt_133 (by decide) ?_
    exact w_Cv_windingAt_134 C0 o o_startX o_startY o_left o_right o_top o_bottom o_slopeX o_slopeY o_squareX o_squareY o_placedX o_placedY o_count o_startX_f o_startY_f o_left_f o_right_f o_top_f o_bottom_f o_slopeX_f o_slopeY_f o_squareX_f o_squareY_f o_placedX_f o_placedY_f a1 a2 uu z5 hz5 x1 x2 x3 x4 k0 (-1 : Int32) h hP hD hS (lv_sub hl [1, 2, 3, 4, 5, 0] rfl)
  · replace h := (if_neg c_1).symm.trans h
    refine lv_aload_n hx hb d_Cv_windingAt_121 rfl (lv_at hl 1 rfl) ?_
    refine lv_iload hx hb d_Cv_windingAt_122 (lv_at hl 5 rfl) ?_
    refine lv_iconst (v := (-1 : Int32)) hx hb d_Cv_windingAt_124 (by decide) ?_
    refine lv_iload_n hx hb d_Cv_windingAt_125 rfl (lv_at hl 2 rfl) ?_
    refine lv_iload_n hx hb d_Cv_windingAt_126 rfl (lv_at hl 3 rfl) ?_
    obtain ⟨r_2, hq, h⟩ := Option.bind_eq_some_iff.mp h
    try dsimp only at h
    have hPc := hP.sub (ws' := [(o, .inr (3, [.ref o_startX, .ref o_startY, .ref o_left, .ref o_right, .ref o_top, .ref o_bottom, .int o_count, .ref o_slopeX, .ref o_slopeY, .ref o_squareX, .ref o_squareY, .ref o_placedX, .ref o_placedY])), (o_startX, .inl (cy 0, 256, .inl o_startX_f)), (o_startY, .inl (cy 0, 256, .inl o_startY_f)), (o_left, .inl (cy 0, 256, .inl o_left_f)), (o_right, .inl (cy 0, 256, .inl o_right_f)), (o_top, .inl (cy 0, 256, .inl o_top_f)), (o_bottom, .inl (cy 0, 256, .inl o_bottom_f)), (o_slopeX, .inl (cy 0, 256, .inl o_slopeX_f)), (o_slopeY, .inl (cy 0, 256, .inl o_slopeY_f)), (o_squareX, .inl (cy 0, 256, .inl o_squareX_f)), (o_squareY, .inl (cy 0, 256, .inl o_squareY_f)), (o_placedX, .inl (cy 0, 256, .inl o_placedX_f)), (o_placedY, .inl (cy 0, 256, .inl o_placedY_f))]) [0, 1, 2, 3, 4, 5, 6, 7, 8, 9, 10, 11, 12] rfl
    have hDc := hD.sub (ws' := [(o, .inr (3, [.ref o_startX, .ref o_startY, .ref o_left, .ref o_right, .ref o_top, .ref o_bottom, .int o_count, .ref o_slopeX, .ref o_slopeY, .ref o_squareX, .ref o_squareY, .ref o_placedX, .ref o_placedY])), (o_startX, .inl (cy 0, 256, .inl o_startX_f)), (o_startY, .inl (cy 0, 256, .inl o_startY_f)), (o_left, .inl (cy 0, 256, .inl o_left_f)), (o_right, .inl (cy 0, 256, .inl o_right_f)), (o_top, .inl (cy 0, 256, .inl o_top_f)), (o_bottom, .inl (cy 0, 256, .inl o_bottom_f)), (o_slopeX, .inl (cy 0, 256, .inl o_slopeX_f)), (o_slopeY, .inl (cy 0, 256, .inl o_slopeY_f)), (o_squareX, .inl (cy 0, 256, .inl o_squareX_f)), (o_squareY, .inl (cy 0, 256, .inl o_squareY_f)), (o_placedX, .inl (cy 0, 256, .inl o_placedX_f)), (o_placedY, .inl (cy 0, 256, .inl o_placedY_f))]) [0, 1, 2, 3, 4, 5, 6, 7, 8, 9, 10, 11, 12] (by decide) rfl
    have hFc := va_free (wc := [(o, .inr (3, [.ref o_startX, .ref o_startY, .ref o_left, .ref o_right, .ref o_top, .ref o_bottom, .int o_count, .ref o_slopeX, .ref o_slopeY, .ref o_squareX, .ref o_squareY, .ref o_placedX, .ref o_placedY])), (o_startX, .inl (cy 0, 256, .inl o_startX_f)), (o_startY, .inl (cy 0, 256, .inl o_startY_f)), (o_left, .inl (cy 0, 256, .inl o_left_f)), (o_right, .inl (cy 0, 256, .inl o_right_f)), (o_top, .inl (cy 0, 256, .inl o_top_f)), (o_bottom, .inl (cy 0, 256, .inl o_bottom_f)), (o_slopeX, .inl (cy 0, 256, .inl o_slopeX_f)), (o_slopeY, .inl (cy 0, 256, .inl o_slopeY_f)), (o_squareX, .inl (cy 0, 256, .inl o_squareX_f)), (o_squareY, .inl (cy 0, 256, .inl o_squareY_f)), (o_placedX, .inl (cy 0, 256, .inl o_placedX_f)), (o_placedY, .inl (cy 0, 256, .inl o_placedY_f))]) hD hS hA [0, 1, 2, 3, 4, 5, 6, 7, 8, 9, 10, 11, 12] rfl
    refine va_calli (va_runV (As := [.int x4, .int (-1 : Int32), .int x1, .int x2]) (rest := []) ⟨hx, hb, hml, hown, htsG⟩ (c_Cv_side l dC dI cy H.size o o_startX o_startY o_left o_right o_top o_bottom o_slopeX o_slopeY o_squareX o_squareY o_placedX o_placedY o_count o_startX_f o_startY_f o_left_f o_right_f o_top_f o_bottom_f o_slopeX_f o_slopeY_f o_squareX_f o_squareY_f o_placedX_f o_placedY_f x4 (-1 : Int32) x1 x2 r_2 hq) (cwV 4 htsG (gV mW625 mW626 mW627 mW5 mW628) rfl rfl rfl (by decide +kernel) ⟨Nat.le_of_ble_eq_true rfl, Nat.le_of_ble_eq_true rfl⟩) ⟨fun a U g mk q => by obtain ⟨q0, q1, qP, qK, qD⟩ := q; exact ⟨q0, q1, qP, va_K.moved (u := U) (U := U.calling g mk a) (Vm.Alike.refl U.vm) qK, qD⟩, va_recv hK hPc (ci := 3) (q0 := 0) rfl rfl, fun U hU hW => ⟨rfl, by rw [hU], by rw [hU]; exact hPc, va_K.moved hW.alike hK, hDc.weaken (fun _ _ _ _ => trivial)⟩⟩ rfl rfl hl.1 rfl (lv_room (Nat.le_of_ble_eq_true rfl)) d_Cv_windingAt_127 ⟨Nat.le_of_ble_eq_true rfl, Nat.le_of_ble_eq_true rfl⟩) hS (fun q _ h => hFc q h) hFc (fun rr u t H1 locs ht hvm hw hB hz1 hk1 hS => ?_)
    obtain ⟨hP1, hK1, hD1⟩ := hB
    rw [ht] at hP1
    replace hw : r_2 = rr := hw.symm
    subst hw
    obtain ⟨hP, hD⟩ := va_join (wr := []) (w1 := [(o, .inr (3, [.ref o_startX, .ref o_startY, .ref o_left, .ref o_right, .ref o_top, .ref o_bottom, .int o_count, .ref o_slopeX, .ref o_slopeY, .ref o_squareX, .ref o_squareY, .ref o_placedX, .ref o_placedY])), (o_startX, .inl (cy 0, 256, .inl o_startX_f)), (o_startY, .inl (cy 0, 256, .inl o_startY_f)), (o_left, .inl (cy 0, 256, .inl o_left_f)), (o_right, .inl (cy 0, 256, .inl o_right_f)), (o_top, .inl (cy 0, 256, .inl o_top_f)), (o_bottom, .inl (cy 0, 256, .inl o_bottom_f)), (o_slopeX, .inl (cy 0, 256, .inl o_slopeX_f)), (o_slopeY, .inl (cy 0, 256, .inl o_slopeY_f)), (o_squareX, .inl (cy 0, 256, .inl o_squareX_f)), (o_squareY, .inl (cy 0, 256, .inl o_squareY_f)), (o_placedX, .inl (cy 0, 256, .inl o_placedX_f)), (o_placedY, .inl (cy 0, 256, .inl o_placedY_f))]) hP hD [0, 1, 2, 3, 4, 5, 6, 7, 8, 9, 10, 11, 12] [] rfl rfl (by decide) (by decide) hk1 hFc hP1 hD1
    generalize H1 = H at hP hS ⊢
    have hP := hP.sub (ws' := [(o, .inr (3, [.ref o_startX, .ref o_startY, .ref o_left, .ref o_right, .ref o_top, .ref o_bottom, .int o_count, .ref o_slopeX, .ref o_slopeY, .ref o_squareX, .ref o_squareY, .ref o_placedX, .ref o_placedY])), (o_startX, .inl (cy 0, 256, .inl o_startX_f)), (o_startY, .inl (cy 0, 256, .inl o_startY_f)), (o_left, .inl (cy 0, 256, .inl o_left_f)), (o_right, .inl (cy 0, 256, .inl o_right_f)), (o_top, .inl (cy 0, 256, .inl o_top_f)), (o_bottom, .inl (cy 0, 256, .inl o_bottom_f)), (o_slopeX, .inl (cy 0, 256, .inl o_slopeX_f)), (o_slopeY, .inl (cy 0, 256, .inl o_slopeY_f)), (o_squareX, .inl (cy 0, 256, .inl o_squareX_f)), (o_squareY, .inl (cy 0, 256, .inl o_squareY_f)), (o_placedX, .inl (cy 0, 256, .inl o_placedX_f)), (o_placedY, .inl (cy 0, 256, .inl o_placedY_f))]) [0, 1, 2, 3, 4, 5, 6, 7, 8, 9, 10, 11, 12] rfl
    have hD := hD.sub (ws' := [(o, .inr (3, [.ref o_startX, .ref o_startY, .ref o_left, .ref o_right, .ref o_top, .ref o_bottom, .int o_count, .ref o_slopeX, .ref o_slopeY, .ref o_squareX, .ref o_squareY, .ref o_placedX, .ref o_placedY])), (o_startX, .inl (cy 0, 256, .inl o_startX_f)), (o_startY, .inl (cy 0, 256, .inl o_startY_f)), (o_left, .inl (cy 0, 256, .inl o_left_f)), (o_right, .inl (cy 0, 256, .inl o_right_f)), (o_top, .inl (cy 0, 256, .inl o_top_f)), (o_bottom, .inl (cy 0, 256, .inl o_bottom_f)), (o_slopeX, .inl (cy 0, 256, .inl o_slopeX_f)), (o_slopeY, .inl (cy 0, 256, .inl o_slopeY_f)), (o_squareX, .inl (cy 0, 256, .inl o_squareX_f)), (o_squareY, .inl (cy 0, 256, .inl o_squareY_f)), (o_placedX, .inl (cy 0, 256, .inl o_placedX_f)), (o_placedY, .inl (cy 0, 256, .inl o_placedY_f))]) [0, 1, 2, 3, 4, 5, 6, 7, 8, 9, 10, 11, 12] (by decide) rfl
    refine W.widen (k := 0) (n := 0) (by decide) (by decide) ?_
    refine lv_goto (tgt := 134) hx hb d_Cv_windingAt_130 (by decide) ?_
    exact w_Cv_windingAt_134 C0 o o_startX o_startY o_left o_right o_top o_bottom o_slopeX o_slopeY o_squareX o_squareY o_placedX o_placedY o_count o_startX_f o_startY_f o_left_f o_right_f o_top_f o_bottom_f o_slopeX_f o_slopeY_f o_squareX_f o_squareY_f o_placedX_f o_placedY_f a1 a2 uu z5 hz5 x1 x2 x3 x4 k0 r_2 h hP hD hS (lv_sub hl [1, 2, 3, 4, 5, 0] rfl)
def P_Cv_windingAt_90 (o_count : Int32) (o_startX_f : Nat → Int32) (o_startY_f : Nat → Int32) (o_slopeX_f : Nat → Int32) (o_slopeY_f : Nat → Int32) (o_squareX_f : Nat → Int32) (o_squareY_f : Nat → Int32) (z5 : Int32 × Int32 × Int32 × Int32 → Option (Int32)) (x1 : Int32) (x2 : Int32) (x3 : Int32) (x4 : Int32) (k0 : Int32) : Option (Int32) :=
  if (k0 &&& (1 : Int32)) = 0 then (P_Cv_windingAt_112 o_count o_startX_f o_startY_f o_slopeX_f o_slopeY_f o_squareX_f o_squareY_f z5 x1 x2 x3 x4 k0 (-1 : Int32)) else ((P_Cv_side o_startX_f o_startY_f o_slopeX_f o_slopeY_f o_squareX_f o_squareY_f x4 (1 : Int32) x1 x2).bind fun r_2 => P_Cv_windingAt_112 o_count o_startX_f o_startY_f o_slopeX_f o_slopeY_f o_squareX_f o_squareY_f z5 x1 x2 x3 x4 k0 r_2)
set_option maxHeartbeats 4000000 in
set_option maxRecDepth 100000 in
theorem w_Cv_windingAt_90 (C0 : Cx p s m args meth c A dC dI cy b_Cv_windingAt 8 (some .int) "GlyphPage$Curves") (o : Nat) (o_startX : Nat) (o_startY : Nat) (o_left : Nat) (o_right : Nat) (o_top : Nat) (o_bottom : Nat) (o_slopeX : Nat) (o_slopeY : Nat) (o_squareX : Nat) (o_squareY : Nat) (o_placedX : Nat) (o_placedY : Nat) (o_count : Int32) (o_startX_f : Nat → Int32) (o_startY_f : Nat → Int32) (o_left_f : Nat → Int32) (o_right_f : Nat → Int32) (o_top_f : Nat → Int32) (o_bottom_f : Nat → Int32) (o_slopeX_f : Nat → Int32) (o_slopeY_f : Nat → Int32) (o_squareX_f : Nat → Int32) (o_squareY_f : Nat → Int32) (o_placedX_f : Nat → Int32) (o_placedY_f : Nat → Int32) (a1 : Int32) (a2 : Int32) (uu : Int32) (z5 : Int32 × Int32 × Int32 × Int32 → Option (Int32)) (hz5 : ∀ (x1 : Int32) (x2 : Int32) (x3 : Int32) (x4 : Int32) (H : Heap) (locs : List Loc) (ls : Array Slot), z5 (x1, x2, x3, x4) = some uu → va_P (dC, dI) classes [(o, .inr (3, [.ref o_startX, .ref o_startY, .ref o_left, .ref o_right, .ref o_top, .ref o_bottom, .int o_count, .ref o_slopeX, .ref o_slopeY, .ref o_squareX, .ref o_squareY, .ref o_placedX, .ref o_placedY])), (o_startX, .inl (cy 0, 256, .inl o_startX_f)), (o_startY, .inl (cy 0, 256, .inl o_startY_f)), (o_left, .inl (cy 0, 256, .inl o_left_f)), (o_right, .inl (cy 0, 256, .inl o_right_f)), (o_top, .inl (cy 0, 256, .inl o_top_f)), (o_bottom, .inl (cy 0, 256, .inl o_bottom_f)), (o_slopeX, .inl (cy 0, 256, .inl o_slopeX_f)), (o_slopeY, .inl (cy 0, 256, .inl o_slopeY_f)), (o_squareX, .inl (cy 0, 256, .inl o_squareX_f)), (o_squareY, .inl (cy 0, 256, .inl o_squareY_f)), (o_placedX, .inl (cy 0, 256, .inl o_placedX_f)), (o_placedY, .inl (cy 0, 256, .inl o_placedY_f))] H → va_D A [(o, .inr (3, [.ref o_startX, .ref o_startY, .ref o_left, .ref o_right, .ref o_top, .ref o_bottom, .int o_count, .ref o_slopeX, .ref o_slopeY, .ref o_squareX, .ref o_squareY, .ref o_placedX, .ref o_placedY])), (o_startX, .inl (cy 0, 256, .inl o_startX_f)), (o_startY, .inl (cy 0, 256, .inl o_startY_f)), (o_left, .inl (cy 0, 256, .inl o_left_f)), (o_right, .inl (cy 0, 256, .inl o_right_f)), (o_top, .inl (cy 0, 256, .inl o_top_f)), (o_bottom, .inl (cy 0, 256, .inl o_bottom_f)), (o_slopeX, .inl (cy 0, 256, .inl o_slopeX_f)), (o_slopeY, .inl (cy 0, 256, .inl o_slopeY_f)), (o_squareX, .inl (cy 0, 256, .inl o_squareX_f)), (o_squareY, .inl (cy 0, 256, .inl o_squareY_f)), (o_placedX, .inl (cy 0, 256, .inl o_placedX_f)), (o_placedY, .inl (cy 0, 256, .inl o_placedY_f))] → va_S A s.heap H locs → lv_has ls 8 [(0, .ref o), (1, .int x1), (2, .int x2), (3, .int x3), (4, .int x4)] → W p l e ({ frames := 3, cells := 0, slots := 0, locals := 105 } : Room) s m args below meth c H locs 0 0 (MQ below (va_Qi (fun r (_ : Unit) => r = uu) (fun _ t => va_P (dC, dI) classes [(o, .inr (3, [.ref o_startX, .ref o_startY, .ref o_left, .ref o_right, .ref o_top, .ref o_bottom, .int o_count, .ref o_slopeX, .ref o_slopeY, .ref o_squareX, .ref o_squareY, .ref o_placedX, .ref o_placedY])), (o_startX, .inl (cy 0, 256, .inl o_startX_f)), (o_startY, .inl (cy 0, 256, .inl o_startY_f)), (o_left, .inl (cy 0, 256, .inl o_left_f)), (o_right, .inl (cy 0, 256, .inl o_right_f)), (o_top, .inl (cy 0, 256, .inl o_top_f)), (o_bottom, .inl (cy 0, 256, .inl o_bottom_f)), (o_slopeX, .inl (cy 0, 256, .inl o_slopeX_f)), (o_slopeY, .inl (cy 0, 256, .inl o_slopeY_f)), (o_squareX, .inl (cy 0, 256, .inl o_squareX_f)), (o_squareY, .inl (cy 0, 256, .inl o_squareY_f)), (o_placedX, .inl (cy 0, 256, .inl o_placedX_f)), (o_placedY, .inl (cy 0, 256, .inl o_placedY_f))] t.heap ∧ va_K (dC, dI) classes (TY cy) t ∧ va_D A [(o, .inr (3, [.ref o_startX, .ref o_startY, .ref o_left, .ref o_right, .ref o_top, .ref o_bottom, .int o_count, .ref o_slopeX, .ref o_slopeY, .ref o_squareX, .ref o_squareY, .ref o_placedX, .ref o_placedY])), (o_startX, .inl (cy 0, 256, .inl o_startX_f)), (o_startY, .inl (cy 0, 256, .inl o_startY_f)), (o_left, .inl (cy 0, 256, .inl o_left_f)), (o_right, .inl (cy 0, 256, .inl o_right_f)), (o_top, .inl (cy 0, 256, .inl o_top_f)), (o_bottom, .inl (cy 0, 256, .inl o_bottom_f)), (o_slopeX, .inl (cy 0, 256, .inl o_slopeX_f)), (o_slopeY, .inl (cy 0, 256, .inl o_slopeY_f)), (o_squareX, .inl (cy 0, 256, .inl o_squareX_f)), (o_squareY, .inl (cy 0, 256, .inl o_squareY_f)), (o_placedX, .inl (cy 0, 256, .inl o_placedX_f)), (o_placedY, .inl (cy 0, 256, .inl o_placedY_f))]) A) args s 0 0 A) (F0 m 5 ls [])) (x1 : Int32) (x2 : Int32) (x3 : Int32) (x4 : Int32) (k0 : Int32) {H : Heap} {locs : List Loc} {ls : Array Slot} (h : P_Cv_windingAt_90 o_count o_startX_f o_startY_f o_slopeX_f o_slopeY_f o_squareX_f o_squareY_f z5 x1 x2 x3 x4 k0 = some uu) : va_P (dC, dI) classes [(o, .inr (3, [.ref o_startX, .ref o_startY, .ref o_left, .ref o_right, .ref o_top, .ref o_bottom, .int o_count, .ref o_slopeX, .ref o_slopeY, .ref o_squareX, .ref o_squareY, .ref o_placedX, .ref o_placedY])), (o_startX, .inl (cy 0, 256, .inl o_startX_f)), (o_startY, .inl (cy 0, 256, .inl o_startY_f)), (o_left, .inl (cy 0, 256, .inl o_left_f)), (o_right, .inl (cy 0, 256, .inl o_right_f)), (o_top, .inl (cy 0, 256, .inl o_top_f)), (o_bottom, .inl (cy 0, 256, .inl o_bottom_f)), (o_slopeX, .inl (cy 0, 256, .inl o_slopeX_f)), (o_slopeY, .inl (cy 0, 256, .inl o_slopeY_f)), (o_squareX, .inl (cy 0, 256, .inl o_squareX_f)), (o_squareY, .inl (cy 0, 256, .inl o_squareY_f)), (o_placedX, .inl (cy 0, 256, .inl o_placedX_f)), (o_placedY, .inl (cy 0, 256, .inl o_placedY_f))] H → va_D A [(o, .inr (3, [.ref o_startX, .ref o_startY, .ref o_left, .ref o_right, .ref o_top, .ref o_bottom, .int o_count, .ref o_slopeX, .ref o_slopeY, .ref o_squareX, .ref o_squareY, .ref o_placedX, .ref o_placedY])), (o_startX, .inl (cy 0, 256, .inl o_startX_f)), (o_startY, .inl (cy 0, 256, .inl o_startY_f)), (o_left, .inl (cy 0, 256, .inl o_left_f)), (o_right, .inl (cy 0, 256, .inl o_right_f)), (o_top, .inl (cy 0, 256, .inl o_top_f)), (o_bottom, .inl (cy 0, 256, .inl o_bottom_f)), (o_slopeX, .inl (cy 0, 256, .inl o_slopeX_f)), (o_slopeY, .inl (cy 0, 256, .inl o_slopeY_f)), (o_squareX, .inl (cy 0, 256, .inl o_squareX_f)), (o_squareY, .inl (cy 0, 256, .inl o_squareY_f)), (o_placedX, .inl (cy 0, 256, .inl o_placedX_f)), (o_placedY, .inl (cy 0, 256, .inl o_placedY_f))] → va_S A s.heap H locs → lv_has ls 8 [(0, .ref o), (1, .int x1), (2, .int x2), (3, .int x3), (4, .int x4)] → W p l e ({ frames := 3, cells := 0, slots := 0, locals := 105 } : Room) s m args below meth c H locs 0 0 (MQ below (va_Qi (fun r (_ : Unit) => r = uu) (fun _ t => va_P (dC, dI) classes [(o, .inr (3, [.ref o_startX, .ref o_startY, .ref o_left, .ref o_right, .ref o_top, .ref o_bottom, .int o_count, .ref o_slopeX, .ref o_slopeY, .ref o_squareX, .ref o_squareY, .ref o_placedX, .ref o_placedY])), (o_startX, .inl (cy 0, 256, .inl o_startX_f)), (o_startY, .inl (cy 0, 256, .inl o_startY_f)), (o_left, .inl (cy 0, 256, .inl o_left_f)), (o_right, .inl (cy 0, 256, .inl o_right_f)), (o_top, .inl (cy 0, 256, .inl o_top_f)), (o_bottom, .inl (cy 0, 256, .inl o_bottom_f)), (o_slopeX, .inl (cy 0, 256, .inl o_slopeX_f)), (o_slopeY, .inl (cy 0, 256, .inl o_slopeY_f)), (o_squareX, .inl (cy 0, 256, .inl o_squareX_f)), (o_squareY, .inl (cy 0, 256, .inl o_squareY_f)), (o_placedX, .inl (cy 0, 256, .inl o_placedX_f)), (o_placedY, .inl (cy 0, 256, .inl o_placedY_f))] t.heap ∧ va_K (dC, dI) classes (TY cy) t ∧ va_D A [(o, .inr (3, [.ref o_startX, .ref o_startY, .ref o_left, .ref o_right, .ref o_top, .ref o_bottom, .int o_count, .ref o_slopeX, .ref o_slopeY, .ref o_squareX, .ref o_squareY, .ref o_placedX, .ref o_placedY])), (o_startX, .inl (cy 0, 256, .inl o_startX_f)), (o_startY, .inl (cy 0, 256, .inl o_startY_f)), (o_left, .inl (cy 0, 256, .inl o_left_f)), (o_right, .inl (cy 0, 256, .inl o_right_f)), (o_top, .inl (cy 0, 256, .inl o_top_f)), (o_bottom, .inl (cy 0, 256, .inl o_bottom_f)), (o_slopeX, .inl (cy 0, 256, .inl o_slopeX_f)), (o_slopeY, .inl (cy 0, 256, .inl o_slopeY_f)), (o_squareX, .inl (cy 0, 256, .inl o_squareX_f)), (o_squareY, .inl (cy 0, 256, .inl o_squareY_f)), (o_placedX, .inl (cy 0, 256, .inl o_placedX_f)), (o_placedY, .inl (cy 0, 256, .inl o_placedY_f))]) A) args s 0 0 A) (F0 m 90 ls [.int k0]) := by
  intro hP hD hS hl
  obtain ⟨hx, hb, hr, hlocks, hml, hown, htsG, hA, hK⟩ := id C0
  unfold P_Cv_windingAt_90 at h
  refine lv_istore (lv' := [(5, .int k0), (0, .ref o), (1, .int x1), (2, .int x2), (3, .int x3), (4, .int x4)]) hx hb d_Cv_windingAt_90 hl (by decide) rfl (fun ls hl => ?_)
  refine lv_iload hx hb d_Cv_windingAt_92 (lv_at hl 0 rfl) ?_
  refine lv_iconst (v := (1 : Int32)) hx hb d_Cv_windingAt_94 (by decide) ?_
  refine lv_iand hx hb d_Cv_windingAt_95 ?_
  refine lv_if_eq (tgt := 111) hx hb d_Cv_windingAt_96 (by decide) (fun c_1 => ?_) (fun c_1 => ?_)
  · replace h := (if_pos c_1).symm.trans h
    refine lv_iconst (v := (-1 : Int32)) hx hb d_Cv_windingAt_111 (by decide) ?_
    exact w_Cv_windingAt_112 C0 o o_startX o_startY o_left o_right o_top o_bottom o_slopeX o_slopeY o_squareX o_squareY o_placedX o_placedY o_count o_startX_f o_startY_f o_left_f o_right_f o_top_f o_bottom_f o_slopeX_f o_slopeY_f o_squareX_f o_squareY_f o_placedX_f o_placedY_f a1 a2 uu z5 hz5 x1 x2 x3 x4 k0 (-1 : Int32) h hP hD hS (lv_sub hl [1, 2, 3, 4, 5, 0] rfl)
  · replace h := (if_neg c_1).symm.trans h
    refine lv_aload_n hx hb d_Cv_windingAt_99 rfl (lv_at hl 1 rfl) ?_
    refine lv_iload hx hb d_Cv_windingAt_100 (lv_at hl 5 rfl) ?_
    refine lv_iconst (v := (1 : Int32)) hx hb d_Cv_windingAt_102 (by decide) ?_
    refine lv_iload_n hx hb d_Cv_windingAt_103 rfl (lv_at hl 2 rfl) ?_
    refine lv_iload_n hx hb d_Cv_windingAt_104 rfl (lv_at hl 3 rfl) ?_
    obtain ⟨r_2, hq, h⟩ := Option.bind_eq_some_iff.mp h
    try dsimp only at h
    have hPc := hP.sub (ws' := [(o, .inr (3, [.ref o_startX, .ref o_startY, .ref o_left, .ref o_right, .ref o_top, .ref o_bottom, .int o_count, .ref o_slopeX, .ref o_slopeY, .ref o_squareX, .ref o_squareY, .ref o_placedX, .ref o_placedY])), (o_startX, .inl (cy 0, 256, .inl o_startX_f)), (o_startY, .inl (cy 0, 256, .inl o_startY_f)), (o_left, .inl (cy 0, 256, .inl o_left_f)), (o_right, .inl (cy 0, 256, .inl o_right_f)), (o_top, .inl (cy 0, 256, .inl o_top_f)), (o_bottom, .inl (cy 0, 256, .inl o_bottom_f)), (o_slopeX, .inl (cy 0, 256, .inl o_slopeX_f)), (o_slopeY, .inl (cy 0, 256, .inl o_slopeY_f)), (o_squareX, .inl (cy 0, 256, .inl o_squareX_f)), (o_squareY, .inl (cy 0, 256, .inl o_squareY_f)), (o_placedX, .inl (cy 0, 256, .inl o_placedX_f)), (o_placedY, .inl (cy 0, 256, .inl o_placedY_f))]) [0, 1, 2, 3, 4, 5, 6, 7, 8, 9, 10, 11, 12] rfl
    have hDc := hD.sub (ws' := [(o, .inr (3, [.ref o_startX, .ref o_startY, .ref o_left, .ref o_right, .ref o_top, .ref o_bottom, .int o_count, .ref o_slopeX, .ref o_slopeY, .ref o_squareX, .ref o_squareY, .ref o_placedX, .ref o_placedY])), (o_startX, .inl (cy 0, 256, .inl o_startX_f)), (o_startY, .inl (cy 0, 256, .inl o_startY_f)), (o_left, .inl (cy 0, 256, .inl o_left_f)), (o_right, .inl (cy 0, 256, .inl o_right_f)), (o_top, .inl (cy 0, 256, .inl o_top_f)), (o_bottom, .inl (cy 0, 256, .inl o_bottom_f)), (o_slopeX, .inl (cy 0, 256, .inl o_slopeX_f)), (o_slopeY, .inl (cy 0, 256, .inl o_slopeY_f)), (o_squareX, .inl (cy 0, 256, .inl o_squareX_f)), (o_squareY, .inl (cy 0, 256, .inl o_squareY_f)), (o_placedX, .inl (cy 0, 256, .inl o_placedX_f)), (o_placedY, .inl (cy 0, 256, .inl o_placedY_f))]) [0, 1, 2, 3, 4, 5, 6, 7, 8, 9, 10, 11, 12] (by decide) rfl
    have hFc := va_free (wc := [(o, .inr (3, [.ref o_startX, .ref o_startY, .ref o_left, .ref o_right, .ref o_top, .ref o_bottom, .int o_count, .ref o_slopeX, .ref o_slopeY, .ref o_squareX, .ref o_squareY, .ref o_placedX, .ref o_placedY])), (o_startX, .inl (cy 0, 256, .inl o_startX_f)), (o_startY, .inl (cy 0, 256, .inl o_startY_f)), (o_left, .inl (cy 0, 256, .inl o_left_f)), (o_right, .inl (cy 0, 256, .inl o_right_f)), (o_top, .inl (cy 0, 256, .inl o_top_f)), (o_bottom, .inl (cy 0, 256, .inl o_bottom_f)), (o_slopeX, .inl (cy 0, 256, .inl o_slopeX_f)), (o_slopeY, .inl (cy 0, 256, .inl o_slopeY_f)), (o_squareX, .inl (cy 0, 256, .inl o_squareX_f)), (o_squareY, .inl (cy 0, 256, .inl o_squareY_f)), (o_placedX, .inl (cy 0, 256, .inl o_placedX_f)), (o_placedY, .inl (cy 0, 256, .inl o_placedY_f))]) hD hS hA [0, 1, 2, 3, 4, 5, 6, 7, 8, 9, 10, 11, 12] rfl
    refine va_calli (va_runV (As := [.int x4, .int (1 : Int32), .int x1, .int x2]) (rest := []) ⟨hx, hb, hml, hown, htsG⟩ (c_Cv_side l dC dI cy H.size o o_startX o_startY o_left o_right o_top o_bottom o_slopeX o_slopeY o_squareX o_squareY o_placedX o_placedY o_count o_startX_f o_startY_f o_left_f o_right_f o_top_f o_bottom_f o_slopeX_f o_slopeY_f o_squareX_f o_squareY_f o_placedX_f o_placedY_f x4 (1 : Int32) x1 x2 r_2 hq) (cwV 4 htsG (gV mW625 mW626 mW627 mW5 mW628) rfl rfl rfl (by decide +kernel) ⟨Nat.le_of_ble_eq_true rfl, Nat.le_of_ble_eq_true rfl⟩) ⟨fun a U g mk q => by obtain ⟨q0, q1, qP, qK, qD⟩ := q; exact ⟨q0, q1, qP, va_K.moved (u := U) (U := U.calling g mk a) (Vm.Alike.refl U.vm) qK, qD⟩, va_recv hK hPc (ci := 3) (q0 := 0) rfl rfl, fun U hU hW => ⟨rfl, by rw [hU], by rw [hU]; exact hPc, va_K.moved hW.alike hK, hDc.weaken (fun _ _ _ _ => trivial)⟩⟩ rfl rfl hl.1 rfl (lv_room (Nat.le_of_ble_eq_true rfl)) d_Cv_windingAt_105 ⟨Nat.le_of_ble_eq_true rfl, Nat.le_of_ble_eq_true rfl⟩) hS (fun q _ h => hFc q h) hFc (fun rr u t H1 locs ht hvm hw hB hz1 hk1 hS => ?_)
    obtain ⟨hP1, hK1, hD1⟩ := hB
    rw [ht] at hP1
    replace hw : r_2 = rr := hw.symm
    subst hw
    obtain ⟨hP, hD⟩ := va_join (wr := []) (w1 := [(o, .inr (3, [.ref o_startX, .ref o_startY, .ref o_left, .ref o_right, .ref o_top, .ref o_bottom, .int o_count, .ref o_slopeX, .ref o_slopeY, .ref o_squareX, .ref o_squareY, .ref o_placedX, .ref o_placedY])), (o_startX, .inl (cy 0, 256, .inl o_startX_f)), (o_startY, .inl (cy 0, 256, .inl o_startY_f)), (o_left, .inl (cy 0, 256, .inl o_left_f)), (o_right, .inl (cy 0, 256, .inl o_right_f)), (o_top, .inl (cy 0, 256, .inl o_top_f)), (o_bottom, .inl (cy 0, 256, .inl o_bottom_f)), (o_slopeX, .inl (cy 0, 256, .inl o_slopeX_f)), (o_slopeY, .inl (cy 0, 256, .inl o_slopeY_f)), (o_squareX, .inl (cy 0, 256, .inl o_squareX_f)), (o_squareY, .inl (cy 0, 256, .inl o_squareY_f)), (o_placedX, .inl (cy 0, 256, .inl o_placedX_f)), (o_placedY, .inl (cy 0, 256, .inl o_placedY_f))]) hP hD [0, 1, 2, 3, 4, 5, 6, 7, 8, 9, 10, 11, 12] [] rfl rfl (by decide) (by decide) hk1 hFc hP1 hD1
    generalize H1 = H at hP hS ⊢
    have hP := hP.sub (ws' := [(o, .inr (3, [.ref o_startX, .ref o_startY, .ref o_left, .ref o_right, .ref o_top, .ref o_bottom, .int o_count, .ref o_slopeX, .ref o_slopeY, .ref o_squareX, .ref o_squareY, .ref o_placedX, .ref o_placedY])), (o_startX, .inl (cy 0, 256, .inl o_startX_f)), (o_startY, .inl (cy 0, 256, .inl o_startY_f)), (o_left, .inl (cy 0, 256, .inl o_left_f)), (o_right, .inl (cy 0, 256, .inl o_right_f)), (o_top, .inl (cy 0, 256, .inl o_top_f)), (o_bottom, .inl (cy 0, 256, .inl o_bottom_f)), (o_slopeX, .inl (cy 0, 256, .inl o_slopeX_f)), (o_slopeY, .inl (cy 0, 256, .inl o_slopeY_f)), (o_squareX, .inl (cy 0, 256, .inl o_squareX_f)), (o_squareY, .inl (cy 0, 256, .inl o_squareY_f)), (o_placedX, .inl (cy 0, 256, .inl o_placedX_f)), (o_placedY, .inl (cy 0, 256, .inl o_placedY_f))]) [0, 1, 2, 3, 4, 5, 6, 7, 8, 9, 10, 11, 12] rfl
    have hD := hD.sub (ws' := [(o, .inr (3, [.ref o_startX, .ref o_startY, .ref o_left, .ref o_right, .ref o_top, .ref o_bottom, .int o_count, .ref o_slopeX, .ref o_slopeY, .ref o_squareX, .ref o_squareY, .ref o_placedX, .ref o_placedY])), (o_startX, .inl (cy 0, 256, .inl o_startX_f)), (o_startY, .inl (cy 0, 256, .inl o_startY_f)), (o_left, .inl (cy 0, 256, .inl o_left_f)), (o_right, .inl (cy 0, 256, .inl o_right_f)), (o_top, .inl (cy 0, 256, .inl o_top_f)), (o_bottom, .inl (cy 0, 256, .inl o_bottom_f)), (o_slopeX, .inl (cy 0, 256, .inl o_slopeX_f)), (o_slopeY, .inl (cy 0, 256, .inl o_slopeY_f)), (o_squareX, .inl (cy 0, 256, .inl o_squareX_f)), (o_squareY, .inl (cy 0, 256, .inl o_squareY_f)), (o_placedX, .inl (cy 0, 256, .inl o_placedX_f)), (o_placedY, .inl (cy 0, 256, .inl o_placedY_f))]) [0, 1, 2, 3, 4, 5, 6, 7, 8, 9, 10, 11, 12] (by decide) rfl
    refine W.widen (k := 0) (n := 0) (by decide) (by decide) ?_
    refine lv_goto (tgt := 112) hx hb d_Cv_windingAt_108 (by decide) ?_
    exact w_Cv_windingAt_112 C0 o o_startX o_startY o_left o_right o_top o_bottom o_slopeX o_slopeY o_squareX o_squareY o_placedX o_placedY o_count o_startX_f o_startY_f o_left_f o_right_f o_top_f o_bottom_f o_slopeX_f o_slopeY_f o_squareX_f o_squareY_f o_placedX_f o_placedY_f a1 a2 uu z5 hz5 x1 x2 x3 x4 k0 r_2 h hP hD hS (lv_sub hl [1, 2, 3, 4, 5, 0] rfl)
def P_Cv_windingAt_70 (o_count : Int32) (o_startX_f : Nat → Int32) (o_startY_f : Nat → Int32) (o_slopeX_f : Nat → Int32) (o_slopeY_f : Nat → Int32) (o_squareX_f : Nat → Int32) (o_squareY_f : Nat → Int32) (z5 : Int32 × Int32 × Int32 × Int32 → Option (Int32)) (x1 : Int32) (x2 : Int32) (x3 : Int32) (x4 : Int32) : Option (Int32) :=
  (P_Cv_isFlat o_slopeY_f o_squareY_f x4).bind fun r_1 => if r_1 = 0 then ((P_Cv_crossings o_startY_f o_slopeY_f o_squareY_f x4 x2).bind fun r_3 => P_Cv_windingAt_90 o_count o_startX_f o_startY_f o_slopeX_f o_slopeY_f o_squareX_f o_squareY_f z5 x1 x2 x3 x4 r_3) else (P_Cv_windingAt_90 o_count o_startX_f o_startY_f o_slopeX_f o_slopeY_f o_squareX_f o_squareY_f z5 x1 x2 x3 x4 (0 : Int32))
set_option maxHeartbeats 4000000 in
set_option maxRecDepth 100000 in
theorem w_Cv_windingAt_70 (C0 : Cx p s m args meth c A dC dI cy b_Cv_windingAt 8 (some .int) "GlyphPage$Curves") (o : Nat) (o_startX : Nat) (o_startY : Nat) (o_left : Nat) (o_right : Nat) (o_top : Nat) (o_bottom : Nat) (o_slopeX : Nat) (o_slopeY : Nat) (o_squareX : Nat) (o_squareY : Nat) (o_placedX : Nat) (o_placedY : Nat) (o_count : Int32) (o_startX_f : Nat → Int32) (o_startY_f : Nat → Int32) (o_left_f : Nat → Int32) (o_right_f : Nat → Int32) (o_top_f : Nat → Int32) (o_bottom_f : Nat → Int32) (o_slopeX_f : Nat → Int32) (o_slopeY_f : Nat → Int32) (o_squareX_f : Nat → Int32) (o_squareY_f : Nat → Int32) (o_placedX_f : Nat → Int32) (o_placedY_f : Nat → Int32) (a1 : Int32) (a2 : Int32) (uu : Int32) (z5 : Int32 × Int32 × Int32 × Int32 → Option (Int32)) (hz5 : ∀ (x1 : Int32) (x2 : Int32) (x3 : Int32) (x4 : Int32) (H : Heap) (locs : List Loc) (ls : Array Slot), z5 (x1, x2, x3, x4) = some uu → va_P (dC, dI) classes [(o, .inr (3, [.ref o_startX, .ref o_startY, .ref o_left, .ref o_right, .ref o_top, .ref o_bottom, .int o_count, .ref o_slopeX, .ref o_slopeY, .ref o_squareX, .ref o_squareY, .ref o_placedX, .ref o_placedY])), (o_startX, .inl (cy 0, 256, .inl o_startX_f)), (o_startY, .inl (cy 0, 256, .inl o_startY_f)), (o_left, .inl (cy 0, 256, .inl o_left_f)), (o_right, .inl (cy 0, 256, .inl o_right_f)), (o_top, .inl (cy 0, 256, .inl o_top_f)), (o_bottom, .inl (cy 0, 256, .inl o_bottom_f)), (o_slopeX, .inl (cy 0, 256, .inl o_slopeX_f)), (o_slopeY, .inl (cy 0, 256, .inl o_slopeY_f)), (o_squareX, .inl (cy 0, 256, .inl o_squareX_f)), (o_squareY, .inl (cy 0, 256, .inl o_squareY_f)), (o_placedX, .inl (cy 0, 256, .inl o_placedX_f)), (o_placedY, .inl (cy 0, 256, .inl o_placedY_f))] H → va_D A [(o, .inr (3, [.ref o_startX, .ref o_startY, .ref o_left, .ref o_right, .ref o_top, .ref o_bottom, .int o_count, .ref o_slopeX, .ref o_slopeY, .ref o_squareX, .ref o_squareY, .ref o_placedX, .ref o_placedY])), (o_startX, .inl (cy 0, 256, .inl o_startX_f)), (o_startY, .inl (cy 0, 256, .inl o_startY_f)), (o_left, .inl (cy 0, 256, .inl o_left_f)), (o_right, .inl (cy 0, 256, .inl o_right_f)), (o_top, .inl (cy 0, 256, .inl o_top_f)), (o_bottom, .inl (cy 0, 256, .inl o_bottom_f)), (o_slopeX, .inl (cy 0, 256, .inl o_slopeX_f)), (o_slopeY, .inl (cy 0, 256, .inl o_slopeY_f)), (o_squareX, .inl (cy 0, 256, .inl o_squareX_f)), (o_squareY, .inl (cy 0, 256, .inl o_squareY_f)), (o_placedX, .inl (cy 0, 256, .inl o_placedX_f)), (o_placedY, .inl (cy 0, 256, .inl o_placedY_f))] → va_S A s.heap H locs → lv_has ls 8 [(0, .ref o), (1, .int x1), (2, .int x2), (3, .int x3), (4, .int x4)] → W p l e ({ frames := 3, cells := 0, slots := 0, locals := 105 } : Room) s m args below meth c H locs 0 0 (MQ below (va_Qi (fun r (_ : Unit) => r = uu) (fun _ t => va_P (dC, dI) classes [(o, .inr (3, [.ref o_startX, .ref o_startY, .ref o_left, .ref o_right, .ref o_top, .ref o_bottom, .int o_count, .ref o_slopeX, .ref o_slopeY, .ref o_squareX, .ref o_squareY, .ref o_placedX, .ref o_placedY])), (o_startX, .inl (cy 0, 256, .inl o_startX_f)), (o_startY, .inl (cy 0, 256, .inl o_startY_f)), (o_left, .inl (cy 0, 256, .inl o_left_f)), (o_right, .inl (cy 0, 256, .inl o_right_f)), (o_top, .inl (cy 0, 256, .inl o_top_f)), (o_bottom, .inl (cy 0, 256, .inl o_bottom_f)), (o_slopeX, .inl (cy 0, 256, .inl o_slopeX_f)), (o_slopeY, .inl (cy 0, 256, .inl o_slopeY_f)), (o_squareX, .inl (cy 0, 256, .inl o_squareX_f)), (o_squareY, .inl (cy 0, 256, .inl o_squareY_f)), (o_placedX, .inl (cy 0, 256, .inl o_placedX_f)), (o_placedY, .inl (cy 0, 256, .inl o_placedY_f))] t.heap ∧ va_K (dC, dI) classes (TY cy) t ∧ va_D A [(o, .inr (3, [.ref o_startX, .ref o_startY, .ref o_left, .ref o_right, .ref o_top, .ref o_bottom, .int o_count, .ref o_slopeX, .ref o_slopeY, .ref o_squareX, .ref o_squareY, .ref o_placedX, .ref o_placedY])), (o_startX, .inl (cy 0, 256, .inl o_startX_f)), (o_startY, .inl (cy 0, 256, .inl o_startY_f)), (o_left, .inl (cy 0, 256, .inl o_left_f)), (o_right, .inl (cy 0, 256, .inl o_right_f)), (o_top, .inl (cy 0, 256, .inl o_top_f)), (o_bottom, .inl (cy 0, 256, .inl o_bottom_f)), (o_slopeX, .inl (cy 0, 256, .inl o_slopeX_f)), (o_slopeY, .inl (cy 0, 256, .inl o_slopeY_f)), (o_squareX, .inl (cy 0, 256, .inl o_squareX_f)), (o_squareY, .inl (cy 0, 256, .inl o_squareY_f)), (o_placedX, .inl (cy 0, 256, .inl o_placedX_f)), (o_placedY, .inl (cy 0, 256, .inl o_placedY_f))]) A) args s 0 0 A) (F0 m 5 ls [])) (x1 : Int32) (x2 : Int32) (x3 : Int32) (x4 : Int32) {H : Heap} {locs : List Loc} {ls : Array Slot} (h : P_Cv_windingAt_70 o_count o_startX_f o_startY_f o_slopeX_f o_slopeY_f o_squareX_f o_squareY_f z5 x1 x2 x3 x4 = some uu) : va_P (dC, dI) classes [(o, .inr (3, [.ref o_startX, .ref o_startY, .ref o_left, .ref o_right, .ref o_top, .ref o_bottom, .int o_count, .ref o_slopeX, .ref o_slopeY, .ref o_squareX, .ref o_squareY, .ref o_placedX, .ref o_placedY])), (o_startX, .inl (cy 0, 256, .inl o_startX_f)), (o_startY, .inl (cy 0, 256, .inl o_startY_f)), (o_left, .inl (cy 0, 256, .inl o_left_f)), (o_right, .inl (cy 0, 256, .inl o_right_f)), (o_top, .inl (cy 0, 256, .inl o_top_f)), (o_bottom, .inl (cy 0, 256, .inl o_bottom_f)), (o_slopeX, .inl (cy 0, 256, .inl o_slopeX_f)), (o_slopeY, .inl (cy 0, 256, .inl o_slopeY_f)), (o_squareX, .inl (cy 0, 256, .inl o_squareX_f)), (o_squareY, .inl (cy 0, 256, .inl o_squareY_f)), (o_placedX, .inl (cy 0, 256, .inl o_placedX_f)), (o_placedY, .inl (cy 0, 256, .inl o_placedY_f))] H → va_D A [(o, .inr (3, [.ref o_startX, .ref o_startY, .ref o_left, .ref o_right, .ref o_top, .ref o_bottom, .int o_count, .ref o_slopeX, .ref o_slopeY, .ref o_squareX, .ref o_squareY, .ref o_placedX, .ref o_placedY])), (o_startX, .inl (cy 0, 256, .inl o_startX_f)), (o_startY, .inl (cy 0, 256, .inl o_startY_f)), (o_left, .inl (cy 0, 256, .inl o_left_f)), (o_right, .inl (cy 0, 256, .inl o_right_f)), (o_top, .inl (cy 0, 256, .inl o_top_f)), (o_bottom, .inl (cy 0, 256, .inl o_bottom_f)), (o_slopeX, .inl (cy 0, 256, .inl o_slopeX_f)), (o_slopeY, .inl (cy 0, 256, .inl o_slopeY_f)), (o_squareX, .inl (cy 0, 256, .inl o_squareX_f)), (o_squareY, .inl (cy 0, 256, .inl o_squareY_f)), (o_placedX, .inl (cy 0, 256, .inl o_placedX_f)), (o_placedY, .inl (cy 0, 256, .inl o_placedY_f))] → va_S A s.heap H locs → lv_has ls 8 [(0, .ref o), (1, .int x1), (2, .int x2), (3, .int x3), (4, .int x4)] → W p l e ({ frames := 3, cells := 0, slots := 0, locals := 105 } : Room) s m args below meth c H locs 0 0 (MQ below (va_Qi (fun r (_ : Unit) => r = uu) (fun _ t => va_P (dC, dI) classes [(o, .inr (3, [.ref o_startX, .ref o_startY, .ref o_left, .ref o_right, .ref o_top, .ref o_bottom, .int o_count, .ref o_slopeX, .ref o_slopeY, .ref o_squareX, .ref o_squareY, .ref o_placedX, .ref o_placedY])), (o_startX, .inl (cy 0, 256, .inl o_startX_f)), (o_startY, .inl (cy 0, 256, .inl o_startY_f)), (o_left, .inl (cy 0, 256, .inl o_left_f)), (o_right, .inl (cy 0, 256, .inl o_right_f)), (o_top, .inl (cy 0, 256, .inl o_top_f)), (o_bottom, .inl (cy 0, 256, .inl o_bottom_f)), (o_slopeX, .inl (cy 0, 256, .inl o_slopeX_f)), (o_slopeY, .inl (cy 0, 256, .inl o_slopeY_f)), (o_squareX, .inl (cy 0, 256, .inl o_squareX_f)), (o_squareY, .inl (cy 0, 256, .inl o_squareY_f)), (o_placedX, .inl (cy 0, 256, .inl o_placedX_f)), (o_placedY, .inl (cy 0, 256, .inl o_placedY_f))] t.heap ∧ va_K (dC, dI) classes (TY cy) t ∧ va_D A [(o, .inr (3, [.ref o_startX, .ref o_startY, .ref o_left, .ref o_right, .ref o_top, .ref o_bottom, .int o_count, .ref o_slopeX, .ref o_slopeY, .ref o_squareX, .ref o_squareY, .ref o_placedX, .ref o_placedY])), (o_startX, .inl (cy 0, 256, .inl o_startX_f)), (o_startY, .inl (cy 0, 256, .inl o_startY_f)), (o_left, .inl (cy 0, 256, .inl o_left_f)), (o_right, .inl (cy 0, 256, .inl o_right_f)), (o_top, .inl (cy 0, 256, .inl o_top_f)), (o_bottom, .inl (cy 0, 256, .inl o_bottom_f)), (o_slopeX, .inl (cy 0, 256, .inl o_slopeX_f)), (o_slopeY, .inl (cy 0, 256, .inl o_slopeY_f)), (o_squareX, .inl (cy 0, 256, .inl o_squareX_f)), (o_squareY, .inl (cy 0, 256, .inl o_squareY_f)), (o_placedX, .inl (cy 0, 256, .inl o_placedX_f)), (o_placedY, .inl (cy 0, 256, .inl o_placedY_f))]) A) args s 0 0 A) (F0 m 70 ls []) := by
  intro hP hD hS hl
  obtain ⟨hx, hb, hr, hlocks, hml, hown, htsG, hA, hK⟩ := id C0
  unfold P_Cv_windingAt_70 at h
  refine lv_aload_n hx hb d_Cv_windingAt_70 rfl (lv_at hl 0 rfl) ?_
  refine lv_iload hx hb d_Cv_windingAt_71 (lv_at hl 4 rfl) ?_
  obtain ⟨r_1, hq, h⟩ := Option.bind_eq_some_iff.mp h
  try dsimp only at h
  have hPc := hP.sub (ws' := [(o, .inr (3, [.ref o_startX, .ref o_startY, .ref o_left, .ref o_right, .ref o_top, .ref o_bottom, .int o_count, .ref o_slopeX, .ref o_slopeY, .ref o_squareX, .ref o_squareY, .ref o_placedX, .ref o_placedY])), (o_startX, .inl (cy 0, 256, .inl o_startX_f)), (o_startY, .inl (cy 0, 256, .inl o_startY_f)), (o_left, .inl (cy 0, 256, .inl o_left_f)), (o_right, .inl (cy 0, 256, .inl o_right_f)), (o_top, .inl (cy 0, 256, .inl o_top_f)), (o_bottom, .inl (cy 0, 256, .inl o_bottom_f)), (o_slopeX, .inl (cy 0, 256, .inl o_slopeX_f)), (o_slopeY, .inl (cy 0, 256, .inl o_slopeY_f)), (o_squareX, .inl (cy 0, 256, .inl o_squareX_f)), (o_squareY, .inl (cy 0, 256, .inl o_squareY_f)), (o_placedX, .inl (cy 0, 256, .inl o_placedX_f)), (o_placedY, .inl (cy 0, 256, .inl o_placedY_f))]) [0, 1, 2, 3, 4, 5, 6, 7, 8, 9, 10, 11, 12] rfl
  have hDc := hD.sub (ws' := [(o, .inr (3, [.ref o_startX, .ref o_startY, .ref o_left, .ref o_right, .ref o_top, .ref o_bottom, .int o_count, .ref o_slopeX, .ref o_slopeY, .ref o_squareX, .ref o_squareY, .ref o_placedX, .ref o_placedY])), (o_startX, .inl (cy 0, 256, .inl o_startX_f)), (o_startY, .inl (cy 0, 256, .inl o_startY_f)), (o_left, .inl (cy 0, 256, .inl o_left_f)), (o_right, .inl (cy 0, 256, .inl o_right_f)), (o_top, .inl (cy 0, 256, .inl o_top_f)), (o_bottom, .inl (cy 0, 256, .inl o_bottom_f)), (o_slopeX, .inl (cy 0, 256, .inl o_slopeX_f)), (o_slopeY, .inl (cy 0, 256, .inl o_slopeY_f)), (o_squareX, .inl (cy 0, 256, .inl o_squareX_f)), (o_squareY, .inl (cy 0, 256, .inl o_squareY_f)), (o_placedX, .inl (cy 0, 256, .inl o_placedX_f)), (o_placedY, .inl (cy 0, 256, .inl o_placedY_f))]) [0, 1, 2, 3, 4, 5, 6, 7, 8, 9, 10, 11, 12] (by decide) rfl
  have hFc := va_free (wc := [(o, .inr (3, [.ref o_startX, .ref o_startY, .ref o_left, .ref o_right, .ref o_top, .ref o_bottom, .int o_count, .ref o_slopeX, .ref o_slopeY, .ref o_squareX, .ref o_squareY, .ref o_placedX, .ref o_placedY])), (o_startX, .inl (cy 0, 256, .inl o_startX_f)), (o_startY, .inl (cy 0, 256, .inl o_startY_f)), (o_left, .inl (cy 0, 256, .inl o_left_f)), (o_right, .inl (cy 0, 256, .inl o_right_f)), (o_top, .inl (cy 0, 256, .inl o_top_f)), (o_bottom, .inl (cy 0, 256, .inl o_bottom_f)), (o_slopeX, .inl (cy 0, 256, .inl o_slopeX_f)), (o_slopeY, .inl (cy 0, 256, .inl o_slopeY_f)), (o_squareX, .inl (cy 0, 256, .inl o_squareX_f)), (o_squareY, .inl (cy 0, 256, .inl o_squareY_f)), (o_placedX, .inl (cy 0, 256, .inl o_placedX_f)), (o_placedY, .inl (cy 0, 256, .inl o_placedY_f))]) hD hS hA [0, 1, 2, 3, 4, 5, 6, 7, 8, 9, 10, 11, 12] rfl
  refine va_calli (va_runV (As := [.int x4]) (rest := []) ⟨hx, hb, hml, hown, htsG⟩ (c_Cv_isFlat l dC dI cy H.size o o_startX o_startY o_left o_right o_top o_bottom o_slopeX o_slopeY o_squareX o_squareY o_placedX o_placedY o_count o_startX_f o_startY_f o_left_f o_right_f o_top_f o_bottom_f o_slopeX_f o_slopeY_f o_squareX_f o_squareY_f o_placedX_f o_placedY_f x4 r_1 hq) (cwV 1 htsG (gV mW607 mW608 mW609 mW5 mW610) rfl rfl rfl (by decide +kernel) ⟨Nat.le_of_ble_eq_true rfl, Nat.le_of_ble_eq_true rfl⟩) ⟨fun a U g mk q => by obtain ⟨q0, q1, qP, qK, qD⟩ := q; exact ⟨q0, q1, qP, va_K.moved (u := U) (U := U.calling g mk a) (Vm.Alike.refl U.vm) qK, qD⟩, va_recv hK hPc (ci := 3) (q0 := 0) rfl rfl, fun U hU hW => ⟨rfl, by rw [hU], by rw [hU]; exact hPc, va_K.moved hW.alike hK, hDc.weaken (fun _ _ _ _ => trivial)⟩⟩ rfl rfl hl.1 rfl (lv_room (Nat.le_of_ble_eq_true rfl)) d_Cv_windingAt_73 ⟨Nat.le_of_ble_eq_true rfl, Nat.le_of_ble_eq_true rfl⟩) hS (fun q _ h => hFc q h) hFc (fun rr u t H1 locs ht hvm hw hB hz1 hk1 hS => ?_)
  obtain ⟨hP1, hK1, hD1⟩ := hB
  rw [ht] at hP1
  replace hw : r_1 = rr := hw.symm
  subst hw
  obtain ⟨hP, hD⟩ := va_join (wr := []) (w1 := [(o, .inr (3, [.ref o_startX, .ref o_startY, .ref o_left, .ref o_right, .ref o_top, .ref o_bottom, .int o_count, .ref o_slopeX, .ref o_slopeY, .ref o_squareX, .ref o_squareY, .ref o_placedX, .ref o_placedY])), (o_startX, .inl (cy 0, 256, .inl o_startX_f)), (o_startY, .inl (cy 0, 256, .inl o_startY_f)), (o_left, .inl (cy 0, 256, .inl o_left_f)), (o_right, .inl (cy 0, 256, .inl o_right_f)), (o_top, .inl (cy 0, 256, .inl o_top_f)), (o_bottom, .inl (cy 0, 256, .inl o_bottom_f)), (o_slopeX, .inl (cy 0, 256, .inl o_slopeX_f)), (o_slopeY, .inl (cy 0, 256, .inl o_slopeY_f)), (o_squareX, .inl (cy 0, 256, .inl o_squareX_f)), (o_squareY, .inl (cy 0, 256, .inl o_squareY_f)), (o_placedX, .inl (cy 0, 256, .inl o_placedX_f)), (o_placedY, .inl (cy 0, 256, .inl o_placedY_f))]) hP hD [0, 1, 2, 3, 4, 5, 6, 7, 8, 9, 10, 11, 12] [] rfl rfl (by decide) (by decide) hk1 hFc hP1 hD1
  generalize H1 = H at hP hS ⊢
  have hP := hP.sub (ws' := [(o, .inr (3, [.ref o_startX, .ref o_startY, .ref o_left, .ref o_right, .ref o_top, .ref o_bottom, .int o_count, .ref o_slopeX, .ref o_slopeY, .ref o_squareX, .ref o_squareY, .ref o_placedX, .ref o_placedY])), (o_startX, .inl (cy 0, 256, .inl o_startX_f)), (o_startY, .inl (cy 0, 256, .inl o_startY_f)), (o_left, .inl (cy 0, 256, .inl o_left_f)), (o_right, .inl (cy 0, 256, .inl o_right_f)), (o_top, .inl (cy 0, 256, .inl o_top_f)), (o_bottom, .inl (cy 0, 256, .inl o_bottom_f)), (o_slopeX, .inl (cy 0, 256, .inl o_slopeX_f)), (o_slopeY, .inl (cy 0, 256, .inl o_slopeY_f)), (o_squareX, .inl (cy 0, 256, .inl o_squareX_f)), (o_squareY, .inl (cy 0, 256, .inl o_squareY_f)), (o_placedX, .inl (cy 0, 256, .inl o_placedX_f)), (o_placedY, .inl (cy 0, 256, .inl o_placedY_f))]) [0, 1, 2, 3, 4, 5, 6, 7, 8, 9, 10, 11, 12] rfl
  have hD := hD.sub (ws' := [(o, .inr (3, [.ref o_startX, .ref o_startY, .ref o_left, .ref o_right, .ref o_top, .ref o_bottom, .int o_count, .ref o_slopeX, .ref o_slopeY, .ref o_squareX, .ref o_squareY, .ref o_placedX, .ref o_placedY])), (o_startX, .inl (cy 0, 256, .inl o_startX_f)), (o_startY, .inl (cy 0, 256, .inl o_startY_f)), (o_left, .inl (cy 0, 256, .inl o_left_f)), (o_right, .inl (cy 0, 256, .inl o_right_f)), (o_top, .inl (cy 0, 256, .inl o_top_f)), (o_bottom, .inl (cy 0, 256, .inl o_bottom_f)), (o_slopeX, .inl (cy 0, 256, .inl o_slopeX_f)), (o_slopeY, .inl (cy 0, 256, .inl o_slopeY_f)), (o_squareX, .inl (cy 0, 256, .inl o_squareX_f)), (o_squareY, .inl (cy 0, 256, .inl o_squareY_f)), (o_placedX, .inl (cy 0, 256, .inl o_placedX_f)), (o_placedY, .inl (cy 0, 256, .inl o_placedY_f))]) [0, 1, 2, 3, 4, 5, 6, 7, 8, 9, 10, 11, 12] (by decide) rfl
  refine W.widen (k := 0) (n := 0) (by decide) (by decide) ?_
  refine lv_if_eq (tgt := 83) hx hb d_Cv_windingAt_76 (by decide) (fun c_2 => ?_) (fun c_2 => ?_)
  · replace h := (if_pos c_2).symm.trans h
    refine lv_aload_n hx hb d_Cv_windingAt_83 rfl (lv_at hl 0 rfl) ?_
    refine lv_iload hx hb d_Cv_windingAt_84 (lv_at hl 4 rfl) ?_
    refine lv_iload_n hx hb d_Cv_windingAt_86 rfl (lv_at hl 2 rfl) ?_
    obtain ⟨r_3, hq, h⟩ := Option.bind_eq_some_iff.mp h
    try dsimp only at h
    have hPc := hP.sub (ws' := [(o, .inr (3, [.ref o_startX, .ref o_startY, .ref o_left, .ref o_right, .ref o_top, .ref o_bottom, .int o_count, .ref o_slopeX, .ref o_slopeY, .ref o_squareX, .ref o_squareY, .ref o_placedX, .ref o_placedY])), (o_startX, .inl (cy 0, 256, .inl o_startX_f)), (o_startY, .inl (cy 0, 256, .inl o_startY_f)), (o_left, .inl (cy 0, 256, .inl o_left_f)), (o_right, .inl (cy 0, 256, .inl o_right_f)), (o_top, .inl (cy 0, 256, .inl o_top_f)), (o_bottom, .inl (cy 0, 256, .inl o_bottom_f)), (o_slopeX, .inl (cy 0, 256, .inl o_slopeX_f)), (o_slopeY, .inl (cy 0, 256, .inl o_slopeY_f)), (o_squareX, .inl (cy 0, 256, .inl o_squareX_f)), (o_squareY, .inl (cy 0, 256, .inl o_squareY_f)), (o_placedX, .inl (cy 0, 256, .inl o_placedX_f)), (o_placedY, .inl (cy 0, 256, .inl o_placedY_f))]) [0, 1, 2, 3, 4, 5, 6, 7, 8, 9, 10, 11, 12] rfl
    have hDc := hD.sub (ws' := [(o, .inr (3, [.ref o_startX, .ref o_startY, .ref o_left, .ref o_right, .ref o_top, .ref o_bottom, .int o_count, .ref o_slopeX, .ref o_slopeY, .ref o_squareX, .ref o_squareY, .ref o_placedX, .ref o_placedY])), (o_startX, .inl (cy 0, 256, .inl o_startX_f)), (o_startY, .inl (cy 0, 256, .inl o_startY_f)), (o_left, .inl (cy 0, 256, .inl o_left_f)), (o_right, .inl (cy 0, 256, .inl o_right_f)), (o_top, .inl (cy 0, 256, .inl o_top_f)), (o_bottom, .inl (cy 0, 256, .inl o_bottom_f)), (o_slopeX, .inl (cy 0, 256, .inl o_slopeX_f)), (o_slopeY, .inl (cy 0, 256, .inl o_slopeY_f)), (o_squareX, .inl (cy 0, 256, .inl o_squareX_f)), (o_squareY, .inl (cy 0, 256, .inl o_squareY_f)), (o_placedX, .inl (cy 0, 256, .inl o_placedX_f)), (o_placedY, .inl (cy 0, 256, .inl o_placedY_f))]) [0, 1, 2, 3, 4, 5, 6, 7, 8, 9, 10, 11, 12] (by decide) rfl
    have hFc := va_free (wc := [(o, .inr (3, [.ref o_startX, .ref o_startY, .ref o_left, .ref o_right, .ref o_top, .ref o_bottom, .int o_count, .ref o_slopeX, .ref o_slopeY, .ref o_squareX, .ref o_squareY, .ref o_placedX, .ref o_placedY])), (o_startX, .inl (cy 0, 256, .inl o_startX_f)), (o_startY, .inl (cy 0, 256, .inl o_startY_f)), (o_left, .inl (cy 0, 256, .inl o_left_f)), (o_right, .inl (cy 0, 256, .inl o_right_f)), (o_top, .inl (cy 0, 256, .inl o_top_f)), (o_bottom, .inl (cy 0, 256, .inl o_bottom_f)), (o_slopeX, .inl (cy 0, 256, .inl o_slopeX_f)), (o_slopeY, .inl (cy 0, 256, .inl o_slopeY_f)), (o_squareX, .inl (cy 0, 256, .inl o_squareX_f)), (o_squareY, .inl (cy 0, 256, .inl o_squareY_f)), (o_placedX, .inl (cy 0, 256, .inl o_placedX_f)), (o_placedY, .inl (cy 0, 256, .inl o_placedY_f))]) hD hS hA [0, 1, 2, 3, 4, 5, 6, 7, 8, 9, 10, 11, 12] rfl
    refine va_calli (va_runV (As := [.int x4, .int x2]) (rest := []) ⟨hx, hb, hml, hown, htsG⟩ (c_Cv_crossings l dC dI cy H.size o o_startX o_startY o_left o_right o_top o_bottom o_slopeX o_slopeY o_squareX o_squareY o_placedX o_placedY o_count o_startX_f o_startY_f o_left_f o_right_f o_top_f o_bottom_f o_slopeX_f o_slopeY_f o_squareX_f o_squareY_f o_placedX_f o_placedY_f x4 x2 r_3 hq) (cwV 2 htsG (gV mW621 mW622 mW623 mW5 mW624) rfl rfl rfl (by decide +kernel) ⟨Nat.le_of_ble_eq_true rfl, Nat.le_of_ble_eq_true rfl⟩) ⟨fun a U g mk q => by obtain ⟨q0, q1, qP, qK, qD⟩ := q; exact ⟨q0, q1, qP, va_K.moved (u := U) (U := U.calling g mk a) (Vm.Alike.refl U.vm) qK, qD⟩, va_recv hK hPc (ci := 3) (q0 := 0) rfl rfl, fun U hU hW => ⟨rfl, by rw [hU], by rw [hU]; exact hPc, va_K.moved hW.alike hK, hDc.weaken (fun _ _ _ _ => trivial)⟩⟩ rfl rfl hl.1 rfl (lv_room (Nat.le_of_ble_eq_true rfl)) d_Cv_windingAt_87 ⟨Nat.le_of_ble_eq_true rfl, Nat.le_of_ble_eq_true rfl⟩) hS (fun q _ h => hFc q h) hFc (fun rr u t H1 locs ht hvm hw hB hz1 hk1 hS => ?_)
    obtain ⟨hP1, hK1, hD1⟩ := hB
    rw [ht] at hP1
    replace hw : r_3 = rr := hw.symm
    subst hw
    obtain ⟨hP, hD⟩ := va_join (wr := []) (w1 := [(o, .inr (3, [.ref o_startX, .ref o_startY, .ref o_left, .ref o_right, .ref o_top, .ref o_bottom, .int o_count, .ref o_slopeX, .ref o_slopeY, .ref o_squareX, .ref o_squareY, .ref o_placedX, .ref o_placedY])), (o_startX, .inl (cy 0, 256, .inl o_startX_f)), (o_startY, .inl (cy 0, 256, .inl o_startY_f)), (o_left, .inl (cy 0, 256, .inl o_left_f)), (o_right, .inl (cy 0, 256, .inl o_right_f)), (o_top, .inl (cy 0, 256, .inl o_top_f)), (o_bottom, .inl (cy 0, 256, .inl o_bottom_f)), (o_slopeX, .inl (cy 0, 256, .inl o_slopeX_f)), (o_slopeY, .inl (cy 0, 256, .inl o_slopeY_f)), (o_squareX, .inl (cy 0, 256, .inl o_squareX_f)), (o_squareY, .inl (cy 0, 256, .inl o_squareY_f)), (o_placedX, .inl (cy 0, 256, .inl o_placedX_f)), (o_placedY, .inl (cy 0, 256, .inl o_placedY_f))]) hP hD [0, 1, 2, 3, 4, 5, 6, 7, 8, 9, 10, 11, 12] [] rfl rfl (by decide) (by decide) hk1 hFc hP1 hD1
    generalize H1 = H at hP hS ⊢
    have hP := hP.sub (ws' := [(o, .inr (3, [.ref o_startX, .ref o_startY, .ref o_left, .ref o_right, .ref o_top, .ref o_bottom, .int o_count, .ref o_slopeX, .ref o_slopeY, .ref o_squareX, .ref o_squareY, .ref o_placedX, .ref o_placedY])), (o_startX, .inl (cy 0, 256, .inl o_startX_f)), (o_startY, .inl (cy 0, 256, .inl o_startY_f)), (o_left, .inl (cy 0, 256, .inl o_left_f)), (o_right, .inl (cy 0, 256, .inl o_right_f)), (o_top, .inl (cy 0, 256, .inl o_top_f)), (o_bottom, .inl (cy 0, 256, .inl o_bottom_f)), (o_slopeX, .inl (cy 0, 256, .inl o_slopeX_f)), (o_slopeY, .inl (cy 0, 256, .inl o_slopeY_f)), (o_squareX, .inl (cy 0, 256, .inl o_squareX_f)), (o_squareY, .inl (cy 0, 256, .inl o_squareY_f)), (o_placedX, .inl (cy 0, 256, .inl o_placedX_f)), (o_placedY, .inl (cy 0, 256, .inl o_placedY_f))]) [0, 1, 2, 3, 4, 5, 6, 7, 8, 9, 10, 11, 12] rfl
    have hD := hD.sub (ws' := [(o, .inr (3, [.ref o_startX, .ref o_startY, .ref o_left, .ref o_right, .ref o_top, .ref o_bottom, .int o_count, .ref o_slopeX, .ref o_slopeY, .ref o_squareX, .ref o_squareY, .ref o_placedX, .ref o_placedY])), (o_startX, .inl (cy 0, 256, .inl o_startX_f)), (o_startY, .inl (cy 0, 256, .inl o_startY_f)), (o_left, .inl (cy 0, 256, .inl o_left_f)), (o_right, .inl (cy 0, 256, .inl o_right_f)), (o_top, .inl (cy 0, 256, .inl o_top_f)), (o_bottom, .inl (cy 0, 256, .inl o_bottom_f)), (o_slopeX, .inl (cy 0, 256, .inl o_slopeX_f)), (o_slopeY, .inl (cy 0, 256, .inl o_slopeY_f)), (o_squareX, .inl (cy 0, 256, .inl o_squareX_f)), (o_squareY, .inl (cy 0, 256, .inl o_squareY_f)), (o_placedX, .inl (cy 0, 256, .inl o_placedX_f)), (o_placedY, .inl (cy 0, 256, .inl o_placedY_f))]) [0, 1, 2, 3, 4, 5, 6, 7, 8, 9, 10, 11, 12] (by decide) rfl
    refine W.widen (k := 0) (n := 0) (by decide) (by decide) ?_
    exact w_Cv_windingAt_90 C0 o o_startX o_startY o_left o_right o_top o_bottom o_slopeX o_slopeY o_squareX o_squareY o_placedX o_placedY o_count o_startX_f o_startY_f o_left_f o_right_f o_top_f o_bottom_f o_slopeX_f o_slopeY_f o_squareX_f o_squareY_f o_placedX_f o_placedY_f a1 a2 uu z5 hz5 x1 x2 x3 x4 r_3 h hP hD hS (lv_sub hl [0, 1, 2, 3, 4] rfl)
  · replace h := (if_neg c_2).symm.trans h
    refine lv_iconst (v := (0 : Int32)) hx hb d_Cv_windingAt_79 (by decide) ?_
    refine lv_goto (tgt := 90) hx hb d_Cv_windingAt_80 (by decide) ?_
    exact w_Cv_windingAt_90 C0 o o_startX o_startY o_left o_right o_top o_bottom o_slopeX o_slopeY o_squareX o_squareY o_placedX o_placedY o_count o_startX_f o_startY_f o_left_f o_right_f o_top_f o_bottom_f o_slopeX_f o_slopeY_f o_squareX_f o_squareY_f o_placedX_f o_placedY_f a1 a2 uu z5 hz5 x1 x2 x3 x4 (0 : Int32) h hP hD hS (lv_sub hl [0, 1, 2, 3, 4] rfl)
def P_Cv_windingAt_36 (o_count : Int32) (o_startX_f : Nat → Int32) (o_startY_f : Nat → Int32) (o_slopeX_f : Nat → Int32) (o_slopeY_f : Nat → Int32) (o_squareX_f : Nat → Int32) (o_squareY_f : Nat → Int32) (z5 : Int32 × Int32 × Int32 × Int32 → Option (Int32)) (x1 : Int32) (x2 : Int32) (x3 : Int32) (x4 : Int32) : Option (Int32) :=
  (P_Cv_isFlat o_slopeY_f o_squareY_f x4).bind fun r_1 => if r_1 = 0 then (P_Cv_windingAt_70 o_count o_startX_f o_startY_f o_slopeX_f o_slopeY_f o_squareX_f o_squareY_f z5 x1 x2 x3 x4) else (bd x4 256 <| if (o_startY_f x4.toNatClampNeg) = x2 then ((P_Cv_covers o_startX_f o_slopeX_f o_squareX_f x4 x1).bind fun r_5 => if r_5 = 0 then (P_Cv_windingAt_70 o_count o_startX_f o_startY_f o_slopeX_f o_slopeY_f o_squareX_f o_squareY_f z5 x1 x2 x3 x4) else (some (1000 : Int32))) else (P_Cv_windingAt_70 o_count o_startX_f o_startY_f o_slopeX_f o_slopeY_f o_squareX_f o_squareY_f z5 x1 x2 x3 x4))
set_option maxHeartbeats 4000000 in
set_option maxRecDepth 100000 in
theorem w_Cv_windingAt_36 (C0 : Cx p s m args meth c A dC dI cy b_Cv_windingAt 8 (some .int) "GlyphPage$Curves") (o : Nat) (o_startX : Nat) (o_startY : Nat) (o_left : Nat) (o_right : Nat) (o_top : Nat) (o_bottom : Nat) (o_slopeX : Nat) (o_slopeY : Nat) (o_squareX : Nat) (o_squareY : Nat) (o_placedX : Nat) (o_placedY : Nat) (o_count : Int32) (o_startX_f : Nat → Int32) (o_startY_f : Nat → Int32) (o_left_f : Nat → Int32) (o_right_f : Nat → Int32) (o_top_f : Nat → Int32) (o_bottom_f : Nat → Int32) (o_slopeX_f : Nat → Int32) (o_slopeY_f : Nat → Int32) (o_squareX_f : Nat → Int32) (o_squareY_f : Nat → Int32) (o_placedX_f : Nat → Int32) (o_placedY_f : Nat → Int32) (a1 : Int32) (a2 : Int32) (uu : Int32) (z5 : Int32 × Int32 × Int32 × Int32 → Option (Int32)) (hz5 : ∀ (x1 : Int32) (x2 : Int32) (x3 : Int32) (x4 : Int32) (H : Heap) (locs : List Loc) (ls : Array Slot), z5 (x1, x2, x3, x4) = some uu → va_P (dC, dI) classes [(o, .inr (3, [.ref o_startX, .ref o_startY, .ref o_left, .ref o_right, .ref o_top, .ref o_bottom, .int o_count, .ref o_slopeX, .ref o_slopeY, .ref o_squareX, .ref o_squareY, .ref o_placedX, .ref o_placedY])), (o_startX, .inl (cy 0, 256, .inl o_startX_f)), (o_startY, .inl (cy 0, 256, .inl o_startY_f)), (o_left, .inl (cy 0, 256, .inl o_left_f)), (o_right, .inl (cy 0, 256, .inl o_right_f)), (o_top, .inl (cy 0, 256, .inl o_top_f)), (o_bottom, .inl (cy 0, 256, .inl o_bottom_f)), (o_slopeX, .inl (cy 0, 256, .inl o_slopeX_f)), (o_slopeY, .inl (cy 0, 256, .inl o_slopeY_f)), (o_squareX, .inl (cy 0, 256, .inl o_squareX_f)), (o_squareY, .inl (cy 0, 256, .inl o_squareY_f)), (o_placedX, .inl (cy 0, 256, .inl o_placedX_f)), (o_placedY, .inl (cy 0, 256, .inl o_placedY_f))] H → va_D A [(o, .inr (3, [.ref o_startX, .ref o_startY, .ref o_left, .ref o_right, .ref o_top, .ref o_bottom, .int o_count, .ref o_slopeX, .ref o_slopeY, .ref o_squareX, .ref o_squareY, .ref o_placedX, .ref o_placedY])), (o_startX, .inl (cy 0, 256, .inl o_startX_f)), (o_startY, .inl (cy 0, 256, .inl o_startY_f)), (o_left, .inl (cy 0, 256, .inl o_left_f)), (o_right, .inl (cy 0, 256, .inl o_right_f)), (o_top, .inl (cy 0, 256, .inl o_top_f)), (o_bottom, .inl (cy 0, 256, .inl o_bottom_f)), (o_slopeX, .inl (cy 0, 256, .inl o_slopeX_f)), (o_slopeY, .inl (cy 0, 256, .inl o_slopeY_f)), (o_squareX, .inl (cy 0, 256, .inl o_squareX_f)), (o_squareY, .inl (cy 0, 256, .inl o_squareY_f)), (o_placedX, .inl (cy 0, 256, .inl o_placedX_f)), (o_placedY, .inl (cy 0, 256, .inl o_placedY_f))] → va_S A s.heap H locs → lv_has ls 8 [(0, .ref o), (1, .int x1), (2, .int x2), (3, .int x3), (4, .int x4)] → W p l e ({ frames := 3, cells := 0, slots := 0, locals := 105 } : Room) s m args below meth c H locs 0 0 (MQ below (va_Qi (fun r (_ : Unit) => r = uu) (fun _ t => va_P (dC, dI) classes [(o, .inr (3, [.ref o_startX, .ref o_startY, .ref o_left, .ref o_right, .ref o_top, .ref o_bottom, .int o_count, .ref o_slopeX, .ref o_slopeY, .ref o_squareX, .ref o_squareY, .ref o_placedX, .ref o_placedY])), (o_startX, .inl (cy 0, 256, .inl o_startX_f)), (o_startY, .inl (cy 0, 256, .inl o_startY_f)), (o_left, .inl (cy 0, 256, .inl o_left_f)), (o_right, .inl (cy 0, 256, .inl o_right_f)), (o_top, .inl (cy 0, 256, .inl o_top_f)), (o_bottom, .inl (cy 0, 256, .inl o_bottom_f)), (o_slopeX, .inl (cy 0, 256, .inl o_slopeX_f)), (o_slopeY, .inl (cy 0, 256, .inl o_slopeY_f)), (o_squareX, .inl (cy 0, 256, .inl o_squareX_f)), (o_squareY, .inl (cy 0, 256, .inl o_squareY_f)), (o_placedX, .inl (cy 0, 256, .inl o_placedX_f)), (o_placedY, .inl (cy 0, 256, .inl o_placedY_f))] t.heap ∧ va_K (dC, dI) classes (TY cy) t ∧ va_D A [(o, .inr (3, [.ref o_startX, .ref o_startY, .ref o_left, .ref o_right, .ref o_top, .ref o_bottom, .int o_count, .ref o_slopeX, .ref o_slopeY, .ref o_squareX, .ref o_squareY, .ref o_placedX, .ref o_placedY])), (o_startX, .inl (cy 0, 256, .inl o_startX_f)), (o_startY, .inl (cy 0, 256, .inl o_startY_f)), (o_left, .inl (cy 0, 256, .inl o_left_f)), (o_right, .inl (cy 0, 256, .inl o_right_f)), (o_top, .inl (cy 0, 256, .inl o_top_f)), (o_bottom, .inl (cy 0, 256, .inl o_bottom_f)), (o_slopeX, .inl (cy 0, 256, .inl o_slopeX_f)), (o_slopeY, .inl (cy 0, 256, .inl o_slopeY_f)), (o_squareX, .inl (cy 0, 256, .inl o_squareX_f)), (o_squareY, .inl (cy 0, 256, .inl o_squareY_f)), (o_placedX, .inl (cy 0, 256, .inl o_placedX_f)), (o_placedY, .inl (cy 0, 256, .inl o_placedY_f))]) A) args s 0 0 A) (F0 m 5 ls [])) (x1 : Int32) (x2 : Int32) (x3 : Int32) (x4 : Int32) {H : Heap} {locs : List Loc} {ls : Array Slot} (h : P_Cv_windingAt_36 o_count o_startX_f o_startY_f o_slopeX_f o_slopeY_f o_squareX_f o_squareY_f z5 x1 x2 x3 x4 = some uu) : va_P (dC, dI) classes [(o, .inr (3, [.ref o_startX, .ref o_startY, .ref o_left, .ref o_right, .ref o_top, .ref o_bottom, .int o_count, .ref o_slopeX, .ref o_slopeY, .ref o_squareX, .ref o_squareY, .ref o_placedX, .ref o_placedY])), (o_startX, .inl (cy 0, 256, .inl o_startX_f)), (o_startY, .inl (cy 0, 256, .inl o_startY_f)), (o_left, .inl (cy 0, 256, .inl o_left_f)), (o_right, .inl (cy 0, 256, .inl o_right_f)), (o_top, .inl (cy 0, 256, .inl o_top_f)), (o_bottom, .inl (cy 0, 256, .inl o_bottom_f)), (o_slopeX, .inl (cy 0, 256, .inl o_slopeX_f)), (o_slopeY, .inl (cy 0, 256, .inl o_slopeY_f)), (o_squareX, .inl (cy 0, 256, .inl o_squareX_f)), (o_squareY, .inl (cy 0, 256, .inl o_squareY_f)), (o_placedX, .inl (cy 0, 256, .inl o_placedX_f)), (o_placedY, .inl (cy 0, 256, .inl o_placedY_f))] H → va_D A [(o, .inr (3, [.ref o_startX, .ref o_startY, .ref o_left, .ref o_right, .ref o_top, .ref o_bottom, .int o_count, .ref o_slopeX, .ref o_slopeY, .ref o_squareX, .ref o_squareY, .ref o_placedX, .ref o_placedY])), (o_startX, .inl (cy 0, 256, .inl o_startX_f)), (o_startY, .inl (cy 0, 256, .inl o_startY_f)), (o_left, .inl (cy 0, 256, .inl o_left_f)), (o_right, .inl (cy 0, 256, .inl o_right_f)), (o_top, .inl (cy 0, 256, .inl o_top_f)), (o_bottom, .inl (cy 0, 256, .inl o_bottom_f)), (o_slopeX, .inl (cy 0, 256, .inl o_slopeX_f)), (o_slopeY, .inl (cy 0, 256, .inl o_slopeY_f)), (o_squareX, .inl (cy 0, 256, .inl o_squareX_f)), (o_squareY, .inl (cy 0, 256, .inl o_squareY_f)), (o_placedX, .inl (cy 0, 256, .inl o_placedX_f)), (o_placedY, .inl (cy 0, 256, .inl o_placedY_f))] → va_S A s.heap H locs → lv_has ls 8 [(0, .ref o), (1, .int x1), (2, .int x2), (3, .int x3), (4, .int x4)] → W p l e ({ frames := 3, cells := 0, slots := 0, locals := 105 } : Room) s m args below meth c H locs 0 0 (MQ below (va_Qi (fun r (_ : Unit) => r = uu) (fun _ t => va_P (dC, dI) classes [(o, .inr (3, [.ref o_startX, .ref o_startY, .ref o_left, .ref o_right, .ref o_top, .ref o_bottom, .int o_count, .ref o_slopeX, .ref o_slopeY, .ref o_squareX, .ref o_squareY, .ref o_placedX, .ref o_placedY])), (o_startX, .inl (cy 0, 256, .inl o_startX_f)), (o_startY, .inl (cy 0, 256, .inl o_startY_f)), (o_left, .inl (cy 0, 256, .inl o_left_f)), (o_right, .inl (cy 0, 256, .inl o_right_f)), (o_top, .inl (cy 0, 256, .inl o_top_f)), (o_bottom, .inl (cy 0, 256, .inl o_bottom_f)), (o_slopeX, .inl (cy 0, 256, .inl o_slopeX_f)), (o_slopeY, .inl (cy 0, 256, .inl o_slopeY_f)), (o_squareX, .inl (cy 0, 256, .inl o_squareX_f)), (o_squareY, .inl (cy 0, 256, .inl o_squareY_f)), (o_placedX, .inl (cy 0, 256, .inl o_placedX_f)), (o_placedY, .inl (cy 0, 256, .inl o_placedY_f))] t.heap ∧ va_K (dC, dI) classes (TY cy) t ∧ va_D A [(o, .inr (3, [.ref o_startX, .ref o_startY, .ref o_left, .ref o_right, .ref o_top, .ref o_bottom, .int o_count, .ref o_slopeX, .ref o_slopeY, .ref o_squareX, .ref o_squareY, .ref o_placedX, .ref o_placedY])), (o_startX, .inl (cy 0, 256, .inl o_startX_f)), (o_startY, .inl (cy 0, 256, .inl o_startY_f)), (o_left, .inl (cy 0, 256, .inl o_left_f)), (o_right, .inl (cy 0, 256, .inl o_right_f)), (o_top, .inl (cy 0, 256, .inl o_top_f)), (o_bottom, .inl (cy 0, 256, .inl o_bottom_f)), (o_slopeX, .inl (cy 0, 256, .inl o_slopeX_f)), (o_slopeY, .inl (cy 0, 256, .inl o_slopeY_f)), (o_squareX, .inl (cy 0, 256, .inl o_squareX_f)), (o_squareY, .inl (cy 0, 256, .inl o_squareY_f)), (o_placedX, .inl (cy 0, 256, .inl o_placedX_f)), (o_placedY, .inl (cy 0, 256, .inl o_placedY_f))]) A) args s 0 0 A) (F0 m 36 ls []) := by
  intro hP hD hS hl
  obtain ⟨hx, hb, hr, hlocks, hml, hown, htsG, hA, hK⟩ := id C0
  unfold P_Cv_windingAt_36 at h
  refine lv_aload_n hx hb d_Cv_windingAt_36 rfl (lv_at hl 0 rfl) ?_
  refine lv_iload hx hb d_Cv_windingAt_37 (lv_at hl 4 rfl) ?_
  obtain ⟨r_1, hq, h⟩ := Option.bind_eq_some_iff.mp h
  try dsimp only at h
  have hPc := hP.sub (ws' := [(o, .inr (3, [.ref o_startX, .ref o_startY, .ref o_left, .ref o_right, .ref o_top, .ref o_bottom, .int o_count, .ref o_slopeX, .ref o_slopeY, .ref o_squareX, .ref o_squareY, .ref o_placedX, .ref o_placedY])), (o_startX, .inl (cy 0, 256, .inl o_startX_f)), (o_startY, .inl (cy 0, 256, .inl o_startY_f)), (o_left, .inl (cy 0, 256, .inl o_left_f)), (o_right, .inl (cy 0, 256, .inl o_right_f)), (o_top, .inl (cy 0, 256, .inl o_top_f)), (o_bottom, .inl (cy 0, 256, .inl o_bottom_f)), (o_slopeX, .inl (cy 0, 256, .inl o_slopeX_f)), (o_slopeY, .inl (cy 0, 256, .inl o_slopeY_f)), (o_squareX, .inl (cy 0, 256, .inl o_squareX_f)), (o_squareY, .inl (cy 0, 256, .inl o_squareY_f)), (o_placedX, .inl (cy 0, 256, .inl o_placedX_f)), (o_placedY, .inl (cy 0, 256, .inl o_placedY_f))]) [0, 1, 2, 3, 4, 5, 6, 7, 8, 9, 10, 11, 12] rfl
  have hDc := hD.sub (ws' := [(o, .inr (3, [.ref o_startX, .ref o_startY, .ref o_left, .ref o_right, .ref o_top, .ref o_bottom, .int o_count, .ref o_slopeX, .ref o_slopeY, .ref o_squareX, .ref o_squareY, .ref o_placedX, .ref o_placedY])), (o_startX, .inl (cy 0, 256, .inl o_startX_f)), (o_startY, .inl (cy 0, 256, .inl o_startY_f)), (o_left, .inl (cy 0, 256, .inl o_left_f)), (o_right, .inl (cy 0, 256, .inl o_right_f)), (o_top, .inl (cy 0, 256, .inl o_top_f)), (o_bottom, .inl (cy 0, 256, .inl o_bottom_f)), (o_slopeX, .inl (cy 0, 256, .inl o_slopeX_f)), (o_slopeY, .inl (cy 0, 256, .inl o_slopeY_f)), (o_squareX, .inl (cy 0, 256, .inl o_squareX_f)), (o_squareY, .inl (cy 0, 256, .inl o_squareY_f)), (o_placedX, .inl (cy 0, 256, .inl o_placedX_f)), (o_placedY, .inl (cy 0, 256, .inl o_placedY_f))]) [0, 1, 2, 3, 4, 5, 6, 7, 8, 9, 10, 11, 12] (by decide) rfl
  have hFc := va_free (wc := [(o, .inr (3, [.ref o_startX, .ref o_startY, .ref o_left, .ref o_right, .ref o_top, .ref o_bottom, .int o_count, .ref o_slopeX, .ref o_slopeY, .ref o_squareX, .ref o_squareY, .ref o_placedX, .ref o_placedY])), (o_startX, .inl (cy 0, 256, .inl o_startX_f)), (o_startY, .inl (cy 0, 256, .inl o_startY_f)), (o_left, .inl (cy 0, 256, .inl o_left_f)), (o_right, .inl (cy 0, 256, .inl o_right_f)), (o_top, .inl (cy 0, 256, .inl o_top_f)), (o_bottom, .inl (cy 0, 256, .inl o_bottom_f)), (o_slopeX, .inl (cy 0, 256, .inl o_slopeX_f)), (o_slopeY, .inl (cy 0, 256, .inl o_slopeY_f)), (o_squareX, .inl (cy 0, 256, .inl o_squareX_f)), (o_squareY, .inl (cy 0, 256, .inl o_squareY_f)), (o_placedX, .inl (cy 0, 256, .inl o_placedX_f)), (o_placedY, .inl (cy 0, 256, .inl o_placedY_f))]) hD hS hA [0, 1, 2, 3, 4, 5, 6, 7, 8, 9, 10, 11, 12] rfl
  refine va_calli (va_runV (As := [.int x4]) (rest := []) ⟨hx, hb, hml, hown, htsG⟩ (c_Cv_isFlat l dC dI cy H.size o o_startX o_startY o_left o_right o_top o_bottom o_slopeX o_slopeY o_squareX o_squareY o_placedX o_placedY o_count o_startX_f o_startY_f o_left_f o_right_f o_top_f o_bottom_f o_slopeX_f o_slopeY_f o_squareX_f o_squareY_f o_placedX_f o_placedY_f x4 r_1 hq) (cwV 1 htsG (gV mW607 mW608 mW609 mW5 mW610) rfl rfl rfl (by decide +kernel) ⟨Nat.le_of_ble_eq_true rfl, Nat.le_of_ble_eq_true rfl⟩) ⟨fun a U g mk q => by obtain ⟨q0, q1, qP, qK, qD⟩ := q; exact ⟨q0, q1, qP, va_K.moved (u := U) (U := U.calling g mk a) (Vm.Alike.refl U.vm) qK, qD⟩, va_recv hK hPc (ci := 3) (q0 := 0) rfl rfl, fun U hU hW => ⟨rfl, by rw [hU], by rw [hU]; exact hPc, va_K.moved hW.alike hK, hDc.weaken (fun _ _ _ _ => trivial)⟩⟩ rfl rfl hl.1 rfl (lv_room (Nat.le_of_ble_eq_true rfl)) d_Cv_windingAt_39 ⟨Nat.le_of_ble_eq_true rfl, Nat.le_of_ble_eq_true rfl⟩) hS (fun q _ h => hFc q h) hFc (fun rr u t H1 locs ht hvm hw hB hz1 hk1 hS => ?_)
  obtain ⟨hP1, hK1, hD1⟩ := hB
  rw [ht] at hP1
  replace hw : r_1 = rr := hw.symm
  subst hw
  obtain ⟨hP, hD⟩ := va_join (wr := []) (w1 := [(o, .inr (3, [.ref o_startX, .ref o_startY, .ref o_left, .ref o_right, .ref o_top, .ref o_bottom, .int o_count, .ref o_slopeX, .ref o_slopeY, .ref o_squareX, .ref o_squareY, .ref o_placedX, .ref o_placedY])), (o_startX, .inl (cy 0, 256, .inl o_startX_f)), (o_startY, .inl (cy 0, 256, .inl o_startY_f)), (o_left, .inl (cy 0, 256, .inl o_left_f)), (o_right, .inl (cy 0, 256, .inl o_right_f)), (o_top, .inl (cy 0, 256, .inl o_top_f)), (o_bottom, .inl (cy 0, 256, .inl o_bottom_f)), (o_slopeX, .inl (cy 0, 256, .inl o_slopeX_f)), (o_slopeY, .inl (cy 0, 256, .inl o_slopeY_f)), (o_squareX, .inl (cy 0, 256, .inl o_squareX_f)), (o_squareY, .inl (cy 0, 256, .inl o_squareY_f)), (o_placedX, .inl (cy 0, 256, .inl o_placedX_f)), (o_placedY, .inl (cy 0, 256, .inl o_placedY_f))]) hP hD [0, 1, 2, 3, 4, 5, 6, 7, 8, 9, 10, 11, 12] [] rfl rfl (by decide) (by decide) hk1 hFc hP1 hD1
  generalize H1 = H at hP hS ⊢
  have hP := hP.sub (ws' := [(o, .inr (3, [.ref o_startX, .ref o_startY, .ref o_left, .ref o_right, .ref o_top, .ref o_bottom, .int o_count, .ref o_slopeX, .ref o_slopeY, .ref o_squareX, .ref o_squareY, .ref o_placedX, .ref o_placedY])), (o_startX, .inl (cy 0, 256, .inl o_startX_f)), (o_startY, .inl (cy 0, 256, .inl o_startY_f)), (o_left, .inl (cy 0, 256, .inl o_left_f)), (o_right, .inl (cy 0, 256, .inl o_right_f)), (o_top, .inl (cy 0, 256, .inl o_top_f)), (o_bottom, .inl (cy 0, 256, .inl o_bottom_f)), (o_slopeX, .inl (cy 0, 256, .inl o_slopeX_f)), (o_slopeY, .inl (cy 0, 256, .inl o_slopeY_f)), (o_squareX, .inl (cy 0, 256, .inl o_squareX_f)), (o_squareY, .inl (cy 0, 256, .inl o_squareY_f)), (o_placedX, .inl (cy 0, 256, .inl o_placedX_f)), (o_placedY, .inl (cy 0, 256, .inl o_placedY_f))]) [0, 1, 2, 3, 4, 5, 6, 7, 8, 9, 10, 11, 12] rfl
  have hD := hD.sub (ws' := [(o, .inr (3, [.ref o_startX, .ref o_startY, .ref o_left, .ref o_right, .ref o_top, .ref o_bottom, .int o_count, .ref o_slopeX, .ref o_slopeY, .ref o_squareX, .ref o_squareY, .ref o_placedX, .ref o_placedY])), (o_startX, .inl (cy 0, 256, .inl o_startX_f)), (o_startY, .inl (cy 0, 256, .inl o_startY_f)), (o_left, .inl (cy 0, 256, .inl o_left_f)), (o_right, .inl (cy 0, 256, .inl o_right_f)), (o_top, .inl (cy 0, 256, .inl o_top_f)), (o_bottom, .inl (cy 0, 256, .inl o_bottom_f)), (o_slopeX, .inl (cy 0, 256, .inl o_slopeX_f)), (o_slopeY, .inl (cy 0, 256, .inl o_slopeY_f)), (o_squareX, .inl (cy 0, 256, .inl o_squareX_f)), (o_squareY, .inl (cy 0, 256, .inl o_squareY_f)), (o_placedX, .inl (cy 0, 256, .inl o_placedX_f)), (o_placedY, .inl (cy 0, 256, .inl o_placedY_f))]) [0, 1, 2, 3, 4, 5, 6, 7, 8, 9, 10, 11, 12] (by decide) rfl
  refine W.widen (k := 0) (n := 0) (by decide) (by decide) ?_
  refine lv_if_eq (tgt := 70) hx hb d_Cv_windingAt_42 (by decide) (fun c_2 => ?_) (fun c_2 => ?_)
  · replace h := (if_pos c_2).symm.trans h
    exact w_Cv_windingAt_70 C0 o o_startX o_startY o_left o_right o_top o_bottom o_slopeX o_slopeY o_squareX o_squareY o_placedX o_placedY o_count o_startX_f o_startY_f o_left_f o_right_f o_top_f o_bottom_f o_slopeX_f o_slopeY_f o_squareX_f o_squareY_f o_placedX_f o_placedY_f a1 a2 uu z5 hz5 x1 x2 x3 x4 h hP hD hS (lv_sub hl [0, 1, 2, 3, 4] rfl)
  · replace h := (if_neg c_2).symm.trans h
    refine lv_aload_n hx hb d_Cv_windingAt_45 rfl (lv_at hl 0 rfl) ?_
    refine va_get (D := (dC, dI)) (ci := 3) (v := .ref o_startY) (C := "GlyphPage$Curves") (T := F_Cv) (N := 13) hx hb htsG iG_Cv hown hK hP 0 rfl rfl 1 (by decide) (htsG _ mW134) (fun _ h9 => h9) rfl d_Cv_windingAt_46 ?_
    refine lv_iload hx hb d_Cv_windingAt_49 (lv_at hl 4 rfl) ?_
    obtain ⟨hin_3, h⟩ := bd_some h
    refine va_iald hx hb hK hP 2 0 rfl rfl hin_3 d_Cv_windingAt_51 ?_
    refine lv_iload_n hx hb d_Cv_windingAt_52 rfl (lv_at hl 2 rfl) ?_
    refine lv_icmp_ne (tgt := 70) hx hb d_Cv_windingAt_53 (by decide) (fun c_4 => ?_) (fun c_4 => ?_)
    · replace h := (if_neg c_4).symm.trans h
      exact w_Cv_windingAt_70 C0 o o_startX o_startY o_left o_right o_top o_bottom o_slopeX o_slopeY o_squareX o_squareY o_placedX o_placedY o_count o_startX_f o_startY_f o_left_f o_right_f o_top_f o_bottom_f o_slopeX_f o_slopeY_f o_squareX_f o_squareY_f o_placedX_f o_placedY_f a1 a2 uu z5 hz5 x1 x2 x3 x4 h hP hD hS (lv_sub hl [0, 1, 2, 3, 4] rfl)
    · replace h := (if_pos c_4).symm.trans h
      refine lv_aload_n hx hb d_Cv_windingAt_56 rfl (lv_at hl 0 rfl) ?_
      refine lv_iload hx hb d_Cv_windingAt_57 (lv_at hl 4 rfl) ?_
      refine lv_iload_n hx hb d_Cv_windingAt_59 rfl (lv_at hl 1 rfl) ?_
      obtain ⟨r_5, hq, h⟩ := Option.bind_eq_some_iff.mp h
      try dsimp only at h
      have hPc := hP.sub (ws' := [(o, .inr (3, [.ref o_startX, .ref o_startY, .ref o_left, .ref o_right, .ref o_top, .ref o_bottom, .int o_count, .ref o_slopeX, .ref o_slopeY, .ref o_squareX, .ref o_squareY, .ref o_placedX, .ref o_placedY])), (o_startX, .inl (cy 0, 256, .inl o_startX_f)), (o_startY, .inl (cy 0, 256, .inl o_startY_f)), (o_left, .inl (cy 0, 256, .inl o_left_f)), (o_right, .inl (cy 0, 256, .inl o_right_f)), (o_top, .inl (cy 0, 256, .inl o_top_f)), (o_bottom, .inl (cy 0, 256, .inl o_bottom_f)), (o_slopeX, .inl (cy 0, 256, .inl o_slopeX_f)), (o_slopeY, .inl (cy 0, 256, .inl o_slopeY_f)), (o_squareX, .inl (cy 0, 256, .inl o_squareX_f)), (o_squareY, .inl (cy 0, 256, .inl o_squareY_f)), (o_placedX, .inl (cy 0, 256, .inl o_placedX_f)), (o_placedY, .inl (cy 0, 256, .inl o_placedY_f))]) [0, 1, 2, 3, 4, 5, 6, 7, 8, 9, 10, 11, 12] rfl
      have hDc := hD.sub (ws' := [(o, .inr (3, [.ref o_startX, .ref o_startY, .ref o_left, .ref o_right, .ref o_top, .ref o_bottom, .int o_count, .ref o_slopeX, .ref o_slopeY, .ref o_squareX, .ref o_squareY, .ref o_placedX, .ref o_placedY])), (o_startX, .inl (cy 0, 256, .inl o_startX_f)), (o_startY, .inl (cy 0, 256, .inl o_startY_f)), (o_left, .inl (cy 0, 256, .inl o_left_f)), (o_right, .inl (cy 0, 256, .inl o_right_f)), (o_top, .inl (cy 0, 256, .inl o_top_f)), (o_bottom, .inl (cy 0, 256, .inl o_bottom_f)), (o_slopeX, .inl (cy 0, 256, .inl o_slopeX_f)), (o_slopeY, .inl (cy 0, 256, .inl o_slopeY_f)), (o_squareX, .inl (cy 0, 256, .inl o_squareX_f)), (o_squareY, .inl (cy 0, 256, .inl o_squareY_f)), (o_placedX, .inl (cy 0, 256, .inl o_placedX_f)), (o_placedY, .inl (cy 0, 256, .inl o_placedY_f))]) [0, 1, 2, 3, 4, 5, 6, 7, 8, 9, 10, 11, 12] (by decide) rfl
      have hFc := va_free (wc := [(o, .inr (3, [.ref o_startX, .ref o_startY, .ref o_left, .ref o_right, .ref o_top, .ref o_bottom, .int o_count, .ref o_slopeX, .ref o_slopeY, .ref o_squareX, .ref o_squareY, .ref o_placedX, .ref o_placedY])), (o_startX, .inl (cy 0, 256, .inl o_startX_f)), (o_startY, .inl (cy 0, 256, .inl o_startY_f)), (o_left, .inl (cy 0, 256, .inl o_left_f)), (o_right, .inl (cy 0, 256, .inl o_right_f)), (o_top, .inl (cy 0, 256, .inl o_top_f)), (o_bottom, .inl (cy 0, 256, .inl o_bottom_f)), (o_slopeX, .inl (cy 0, 256, .inl o_slopeX_f)), (o_slopeY, .inl (cy 0, 256, .inl o_slopeY_f)), (o_squareX, .inl (cy 0, 256, .inl o_squareX_f)), (o_squareY, .inl (cy 0, 256, .inl o_squareY_f)), (o_placedX, .inl (cy 0, 256, .inl o_placedX_f)), (o_placedY, .inl (cy 0, 256, .inl o_placedY_f))]) hD hS hA [0, 1, 2, 3, 4, 5, 6, 7, 8, 9, 10, 11, 12] rfl
      refine va_calli (va_runV (As := [.int x4, .int x1]) (rest := []) ⟨hx, hb, hml, hown, htsG⟩ (c_Cv_covers l dC dI cy H.size o o_startX o_startY o_left o_right o_top o_bottom o_slopeX o_slopeY o_squareX o_squareY o_placedX o_placedY o_count o_startX_f o_startY_f o_left_f o_right_f o_top_f o_bottom_f o_slopeX_f o_slopeY_f o_squareX_f o_squareY_f o_placedX_f o_placedY_f x4 x1 r_5 hq) (cwV 2 htsG (gV mW611 mW612 mW613 mW5 mW614) rfl rfl rfl (by decide +kernel) ⟨Nat.le_of_ble_eq_true rfl, Nat.le_of_ble_eq_true rfl⟩) ⟨fun a U g mk q => by obtain ⟨q0, q1, qP, qK, qD⟩ := q; exact ⟨q0, q1, qP, va_K.moved (u := U) (U := U.calling g mk a) (Vm.Alike.refl U.vm) qK, qD⟩, va_recv hK hPc (ci := 3) (q0 := 0) rfl rfl, fun U hU hW => ⟨rfl, by rw [hU], by rw [hU]; exact hPc, va_K.moved hW.alike hK, hDc.weaken (fun _ _ _ _ => trivial)⟩⟩ rfl rfl hl.1 rfl (lv_room (Nat.le_of_ble_eq_true rfl)) d_Cv_windingAt_60 ⟨Nat.le_of_ble_eq_true rfl, Nat.le_of_ble_eq_true rfl⟩) hS (fun q _ h => hFc q h) hFc (fun rr u t H1 locs ht hvm hw hB hz1 hk1 hS => ?_)
      obtain ⟨hP1, hK1, hD1⟩ := hB
      rw [ht] at hP1
      replace hw : r_5 = rr := hw.symm
      subst hw
      obtain ⟨hP, hD⟩ := va_join (wr := []) (w1 := [(o, .inr (3, [.ref o_startX, .ref o_startY, .ref o_left, .ref o_right, .ref o_top, .ref o_bottom, .int o_count, .ref o_slopeX, .ref o_slopeY, .ref o_squareX, .ref o_squareY, .ref o_placedX, .ref o_placedY])), (o_startX, .inl (cy 0, 256, .inl o_startX_f)), (o_startY, .inl (cy 0, 256, .inl o_startY_f)), (o_left, .inl (cy 0, 256, .inl o_left_f)), (o_right, .inl (cy 0, 256, .inl o_right_f)), (o_top, .inl (cy 0, 256, .inl o_top_f)), (o_bottom, .inl (cy 0, 256, .inl o_bottom_f)), (o_slopeX, .inl (cy 0, 256, .inl o_slopeX_f)), (o_slopeY, .inl (cy 0, 256, .inl o_slopeY_f)), (o_squareX, .inl (cy 0, 256, .inl o_squareX_f)), (o_squareY, .inl (cy 0, 256, .inl o_squareY_f)), (o_placedX, .inl (cy 0, 256, .inl o_placedX_f)), (o_placedY, .inl (cy 0, 256, .inl o_placedY_f))]) hP hD [0, 1, 2, 3, 4, 5, 6, 7, 8, 9, 10, 11, 12] [] rfl rfl (by decide) (by decide) hk1 hFc hP1 hD1
      generalize H1 = H at hP hS ⊢
      have hP := hP.sub (ws' := [(o, .inr (3, [.ref o_startX, .ref o_startY, .ref o_left, .ref o_right, .ref o_top, .ref o_bottom, .int o_count, .ref o_slopeX, .ref o_slopeY, .ref o_squareX, .ref o_squareY, .ref o_placedX, .ref o_placedY])), (o_startX, .inl (cy 0, 256, .inl o_startX_f)), (o_startY, .inl (cy 0, 256, .inl o_startY_f)), (o_left, .inl (cy 0, 256, .inl o_left_f)), (o_right, .inl (cy 0, 256, .inl o_right_f)), (o_top, .inl (cy 0, 256, .inl o_top_f)), (o_bottom, .inl (cy 0, 256, .inl o_bottom_f)), (o_slopeX, .inl (cy 0, 256, .inl o_slopeX_f)), (o_slopeY, .inl (cy 0, 256, .inl o_slopeY_f)), (o_squareX, .inl (cy 0, 256, .inl o_squareX_f)), (o_squareY, .inl (cy 0, 256, .inl o_squareY_f)), (o_placedX, .inl (cy 0, 256, .inl o_placedX_f)), (o_placedY, .inl (cy 0, 256, .inl o_placedY_f))]) [0, 1, 2, 3, 4, 5, 6, 7, 8, 9, 10, 11, 12] rfl
      have hD := hD.sub (ws' := [(o, .inr (3, [.ref o_startX, .ref o_startY, .ref o_left, .ref o_right, .ref o_top, .ref o_bottom, .int o_count, .ref o_slopeX, .ref o_slopeY, .ref o_squareX, .ref o_squareY, .ref o_placedX, .ref o_placedY])), (o_startX, .inl (cy 0, 256, .inl o_startX_f)), (o_startY, .inl (cy 0, 256, .inl o_startY_f)), (o_left, .inl (cy 0, 256, .inl o_left_f)), (o_right, .inl (cy 0, 256, .inl o_right_f)), (o_top, .inl (cy 0, 256, .inl o_top_f)), (o_bottom, .inl (cy 0, 256, .inl o_bottom_f)), (o_slopeX, .inl (cy 0, 256, .inl o_slopeX_f)), (o_slopeY, .inl (cy 0, 256, .inl o_slopeY_f)), (o_squareX, .inl (cy 0, 256, .inl o_squareX_f)), (o_squareY, .inl (cy 0, 256, .inl o_squareY_f)), (o_placedX, .inl (cy 0, 256, .inl o_placedX_f)), (o_placedY, .inl (cy 0, 256, .inl o_placedY_f))]) [0, 1, 2, 3, 4, 5, 6, 7, 8, 9, 10, 11, 12] (by decide) rfl
      refine W.widen (k := 0) (n := 0) (by decide) (by decide) ?_
      refine lv_if_eq (tgt := 70) hx hb d_Cv_windingAt_63 (by decide) (fun c_6 => ?_) (fun c_6 => ?_)
      · replace h := (if_pos c_6).symm.trans h
        exact w_Cv_windingAt_70 C0 o o_startX o_startY o_left o_right o_top o_bottom o_slopeX o_slopeY o_squareX o_squareY o_placedX o_placedY o_count o_startX_f o_startY_f o_left_f o_right_f o_top_f o_bottom_f o_slopeX_f o_slopeY_f o_squareX_f o_squareY_f o_placedX_f o_placedY_f a1 a2 uu z5 hz5 x1 x2 x3 x4 h hP hD hS (lv_sub hl [0, 1, 2, 3, 4] rfl)
      · replace h := (if_neg c_6).symm.trans h
        refine lv_sipush (v := (1000 : Int32)) hx hb d_Cv_windingAt_66 (by decide) ?_
        cases h
        exact W.iret hx hb hr (fun t ht hW => ⟨⟨_, (), rfl, rfl, by rw [ht]; exact hP, va_K.moved hW.alike hK, hD⟩, hS.F ht⟩) hS.2.2 d_Cv_windingAt_69 hlocks
def P_Cv_windingAt_5b (o_count : Int32) (o_startX_f : Nat → Int32) (o_startY_f : Nat → Int32) (o_slopeX_f : Nat → Int32) (o_slopeY_f : Nat → Int32) (o_squareX_f : Nat → Int32) (o_squareY_f : Nat → Int32)  (z5 : Int32 × Int32 × Int32 × Int32 → Option (Int32)) (x1 : Int32) (x2 : Int32) (x3 : Int32) (x4 : Int32) : Option (Int32) :=
  if o_count ≤ x4 then (some x3) else (bd x4 256 <| if (o_startX_f x4.toNatClampNeg) = x1 then (bd x4 256 <| if (o_startY_f x4.toNatClampNeg) = x2 then (some (1000 : Int32)) else (P_Cv_windingAt_36 o_count o_startX_f o_startY_f o_slopeX_f o_slopeY_f o_squareX_f o_squareY_f z5 x1 x2 x3 x4)) else (P_Cv_windingAt_36 o_count o_startX_f o_startY_f o_slopeX_f o_slopeY_f o_squareX_f o_squareY_f z5 x1 x2 x3 x4))
def L_Cv_windingAt_5 (o_count : Int32) (o_startX_f : Nat → Int32) (o_startY_f : Nat → Int32) (o_slopeX_f : Nat → Int32) (o_slopeY_f : Nat → Int32) (o_squareX_f : Nat → Int32) (o_squareY_f : Nat → Int32)  : (Int32 × Int32 × Int32 × Int32 → Option (Int32)) → (Int32 × Int32 × Int32 × Int32) → Option (Int32) :=
  fun z => unp fun x1 => unp fun x2 => unp fun x3 x4 => P_Cv_windingAt_5b o_count o_startX_f o_startY_f o_slopeX_f o_slopeY_f o_squareX_f o_squareY_f z x1 x2 x3 x4
def P_Cv_windingAt_5 (o_count : Int32) (o_startX_f : Nat → Int32) (o_startY_f : Nat → Int32) (o_slopeX_f : Nat → Int32) (o_slopeY_f : Nat → Int32) (o_squareX_f : Nat → Int32) (o_squareY_f : Nat → Int32)  (x1 : Int32) (x2 : Int32) (x3 : Int32) (x4 : Int32) : Option (Int32) :=
  lp (L_Cv_windingAt_5 o_count o_startX_f o_startY_f o_slopeX_f o_slopeY_f o_squareX_f o_squareY_f) fuel (x1, x2, x3, x4)
theorem e_Cv_windingAt_5 (o_count : Int32) (o_startX_f : Nat → Int32) (o_startY_f : Nat → Int32) (o_slopeX_f : Nat → Int32) (o_slopeY_f : Nat → Int32) (o_squareX_f : Nat → Int32) (o_squareY_f : Nat → Int32)  (n : Nat) (x1 : Int32) (x2 : Int32) (x3 : Int32) (x4 : Int32) : lp (L_Cv_windingAt_5 o_count o_startX_f o_startY_f o_slopeX_f o_slopeY_f o_squareX_f o_squareY_f) (n + 1) (x1, x2, x3, x4) = P_Cv_windingAt_5b o_count o_startX_f o_startY_f o_slopeX_f o_slopeY_f o_squareX_f o_squareY_f (lp (L_Cv_windingAt_5 o_count o_startX_f o_startY_f o_slopeX_f o_slopeY_f o_squareX_f o_squareY_f) n) x1 x2 x3 x4 := rfl
set_option maxHeartbeats 4000000 in
set_option maxRecDepth 100000 in
theorem w_Cv_windingAt_5b (C0 : Cx p s m args meth c A dC dI cy b_Cv_windingAt 8 (some .int) "GlyphPage$Curves") (o : Nat) (o_startX : Nat) (o_startY : Nat) (o_left : Nat) (o_right : Nat) (o_top : Nat) (o_bottom : Nat) (o_slopeX : Nat) (o_slopeY : Nat) (o_squareX : Nat) (o_squareY : Nat) (o_placedX : Nat) (o_placedY : Nat) (o_count : Int32) (o_startX_f : Nat → Int32) (o_startY_f : Nat → Int32) (o_left_f : Nat → Int32) (o_right_f : Nat → Int32) (o_top_f : Nat → Int32) (o_bottom_f : Nat → Int32) (o_slopeX_f : Nat → Int32) (o_slopeY_f : Nat → Int32) (o_squareX_f : Nat → Int32) (o_squareY_f : Nat → Int32) (o_placedX_f : Nat → Int32) (o_placedY_f : Nat → Int32) (a1 : Int32) (a2 : Int32) (uu : Int32)  (z5 : Int32 × Int32 × Int32 × Int32 → Option (Int32)) (hz5 : ∀ (x1 : Int32) (x2 : Int32) (x3 : Int32) (x4 : Int32) (H : Heap) (locs : List Loc) (ls : Array Slot), z5 (x1, x2, x3, x4) = some uu → va_P (dC, dI) classes [(o, .inr (3, [.ref o_startX, .ref o_startY, .ref o_left, .ref o_right, .ref o_top, .ref o_bottom, .int o_count, .ref o_slopeX, .ref o_slopeY, .ref o_squareX, .ref o_squareY, .ref o_placedX, .ref o_placedY])), (o_startX, .inl (cy 0, 256, .inl o_startX_f)), (o_startY, .inl (cy 0, 256, .inl o_startY_f)), (o_left, .inl (cy 0, 256, .inl o_left_f)), (o_right, .inl (cy 0, 256, .inl o_right_f)), (o_top, .inl (cy 0, 256, .inl o_top_f)), (o_bottom, .inl (cy 0, 256, .inl o_bottom_f)), (o_slopeX, .inl (cy 0, 256, .inl o_slopeX_f)), (o_slopeY, .inl (cy 0, 256, .inl o_slopeY_f)), (o_squareX, .inl (cy 0, 256, .inl o_squareX_f)), (o_squareY, .inl (cy 0, 256, .inl o_squareY_f)), (o_placedX, .inl (cy 0, 256, .inl o_placedX_f)), (o_placedY, .inl (cy 0, 256, .inl o_placedY_f))] H → va_D A [(o, .inr (3, [.ref o_startX, .ref o_startY, .ref o_left, .ref o_right, .ref o_top, .ref o_bottom, .int o_count, .ref o_slopeX, .ref o_slopeY, .ref o_squareX, .ref o_squareY, .ref o_placedX, .ref o_placedY])), (o_startX, .inl (cy 0, 256, .inl o_startX_f)), (o_startY, .inl (cy 0, 256, .inl o_startY_f)), (o_left, .inl (cy 0, 256, .inl o_left_f)), (o_right, .inl (cy 0, 256, .inl o_right_f)), (o_top, .inl (cy 0, 256, .inl o_top_f)), (o_bottom, .inl (cy 0, 256, .inl o_bottom_f)), (o_slopeX, .inl (cy 0, 256, .inl o_slopeX_f)), (o_slopeY, .inl (cy 0, 256, .inl o_slopeY_f)), (o_squareX, .inl (cy 0, 256, .inl o_squareX_f)), (o_squareY, .inl (cy 0, 256, .inl o_squareY_f)), (o_placedX, .inl (cy 0, 256, .inl o_placedX_f)), (o_placedY, .inl (cy 0, 256, .inl o_placedY_f))] → va_S A s.heap H locs → lv_has ls 8 [(0, .ref o), (1, .int x1), (2, .int x2), (3, .int x3), (4, .int x4)] → W p l e ({ frames := 3, cells := 0, slots := 0, locals := 105 } : Room) s m args below meth c H locs 0 0 (MQ below (va_Qi (fun r (_ : Unit) => r = uu) (fun _ t => va_P (dC, dI) classes [(o, .inr (3, [.ref o_startX, .ref o_startY, .ref o_left, .ref o_right, .ref o_top, .ref o_bottom, .int o_count, .ref o_slopeX, .ref o_slopeY, .ref o_squareX, .ref o_squareY, .ref o_placedX, .ref o_placedY])), (o_startX, .inl (cy 0, 256, .inl o_startX_f)), (o_startY, .inl (cy 0, 256, .inl o_startY_f)), (o_left, .inl (cy 0, 256, .inl o_left_f)), (o_right, .inl (cy 0, 256, .inl o_right_f)), (o_top, .inl (cy 0, 256, .inl o_top_f)), (o_bottom, .inl (cy 0, 256, .inl o_bottom_f)), (o_slopeX, .inl (cy 0, 256, .inl o_slopeX_f)), (o_slopeY, .inl (cy 0, 256, .inl o_slopeY_f)), (o_squareX, .inl (cy 0, 256, .inl o_squareX_f)), (o_squareY, .inl (cy 0, 256, .inl o_squareY_f)), (o_placedX, .inl (cy 0, 256, .inl o_placedX_f)), (o_placedY, .inl (cy 0, 256, .inl o_placedY_f))] t.heap ∧ va_K (dC, dI) classes (TY cy) t ∧ va_D A [(o, .inr (3, [.ref o_startX, .ref o_startY, .ref o_left, .ref o_right, .ref o_top, .ref o_bottom, .int o_count, .ref o_slopeX, .ref o_slopeY, .ref o_squareX, .ref o_squareY, .ref o_placedX, .ref o_placedY])), (o_startX, .inl (cy 0, 256, .inl o_startX_f)), (o_startY, .inl (cy 0, 256, .inl o_startY_f)), (o_left, .inl (cy 0, 256, .inl o_left_f)), (o_right, .inl (cy 0, 256, .inl o_right_f)), (o_top, .inl (cy 0, 256, .inl o_top_f)), (o_bottom, .inl (cy 0, 256, .inl o_bottom_f)), (o_slopeX, .inl (cy 0, 256, .inl o_slopeX_f)), (o_slopeY, .inl (cy 0, 256, .inl o_slopeY_f)), (o_squareX, .inl (cy 0, 256, .inl o_squareX_f)), (o_squareY, .inl (cy 0, 256, .inl o_squareY_f)), (o_placedX, .inl (cy 0, 256, .inl o_placedX_f)), (o_placedY, .inl (cy 0, 256, .inl o_placedY_f))]) A) args s 0 0 A) (F0 m 5 ls [])) (x1 : Int32) (x2 : Int32) (x3 : Int32) (x4 : Int32) {H : Heap} {locs : List Loc} {ls : Array Slot} (h : P_Cv_windingAt_5b o_count o_startX_f o_startY_f o_slopeX_f o_slopeY_f o_squareX_f o_squareY_f z5 x1 x2 x3 x4 = some uu) : va_P (dC, dI) classes [(o, .inr (3, [.ref o_startX, .ref o_startY, .ref o_left, .ref o_right, .ref o_top, .ref o_bottom, .int o_count, .ref o_slopeX, .ref o_slopeY, .ref o_squareX, .ref o_squareY, .ref o_placedX, .ref o_placedY])), (o_startX, .inl (cy 0, 256, .inl o_startX_f)), (o_startY, .inl (cy 0, 256, .inl o_startY_f)), (o_left, .inl (cy 0, 256, .inl o_left_f)), (o_right, .inl (cy 0, 256, .inl o_right_f)), (o_top, .inl (cy 0, 256, .inl o_top_f)), (o_bottom, .inl (cy 0, 256, .inl o_bottom_f)), (o_slopeX, .inl (cy 0, 256, .inl o_slopeX_f)), (o_slopeY, .inl (cy 0, 256, .inl o_slopeY_f)), (o_squareX, .inl (cy 0, 256, .inl o_squareX_f)), (o_squareY, .inl (cy 0, 256, .inl o_squareY_f)), (o_placedX, .inl (cy 0, 256, .inl o_placedX_f)), (o_placedY, .inl (cy 0, 256, .inl o_placedY_f))] H → va_D A [(o, .inr (3, [.ref o_startX, .ref o_startY, .ref o_left, .ref o_right, .ref o_top, .ref o_bottom, .int o_count, .ref o_slopeX, .ref o_slopeY, .ref o_squareX, .ref o_squareY, .ref o_placedX, .ref o_placedY])), (o_startX, .inl (cy 0, 256, .inl o_startX_f)), (o_startY, .inl (cy 0, 256, .inl o_startY_f)), (o_left, .inl (cy 0, 256, .inl o_left_f)), (o_right, .inl (cy 0, 256, .inl o_right_f)), (o_top, .inl (cy 0, 256, .inl o_top_f)), (o_bottom, .inl (cy 0, 256, .inl o_bottom_f)), (o_slopeX, .inl (cy 0, 256, .inl o_slopeX_f)), (o_slopeY, .inl (cy 0, 256, .inl o_slopeY_f)), (o_squareX, .inl (cy 0, 256, .inl o_squareX_f)), (o_squareY, .inl (cy 0, 256, .inl o_squareY_f)), (o_placedX, .inl (cy 0, 256, .inl o_placedX_f)), (o_placedY, .inl (cy 0, 256, .inl o_placedY_f))] → va_S A s.heap H locs → lv_has ls 8 [(0, .ref o), (1, .int x1), (2, .int x2), (3, .int x3), (4, .int x4)] → W p l e ({ frames := 3, cells := 0, slots := 0, locals := 105 } : Room) s m args below meth c H locs 0 0 (MQ below (va_Qi (fun r (_ : Unit) => r = uu) (fun _ t => va_P (dC, dI) classes [(o, .inr (3, [.ref o_startX, .ref o_startY, .ref o_left, .ref o_right, .ref o_top, .ref o_bottom, .int o_count, .ref o_slopeX, .ref o_slopeY, .ref o_squareX, .ref o_squareY, .ref o_placedX, .ref o_placedY])), (o_startX, .inl (cy 0, 256, .inl o_startX_f)), (o_startY, .inl (cy 0, 256, .inl o_startY_f)), (o_left, .inl (cy 0, 256, .inl o_left_f)), (o_right, .inl (cy 0, 256, .inl o_right_f)), (o_top, .inl (cy 0, 256, .inl o_top_f)), (o_bottom, .inl (cy 0, 256, .inl o_bottom_f)), (o_slopeX, .inl (cy 0, 256, .inl o_slopeX_f)), (o_slopeY, .inl (cy 0, 256, .inl o_slopeY_f)), (o_squareX, .inl (cy 0, 256, .inl o_squareX_f)), (o_squareY, .inl (cy 0, 256, .inl o_squareY_f)), (o_placedX, .inl (cy 0, 256, .inl o_placedX_f)), (o_placedY, .inl (cy 0, 256, .inl o_placedY_f))] t.heap ∧ va_K (dC, dI) classes (TY cy) t ∧ va_D A [(o, .inr (3, [.ref o_startX, .ref o_startY, .ref o_left, .ref o_right, .ref o_top, .ref o_bottom, .int o_count, .ref o_slopeX, .ref o_slopeY, .ref o_squareX, .ref o_squareY, .ref o_placedX, .ref o_placedY])), (o_startX, .inl (cy 0, 256, .inl o_startX_f)), (o_startY, .inl (cy 0, 256, .inl o_startY_f)), (o_left, .inl (cy 0, 256, .inl o_left_f)), (o_right, .inl (cy 0, 256, .inl o_right_f)), (o_top, .inl (cy 0, 256, .inl o_top_f)), (o_bottom, .inl (cy 0, 256, .inl o_bottom_f)), (o_slopeX, .inl (cy 0, 256, .inl o_slopeX_f)), (o_slopeY, .inl (cy 0, 256, .inl o_slopeY_f)), (o_squareX, .inl (cy 0, 256, .inl o_squareX_f)), (o_squareY, .inl (cy 0, 256, .inl o_squareY_f)), (o_placedX, .inl (cy 0, 256, .inl o_placedX_f)), (o_placedY, .inl (cy 0, 256, .inl o_placedY_f))]) A) args s 0 0 A) (F0 m 5 ls []) := by
  intro hP hD hS hl
  obtain ⟨hx, hb, hr, hlocks, hml, hown, htsG, hA, hK⟩ := id C0
  unfold P_Cv_windingAt_5b at h
  refine lv_iload hx hb d_Cv_windingAt_5 (lv_at hl 4 rfl) ?_
  refine lv_aload_n hx hb d_Cv_windingAt_7 rfl (lv_at hl 0 rfl) ?_
  refine va_get (D := (dC, dI)) (ci := 3) (v := .int o_count) (C := "GlyphPage$Curves") (T := F_Cv) (N := 13) hx hb htsG iG_Cv hown hK hP 0 rfl rfl 6 (by decide) (htsG _ mW144) (fun _ h9 => h9) rfl d_Cv_windingAt_8 ?_
  refine lv_icmp_ge (tgt := 180) hx hb d_Cv_windingAt_11 (by decide) (fun c_1 => ?_) (fun c_1 => ?_)
  · replace h := (if_pos c_1).symm.trans h
    refine lv_iload_n hx hb d_Cv_windingAt_180 rfl (lv_at hl 3 rfl) ?_
    cases h
    exact W.iret hx hb hr (fun t ht hW => ⟨⟨_, (), rfl, rfl, by rw [ht]; exact hP, va_K.moved hW.alike hK, hD⟩, hS.F ht⟩) hS.2.2 d_Cv_windingAt_181 hlocks
  · replace h := (if_neg c_1).symm.trans h
    refine lv_aload_n hx hb d_Cv_windingAt_14 rfl (lv_at hl 0 rfl) ?_
    refine va_get (D := (dC, dI)) (ci := 3) (v := .ref o_startX) (C := "GlyphPage$Curves") (T := F_Cv) (N := 13) hx hb htsG iG_Cv hown hK hP 0 rfl rfl 0 (by decide) (htsG _ mW132) (fun _ h9 => h9) rfl d_Cv_windingAt_15 ?_
    refine lv_iload hx hb d_Cv_windingAt_18 (lv_at hl 4 rfl) ?_
    obtain ⟨hin_2, h⟩ := bd_some h
    refine va_iald hx hb hK hP 1 0 rfl rfl hin_2 d_Cv_windingAt_20 ?_
    refine lv_iload_n hx hb d_Cv_windingAt_21 rfl (lv_at hl 1 rfl) ?_
    refine lv_icmp_ne (tgt := 36) hx hb d_Cv_windingAt_22 (by decide) (fun c_3 => ?_) (fun c_3 => ?_)
    · replace h := (if_neg c_3).symm.trans h
      exact w_Cv_windingAt_36 C0 o o_startX o_startY o_left o_right o_top o_bottom o_slopeX o_slopeY o_squareX o_squareY o_placedX o_placedY o_count o_startX_f o_startY_f o_left_f o_right_f o_top_f o_bottom_f o_slopeX_f o_slopeY_f o_squareX_f o_squareY_f o_placedX_f o_placedY_f a1 a2 uu z5 hz5 x1 x2 x3 x4 h hP hD hS (lv_sub hl [0, 1, 2, 3, 4] rfl)
    · replace h := (if_pos c_3).symm.trans h
      refine lv_aload_n hx hb d_Cv_windingAt_25 rfl (lv_at hl 0 rfl) ?_
      refine va_get (D := (dC, dI)) (ci := 3) (v := .ref o_startY) (C := "GlyphPage$Curves") (T := F_Cv) (N := 13) hx hb htsG iG_Cv hown hK hP 0 rfl rfl 1 (by decide) (htsG _ mW134) (fun _ h9 => h9) rfl d_Cv_windingAt_26 ?_
      refine lv_iload hx hb d_Cv_windingAt_29 (lv_at hl 4 rfl) ?_
      obtain ⟨hin_4, h⟩ := bd_some h
      refine va_iald hx hb hK hP 2 0 rfl rfl hin_4 d_Cv_windingAt_31 ?_
      refine lv_iload_n hx hb d_Cv_windingAt_32 rfl (lv_at hl 2 rfl) ?_
      refine lv_icmp_eq (tgt := 66) hx hb d_Cv_windingAt_33 (by decide) (fun c_5 => ?_) (fun c_5 => ?_)
      · replace h := (if_pos c_5).symm.trans h
        refine lv_sipush (v := (1000 : Int32)) hx hb d_Cv_windingAt_66 (by decide) ?_
        cases h
        exact W.iret hx hb hr (fun t ht hW => ⟨⟨_, (), rfl, rfl, by rw [ht]; exact hP, va_K.moved hW.alike hK, hD⟩, hS.F ht⟩) hS.2.2 d_Cv_windingAt_69 hlocks
      · replace h := (if_neg c_5).symm.trans h
        exact w_Cv_windingAt_36 C0 o o_startX o_startY o_left o_right o_top o_bottom o_slopeX o_slopeY o_squareX o_squareY o_placedX o_placedY o_count o_startX_f o_startY_f o_left_f o_right_f o_top_f o_bottom_f o_slopeX_f o_slopeY_f o_squareX_f o_squareY_f o_placedX_f o_placedY_f a1 a2 uu z5 hz5 x1 x2 x3 x4 h hP hD hS (lv_sub hl [0, 1, 2, 3, 4] rfl)
theorem w_Cv_windingAt_5 (C0 : Cx p s m args meth c A dC dI cy b_Cv_windingAt 8 (some .int) "GlyphPage$Curves") (o : Nat) (o_startX : Nat) (o_startY : Nat) (o_left : Nat) (o_right : Nat) (o_top : Nat) (o_bottom : Nat) (o_slopeX : Nat) (o_slopeY : Nat) (o_squareX : Nat) (o_squareY : Nat) (o_placedX : Nat) (o_placedY : Nat) (o_count : Int32) (o_startX_f : Nat → Int32) (o_startY_f : Nat → Int32) (o_left_f : Nat → Int32) (o_right_f : Nat → Int32) (o_top_f : Nat → Int32) (o_bottom_f : Nat → Int32) (o_slopeX_f : Nat → Int32) (o_slopeY_f : Nat → Int32) (o_squareX_f : Nat → Int32) (o_squareY_f : Nat → Int32) (o_placedX_f : Nat → Int32) (o_placedY_f : Nat → Int32) (a1 : Int32) (a2 : Int32) (uu : Int32)  (x1 : Int32) (x2 : Int32) (x3 : Int32) (x4 : Int32) {H : Heap} {locs : List Loc} {ls : Array Slot} (h : P_Cv_windingAt_5 o_count o_startX_f o_startY_f o_slopeX_f o_slopeY_f o_squareX_f o_squareY_f x1 x2 x3 x4 = some uu) : va_P (dC, dI) classes [(o, .inr (3, [.ref o_startX, .ref o_startY, .ref o_left, .ref o_right, .ref o_top, .ref o_bottom, .int o_count, .ref o_slopeX, .ref o_slopeY, .ref o_squareX, .ref o_squareY, .ref o_placedX, .ref o_placedY])), (o_startX, .inl (cy 0, 256, .inl o_startX_f)), (o_startY, .inl (cy 0, 256, .inl o_startY_f)), (o_left, .inl (cy 0, 256, .inl o_left_f)), (o_right, .inl (cy 0, 256, .inl o_right_f)), (o_top, .inl (cy 0, 256, .inl o_top_f)), (o_bottom, .inl (cy 0, 256, .inl o_bottom_f)), (o_slopeX, .inl (cy 0, 256, .inl o_slopeX_f)), (o_slopeY, .inl (cy 0, 256, .inl o_slopeY_f)), (o_squareX, .inl (cy 0, 256, .inl o_squareX_f)), (o_squareY, .inl (cy 0, 256, .inl o_squareY_f)), (o_placedX, .inl (cy 0, 256, .inl o_placedX_f)), (o_placedY, .inl (cy 0, 256, .inl o_placedY_f))] H → va_D A [(o, .inr (3, [.ref o_startX, .ref o_startY, .ref o_left, .ref o_right, .ref o_top, .ref o_bottom, .int o_count, .ref o_slopeX, .ref o_slopeY, .ref o_squareX, .ref o_squareY, .ref o_placedX, .ref o_placedY])), (o_startX, .inl (cy 0, 256, .inl o_startX_f)), (o_startY, .inl (cy 0, 256, .inl o_startY_f)), (o_left, .inl (cy 0, 256, .inl o_left_f)), (o_right, .inl (cy 0, 256, .inl o_right_f)), (o_top, .inl (cy 0, 256, .inl o_top_f)), (o_bottom, .inl (cy 0, 256, .inl o_bottom_f)), (o_slopeX, .inl (cy 0, 256, .inl o_slopeX_f)), (o_slopeY, .inl (cy 0, 256, .inl o_slopeY_f)), (o_squareX, .inl (cy 0, 256, .inl o_squareX_f)), (o_squareY, .inl (cy 0, 256, .inl o_squareY_f)), (o_placedX, .inl (cy 0, 256, .inl o_placedX_f)), (o_placedY, .inl (cy 0, 256, .inl o_placedY_f))] → va_S A s.heap H locs → lv_has ls 8 [(0, .ref o), (1, .int x1), (2, .int x2), (3, .int x3), (4, .int x4)] → W p l e ({ frames := 3, cells := 0, slots := 0, locals := 105 } : Room) s m args below meth c H locs 0 0 (MQ below (va_Qi (fun r (_ : Unit) => r = uu) (fun _ t => va_P (dC, dI) classes [(o, .inr (3, [.ref o_startX, .ref o_startY, .ref o_left, .ref o_right, .ref o_top, .ref o_bottom, .int o_count, .ref o_slopeX, .ref o_slopeY, .ref o_squareX, .ref o_squareY, .ref o_placedX, .ref o_placedY])), (o_startX, .inl (cy 0, 256, .inl o_startX_f)), (o_startY, .inl (cy 0, 256, .inl o_startY_f)), (o_left, .inl (cy 0, 256, .inl o_left_f)), (o_right, .inl (cy 0, 256, .inl o_right_f)), (o_top, .inl (cy 0, 256, .inl o_top_f)), (o_bottom, .inl (cy 0, 256, .inl o_bottom_f)), (o_slopeX, .inl (cy 0, 256, .inl o_slopeX_f)), (o_slopeY, .inl (cy 0, 256, .inl o_slopeY_f)), (o_squareX, .inl (cy 0, 256, .inl o_squareX_f)), (o_squareY, .inl (cy 0, 256, .inl o_squareY_f)), (o_placedX, .inl (cy 0, 256, .inl o_placedX_f)), (o_placedY, .inl (cy 0, 256, .inl o_placedY_f))] t.heap ∧ va_K (dC, dI) classes (TY cy) t ∧ va_D A [(o, .inr (3, [.ref o_startX, .ref o_startY, .ref o_left, .ref o_right, .ref o_top, .ref o_bottom, .int o_count, .ref o_slopeX, .ref o_slopeY, .ref o_squareX, .ref o_squareY, .ref o_placedX, .ref o_placedY])), (o_startX, .inl (cy 0, 256, .inl o_startX_f)), (o_startY, .inl (cy 0, 256, .inl o_startY_f)), (o_left, .inl (cy 0, 256, .inl o_left_f)), (o_right, .inl (cy 0, 256, .inl o_right_f)), (o_top, .inl (cy 0, 256, .inl o_top_f)), (o_bottom, .inl (cy 0, 256, .inl o_bottom_f)), (o_slopeX, .inl (cy 0, 256, .inl o_slopeX_f)), (o_slopeY, .inl (cy 0, 256, .inl o_slopeY_f)), (o_squareX, .inl (cy 0, 256, .inl o_squareX_f)), (o_squareY, .inl (cy 0, 256, .inl o_squareY_f)), (o_placedX, .inl (cy 0, 256, .inl o_placedX_f)), (o_placedY, .inl (cy 0, 256, .inl o_placedY_f))]) A) args s 0 0 A) (F0 m 5 ls []) := by
  have key : ∀ (n : Nat) (x1 : Int32) (x2 : Int32) (x3 : Int32) (x4 : Int32) (H : Heap) (locs : List Loc) (ls : Array Slot), lp (L_Cv_windingAt_5 o_count o_startX_f o_startY_f o_slopeX_f o_slopeY_f o_squareX_f o_squareY_f) n (x1, x2, x3, x4) = some uu → va_P (dC, dI) classes [(o, .inr (3, [.ref o_startX, .ref o_startY, .ref o_left, .ref o_right, .ref o_top, .ref o_bottom, .int o_count, .ref o_slopeX, .ref o_slopeY, .ref o_squareX, .ref o_squareY, .ref o_placedX, .ref o_placedY])), (o_startX, .inl (cy 0, 256, .inl o_startX_f)), (o_startY, .inl (cy 0, 256, .inl o_startY_f)), (o_left, .inl (cy 0, 256, .inl o_left_f)), (o_right, .inl (cy 0, 256, .inl o_right_f)), (o_top, .inl (cy 0, 256, .inl o_top_f)), (o_bottom, .inl (cy 0, 256, .inl o_bottom_f)), (o_slopeX, .inl (cy 0, 256, .inl o_slopeX_f)), (o_slopeY, .inl (cy 0, 256, .inl o_slopeY_f)), (o_squareX, .inl (cy 0, 256, .inl o_squareX_f)), (o_squareY, .inl (cy 0, 256, .inl o_squareY_f)), (o_placedX, .inl (cy 0, 256, .inl o_placedX_f)), (o_placedY, .inl (cy 0, 256, .inl o_placedY_f))] H → va_D A [(o, .inr (3, [.ref o_startX, .ref o_startY, .ref o_left, .ref o_right, .ref o_top, .ref o_bottom, .int o_count, .ref o_slopeX, .ref o_slopeY, .ref o_squareX, .ref o_squareY, .ref o_placedX, .ref o_placedY])), (o_startX, .inl (cy 0, 256, .inl o_startX_f)), (o_startY, .inl (cy 0, 256, .inl o_startY_f)), (o_left, .inl (cy 0, 256, .inl o_left_f)), (o_right, .inl (cy 0, 256, .inl o_right_f)), (o_top, .inl (cy 0, 256, .inl o_top_f)), (o_bottom, .inl (cy 0, 256, .inl o_bottom_f)), (o_slopeX, .inl (cy 0, 256, .inl o_slopeX_f)), (o_slopeY, .inl (cy 0, 256, .inl o_slopeY_f)), (o_squareX, .inl (cy 0, 256, .inl o_squareX_f)), (o_squareY, .inl (cy 0, 256, .inl o_squareY_f)), (o_placedX, .inl (cy 0, 256, .inl o_placedX_f)), (o_placedY, .inl (cy 0, 256, .inl o_placedY_f))] → va_S A s.heap H locs → lv_has ls 8 [(0, .ref o), (1, .int x1), (2, .int x2), (3, .int x3), (4, .int x4)] → W p l e ({ frames := 3, cells := 0, slots := 0, locals := 105 } : Room) s m args below meth c H locs 0 0 (MQ below (va_Qi (fun r (_ : Unit) => r = uu) (fun _ t => va_P (dC, dI) classes [(o, .inr (3, [.ref o_startX, .ref o_startY, .ref o_left, .ref o_right, .ref o_top, .ref o_bottom, .int o_count, .ref o_slopeX, .ref o_slopeY, .ref o_squareX, .ref o_squareY, .ref o_placedX, .ref o_placedY])), (o_startX, .inl (cy 0, 256, .inl o_startX_f)), (o_startY, .inl (cy 0, 256, .inl o_startY_f)), (o_left, .inl (cy 0, 256, .inl o_left_f)), (o_right, .inl (cy 0, 256, .inl o_right_f)), (o_top, .inl (cy 0, 256, .inl o_top_f)), (o_bottom, .inl (cy 0, 256, .inl o_bottom_f)), (o_slopeX, .inl (cy 0, 256, .inl o_slopeX_f)), (o_slopeY, .inl (cy 0, 256, .inl o_slopeY_f)), (o_squareX, .inl (cy 0, 256, .inl o_squareX_f)), (o_squareY, .inl (cy 0, 256, .inl o_squareY_f)), (o_placedX, .inl (cy 0, 256, .inl o_placedX_f)), (o_placedY, .inl (cy 0, 256, .inl o_placedY_f))] t.heap ∧ va_K (dC, dI) classes (TY cy) t ∧ va_D A [(o, .inr (3, [.ref o_startX, .ref o_startY, .ref o_left, .ref o_right, .ref o_top, .ref o_bottom, .int o_count, .ref o_slopeX, .ref o_slopeY, .ref o_squareX, .ref o_squareY, .ref o_placedX, .ref o_placedY])), (o_startX, .inl (cy 0, 256, .inl o_startX_f)), (o_startY, .inl (cy 0, 256, .inl o_startY_f)), (o_left, .inl (cy 0, 256, .inl o_left_f)), (o_right, .inl (cy 0, 256, .inl o_right_f)), (o_top, .inl (cy 0, 256, .inl o_top_f)), (o_bottom, .inl (cy 0, 256, .inl o_bottom_f)), (o_slopeX, .inl (cy 0, 256, .inl o_slopeX_f)), (o_slopeY, .inl (cy 0, 256, .inl o_slopeY_f)), (o_squareX, .inl (cy 0, 256, .inl o_squareX_f)), (o_squareY, .inl (cy 0, 256, .inl o_squareY_f)), (o_placedX, .inl (cy 0, 256, .inl o_placedX_f)), (o_placedY, .inl (cy 0, 256, .inl o_placedY_f))]) A) args s 0 0 A) (F0 m 5 ls []) := by
    intro n
    induction n with
    | zero => intro x1 x2 x3 x4 H locs ls h; cases h
    | succ n ih => intro x1 x2 x3 x4 H locs ls h; exact w_Cv_windingAt_5b C0 o o_startX o_startY o_left o_right o_top o_bottom o_slopeX o_slopeY o_squareX o_squareY o_placedX o_placedY o_count o_startX_f o_startY_f o_left_f o_right_f o_top_f o_bottom_f o_slopeX_f o_slopeY_f o_squareX_f o_squareY_f o_placedX_f o_placedY_f a1 a2 uu  (lp (L_Cv_windingAt_5 o_count o_startX_f o_startY_f o_slopeX_f o_slopeY_f o_squareX_f o_squareY_f) n) ih x1 x2 x3 x4 ((e_Cv_windingAt_5 o_count o_startX_f o_startY_f o_slopeX_f o_slopeY_f o_squareX_f o_squareY_f n x1 x2 x3 x4).symm.trans h)
  exact key fuel x1 x2 x3 x4 H locs ls h
def P_Cv_windingAt (o_count : Int32) (o_startX_f : Nat → Int32) (o_startY_f : Nat → Int32) (o_slopeX_f : Nat → Int32) (o_slopeY_f : Nat → Int32) (o_squareX_f : Nat → Int32) (o_squareY_f : Nat → Int32) (a1 : Int32) (a2 : Int32) : Option (Int32) :=
  P_Cv_windingAt_5 o_count o_startX_f o_startY_f o_slopeX_f o_slopeY_f o_squareX_f o_squareY_f a1 a2 (0 : Int32) (0 : Int32)
set_option maxHeartbeats 4000000 in
set_option maxRecDepth 100000 in
theorem c_Cv_windingAt (l : Launch) (dC : Nat → ClassId) (dI : Nat → Nat → Nat) (cy : Nat → ClassId) (sz : Nat) (o : Nat) (o_startX : Nat) (o_startY : Nat) (o_left : Nat) (o_right : Nat) (o_top : Nat) (o_bottom : Nat) (o_slopeX : Nat) (o_slopeY : Nat) (o_squareX : Nat) (o_squareY : Nat) (o_placedX : Nat) (o_placedY : Nat) (o_count : Int32) (o_startX_f : Nat → Int32) (o_startY_f : Nat → Int32) (o_left_f : Nat → Int32) (o_right_f : Nat → Int32) (o_top_f : Nat → Int32) (o_bottom_f : Nat → Int32) (o_slopeX_f : Nat → Int32) (o_slopeY_f : Nat → Int32) (o_squareX_f : Nat → Int32) (o_squareY_f : Nat → Int32) (o_placedX_f : Nat → Int32) (o_placedY_f : Nat → Int32) (a1 : Int32) (a2 : Int32) (uu : Int32) (h : P_Cv_windingAt o_count o_startX_f o_startY_f o_slopeX_f o_slopeY_f o_squareX_f o_squareY_f a1 a2 = some uu) : Met l y_Cv_windingAt (Cond.code y_Cv_windingAt b_Cv_windingAt 8 (some .int) :: G) ({ frames := 3, cells := 0, slots := 0, locals := 105 } : Room) (va_Pc [.ref o, .int a1, .int a2] (fun U => U.heap.size = sz ∧ va_P (dC, dI) classes [(o, .inr (3, [.ref o_startX, .ref o_startY, .ref o_left, .ref o_right, .ref o_top, .ref o_bottom, .int o_count, .ref o_slopeX, .ref o_slopeY, .ref o_squareX, .ref o_squareY, .ref o_placedX, .ref o_placedY])), (o_startX, .inl (cy 0, 256, .inl o_startX_f)), (o_startY, .inl (cy 0, 256, .inl o_startY_f)), (o_left, .inl (cy 0, 256, .inl o_left_f)), (o_right, .inl (cy 0, 256, .inl o_right_f)), (o_top, .inl (cy 0, 256, .inl o_top_f)), (o_bottom, .inl (cy 0, 256, .inl o_bottom_f)), (o_slopeX, .inl (cy 0, 256, .inl o_slopeX_f)), (o_slopeY, .inl (cy 0, 256, .inl o_slopeY_f)), (o_squareX, .inl (cy 0, 256, .inl o_squareX_f)), (o_squareY, .inl (cy 0, 256, .inl o_squareY_f)), (o_placedX, .inl (cy 0, 256, .inl o_placedX_f)), (o_placedY, .inl (cy 0, 256, .inl o_placedY_f))] U.heap ∧ va_K (dC, dI) classes (TY cy) U ∧ va_D (fun _ => True) [(o, .inr (3, [.ref o_startX, .ref o_startY, .ref o_left, .ref o_right, .ref o_top, .ref o_bottom, .int o_count, .ref o_slopeX, .ref o_slopeY, .ref o_squareX, .ref o_squareY, .ref o_placedX, .ref o_placedY])), (o_startX, .inl (cy 0, 256, .inl o_startX_f)), (o_startY, .inl (cy 0, 256, .inl o_startY_f)), (o_left, .inl (cy 0, 256, .inl o_left_f)), (o_right, .inl (cy 0, 256, .inl o_right_f)), (o_top, .inl (cy 0, 256, .inl o_top_f)), (o_bottom, .inl (cy 0, 256, .inl o_bottom_f)), (o_slopeX, .inl (cy 0, 256, .inl o_slopeX_f)), (o_slopeY, .inl (cy 0, 256, .inl o_slopeY_f)), (o_squareX, .inl (cy 0, 256, .inl o_squareX_f)), (o_squareY, .inl (cy 0, 256, .inl o_squareY_f)), (o_placedX, .inl (cy 0, 256, .inl o_placedX_f)), (o_placedY, .inl (cy 0, 256, .inl o_placedY_f))])) (va_Qi (fun r (_ : Unit) => r = uu) (fun _ t => va_P (dC, dI) classes [(o, .inr (3, [.ref o_startX, .ref o_startY, .ref o_left, .ref o_right, .ref o_top, .ref o_bottom, .int o_count, .ref o_slopeX, .ref o_slopeY, .ref o_squareX, .ref o_squareY, .ref o_placedX, .ref o_placedY])), (o_startX, .inl (cy 0, 256, .inl o_startX_f)), (o_startY, .inl (cy 0, 256, .inl o_startY_f)), (o_left, .inl (cy 0, 256, .inl o_left_f)), (o_right, .inl (cy 0, 256, .inl o_right_f)), (o_top, .inl (cy 0, 256, .inl o_top_f)), (o_bottom, .inl (cy 0, 256, .inl o_bottom_f)), (o_slopeX, .inl (cy 0, 256, .inl o_slopeX_f)), (o_slopeY, .inl (cy 0, 256, .inl o_slopeY_f)), (o_squareX, .inl (cy 0, 256, .inl o_squareX_f)), (o_squareY, .inl (cy 0, 256, .inl o_squareY_f)), (o_placedX, .inl (cy 0, 256, .inl o_placedX_f)), (o_placedY, .inl (cy 0, 256, .inl o_placedY_f))] t.heap ∧ va_K (dC, dI) classes (TY cy) t ∧ va_D (va_A [(o, .inr (3, [.ref o_startX, .ref o_startY, .ref o_left, .ref o_right, .ref o_top, .ref o_bottom, .int o_count, .ref o_slopeX, .ref o_slopeY, .ref o_squareX, .ref o_squareY, .ref o_placedX, .ref o_placedY])), (o_startX, .inl (cy 0, 256, .inl o_startX_f)), (o_startY, .inl (cy 0, 256, .inl o_startY_f)), (o_left, .inl (cy 0, 256, .inl o_left_f)), (o_right, .inl (cy 0, 256, .inl o_right_f)), (o_top, .inl (cy 0, 256, .inl o_top_f)), (o_bottom, .inl (cy 0, 256, .inl o_bottom_f)), (o_slopeX, .inl (cy 0, 256, .inl o_slopeX_f)), (o_slopeY, .inl (cy 0, 256, .inl o_slopeY_f)), (o_squareX, .inl (cy 0, 256, .inl o_squareX_f)), (o_squareY, .inl (cy 0, 256, .inl o_squareY_f)), (o_placedX, .inl (cy 0, 256, .inl o_placedX_f)), (o_placedY, .inl (cy 0, 256, .inl o_placedY_f))] sz) [(o, .inr (3, [.ref o_startX, .ref o_startY, .ref o_left, .ref o_right, .ref o_top, .ref o_bottom, .int o_count, .ref o_slopeX, .ref o_slopeY, .ref o_squareX, .ref o_squareY, .ref o_placedX, .ref o_placedY])), (o_startX, .inl (cy 0, 256, .inl o_startX_f)), (o_startY, .inl (cy 0, 256, .inl o_startY_f)), (o_left, .inl (cy 0, 256, .inl o_left_f)), (o_right, .inl (cy 0, 256, .inl o_right_f)), (o_top, .inl (cy 0, 256, .inl o_top_f)), (o_bottom, .inl (cy 0, 256, .inl o_bottom_f)), (o_slopeX, .inl (cy 0, 256, .inl o_slopeX_f)), (o_slopeY, .inl (cy 0, 256, .inl o_slopeY_f)), (o_squareX, .inl (cy 0, 256, .inl o_squareX_f)), (o_squareY, .inl (cy 0, 256, .inl o_squareY_f)), (o_placedX, .inl (cy 0, 256, .inl o_placedX_f)), (o_placedY, .inl (cy 0, 256, .inl o_placedY_f))]) (va_A [(o, .inr (3, [.ref o_startX, .ref o_startY, .ref o_left, .ref o_right, .ref o_top, .ref o_bottom, .int o_count, .ref o_slopeX, .ref o_slopeY, .ref o_squareX, .ref o_squareY, .ref o_placedX, .ref o_placedY])), (o_startX, .inl (cy 0, 256, .inl o_startX_f)), (o_startY, .inl (cy 0, 256, .inl o_startY_f)), (o_left, .inl (cy 0, 256, .inl o_left_f)), (o_right, .inl (cy 0, 256, .inl o_right_f)), (o_top, .inl (cy 0, 256, .inl o_top_f)), (o_bottom, .inl (cy 0, 256, .inl o_bottom_f)), (o_slopeX, .inl (cy 0, 256, .inl o_slopeX_f)), (o_slopeY, .inl (cy 0, 256, .inl o_slopeY_f)), (o_squareX, .inl (cy 0, 256, .inl o_squareX_f)), (o_squareY, .inl (cy 0, 256, .inl o_squareY_f)), (o_placedX, .inl (cy 0, 256, .inl o_placedX_f)), (o_placedY, .inl (cy 0, 256, .inl o_placedY_f))] sz)) 0 0 (va_A [(o, .inr (3, [.ref o_startX, .ref o_startY, .ref o_left, .ref o_right, .ref o_top, .ref o_bottom, .int o_count, .ref o_slopeX, .ref o_slopeY, .ref o_squareX, .ref o_squareY, .ref o_placedX, .ref o_placedY])), (o_startX, .inl (cy 0, 256, .inl o_startX_f)), (o_startY, .inl (cy 0, 256, .inl o_startY_f)), (o_left, .inl (cy 0, 256, .inl o_left_f)), (o_right, .inl (cy 0, 256, .inl o_right_f)), (o_top, .inl (cy 0, 256, .inl o_top_f)), (o_bottom, .inl (cy 0, 256, .inl o_bottom_f)), (o_slopeX, .inl (cy 0, 256, .inl o_slopeX_f)), (o_slopeY, .inl (cy 0, 256, .inl o_slopeY_f)), (o_squareX, .inl (cy 0, 256, .inl o_squareX_f)), (o_squareY, .inl (cy 0, 256, .inl o_squareY_f)), (o_placedX, .inl (cy 0, 256, .inl o_placedX_f)), (o_placedY, .inl (cy 0, 256, .inl o_placedY_f))] sz) := by
  refine Met.ofW (cc := b_Cv_windingAt) (maxL := 8) (ret := (some .int)) (by decide) rfl ?_
  intro p e s m args below meth c s₁ B hml hv
  obtain ⟨rfl, hsz, hP, hK, hD0⟩ := hv
  have hx := B.exec
  have hb := B.bytes
  have hr := B.returns
  have hts := atoms_spec (ws := Cond.code y_Cv_windingAt b_Cv_windingAt 8 (some .int) :: G) B.pre
  have htsG : ∀ w ∈ G, w.before _ s = true := fun w hw => hts w (List.mem_cons_of_mem _ hw)
  have hown : s.vm.findClass "GlyphPage$Curves" = some m.cls := findClass_of_methodNamed B.named
  have hlocks := B.notSynchronized
  subst hsz
  have hD := hD0.self (sz := s.heap.size)
  generalize hAe : va_A [(o, .inr (3, [.ref o_startX, .ref o_startY, .ref o_left, .ref o_right, .ref o_top, .ref o_bottom, .int o_count, .ref o_slopeX, .ref o_slopeY, .ref o_squareX, .ref o_squareY, .ref o_placedX, .ref o_placedY])), (o_startX, .inl (cy 0, 256, .inl o_startX_f)), (o_startY, .inl (cy 0, 256, .inl o_startY_f)), (o_left, .inl (cy 0, 256, .inl o_left_f)), (o_right, .inl (cy 0, 256, .inl o_right_f)), (o_top, .inl (cy 0, 256, .inl o_top_f)), (o_bottom, .inl (cy 0, 256, .inl o_bottom_f)), (o_slopeX, .inl (cy 0, 256, .inl o_slopeX_f)), (o_slopeY, .inl (cy 0, 256, .inl o_slopeY_f)), (o_squareX, .inl (cy 0, 256, .inl o_squareX_f)), (o_squareY, .inl (cy 0, 256, .inl o_squareY_f)), (o_placedX, .inl (cy 0, 256, .inl o_placedX_f)), (o_placedY, .inl (cy 0, 256, .inl o_placedY_f))] s.heap.size = A at hD ⊢
  have hA : ∀ q : Nat, s.heap.size ≤ q → A q := fun q h => by rw [← hAe]; exact Or.inr h
  have hS : va_S A s.heap s.heap [] := va_S.rf
  have hl := lv_entry ([.ref o, .int a1, .int a2]) (n := 8) (Nat.le_of_ble_eq_true rfl)
  rw [lg_entry_eq]
  generalize (lg_sl ([.ref o, .int a1, .int a2]) ++ List.replicate (8 - (lg_sl ([.ref o, .int a1, .int a2])).length) Slot.unset).toArray = ls at hl ⊢
  have hl : lv_has ls 8 [(0, .ref o), (1, .int a1), (2, .int a2)] := hl
  have C0 : Cx p s m _ meth c A dC dI cy b_Cv_windingAt 8 (some .int) "GlyphPage$Curves" := ⟨hx, hb, hr, hlocks, hml, hown, htsG, hA, hK⟩
  unfold P_Cv_windingAt at h
  refine lv_iconst (v := (0 : Int32)) hx hb d_Cv_windingAt_0 (by decide) ?_
  refine lv_istore_n (lv' := [(3, .int (0 : Int32)), (0, .ref o), (1, .int a1), (2, .int a2)]) hx hb d_Cv_windingAt_1 rfl hl (by decide) rfl (fun ls hl => ?_)
  refine lv_iconst (v := (0 : Int32)) hx hb d_Cv_windingAt_2 (by decide) ?_
  refine lv_istore (lv' := [(4, .int (0 : Int32)), (3, .int (0 : Int32)), (0, .ref o), (1, .int a1), (2, .int a2)]) hx hb d_Cv_windingAt_3 hl (by decide) rfl (fun ls hl => ?_)
  exact w_Cv_windingAt_5 C0 o o_startX o_startY o_left o_right o_top o_bottom o_slopeX o_slopeY o_squareX o_squareY o_placedX o_placedY o_count o_startX_f o_startY_f o_left_f o_right_f o_top_f o_bottom_f o_slopeX_f o_slopeY_f o_squareX_f o_squareY_f o_placedX_f o_placedY_f a1 a2 uu  a1 a2 (0 : Int32) (0 : Int32) h hP hD hS (lv_sub hl [2, 3, 4, 1, 0] rfl)
end
