-- ===== PART A: goes FIRST, ahead of the names: the tables' words, and 'selects' of the private methods out of them =====
/-- a private method of a class that the tables say can be made, by its rows of tables_1 -/
def lw_okq (q : MethodName × Nat) : Prop := (q.1.cls ≠ "java/lang/invoke/MethodHandle" ∧ q.1.cls ≠ "java/lang/invoke/VarHandle") ∧ Cond.instantiable q.1.cls q.2 ∈ tables_1 ∧ Cond.privateMethod q.1 ∈ tables_1 ∧ Cond.instanceMethod q.1 ∈ tables_1
theorem lw_p0 : lw_okq (⟨"GlyphPage", "append", "(I)V"⟩, 9) := ⟨⟨by decide +kernel, by decide +kernel⟩, List.mem_of_getElem? (i := 15) (by decide +kernel), List.mem_of_getElem? (i := 279) (by decide +kernel), List.mem_of_getElem? (i := 280) (by decide +kernel)⟩
theorem lw_p1 : lw_okq (⟨"GlyphPage$FontFile", "readDirectory", "()Z"⟩, 16) := ⟨⟨by decide +kernel, by decide +kernel⟩, List.mem_of_getElem? (i := 291) (by decide +kernel), List.mem_of_getElem? (i := 362) (by decide +kernel), List.mem_of_getElem? (i := 363) (by decide +kernel)⟩
theorem lw_p2 : lw_okq (⟨"GlyphPage$FontFile", "twoAt", "(I)I"⟩, 16) := ⟨⟨by decide +kernel, by decide +kernel⟩, List.mem_of_getElem? (i := 291) (by decide +kernel), List.mem_of_getElem? (i := 366) (by decide +kernel), List.mem_of_getElem? (i := 367) (by decide +kernel)⟩
theorem lw_p3 : lw_okq (⟨"GlyphPage$FontFile", "fourAt", "(I)J"⟩, 16) := ⟨⟨by decide +kernel, by decide +kernel⟩, List.mem_of_getElem? (i := 291) (by decide +kernel), List.mem_of_getElem? (i := 370) (by decide +kernel), List.mem_of_getElem? (i := 371) (by decide +kernel)⟩
theorem lw_p4 : lw_okq (⟨"GlyphPage$FontFile", "readEntry", "(IJ)Z"⟩, 16) := ⟨⟨by decide +kernel, by decide +kernel⟩, List.mem_of_getElem? (i := 291) (by decide +kernel), List.mem_of_getElem? (i := 376) (by decide +kernel), List.mem_of_getElem? (i := 377) (by decide +kernel)⟩
theorem lw_p5 : lw_okq (⟨"GlyphPage$FontFile", "sum", "(IIZ)J"⟩, 16) := ⟨⟨by decide +kernel, by decide +kernel⟩, List.mem_of_getElem? (i := 291) (by decide +kernel), List.mem_of_getElem? (i := 383) (by decide +kernel), List.mem_of_getElem? (i := 384) (by decide +kernel)⟩
theorem lw_p6 : lw_okq (⟨"GlyphPage$FontFile", "readHead", "()Z"⟩, 16) := ⟨⟨by decide +kernel, by decide +kernel⟩, List.mem_of_getElem? (i := 291) (by decide +kernel), List.mem_of_getElem? (i := 388) (by decide +kernel), List.mem_of_getElem? (i := 389) (by decide +kernel)⟩
theorem lw_p7 : lw_okq (⟨"GlyphPage$FontFile", "readMaxp", "()Z"⟩, 16) := ⟨⟨by decide +kernel, by decide +kernel⟩, List.mem_of_getElem? (i := 291) (by decide +kernel), List.mem_of_getElem? (i := 393) (by decide +kernel), List.mem_of_getElem? (i := 394) (by decide +kernel)⟩
theorem lw_p8 : lw_okq (⟨"GlyphPage$FontFile", "readHhea", "()Z"⟩, 16) := ⟨⟨by decide +kernel, by decide +kernel⟩, List.mem_of_getElem? (i := 291) (by decide +kernel), List.mem_of_getElem? (i := 397) (by decide +kernel), List.mem_of_getElem? (i := 398) (by decide +kernel)⟩
theorem lw_p9 : lw_okq (⟨"GlyphPage$FontFile", "signedAt", "(I)I"⟩, 16) := ⟨⟨by decide +kernel, by decide +kernel⟩, List.mem_of_getElem? (i := 291) (by decide +kernel), List.mem_of_getElem? (i := 401) (by decide +kernel), List.mem_of_getElem? (i := 402) (by decide +kernel)⟩
theorem lw_p10 : lw_okq (⟨"GlyphPage$FontFile", "isModest", "(I)Z"⟩, 16) := ⟨⟨by decide +kernel, by decide +kernel⟩, List.mem_of_getElem? (i := 291) (by decide +kernel), List.mem_of_getElem? (i := 405) (by decide +kernel), List.mem_of_getElem? (i := 406) (by decide +kernel)⟩
theorem lw_p11 : lw_okq (⟨"GlyphPage$FontFile", "hmtxIsSound", "()Z"⟩, 16) := ⟨⟨by decide +kernel, by decide +kernel⟩, List.mem_of_getElem? (i := 291) (by decide +kernel), List.mem_of_getElem? (i := 409) (by decide +kernel), List.mem_of_getElem? (i := 410) (by decide +kernel)⟩
theorem lw_p12 : lw_okq (⟨"GlyphPage$FontFile", "locaIsSound", "()Z"⟩, 16) := ⟨⟨by decide +kernel, by decide +kernel⟩, List.mem_of_getElem? (i := 291) (by decide +kernel), List.mem_of_getElem? (i := 418) (by decide +kernel), List.mem_of_getElem? (i := 419) (by decide +kernel)⟩
theorem lw_p13 : lw_okq (⟨"GlyphPage$FontFile", "locaAt", "(I)J"⟩, 16) := ⟨⟨by decide +kernel, by decide +kernel⟩, List.mem_of_getElem? (i := 291) (by decide +kernel), List.mem_of_getElem? (i := 422) (by decide +kernel), List.mem_of_getElem? (i := 423) (by decide +kernel)⟩
theorem lw_p14 : lw_okq (⟨"GlyphPage$FontFile", "readCmap", "()Z"⟩, 16) := ⟨⟨by decide +kernel, by decide +kernel⟩, List.mem_of_getElem? (i := 291) (by decide +kernel), List.mem_of_getElem? (i := 427) (by decide +kernel), List.mem_of_getElem? (i := 428) (by decide +kernel)⟩
theorem lw_p15 : lw_okq (⟨"GlyphPage$FontFile", "readCodes", "(J)Z"⟩, 16) := ⟨⟨by decide +kernel, by decide +kernel⟩, List.mem_of_getElem? (i := 291) (by decide +kernel), List.mem_of_getElem? (i := 431) (by decide +kernel), List.mem_of_getElem? (i := 432) (by decide +kernel)⟩
def lw_privs_1 : List (MethodName × Nat) := [(⟨"GlyphPage", "append", "(I)V"⟩, 9), (⟨"GlyphPage$FontFile", "readDirectory", "()Z"⟩, 16), (⟨"GlyphPage$FontFile", "twoAt", "(I)I"⟩, 16), (⟨"GlyphPage$FontFile", "fourAt", "(I)J"⟩, 16), (⟨"GlyphPage$FontFile", "readEntry", "(IJ)Z"⟩, 16), (⟨"GlyphPage$FontFile", "sum", "(IIZ)J"⟩, 16), (⟨"GlyphPage$FontFile", "readHead", "()Z"⟩, 16), (⟨"GlyphPage$FontFile", "readMaxp", "()Z"⟩, 16), (⟨"GlyphPage$FontFile", "readHhea", "()Z"⟩, 16), (⟨"GlyphPage$FontFile", "signedAt", "(I)I"⟩, 16), (⟨"GlyphPage$FontFile", "isModest", "(I)Z"⟩, 16), (⟨"GlyphPage$FontFile", "hmtxIsSound", "()Z"⟩, 16), (⟨"GlyphPage$FontFile", "locaIsSound", "()Z"⟩, 16), (⟨"GlyphPage$FontFile", "locaAt", "(I)J"⟩, 16), (⟨"GlyphPage$FontFile", "readCmap", "()Z"⟩, 16), (⟨"GlyphPage$FontFile", "readCodes", "(J)Z"⟩, 16)]
theorem lw_r1 : ∀ q ∈ lw_privs_1, lw_okq q := List.forall_mem_cons.mpr ⟨lw_p0, List.forall_mem_cons.mpr ⟨lw_p1, List.forall_mem_cons.mpr ⟨lw_p2, List.forall_mem_cons.mpr ⟨lw_p3, List.forall_mem_cons.mpr ⟨lw_p4, List.forall_mem_cons.mpr ⟨lw_p5, List.forall_mem_cons.mpr ⟨lw_p6, List.forall_mem_cons.mpr ⟨lw_p7, List.forall_mem_cons.mpr ⟨lw_p8, List.forall_mem_cons.mpr ⟨lw_p9, List.forall_mem_cons.mpr ⟨lw_p10, List.forall_mem_cons.mpr ⟨lw_p11, List.forall_mem_cons.mpr ⟨lw_p12, List.forall_mem_cons.mpr ⟨lw_p13, List.forall_mem_cons.mpr ⟨lw_p14, List.forall_mem_cons.mpr ⟨lw_p15, fun _ h => absurd h List.not_mem_nil⟩⟩⟩⟩⟩⟩⟩⟩⟩⟩⟩⟩⟩⟩⟩⟩
theorem lw_p16 : lw_okq (⟨"GlyphPage$FontFile", "glyfIsSound", "(LGlyphPage$Shape;)Z"⟩, 16) := ⟨⟨by decide +kernel, by decide +kernel⟩, List.mem_of_getElem? (i := 291) (by decide +kernel), List.mem_of_getElem? (i := 436) (by decide +kernel), List.mem_of_getElem? (i := 437) (by decide +kernel)⟩
theorem lw_p17 : lw_okq (⟨"GlyphPage$Shape", "addGlyph", "(LGlyphPage$FontFile;II)Z"⟩, 10) := ⟨⟨by decide +kernel, by decide +kernel⟩, List.mem_of_getElem? (i := 23) (by decide +kernel), List.mem_of_getElem? (i := 444) (by decide +kernel), List.mem_of_getElem? (i := 445) (by decide +kernel)⟩
theorem lw_p18 : lw_okq (⟨"GlyphPage$Shape", "addParts", "(LGlyphPage$FontFile;I)Z"⟩, 10) := ⟨⟨by decide +kernel, by decide +kernel⟩, List.mem_of_getElem? (i := 23) (by decide +kernel), List.mem_of_getElem? (i := 462) (by decide +kernel), List.mem_of_getElem? (i := 463) (by decide +kernel)⟩
theorem lw_p19 : lw_okq (⟨"GlyphPage$Shape", "move", "(LGlyphPage$Part;I)Z"⟩, 10) := ⟨⟨by decide +kernel, by decide +kernel⟩, List.mem_of_getElem? (i := 23) (by decide +kernel), List.mem_of_getElem? (i := 479) (by decide +kernel), List.mem_of_getElem? (i := 480) (by decide +kernel)⟩
theorem lw_p20 : lw_okq (⟨"GlyphPage$Shape", "addContours", "(LGlyphPage$Reader;I)Z"⟩, 10) := ⟨⟨by decide +kernel, by decide +kernel⟩, List.mem_of_getElem? (i := 23) (by decide +kernel), List.mem_of_getElem? (i := 495) (by decide +kernel), List.mem_of_getElem? (i := 496) (by decide +kernel)⟩
theorem lw_p21 : lw_okq (⟨"GlyphPage$Shape", "readFlags", "(LGlyphPage$Reader;I)Z"⟩, 10) := ⟨⟨by decide +kernel, by decide +kernel⟩, List.mem_of_getElem? (i := 23) (by decide +kernel), List.mem_of_getElem? (i := 499) (by decide +kernel), List.mem_of_getElem? (i := 500) (by decide +kernel)⟩
theorem lw_p22 : lw_okq (⟨"GlyphPage$Shape", "readAxis", "(LGlyphPage$Reader;I[III)Z"⟩, 10) := ⟨⟨by decide +kernel, by decide +kernel⟩, List.mem_of_getElem? (i := 23) (by decide +kernel), List.mem_of_getElem? (i := 504) (by decide +kernel), List.mem_of_getElem? (i := 505) (by decide +kernel)⟩
theorem lw_p23 : lw_okq (⟨"GlyphPage$FontFile", "readKern", "()Z"⟩, 16) := ⟨⟨by decide +kernel, by decide +kernel⟩, List.mem_of_getElem? (i := 291) (by decide +kernel), List.mem_of_getElem? (i := 509) (by decide +kernel), List.mem_of_getElem? (i := 510) (by decide +kernel)⟩
theorem lw_p24 : lw_okq (⟨"GlyphPage$FontFile", "pairAt", "(I)J"⟩, 16) := ⟨⟨by decide +kernel, by decide +kernel⟩, List.mem_of_getElem? (i := 291) (by decide +kernel), List.mem_of_getElem? (i := 513) (by decide +kernel), List.mem_of_getElem? (i := 514) (by decide +kernel)⟩
theorem lw_p25 : lw_okq (⟨"GlyphPage$FontFile", "glyphInSegment", "(II)I"⟩, 16) := ⟨⟨by decide +kernel, by decide +kernel⟩, List.mem_of_getElem? (i := 291) (by decide +kernel), List.mem_of_getElem? (i := 530) (by decide +kernel), List.mem_of_getElem? (i := 531) (by decide +kernel)⟩
theorem lw_p26 : lw_okq (⟨"GlyphPage", "takesShape", "(I)Z"⟩, 9) := ⟨⟨by decide +kernel, by decide +kernel⟩, List.mem_of_getElem? (i := 15) (by decide +kernel), List.mem_of_getElem? (i := 543) (by decide +kernel), List.mem_of_getElem? (i := 544) (by decide +kernel)⟩
theorem lw_p27 : lw_okq (⟨"GlyphPage$Curves", "addContour", "([ZII)V"⟩, 13) := ⟨⟨by decide +kernel, by decide +kernel⟩, List.mem_of_getElem? (i := 127) (by decide +kernel), List.mem_of_getElem? (i := 586) (by decide +kernel), List.mem_of_getElem? (i := 587) (by decide +kernel)⟩
theorem lw_p28 : lw_okq (⟨"GlyphPage$Curves", "addLine", "(II)V"⟩, 13) := ⟨⟨by decide +kernel, by decide +kernel⟩, List.mem_of_getElem? (i := 127) (by decide +kernel), List.mem_of_getElem? (i := 590) (by decide +kernel), List.mem_of_getElem? (i := 591) (by decide +kernel)⟩
theorem lw_p29 : lw_okq (⟨"GlyphPage$Curves", "addBox", "(II)V"⟩, 13) := ⟨⟨by decide +kernel, by decide +kernel⟩, List.mem_of_getElem? (i := 127) (by decide +kernel), List.mem_of_getElem? (i := 594) (by decide +kernel), List.mem_of_getElem? (i := 595) (by decide +kernel)⟩
theorem lw_p30 : lw_okq (⟨"GlyphPage$Curves", "addBend", "(IIIII)V"⟩, 13) := ⟨⟨by decide +kernel, by decide +kernel⟩, List.mem_of_getElem? (i := 127) (by decide +kernel), List.mem_of_getElem? (i := 600) (by decide +kernel), List.mem_of_getElem? (i := 601) (by decide +kernel)⟩
theorem lw_p31 : lw_okq (⟨"GlyphPage", "ink", "(II)I"⟩, 9) := ⟨⟨by decide +kernel, by decide +kernel⟩, List.mem_of_getElem? (i := 15) (by decide +kernel), List.mem_of_getElem? (i := 647) (by decide +kernel), List.mem_of_getElem? (i := 648) (by decide +kernel)⟩
def lw_privs_2 : List (MethodName × Nat) := [(⟨"GlyphPage$FontFile", "glyfIsSound", "(LGlyphPage$Shape;)Z"⟩, 16), (⟨"GlyphPage$Shape", "addGlyph", "(LGlyphPage$FontFile;II)Z"⟩, 10), (⟨"GlyphPage$Shape", "addParts", "(LGlyphPage$FontFile;I)Z"⟩, 10), (⟨"GlyphPage$Shape", "move", "(LGlyphPage$Part;I)Z"⟩, 10), (⟨"GlyphPage$Shape", "addContours", "(LGlyphPage$Reader;I)Z"⟩, 10), (⟨"GlyphPage$Shape", "readFlags", "(LGlyphPage$Reader;I)Z"⟩, 10), (⟨"GlyphPage$Shape", "readAxis", "(LGlyphPage$Reader;I[III)Z"⟩, 10), (⟨"GlyphPage$FontFile", "readKern", "()Z"⟩, 16), (⟨"GlyphPage$FontFile", "pairAt", "(I)J"⟩, 16), (⟨"GlyphPage$FontFile", "glyphInSegment", "(II)I"⟩, 16), (⟨"GlyphPage", "takesShape", "(I)Z"⟩, 9), (⟨"GlyphPage$Curves", "addContour", "([ZII)V"⟩, 13), (⟨"GlyphPage$Curves", "addLine", "(II)V"⟩, 13), (⟨"GlyphPage$Curves", "addBox", "(II)V"⟩, 13), (⟨"GlyphPage$Curves", "addBend", "(IIIII)V"⟩, 13), (⟨"GlyphPage", "ink", "(II)I"⟩, 9)]
theorem lw_r2 : ∀ q ∈ lw_privs_2, lw_okq q := List.forall_mem_cons.mpr ⟨lw_p16, List.forall_mem_cons.mpr ⟨lw_p17, List.forall_mem_cons.mpr ⟨lw_p18, List.forall_mem_cons.mpr ⟨lw_p19, List.forall_mem_cons.mpr ⟨lw_p20, List.forall_mem_cons.mpr ⟨lw_p21, List.forall_mem_cons.mpr ⟨lw_p22, List.forall_mem_cons.mpr ⟨lw_p23, List.forall_mem_cons.mpr ⟨lw_p24, List.forall_mem_cons.mpr ⟨lw_p25, List.forall_mem_cons.mpr ⟨lw_p26, List.forall_mem_cons.mpr ⟨lw_p27, List.forall_mem_cons.mpr ⟨lw_p28, List.forall_mem_cons.mpr ⟨lw_p29, List.forall_mem_cons.mpr ⟨lw_p30, List.forall_mem_cons.mpr ⟨lw_p31, fun _ h => absurd h List.not_mem_nil⟩⟩⟩⟩⟩⟩⟩⟩⟩⟩⟩⟩⟩⟩⟩⟩
theorem lw_p32 : lw_okq (⟨"GlyphPage$Page", "fillRow", "(LGlyphPage$Curves;I)I"⟩, 5) := ⟨⟨by decide +kernel, by decide +kernel⟩, List.mem_of_getElem? (i := 214) (by decide +kernel), List.mem_of_getElem? (i := 666) (by decide +kernel), List.mem_of_getElem? (i := 667) (by decide +kernel)⟩
theorem lw_p33 : lw_okq (⟨"GlyphPage$Page", "touchStart", "(I)V"⟩, 5) := ⟨⟨by decide +kernel, by decide +kernel⟩, List.mem_of_getElem? (i := 214) (by decide +kernel), List.mem_of_getElem? (i := 674) (by decide +kernel), List.mem_of_getElem? (i := 675) (by decide +kernel)⟩
theorem lw_p34 : lw_okq (⟨"GlyphPage$Page", "touchFlat", "(LGlyphPage$Curves;I)V"⟩, 5) := ⟨⟨by decide +kernel, by decide +kernel⟩, List.mem_of_getElem? (i := 214) (by decide +kernel), List.mem_of_getElem? (i := 679) (by decide +kernel), List.mem_of_getElem? (i := 680) (by decide +kernel)⟩
theorem lw_p35 : lw_okq (⟨"GlyphPage$Page", "cross", "(LGlyphPage$Curves;III)V"⟩, 5) := ⟨⟨by decide +kernel, by decide +kernel⟩, List.mem_of_getElem? (i := 214) (by decide +kernel), List.mem_of_getElem? (i := 685) (by decide +kernel), List.mem_of_getElem? (i := 686) (by decide +kernel)⟩
theorem lw_p36 : lw_okq (⟨"GlyphPage$Page", "turnedPixels", "()J"⟩, 5) := ⟨⟨by decide +kernel, by decide +kernel⟩, List.mem_of_getElem? (i := 214) (by decide +kernel), List.mem_of_getElem? (i := 690) (by decide +kernel), List.mem_of_getElem? (i := 691) (by decide +kernel)⟩
theorem lw_p37 : lw_okq (⟨"GlyphPage$Lines", "lineStop", "([BIII)I"⟩, 7) := ⟨⟨by decide +kernel, by decide +kernel⟩, List.mem_of_getElem? (i := 180) (by decide +kernel), List.mem_of_getElem? (i := 717) (by decide +kernel), List.mem_of_getElem? (i := 718) (by decide +kernel)⟩
theorem lw_p38 : lw_okq (⟨"GlyphPage$Lines", "widthOf", "([BII)I"⟩, 7) := ⟨⟨by decide +kernel, by decide +kernel⟩, List.mem_of_getElem? (i := 180) (by decide +kernel), List.mem_of_getElem? (i := 724) (by decide +kernel), List.mem_of_getElem? (i := 725) (by decide +kernel)⟩
theorem lw_p39 : lw_okq (⟨"GlyphPageModel", "put", "(I)V"⟩, 22) := ⟨⟨by decide +kernel, by decide +kernel⟩, List.mem_of_getElem? (i := 763) (by decide +kernel), List.mem_of_getElem? (i := 928) (by decide +kernel), List.mem_of_getElem? (i := 929) (by decide +kernel)⟩
theorem lw_p40 : lw_okq (⟨"GlyphPageModel", "glyf", "(LGlyphPageModel$Font;)Z"⟩, 22) := ⟨⟨by decide +kernel, by decide +kernel⟩, List.mem_of_getElem? (i := 763) (by decide +kernel), List.mem_of_getElem? (i := 999) (by decide +kernel), List.mem_of_getElem? (i := 1000) (by decide +kernel)⟩
theorem lw_p41 : lw_okq (⟨"GlyphPageModel", "glyph", "(LGlyphPageModel$Font;II)Z"⟩, 22) := ⟨⟨by decide +kernel, by decide +kernel⟩, List.mem_of_getElem? (i := 763) (by decide +kernel), List.mem_of_getElem? (i := 1003) (by decide +kernel), List.mem_of_getElem? (i := 1004) (by decide +kernel)⟩
theorem lw_p42 : lw_okq (⟨"GlyphPageModel", "twoHere", "(LGlyphPageModel$Font;)I"⟩, 22) := ⟨⟨by decide +kernel, by decide +kernel⟩, List.mem_of_getElem? (i := 763) (by decide +kernel), List.mem_of_getElem? (i := 1008) (by decide +kernel), List.mem_of_getElem? (i := 1009) (by decide +kernel)⟩
theorem lw_p43 : lw_okq (⟨"GlyphPageModel", "byteHere", "(LGlyphPageModel$Font;)I"⟩, 22) := ⟨⟨by decide +kernel, by decide +kernel⟩, List.mem_of_getElem? (i := 763) (by decide +kernel), List.mem_of_getElem? (i := 1012) (by decide +kernel), List.mem_of_getElem? (i := 1013) (by decide +kernel)⟩
theorem lw_p44 : lw_okq (⟨"GlyphPageModel", "composite", "(LGlyphPageModel$Font;II)Z"⟩, 22) := ⟨⟨by decide +kernel, by decide +kernel⟩, List.mem_of_getElem? (i := 763) (by decide +kernel), List.mem_of_getElem? (i := 1016) (by decide +kernel), List.mem_of_getElem? (i := 1017) (by decide +kernel)⟩
theorem lw_p45 : lw_okq (⟨"GlyphPageModel", "simple", "(LGlyphPageModel$Font;II)Z"⟩, 22) := ⟨⟨by decide +kernel, by decide +kernel⟩, List.mem_of_getElem? (i := 763) (by decide +kernel), List.mem_of_getElem? (i := 1032) (by decide +kernel), List.mem_of_getElem? (i := 1033) (by decide +kernel)⟩
theorem lw_p46 : lw_okq (⟨"GlyphPageModel", "step", "(LGlyphPageModel$Font;III)I"⟩, 22) := ⟨⟨by decide +kernel, by decide +kernel⟩, List.mem_of_getElem? (i := 763) (by decide +kernel), List.mem_of_getElem? (i := 1036) (by decide +kernel), List.mem_of_getElem? (i := 1037) (by decide +kernel)⟩
theorem lw_p47 : lw_okq (⟨"GlyphPageModel", "is", "(I)Z"⟩, 22) := ⟨⟨by decide +kernel, by decide +kernel⟩, List.mem_of_getElem? (i := 763) (by decide +kernel), List.mem_of_getElem? (i := 1063) (by decide +kernel), List.mem_of_getElem? (i := 1064) (by decide +kernel)⟩
def lw_privs_3 : List (MethodName × Nat) := [(⟨"GlyphPage$Page", "fillRow", "(LGlyphPage$Curves;I)I"⟩, 5), (⟨"GlyphPage$Page", "touchStart", "(I)V"⟩, 5), (⟨"GlyphPage$Page", "touchFlat", "(LGlyphPage$Curves;I)V"⟩, 5), (⟨"GlyphPage$Page", "cross", "(LGlyphPage$Curves;III)V"⟩, 5), (⟨"GlyphPage$Page", "turnedPixels", "()J"⟩, 5), (⟨"GlyphPage$Lines", "lineStop", "([BIII)I"⟩, 7), (⟨"GlyphPage$Lines", "widthOf", "([BII)I"⟩, 7), (⟨"GlyphPageModel", "put", "(I)V"⟩, 22), (⟨"GlyphPageModel", "glyf", "(LGlyphPageModel$Font;)Z"⟩, 22), (⟨"GlyphPageModel", "glyph", "(LGlyphPageModel$Font;II)Z"⟩, 22), (⟨"GlyphPageModel", "twoHere", "(LGlyphPageModel$Font;)I"⟩, 22), (⟨"GlyphPageModel", "byteHere", "(LGlyphPageModel$Font;)I"⟩, 22), (⟨"GlyphPageModel", "composite", "(LGlyphPageModel$Font;II)Z"⟩, 22), (⟨"GlyphPageModel", "simple", "(LGlyphPageModel$Font;II)Z"⟩, 22), (⟨"GlyphPageModel", "step", "(LGlyphPageModel$Font;III)I"⟩, 22), (⟨"GlyphPageModel", "is", "(I)Z"⟩, 22)]
theorem lw_r3 : ∀ q ∈ lw_privs_3, lw_okq q := List.forall_mem_cons.mpr ⟨lw_p32, List.forall_mem_cons.mpr ⟨lw_p33, List.forall_mem_cons.mpr ⟨lw_p34, List.forall_mem_cons.mpr ⟨lw_p35, List.forall_mem_cons.mpr ⟨lw_p36, List.forall_mem_cons.mpr ⟨lw_p37, List.forall_mem_cons.mpr ⟨lw_p38, List.forall_mem_cons.mpr ⟨lw_p39, List.forall_mem_cons.mpr ⟨lw_p40, List.forall_mem_cons.mpr ⟨lw_p41, List.forall_mem_cons.mpr ⟨lw_p42, List.forall_mem_cons.mpr ⟨lw_p43, List.forall_mem_cons.mpr ⟨lw_p44, List.forall_mem_cons.mpr ⟨lw_p45, List.forall_mem_cons.mpr ⟨lw_p46, List.forall_mem_cons.mpr ⟨lw_p47, fun _ h => absurd h List.not_mem_nil⟩⟩⟩⟩⟩⟩⟩⟩⟩⟩⟩⟩⟩⟩⟩⟩
theorem lw_p48 : lw_okq (⟨"GlyphPageModel", "advance", "(I)I"⟩, 22) := ⟨⟨by decide +kernel, by decide +kernel⟩, List.mem_of_getElem? (i := 763) (by decide +kernel), List.mem_of_getElem? (i := 1067) (by decide +kernel), List.mem_of_getElem? (i := 1068) (by decide +kernel)⟩
theorem lw_p49 : lw_okq (⟨"GlyphPageModel", "place", "(III)Z"⟩, 22) := ⟨⟨by decide +kernel, by decide +kernel⟩, List.mem_of_getElem? (i := 763) (by decide +kernel), List.mem_of_getElem? (i := 1084) (by decide +kernel), List.mem_of_getElem? (i := 1085) (by decide +kernel)⟩
theorem lw_p50 : lw_okq (⟨"GlyphPageModel", "scaled", "(I)I"⟩, 22) := ⟨⟨by decide +kernel, by decide +kernel⟩, List.mem_of_getElem? (i := 763) (by decide +kernel), List.mem_of_getElem? (i := 1088) (by decide +kernel), List.mem_of_getElem? (i := 1089) (by decide +kernel)⟩
theorem lw_p51 : lw_okq (⟨"GlyphPageModel", "go", "(IJJ)V"⟩, 22) := ⟨⟨by decide +kernel, by decide +kernel⟩, List.mem_of_getElem? (i := 763) (by decide +kernel), List.mem_of_getElem? (i := 1095) (by decide +kernel), List.mem_of_getElem? (i := 1096) (by decide +kernel)⟩
theorem lw_p52 : lw_okq (⟨"GlyphPageModel", "around", "(IIIJJ)V"⟩, 22) := ⟨⟨by decide +kernel, by decide +kernel⟩, List.mem_of_getElem? (i := 763) (by decide +kernel), List.mem_of_getElem? (i := 1099) (by decide +kernel), List.mem_of_getElem? (i := 1100) (by decide +kernel)⟩
theorem lw_p53 : lw_okq (⟨"GlyphPageModel", "line", "(JJJJ)V"⟩, 22) := ⟨⟨by decide +kernel, by decide +kernel⟩, List.mem_of_getElem? (i := 763) (by decide +kernel), List.mem_of_getElem? (i := 1103) (by decide +kernel), List.mem_of_getElem? (i := 1104) (by decide +kernel)⟩
theorem lw_p54 : lw_okq (⟨"GlyphPageModel", "cross", "(ZZI)V"⟩, 22) := ⟨⟨by decide +kernel, by decide +kernel⟩, List.mem_of_getElem? (i := 763) (by decide +kernel), List.mem_of_getElem? (i := 1110) (by decide +kernel), List.mem_of_getElem? (i := 1111) (by decide +kernel)⟩
theorem lw_p55 : lw_okq (⟨"GlyphPageModel", "curve", "(JJJJJJ)V"⟩, 22) := ⟨⟨by decide +kernel, by decide +kernel⟩, List.mem_of_getElem? (i := 763) (by decide +kernel), List.mem_of_getElem? (i := 1114) (by decide +kernel), List.mem_of_getElem? (i := 1115) (by decide +kernel)⟩
theorem lw_p56 : lw_okq (⟨"GlyphPageModel", "through", "(JJJ)Z"⟩, 22) := ⟨⟨by decide +kernel, by decide +kernel⟩, List.mem_of_getElem? (i := 763) (by decide +kernel), List.mem_of_getElem? (i := 1121) (by decide +kernel), List.mem_of_getElem? (i := 1122) (by decide +kernel)⟩
theorem lw_p57 : lw_okq (⟨"GlyphPageModel", "side", "(JJJJJJI)I"⟩, 22) := ⟨⟨by decide +kernel, by decide +kernel⟩, List.mem_of_getElem? (i := 763) (by decide +kernel), List.mem_of_getElem? (i := 1132) (by decide +kernel), List.mem_of_getElem? (i := 1133) (by decide +kernel)⟩
theorem lw_p58 : lw_okq (⟨"GlyphPageModel", "signOf", "(JJJ)I"⟩, 22) := ⟨⟨by decide +kernel, by decide +kernel⟩, List.mem_of_getElem? (i := 763) (by decide +kernel), List.mem_of_getElem? (i := 1136) (by decide +kernel), List.mem_of_getElem? (i := 1137) (by decide +kernel)⟩
theorem lw_p59 : lw_okq (⟨"GlyphPageModel", "compare", "(JJJ)I"⟩, 22) := ⟨⟨by decide +kernel, by decide +kernel⟩, List.mem_of_getElem? (i := 763) (by decide +kernel), List.mem_of_getElem? (i := 1140) (by decide +kernel), List.mem_of_getElem? (i := 1141) (by decide +kernel)⟩
theorem lw_p60 : lw_okq (⟨"GlyphPageModel", "lineEnd", "(III)I"⟩, 22) := ⟨⟨by decide +kernel, by decide +kernel⟩, List.mem_of_getElem? (i := 763) (by decide +kernel), List.mem_of_getElem? (i := 1154) (by decide +kernel), List.mem_of_getElem? (i := 1155) (by decide +kernel)⟩
theorem lw_p61 : lw_okq (⟨"GlyphPageModel", "mayEnd", "(II)Z"⟩, 22) := ⟨⟨by decide +kernel, by decide +kernel⟩, List.mem_of_getElem? (i := 763) (by decide +kernel), List.mem_of_getElem? (i := 1158) (by decide +kernel), List.mem_of_getElem? (i := 1159) (by decide +kernel)⟩
theorem lw_p62 : lw_okq (⟨"GlyphPageModel", "widthOf", "(II)I"⟩, 22) := ⟨⟨by decide +kernel, by decide +kernel⟩, List.mem_of_getElem? (i := 763) (by decide +kernel), List.mem_of_getElem? (i := 1162) (by decide +kernel), List.mem_of_getElem? (i := 1163) (by decide +kernel)⟩
def lw_privs_4 : List (MethodName × Nat) := [(⟨"GlyphPageModel", "advance", "(I)I"⟩, 22), (⟨"GlyphPageModel", "place", "(III)Z"⟩, 22), (⟨"GlyphPageModel", "scaled", "(I)I"⟩, 22), (⟨"GlyphPageModel", "go", "(IJJ)V"⟩, 22), (⟨"GlyphPageModel", "around", "(IIIJJ)V"⟩, 22), (⟨"GlyphPageModel", "line", "(JJJJ)V"⟩, 22), (⟨"GlyphPageModel", "cross", "(ZZI)V"⟩, 22), (⟨"GlyphPageModel", "curve", "(JJJJJJ)V"⟩, 22), (⟨"GlyphPageModel", "through", "(JJJ)Z"⟩, 22), (⟨"GlyphPageModel", "side", "(JJJJJJI)I"⟩, 22), (⟨"GlyphPageModel", "signOf", "(JJJ)I"⟩, 22), (⟨"GlyphPageModel", "compare", "(JJJ)I"⟩, 22), (⟨"GlyphPageModel", "lineEnd", "(III)I"⟩, 22), (⟨"GlyphPageModel", "mayEnd", "(II)Z"⟩, 22), (⟨"GlyphPageModel", "widthOf", "(II)I"⟩, 22)]
theorem lw_r4 : ∀ q ∈ lw_privs_4, lw_okq q := List.forall_mem_cons.mpr ⟨lw_p48, List.forall_mem_cons.mpr ⟨lw_p49, List.forall_mem_cons.mpr ⟨lw_p50, List.forall_mem_cons.mpr ⟨lw_p51, List.forall_mem_cons.mpr ⟨lw_p52, List.forall_mem_cons.mpr ⟨lw_p53, List.forall_mem_cons.mpr ⟨lw_p54, List.forall_mem_cons.mpr ⟨lw_p55, List.forall_mem_cons.mpr ⟨lw_p56, List.forall_mem_cons.mpr ⟨lw_p57, List.forall_mem_cons.mpr ⟨lw_p58, List.forall_mem_cons.mpr ⟨lw_p59, List.forall_mem_cons.mpr ⟨lw_p60, List.forall_mem_cons.mpr ⟨lw_p61, List.forall_mem_cons.mpr ⟨lw_p62, fun _ h => absurd h List.not_mem_nil⟩⟩⟩⟩⟩⟩⟩⟩⟩⟩⟩⟩⟩⟩⟩
def lw_privs : List (MethodName × Nat) := lw_privs_1 ++ (lw_privs_2 ++ (lw_privs_3 ++ (lw_privs_4)))
def lw_tbl : List Cond := k2_sels lw_privs ++ tables_1
theorem lw_privs_ok : ∀ q ∈ lw_privs, lw_okq q := by
  show ∀ q ∈ lw_privs_1 ++ (lw_privs_2 ++ (lw_privs_3 ++ (lw_privs_4))), lw_okq q
  exact List.forall_mem_append.mpr ⟨lw_r1, List.forall_mem_append.mpr ⟨lw_r2, List.forall_mem_append.mpr ⟨lw_r3, lw_r4⟩⟩⟩
def G : List Cond := lw_tbl.filter goodWord
theorem G_good : ∀ w ∈ G, goodWord w = true := fun _ h => (List.mem_filter.mp h).2
theorem G_tbl : ∀ w ∈ G, w ∈ lw_tbl := fun _ h => (List.mem_filter.mp h).1
theorem inG {w : Cond} (h : w ∈ tables_1) (hg : goodWord w = true) : w ∈ G := List.mem_filter.mpr ⟨List.mem_append_right _ h, hg⟩
theorem inGp {q : MethodName × Nat} (h : q ∈ lw_privs) (hg : goodWord (Cond.selects q.1.cls q.1 q.1) = true) : Cond.selects q.1.cls q.1 q.1 ∈ G := List.mem_filter.mpr ⟨List.mem_append_left _ (List.mem_map.mpr ⟨q, h, rfl⟩), hg⟩
theorem inT1 {w : Cond} (h : w ∈ tables_1_1) : w ∈ tables_1 := List.mem_append_left _ h
theorem inT2 {w : Cond} (h : w ∈ tables_1_2) : w ∈ tables_1 := List.mem_append_right _ (List.mem_append_left _ h)
theorem inT3 {w : Cond} (h : w ∈ tables_1_3) : w ∈ tables_1 := List.mem_append_right _ (List.mem_append_right _ (List.mem_append_left _ h))
theorem inT4 {w : Cond} (h : w ∈ tables_1_4) : w ∈ tables_1 := List.mem_append_right _ (List.mem_append_right _ (List.mem_append_right _ (List.mem_append_left _ h)))
theorem inT5 {w : Cond} (h : w ∈ tables_1_5) : w ∈ tables_1 := List.mem_append_right _ (List.mem_append_right _ (List.mem_append_right _ (List.mem_append_right _ (h))))
def F_Rd : u_T := fun k => match k with
  | 0 => ("GlyphPage$Reader", "bytes", "[B", false)
  | 1 => ("GlyphPage$Reader", "place", "I", false)
  | 2 => ("GlyphPage$Reader", "limit", "I", false)
  | _ => ("GlyphPage$Reader", "whole", "Z", false)
def t_Rd : Nat → FieldType := fun k => match k with
  | 0 => .array .byte
  | 1 => .int
  | 2 => .int
  | _ => .boolean
theorem n_Rd : ∀ a, a < 4 → ∀ b, b < 4 → a ≠ b → (F_Rd a).2.1 ≠ (F_Rd b).2.1 := by decide +kernel
theorem t_Rd_ok : ∀ k, k < 4 → parseFieldDescriptor (F_Rd k).2.2.1 = some (t_Rd k) := by decide +kernel
theorem iG_Rd : ∀ w ∈ u_ws "GlyphPage$Reader" F_Rd 4, w ∈ G := by
  intro w hw
  obtain ⟨k, hk, rfl⟩ := List.mem_map.mp hw
  have hk := List.mem_range.mp hk
  match k, hk with
  | 0, _ => exact inG (inT1 (List.mem_of_getElem? (i := 41) rfl)) rfl
  | 1, _ => exact inG (inT1 (List.mem_of_getElem? (i := 43) rfl)) rfl
  | 2, _ => exact inG (inT1 (List.mem_of_getElem? (i := 45) rfl)) rfl
  | 3, _ => exact inG (inT1 (List.mem_of_getElem? (i := 47) rfl)) rfl
  | k + 4, hk => exact absurd hk (by omega)
def F_Pt : u_T := fun k => match k with
  | 0 => ("GlyphPage$Part", "glyph", "I", false)
  | 1 => ("GlyphPage$Part", "isLast", "Z", false)
  | 2 => ("GlyphPage$Part", "dx", "I", false)
  | 3 => ("GlyphPage$Part", "dy", "I", false)
  | 4 => ("GlyphPage$Part", "a", "I", false)
  | 5 => ("GlyphPage$Part", "b", "I", false)
  | 6 => ("GlyphPage$Part", "c", "I", false)
  | _ => ("GlyphPage$Part", "d", "I", false)
def t_Pt : Nat → FieldType := fun k => match k with
  | 0 => .int
  | 1 => .boolean
  | 2 => .int
  | 3 => .int
  | 4 => .int
  | 5 => .int
  | 6 => .int
  | _ => .int
theorem n_Pt : ∀ a, a < 8 → ∀ b, b < 8 → a ≠ b → (F_Pt a).2.1 ≠ (F_Pt b).2.1 := by decide +kernel
theorem t_Pt_ok : ∀ k, k < 8 → parseFieldDescriptor (F_Pt k).2.2.1 = some (t_Pt k) := by decide +kernel
theorem iG_Pt : ∀ w ∈ u_ws "GlyphPage$Part" F_Pt 8, w ∈ G := by
  intro w hw
  obtain ⟨k, hk, rfl⟩ := List.mem_map.mp hw
  have hk := List.mem_range.mp hk
  match k, hk with
  | 0, _ => exact inG (inT1 (List.mem_of_getElem? (i := 67) rfl)) rfl
  | 1, _ => exact inG (inT1 (List.mem_of_getElem? (i := 69) rfl)) rfl
  | 2, _ => exact inG (inT1 (List.mem_of_getElem? (i := 71) rfl)) rfl
  | 3, _ => exact inG (inT1 (List.mem_of_getElem? (i := 73) rfl)) rfl
  | 4, _ => exact inG (inT1 (List.mem_of_getElem? (i := 75) rfl)) rfl
  | 5, _ => exact inG (inT1 (List.mem_of_getElem? (i := 77) rfl)) rfl
  | 6, _ => exact inG (inT1 (List.mem_of_getElem? (i := 79) rfl)) rfl
  | 7, _ => exact inG (inT1 (List.mem_of_getElem? (i := 81) rfl)) rfl
  | k + 8, hk => exact absurd hk (by omega)
def F_Sh : u_T := fun k => match k with
  | 0 => ("GlyphPage$Shape", "xs", "[I", true)
  | 1 => ("GlyphPage$Shape", "ys", "[I", true)
  | 2 => ("GlyphPage$Shape", "on", "[Z", true)
  | 3 => ("GlyphPage$Shape", "lasts", "[I", true)
  | 4 => ("GlyphPage$Shape", "points", "I", false)
  | 5 => ("GlyphPage$Shape", "contours", "I", false)
  | 6 => ("GlyphPage$Shape", "parts", "I", false)
  | 7 => ("GlyphPage$Shape", "flags", "[I", true)
  | 8 => ("GlyphPage$Shape", "readers", "[LGlyphPage$Reader;", true)
  | _ => ("GlyphPage$Shape", "moves", "[LGlyphPage$Part;", true)
def t_Sh : Nat → FieldType := fun k => match k with
  | 0 => .array .int
  | 1 => .array .int
  | 2 => .array .boolean
  | 3 => .array .int
  | 4 => .int
  | 5 => .int
  | 6 => .int
  | 7 => .array .int
  | 8 => .array (.object "GlyphPage$Reader")
  | _ => .array (.object "GlyphPage$Part")
theorem n_Sh : ∀ a, a < 10 → ∀ b, b < 10 → a ≠ b → (F_Sh a).2.1 ≠ (F_Sh b).2.1 := by decide +kernel
theorem t_Sh_ok : ∀ k, k < 10 → parseFieldDescriptor (F_Sh k).2.2.1 = some (t_Sh k) := by decide +kernel
theorem iG_Sh : ∀ w ∈ u_ws "GlyphPage$Shape" F_Sh 10, w ∈ G := by
  intro w hw
  obtain ⟨k, hk, rfl⟩ := List.mem_map.mp hw
  have hk := List.mem_range.mp hk
  match k, hk with
  | 0, _ => exact inG (inT1 (List.mem_of_getElem? (i := 105) rfl)) rfl
  | 1, _ => exact inG (inT1 (List.mem_of_getElem? (i := 107) rfl)) rfl
  | 2, _ => exact inG (inT1 (List.mem_of_getElem? (i := 109) rfl)) rfl
  | 3, _ => exact inG (inT1 (List.mem_of_getElem? (i := 111) rfl)) rfl
  | 4, _ => exact inG (inT1 (List.mem_of_getElem? (i := 113) rfl)) rfl
  | 5, _ => exact inG (inT1 (List.mem_of_getElem? (i := 115) rfl)) rfl
  | 6, _ => exact inG (inT1 (List.mem_of_getElem? (i := 117) rfl)) rfl
  | 7, _ => exact inG (inT1 (List.mem_of_getElem? (i := 119) rfl)) rfl
  | 8, _ => exact inG (inT1 (List.mem_of_getElem? (i := 121) rfl)) rfl
  | 9, _ => exact inG (inT1 (List.mem_of_getElem? (i := 123) rfl)) rfl
  | k + 10, hk => exact absurd hk (by omega)
def F_Cv : u_T := fun k => match k with
  | 0 => ("GlyphPage$Curves", "startX", "[I", true)
  | 1 => ("GlyphPage$Curves", "startY", "[I", true)
  | 2 => ("GlyphPage$Curves", "left", "[I", true)
  | 3 => ("GlyphPage$Curves", "right", "[I", true)
  | 4 => ("GlyphPage$Curves", "top", "[I", true)
  | 5 => ("GlyphPage$Curves", "bottom", "[I", true)
  | 6 => ("GlyphPage$Curves", "count", "I", false)
  | 7 => ("GlyphPage$Curves", "slopeX", "[I", true)
  | 8 => ("GlyphPage$Curves", "slopeY", "[I", true)
  | 9 => ("GlyphPage$Curves", "squareX", "[I", true)
  | 10 => ("GlyphPage$Curves", "squareY", "[I", true)
  | 11 => ("GlyphPage$Curves", "placedX", "[I", true)
  | _ => ("GlyphPage$Curves", "placedY", "[I", true)
def t_Cv : Nat → FieldType := fun k => match k with
  | 0 => .array .int
  | 1 => .array .int
  | 2 => .array .int
  | 3 => .array .int
  | 4 => .array .int
  | 5 => .array .int
  | 6 => .int
  | 7 => .array .int
  | 8 => .array .int
  | 9 => .array .int
  | 10 => .array .int
  | 11 => .array .int
  | _ => .array .int
theorem n_Cv : ∀ a, a < 13 → ∀ b, b < 13 → a ≠ b → (F_Cv a).2.1 ≠ (F_Cv b).2.1 := by decide +kernel
theorem t_Cv_ok : ∀ k, k < 13 → parseFieldDescriptor (F_Cv k).2.2.1 = some (t_Cv k) := by decide +kernel
theorem iG_Cv : ∀ w ∈ u_ws "GlyphPage$Curves" F_Cv 13, w ∈ G := by
  intro w hw
  obtain ⟨k, hk, rfl⟩ := List.mem_map.mp hw
  have hk := List.mem_range.mp hk
  match k, hk with
  | 0, _ => exact inG (inT1 (List.mem_of_getElem? (i := 152) rfl)) rfl
  | 1, _ => exact inG (inT1 (List.mem_of_getElem? (i := 154) rfl)) rfl
  | 2, _ => exact inG (inT1 (List.mem_of_getElem? (i := 156) rfl)) rfl
  | 3, _ => exact inG (inT1 (List.mem_of_getElem? (i := 158) rfl)) rfl
  | 4, _ => exact inG (inT1 (List.mem_of_getElem? (i := 160) rfl)) rfl
  | 5, _ => exact inG (inT1 (List.mem_of_getElem? (i := 162) rfl)) rfl
  | 6, _ => exact inG (inT1 (List.mem_of_getElem? (i := 164) rfl)) rfl
  | 7, _ => exact inG (inT1 (List.mem_of_getElem? (i := 166) rfl)) rfl
  | 8, _ => exact inG (inT1 (List.mem_of_getElem? (i := 168) rfl)) rfl
  | 9, _ => exact inG (inT1 (List.mem_of_getElem? (i := 170) rfl)) rfl
  | 10, _ => exact inG (inT1 (List.mem_of_getElem? (i := 172) rfl)) rfl
  | 11, _ => exact inG (inT1 (List.mem_of_getElem? (i := 174) rfl)) rfl
  | 12, _ => exact inG (inT1 (List.mem_of_getElem? (i := 176) rfl)) rfl
  | k + 13, hk => exact absurd hk (by omega)
def F_Ln : u_T := fun k => match k with
  | 0 => ("GlyphPage$Lines", "begins", "[I", true)
  | 1 => ("GlyphPage$Lines", "ends", "[I", true)
  | 2 => ("GlyphPage$Lines", "widths", "[I", true)
  | 3 => ("GlyphPage$Lines", "count", "I", false)
  | 4 => ("GlyphPage$Lines", "glyphs", "[I", true)
  | 5 => ("GlyphPage$Lines", "places", "[I", true)
  | _ => ("GlyphPage$Lines", "advances", "[I", true)
def t_Ln : Nat → FieldType := fun k => match k with
  | 0 => .array .int
  | 1 => .array .int
  | 2 => .array .int
  | 3 => .int
  | 4 => .array .int
  | 5 => .array .int
  | _ => .array .int
theorem n_Ln : ∀ a, a < 7 → ∀ b, b < 7 → a ≠ b → (F_Ln a).2.1 ≠ (F_Ln b).2.1 := by decide +kernel
theorem t_Ln_ok : ∀ k, k < 7 → parseFieldDescriptor (F_Ln k).2.2.1 = some (t_Ln k) := by decide +kernel
theorem iG_Ln : ∀ w ∈ u_ws "GlyphPage$Lines" F_Ln 7, w ∈ G := by
  intro w hw
  obtain ⟨k, hk, rfl⟩ := List.mem_map.mp hw
  have hk := List.mem_range.mp hk
  match k, hk with
  | 0, _ => exact inG (inT1 (List.mem_of_getElem? (i := 198) rfl)) rfl
  | 1, _ => exact inG (inT1 (List.mem_of_getElem? (i := 200) rfl)) rfl
  | 2, _ => exact inG (inT1 (List.mem_of_getElem? (i := 202) rfl)) rfl
  | 3, _ => exact inG (inT1 (List.mem_of_getElem? (i := 204) rfl)) rfl
  | 4, _ => exact inG (inT1 (List.mem_of_getElem? (i := 206) rfl)) rfl
  | 5, _ => exact inG (inT1 (List.mem_of_getElem? (i := 208) rfl)) rfl
  | 6, _ => exact inG (inT1 (List.mem_of_getElem? (i := 210) rfl)) rfl
  | k + 7, hk => exact absurd hk (by omega)
def F_Pg : u_T := fun k => match k with
  | 0 => ("GlyphPage$Page", "width", "I", true)
  | 1 => ("GlyphPage$Page", "height", "I", true)
  | 2 => ("GlyphPage$Page", "rows", "[J", true)
  | 3 => ("GlyphPage$Page", "turns", "[I", true)
  | _ => ("GlyphPage$Page", "touched", "J", false)
def t_Pg : Nat → FieldType := fun k => match k with
  | 0 => .int
  | 1 => .int
  | 2 => .array .long
  | 3 => .array .int
  | _ => .long
theorem n_Pg : ∀ a, a < 5 → ∀ b, b < 5 → a ≠ b → (F_Pg a).2.1 ≠ (F_Pg b).2.1 := by decide +kernel
theorem t_Pg_ok : ∀ k, k < 5 → parseFieldDescriptor (F_Pg k).2.2.1 = some (t_Pg k) := by decide +kernel
theorem iG_Pg : ∀ w ∈ u_ws "GlyphPage$Page" F_Pg 5, w ∈ G := by
  intro w hw
  obtain ⟨k, hk, rfl⟩ := List.mem_map.mp hw
  have hk := List.mem_range.mp hk
  match k, hk with
  | 0, _ => exact inG (inT1 (List.mem_of_getElem? (i := 233) rfl)) rfl
  | 1, _ => exact inG (inT1 (List.mem_of_getElem? (i := 235) rfl)) rfl
  | 2, _ => exact inG (inT1 (List.mem_of_getElem? (i := 237) rfl)) rfl
  | 3, _ => exact inG (inT1 (List.mem_of_getElem? (i := 239) rfl)) rfl
  | 4, _ => exact inG (inT2 (List.mem_of_getElem? (i := 1) rfl)) rfl
  | k + 5, hk => exact absurd hk (by omega)
def F_Gp : u_T := fun k => match k with
  | 0 => ("GlyphPage", "page", "LGlyphPage$Page;", true)
  | 1 => ("GlyphPage", "shape", "LGlyphPage$Shape;", true)
  | 2 => ("GlyphPage", "curves", "LGlyphPage$Curves;", true)
  | 3 => ("GlyphPage", "lines", "LGlyphPage$Lines;", true)
  | 4 => ("GlyphPage", "tape", "[B", false)
  | 5 => ("GlyphPage", "spare", "[B", false)
  | 6 => ("GlyphPage", "tapeLength", "I", false)
  | 7 => ("GlyphPage", "face", "LGlyphPage$FontFile;", false)
  | _ => ("GlyphPage", "pixels", "I", false)
def t_Gp : Nat → FieldType := fun k => match k with
  | 0 => .object "GlyphPage$Page"
  | 1 => .object "GlyphPage$Shape"
  | 2 => .object "GlyphPage$Curves"
  | 3 => .object "GlyphPage$Lines"
  | 4 => .array .byte
  | 5 => .array .byte
  | 6 => .int
  | 7 => .object "GlyphPage$FontFile"
  | _ => .int
theorem n_Gp : ∀ a, a < 9 → ∀ b, b < 9 → a ≠ b → (F_Gp a).2.1 ≠ (F_Gp b).2.1 := by decide +kernel
theorem t_Gp_ok : ∀ k, k < 9 → parseFieldDescriptor (F_Gp k).2.2.1 = some (t_Gp k) := by decide +kernel
theorem iG_Gp : ∀ w ∈ u_ws "GlyphPage" F_Gp 9, w ∈ G := by
  intro w hw
  obtain ⟨k, hk, rfl⟩ := List.mem_map.mp hw
  have hk := List.mem_range.mp hk
  match k, hk with
  | 0, _ => exact inG (inT2 (List.mem_of_getElem? (i := 15) rfl)) rfl
  | 1, _ => exact inG (inT2 (List.mem_of_getElem? (i := 17) rfl)) rfl
  | 2, _ => exact inG (inT2 (List.mem_of_getElem? (i := 19) rfl)) rfl
  | 3, _ => exact inG (inT2 (List.mem_of_getElem? (i := 21) rfl)) rfl
  | 4, _ => exact inG (inT2 (List.mem_of_getElem? (i := 23) rfl)) rfl
  | 5, _ => exact inG (inT2 (List.mem_of_getElem? (i := 25) rfl)) rfl
  | 6, _ => exact inG (inT2 (List.mem_of_getElem? (i := 27) rfl)) rfl
  | 7, _ => exact inG (inT2 (List.mem_of_getElem? (i := 29) rfl)) rfl
  | 8, _ => exact inG (inT2 (List.mem_of_getElem? (i := 31) rfl)) rfl
  | k + 9, hk => exact absurd hk (by omega)
def F_Ff : u_T := fun k => match k with
  | 0 => ("GlyphPage$FontFile", "bytes", "[B", true)
  | 1 => ("GlyphPage$FontFile", "length", "I", true)
  | 2 => ("GlyphPage$FontFile", "starts", "[I", true)
  | 3 => ("GlyphPage$FontFile", "sizes", "[I", true)
  | 4 => ("GlyphPage$FontFile", "glyphStarts", "[I", true)
  | 5 => ("GlyphPage$FontFile", "units", "I", false)
  | 6 => ("GlyphPage$FontFile", "glyphs", "I", false)
  | 7 => ("GlyphPage$FontFile", "ascent", "I", false)
  | 8 => ("GlyphPage$FontFile", "descent", "I", false)
  | 9 => ("GlyphPage$FontFile", "gap", "I", false)
  | 10 => ("GlyphPage$FontFile", "longLoca", "Z", false)
  | 11 => ("GlyphPage$FontFile", "metrics", "I", false)
  | 12 => ("GlyphPage$FontFile", "codes", "I", false)
  | 13 => ("GlyphPage$FontFile", "codesSize", "I", false)
  | 14 => ("GlyphPage$FontFile", "segments", "I", false)
  | _ => ("GlyphPage$FontFile", "pairs", "I", false)
def t_Ff : Nat → FieldType := fun k => match k with
  | 0 => .array .byte
  | 1 => .int
  | 2 => .array .int
  | 3 => .array .int
  | 4 => .array .int
  | 5 => .int
  | 6 => .int
  | 7 => .int
  | 8 => .int
  | 9 => .int
  | 10 => .boolean
  | 11 => .int
  | 12 => .int
  | 13 => .int
  | 14 => .int
  | _ => .int
theorem n_Ff : ∀ a, a < 16 → ∀ b, b < 16 → a ≠ b → (F_Ff a).2.1 ≠ (F_Ff b).2.1 := by decide +kernel
theorem t_Ff_ok : ∀ k, k < 16 → parseFieldDescriptor (F_Ff k).2.2.1 = some (t_Ff k) := by decide +kernel
theorem iG_Ff : ∀ w ∈ u_ws "GlyphPage$FontFile" F_Ff 16, w ∈ G := by
  intro w hw
  obtain ⟨k, hk, rfl⟩ := List.mem_map.mp hw
  have hk := List.mem_range.mp hk
  match k, hk with
  | 0, _ => exact inG (inT2 (List.mem_of_getElem? (i := 84) rfl)) rfl
  | 1, _ => exact inG (inT2 (List.mem_of_getElem? (i := 86) rfl)) rfl
  | 2, _ => exact inG (inT2 (List.mem_of_getElem? (i := 88) rfl)) rfl
  | 3, _ => exact inG (inT2 (List.mem_of_getElem? (i := 90) rfl)) rfl
  | 4, _ => exact inG (inT2 (List.mem_of_getElem? (i := 92) rfl)) rfl
  | 5, _ => exact inG (inT2 (List.mem_of_getElem? (i := 94) rfl)) rfl
  | 6, _ => exact inG (inT2 (List.mem_of_getElem? (i := 96) rfl)) rfl
  | 7, _ => exact inG (inT2 (List.mem_of_getElem? (i := 98) rfl)) rfl
  | 8, _ => exact inG (inT2 (List.mem_of_getElem? (i := 100) rfl)) rfl
  | 9, _ => exact inG (inT2 (List.mem_of_getElem? (i := 102) rfl)) rfl
  | 10, _ => exact inG (inT2 (List.mem_of_getElem? (i := 104) rfl)) rfl
  | 11, _ => exact inG (inT2 (List.mem_of_getElem? (i := 106) rfl)) rfl
  | 12, _ => exact inG (inT2 (List.mem_of_getElem? (i := 108) rfl)) rfl
  | 13, _ => exact inG (inT2 (List.mem_of_getElem? (i := 110) rfl)) rfl
  | 14, _ => exact inG (inT2 (List.mem_of_getElem? (i := 112) rfl)) rfl
  | 15, _ => exact inG (inT2 (List.mem_of_getElem? (i := 114) rfl)) rfl
  | k + 16, hk => exact absurd hk (by omega)
def F_Mf : u_T := fun k => match k with
  | 0 => ("GlyphPageModel$Font", "file", "[B", true)
  | 1 => ("GlyphPageModel$Font", "size", "I", false)
  | 2 => ("GlyphPageModel$Font", "at", "[I", true)
  | 3 => ("GlyphPageModel$Font", "length", "[I", true)
  | 4 => ("GlyphPageModel$Font", "units", "I", false)
  | 5 => ("GlyphPageModel$Font", "form", "I", false)
  | 6 => ("GlyphPageModel$Font", "glyphs", "I", false)
  | 7 => ("GlyphPageModel$Font", "ascent", "I", false)
  | 8 => ("GlyphPageModel$Font", "descent", "I", false)
  | 9 => ("GlyphPageModel$Font", "gap", "I", false)
  | 10 => ("GlyphPageModel$Font", "metrics", "I", false)
  | 11 => ("GlyphPageModel$Font", "map", "I", false)
  | 12 => ("GlyphPageModel$Font", "mapLength", "I", false)
  | 13 => ("GlyphPageModel$Font", "segments", "I", false)
  | 14 => ("GlyphPageModel$Font", "done", "[Z", true)
  | 15 => ("GlyphPageModel$Font", "depth", "[I", true)
  | 16 => ("GlyphPageModel$Font", "parts", "[I", true)
  | 17 => ("GlyphPageModel$Font", "contours", "[I", true)
  | 18 => ("GlyphPageModel$Font", "points", "[I", true)
  | 19 => ("GlyphPageModel$Font", "x", "[I", true)
  | 20 => ("GlyphPageModel$Font", "y", "[I", true)
  | 21 => ("GlyphPageModel$Font", "on", "[Z", true)
  | _ => ("GlyphPageModel$Font", "contour", "[I", true)
def t_Mf : Nat → FieldType := fun k => match k with
  | 0 => .array .byte
  | 1 => .int
  | 2 => .array .int
  | 3 => .array .int
  | 4 => .int
  | 5 => .int
  | 6 => .int
  | 7 => .int
  | 8 => .int
  | 9 => .int
  | 10 => .int
  | 11 => .int
  | 12 => .int
  | 13 => .int
  | 14 => .array .boolean
  | 15 => .array .int
  | 16 => .array .int
  | 17 => .array .int
  | 18 => .array .int
  | 19 => .array .int
  | 20 => .array .int
  | 21 => .array .boolean
  | _ => .array .int
theorem n_Mf : ∀ a, a < 23 → ∀ b, b < 23 → a ≠ b → (F_Mf a).2.1 ≠ (F_Mf b).2.1 := by decide +kernel
theorem t_Mf_ok : ∀ k, k < 23 → parseFieldDescriptor (F_Mf k).2.2.1 = some (t_Mf k) := by decide +kernel
theorem iG_Mf : ∀ w ∈ u_ws "GlyphPageModel$Font" F_Mf 23, w ∈ G := by
  intro w hw
  obtain ⟨k, hk, rfl⟩ := List.mem_map.mp hw
  have hk := List.mem_range.mp hk
  match k, hk with
  | 0, _ => exact inG (inT4 (List.mem_of_getElem? (i := 89) rfl)) rfl
  | 1, _ => exact inG (inT4 (List.mem_of_getElem? (i := 91) rfl)) rfl
  | 2, _ => exact inG (inT4 (List.mem_of_getElem? (i := 93) rfl)) rfl
  | 3, _ => exact inG (inT4 (List.mem_of_getElem? (i := 95) rfl)) rfl
  | 4, _ => exact inG (inT4 (List.mem_of_getElem? (i := 97) rfl)) rfl
  | 5, _ => exact inG (inT4 (List.mem_of_getElem? (i := 99) rfl)) rfl
  | 6, _ => exact inG (inT4 (List.mem_of_getElem? (i := 101) rfl)) rfl
  | 7, _ => exact inG (inT4 (List.mem_of_getElem? (i := 103) rfl)) rfl
  | 8, _ => exact inG (inT4 (List.mem_of_getElem? (i := 105) rfl)) rfl
  | 9, _ => exact inG (inT4 (List.mem_of_getElem? (i := 107) rfl)) rfl
  | 10, _ => exact inG (inT4 (List.mem_of_getElem? (i := 109) rfl)) rfl
  | 11, _ => exact inG (inT4 (List.mem_of_getElem? (i := 111) rfl)) rfl
  | 12, _ => exact inG (inT4 (List.mem_of_getElem? (i := 113) rfl)) rfl
  | 13, _ => exact inG (inT4 (List.mem_of_getElem? (i := 115) rfl)) rfl
  | 14, _ => exact inG (inT4 (List.mem_of_getElem? (i := 117) rfl)) rfl
  | 15, _ => exact inG (inT4 (List.mem_of_getElem? (i := 119) rfl)) rfl
  | 16, _ => exact inG (inT4 (List.mem_of_getElem? (i := 121) rfl)) rfl
  | 17, _ => exact inG (inT4 (List.mem_of_getElem? (i := 123) rfl)) rfl
  | 18, _ => exact inG (inT4 (List.mem_of_getElem? (i := 125) rfl)) rfl
  | 19, _ => exact inG (inT4 (List.mem_of_getElem? (i := 127) rfl)) rfl
  | 20, _ => exact inG (inT4 (List.mem_of_getElem? (i := 129) rfl)) rfl
  | 21, _ => exact inG (inT4 (List.mem_of_getElem? (i := 131) rfl)) rfl
  | 22, _ => exact inG (inT4 (List.mem_of_getElem? (i := 133) rfl)) rfl
  | k + 23, hk => exact absurd hk (by omega)
def F_Mo : u_T := fun k => match k with
  | 0 => ("GlyphPageModel", "width", "I", true)
  | 1 => ("GlyphPageModel", "height", "I", true)
  | 2 => ("GlyphPageModel", "page", "[J", true)
  | 3 => ("GlyphPageModel", "tape", "[B", true)
  | 4 => ("GlyphPageModel", "tapeLength", "I", false)
  | 5 => ("GlyphPageModel", "font", "LGlyphPageModel$Font;", false)
  | 6 => ("GlyphPageModel", "spare", "LGlyphPageModel$Font;", false)
  | 7 => ("GlyphPageModel", "scale", "I", false)
  | 8 => ("GlyphPageModel", "lineFrom", "[I", true)
  | 9 => ("GlyphPageModel", "lineTo", "[I", true)
  | 10 => ("GlyphPageModel", "lineWidth", "[I", true)
  | 11 => ("GlyphPageModel", "lines", "I", false)
  | 12 => ("GlyphPageModel", "at", "I", false)
  | 13 => ("GlyphPageModel", "end", "I", false)
  | 14 => ("GlyphPageModel", "good", "Z", false)
  | 15 => ("GlyphPageModel", "flag", "[I", true)
  | 16 => ("GlyphPageModel", "px", "[J", true)
  | 17 => ("GlyphPageModel", "py", "[J", true)
  | 18 => ("GlyphPageModel", "touches", "Z", false)
  | 19 => ("GlyphPageModel", "first", "[J", true)
  | 20 => ("GlyphPageModel", "second", "[J", true)
  | _ => ("GlyphPageModel", "turns", "I", false)
def t_Mo : Nat → FieldType := fun k => match k with
  | 0 => .int
  | 1 => .int
  | 2 => .array .long
  | 3 => .array .byte
  | 4 => .int
  | 5 => .object "GlyphPageModel$Font"
  | 6 => .object "GlyphPageModel$Font"
  | 7 => .int
  | 8 => .array .int
  | 9 => .array .int
  | 10 => .array .int
  | 11 => .int
  | 12 => .int
  | 13 => .int
  | 14 => .boolean
  | 15 => .array .int
  | 16 => .array .long
  | 17 => .array .long
  | 18 => .boolean
  | 19 => .array .long
  | 20 => .array .long
  | _ => .int
theorem n_Mo : ∀ a, a < 22 → ∀ b, b < 22 → a ≠ b → (F_Mo a).2.1 ≠ (F_Mo b).2.1 := by decide +kernel
theorem t_Mo_ok : ∀ k, k < 22 → parseFieldDescriptor (F_Mo k).2.2.1 = some (t_Mo k) := by decide +kernel
theorem iG_Mo : ∀ w ∈ u_ws "GlyphPageModel" F_Mo 22, w ∈ G := by
  intro w hw
  obtain ⟨k, hk, rfl⟩ := List.mem_map.mp hw
  have hk := List.mem_range.mp hk
  match k, hk with
  | 0, _ => exact inG (inT4 (List.mem_of_getElem? (i := 158) rfl)) rfl
  | 1, _ => exact inG (inT4 (List.mem_of_getElem? (i := 160) rfl)) rfl
  | 2, _ => exact inG (inT4 (List.mem_of_getElem? (i := 162) rfl)) rfl
  | 3, _ => exact inG (inT4 (List.mem_of_getElem? (i := 164) rfl)) rfl
  | 4, _ => exact inG (inT4 (List.mem_of_getElem? (i := 166) rfl)) rfl
  | 5, _ => exact inG (inT4 (List.mem_of_getElem? (i := 168) rfl)) rfl
  | 6, _ => exact inG (inT4 (List.mem_of_getElem? (i := 170) rfl)) rfl
  | 7, _ => exact inG (inT4 (List.mem_of_getElem? (i := 172) rfl)) rfl
  | 8, _ => exact inG (inT4 (List.mem_of_getElem? (i := 174) rfl)) rfl
  | 9, _ => exact inG (inT4 (List.mem_of_getElem? (i := 176) rfl)) rfl
  | 10, _ => exact inG (inT4 (List.mem_of_getElem? (i := 178) rfl)) rfl
  | 11, _ => exact inG (inT4 (List.mem_of_getElem? (i := 180) rfl)) rfl
  | 12, _ => exact inG (inT4 (List.mem_of_getElem? (i := 182) rfl)) rfl
  | 13, _ => exact inG (inT4 (List.mem_of_getElem? (i := 184) rfl)) rfl
  | 14, _ => exact inG (inT4 (List.mem_of_getElem? (i := 186) rfl)) rfl
  | 15, _ => exact inG (inT4 (List.mem_of_getElem? (i := 188) rfl)) rfl
  | 16, _ => exact inG (inT4 (List.mem_of_getElem? (i := 190) rfl)) rfl
  | 17, _ => exact inG (inT4 (List.mem_of_getElem? (i := 192) rfl)) rfl
  | 18, _ => exact inG (inT4 (List.mem_of_getElem? (i := 194) rfl)) rfl
  | 19, _ => exact inG (inT4 (List.mem_of_getElem? (i := 196) rfl)) rfl
  | 20, _ => exact inG (inT4 (List.mem_of_getElem? (i := 198) rfl)) rfl
  | 21, _ => exact inG (inT4 (List.mem_of_getElem? (i := 200) rfl)) rfl
  | k + 22, hk => exact absurd hk (by omega)
abbrev classes : List vw_C := [("GlyphPage$Reader", F_Rd, 4), ("GlyphPage$Part", F_Pt, 8), ("GlyphPage$Shape", F_Sh, 10), ("GlyphPage$Curves", F_Cv, 13), ("GlyphPage$Lines", F_Ln, 7), ("GlyphPage$Page", F_Pg, 5), ("GlyphPage", F_Gp, 9), ("GlyphPage$FontFile", F_Ff, 16), ("GlyphPageModel$Font", F_Mf, 23), ("GlyphPageModel", F_Mo, 22)]
abbrev TY (cy : Nat → ClassId) : List (ClassId × FieldType) := [(cy 0, .int), (cy 1, .byte), (cy 2, .boolean), (cy 3, .long), (cy 4, .object "GlyphPage$Reader"), (cy 5, .object "GlyphPage$Part")]
def Cx (p : Program) (s : State) (m : MethodId) (args : Array Value) (meth : Method) (c : Code) (A : Nat → Prop) (dC : Nat → ClassId) (dI : Nat → Nat → Nat) (cy : Nat → ClassId) (cc : ByteArray) (n : Nat) (ret : Option FieldType) (own : String) : Prop :=
  p.tables.exec = Jvm.exec ∧ c.code = cc ∧ meth.sig.returnType = ret ∧ meth.locks = false ∧ c.maxLocals = n ∧ s.vm.findClass own = some m.cls ∧ (∀ w ∈ G, w.before args s = true) ∧ (∀ q : Nat, s.heap.size ≤ q → A q) ∧ va_K (dC, dI) classes (TY cy) s
theorem gC {w : Cond} (h : w ∈ G) : GoodIn G (w :: G) := fun x hx => by
  rcases List.mem_cons.mp hx with rfl | hx
  · exact ⟨h, good_of_word (G_good _ h)⟩
  · exact ⟨hx, good_of_word (G_good _ hx)⟩
theorem gV {own C : String} {idx n : Nat} {y : MethodName} {b : ByteArray} {r : Option FieldType} (h1 : Cond.methodLink own idx y ∈ G) (h2 : Cond.instanceMethod y ∈ G) (h3 : Cond.selects C y y ∈ G) (h4 : Cond.initialized C ∈ G) (h5 : Cond.code y b n r ∈ G) : GoodIn G (wsV own idx C y (Cond.code y b n r :: G)) := fun x hx => by
  unfold wsV at hx
  rcases List.mem_append.mp hx with hx | hx
  · have hm : x ∈ G := by
      rcases List.mem_cons.mp hx with rfl | hx
      · exact h1
      rcases List.mem_cons.mp hx with rfl | hx
      · exact h2
      rcases List.mem_cons.mp hx with rfl | hx
      · exact h3
      rcases List.mem_cons.mp hx with rfl | hx
      · exact h4
      · cases hx
    exact ⟨hm, good_of_word (G_good _ hm)⟩
  · exact gC h5 x hx
theorem gS {own : String} {idx n : Nat} {y : MethodName} {b : ByteArray} {r : Option FieldType} (h1 : Cond.methodLink own idx y ∈ G) (h2 : Cond.static y ∈ G) (h4 : Cond.initialized y.cls ∈ G) (h5 : Cond.code y b n r ∈ G) : GoodIn G (va_wsS own idx y (Cond.code y b n r :: G)) := fun x hx => by
  unfold va_wsS at hx
  rcases List.mem_append.mp hx with hx | hx
  · have hm : x ∈ G := by
      rcases List.mem_cons.mp hx with rfl | hx
      · exact h1
      rcases List.mem_cons.mp hx with rfl | hx
      · exact h2
      rcases List.mem_cons.mp hx with rfl | hx
      · exact h4
      · cases hx
    exact ⟨hm, good_of_word (G_good _ hm)⟩
  · exact gC h5 x hx
def fuel : Nat := 100000
def lp {σ ρ : Type} (body : (σ → Option ρ) → σ → Option ρ) : Nat → σ → Option ρ
  | 0, _ => none
  | n + 1, q => body (lp body n) q
def unp {α β γ : Type} (f : α → β → γ) (p : α × β) : γ := f p.1 p.2
def bd {α : Type} (i : Int32) (n : Nat) (k : Option α) : Option α := if i < 0 ∨ n ≤ i.toNatClampNeg then none else k
theorem bd_some {α : Type} {i : Int32} {n : Nat} {k : Option α} {r : α} (h : bd i n k = some r) : vp_in i n ∧ k = some r := by
  unfold bd at h
  split at h
  · cases h
  · exact ⟨‹_›, h⟩
def zb {α : Type} (v : Int32) (k : Option α) : Option α := if v = 0 ∨ v = 1 then k else none
theorem zb_some {α : Type} {v : Int32} {k : Option α} {r : α} (h : zb v k = some r) : (narrow .boolean (.int v) = .int v ∧ fits .boolean (.int v) = true) ∧ k = some r := by
  unfold zb at h
  split at h
  · rename_i hv
    rcases hv with rfl | rfl
    · exact ⟨⟨rfl, rfl⟩, h⟩
    · exact ⟨⟨rfl, rfl⟩, h⟩
  · cases h
def dzI {α : Type} (v : Int32) (k : Option α) : Option α := if v = 0 then none else k
theorem dzI_some {α : Type} {v : Int32} {k : Option α} {r : α} (h : dzI v k = some r) : ¬ v = 0 ∧ k = some r := by
  unfold dzI at h
  split at h
  · cases h
  · exact ⟨‹_›, h⟩
def dzJ {α : Type} (v : Int64) (k : Option α) : Option α := if v = 0 then none else k
theorem dzJ_some {α : Type} {v : Int64} {k : Option α} {r : α} (h : dzJ v k = some r) : ¬ v = 0 ∧ k = some r := by
  unfold dzJ at h
  split at h
  · cases h
  · exact ⟨‹_›, h⟩
