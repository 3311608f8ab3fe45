theorem mW20 : (Jvm.Cond.instanceMethod ({ cls := "java/lang/Object", name := "<init>", desc := "()V" } : Jvm.MethodName)) ∈ G := inG (inT1 (List.mem_of_getElem? (i := 20) rfl)) rfl
theorem mW21 : (Jvm.Cond.code ({ cls := "java/lang/Object", name := "<init>", desc := "()V" } : Jvm.MethodName) object_method_1_code (1 : Nat) (Option.none : Option Jvm.ClassFile.FieldType)) ∈ G := inG (inT1 (List.mem_of_getElem? (i := 21) rfl)) rfl
theorem mW36 : (Jvm.Cond.methodLink "GlyphPage$Reader" (1 : Nat) ({ cls := "java/lang/Object", name := "<init>", desc := "()V" } : Jvm.MethodName)) ∈ G := inG (inT1 (List.mem_of_getElem? (i := 36) rfl)) rfl
theorem mW50 : (Jvm.Cond.arrayClass Jvm.ClassFile.FieldType.int) ∈ G := inG (inT1 (List.mem_of_getElem? (i := 50) rfl)) rfl
theorem mW56 : (Jvm.Cond.methodLink "GlyphPage$Part" (1 : Nat) ({ cls := "java/lang/Object", name := "<init>", desc := "()V" } : Jvm.MethodName)) ∈ G := inG (inT1 (List.mem_of_getElem? (i := 56) rfl)) rfl
theorem mW224 : (Jvm.Cond.methodLink "GlyphPage$Page" (1 : Nat) ({ cls := "java/lang/Object", name := "<init>", desc := "()V" } : Jvm.MethodName)) ∈ G := inG (inT1 (List.mem_of_getElem? (i := 224) rfl)) rfl
theorem mW245 : (Jvm.Cond.arrayClass Jvm.ClassFile.FieldType.long) ∈ G := inG (inT2 (List.mem_of_getElem? (i := 5) rfl)) rfl
theorem mW295 : (Jvm.Cond.methodLink "GlyphPage$FontFile" (1 : Nat) ({ cls := "java/lang/Object", name := "<init>", desc := "()V" } : Jvm.MethodName)) ∈ G := inG (inT2 (List.mem_of_getElem? (i := 55) rfl)) rfl
theorem mW296 : (Jvm.Cond.methodLink "GlyphPage$FontFile" (61 : Nat) ({ cls := "java/util/Arrays", name := "fill", desc := "([II)V" } : Jvm.MethodName)) ∈ G := inG (inT2 (List.mem_of_getElem? (i := 56) rfl)) rfl
abbrev b_Rd_init : ByteArray := prog_7_method_1_code
def y_Rd_init : MethodName := ⟨"GlyphPage$Reader", "<init>", "()V"⟩
theorem d_Rd_init_0 : decode b_Rd_init 0 = .ok (.aload_n 0, 1) := by decide +kernel
theorem d_Rd_init_1 : decode b_Rd_init 1 = .ok (.invokespecial 1, 3) := by decide +kernel
theorem d_Rd_init_4 : decode b_Rd_init 4 = .ok (.aload_n 0, 1) := by decide +kernel
theorem d_Rd_init_5 : decode b_Rd_init 5 = .ok (.aconst_null, 1) := by decide +kernel
theorem d_Rd_init_6 : decode b_Rd_init 6 = .ok (.putfield 7, 3) := by decide +kernel
theorem d_Rd_init_9 : decode b_Rd_init 9 = .ok (.aload_n 0, 1) := by decide +kernel
theorem d_Rd_init_10 : decode b_Rd_init 10 = .ok (.iconst 0, 1) := by decide +kernel
theorem d_Rd_init_11 : decode b_Rd_init 11 = .ok (.putfield 13, 3) := by decide +kernel
theorem d_Rd_init_14 : decode b_Rd_init 14 = .ok (.aload_n 0, 1) := by decide +kernel
theorem d_Rd_init_15 : decode b_Rd_init 15 = .ok (.iconst 0, 1) := by decide +kernel
theorem d_Rd_init_16 : decode b_Rd_init 16 = .ok (.putfield 17, 3) := by decide +kernel
theorem d_Rd_init_19 : decode b_Rd_init 19 = .ok (.aload_n 0, 1) := by decide +kernel
theorem d_Rd_init_20 : decode b_Rd_init 20 = .ok (.iconst 1, 1) := by decide +kernel
theorem d_Rd_init_21 : decode b_Rd_init 21 = .ok (.putfield 20, 3) := by decide +kernel
theorem d_Rd_init_24 : decode b_Rd_init 24 = .ok (.return_, 1) := by decide +kernel
abbrev b_Pt_init : ByteArray := prog_6_method_1_code
def y_Pt_init : MethodName := ⟨"GlyphPage$Part", "<init>", "()V"⟩
theorem d_Pt_init_0 : decode b_Pt_init 0 = .ok (.aload_n 0, 1) := by decide +kernel
theorem d_Pt_init_1 : decode b_Pt_init 1 = .ok (.invokespecial 1, 3) := by decide +kernel
theorem d_Pt_init_4 : decode b_Pt_init 4 = .ok (.aload_n 0, 1) := by decide +kernel
theorem d_Pt_init_5 : decode b_Pt_init 5 = .ok (.iconst 0, 1) := by decide +kernel
theorem d_Pt_init_6 : decode b_Pt_init 6 = .ok (.putfield 7, 3) := by decide +kernel
theorem d_Pt_init_9 : decode b_Pt_init 9 = .ok (.aload_n 0, 1) := by decide +kernel
theorem d_Pt_init_10 : decode b_Pt_init 10 = .ok (.iconst 1, 1) := by decide +kernel
theorem d_Pt_init_11 : decode b_Pt_init 11 = .ok (.putfield 13, 3) := by decide +kernel
theorem d_Pt_init_14 : decode b_Pt_init 14 = .ok (.aload_n 0, 1) := by decide +kernel
theorem d_Pt_init_15 : decode b_Pt_init 15 = .ok (.iconst 0, 1) := by decide +kernel
theorem d_Pt_init_16 : decode b_Pt_init 16 = .ok (.putfield 17, 3) := by decide +kernel
theorem d_Pt_init_19 : decode b_Pt_init 19 = .ok (.aload_n 0, 1) := by decide +kernel
theorem d_Pt_init_20 : decode b_Pt_init 20 = .ok (.iconst 0, 1) := by decide +kernel
theorem d_Pt_init_21 : decode b_Pt_init 21 = .ok (.putfield 20, 3) := by decide +kernel
theorem d_Pt_init_24 : decode b_Pt_init 24 = .ok (.aload_n 0, 1) := by decide +kernel
theorem d_Pt_init_25 : decode b_Pt_init 25 = .ok (.sipush 16384, 3) := by decide +kernel
theorem d_Pt_init_28 : decode b_Pt_init 28 = .ok (.putfield 23, 3) := by decide +kernel
theorem d_Pt_init_31 : decode b_Pt_init 31 = .ok (.aload_n 0, 1) := by decide +kernel
theorem d_Pt_init_32 : decode b_Pt_init 32 = .ok (.iconst 0, 1) := by decide +kernel
theorem d_Pt_init_33 : decode b_Pt_init 33 = .ok (.putfield 26, 3) := by decide +kernel
theorem d_Pt_init_36 : decode b_Pt_init 36 = .ok (.aload_n 0, 1) := by decide +kernel
theorem d_Pt_init_37 : decode b_Pt_init 37 = .ok (.iconst 0, 1) := by decide +kernel
theorem d_Pt_init_38 : decode b_Pt_init 38 = .ok (.putfield 29, 3) := by decide +kernel
theorem d_Pt_init_41 : decode b_Pt_init 41 = .ok (.aload_n 0, 1) := by decide +kernel
theorem d_Pt_init_42 : decode b_Pt_init 42 = .ok (.sipush 16384, 3) := by decide +kernel
theorem d_Pt_init_45 : decode b_Pt_init 45 = .ok (.putfield 32, 3) := by decide +kernel
theorem d_Pt_init_48 : decode b_Pt_init 48 = .ok (.return_, 1) := by decide +kernel
abbrev b_Pg_init : ByteArray := prog_5_method_1_code
def y_Pg_init : MethodName := ⟨"GlyphPage$Page", "<init>", "(II)V"⟩
theorem d_Pg_init_0 : decode b_Pg_init 0 = .ok (.aload_n 0, 1) := by decide +kernel
theorem d_Pg_init_1 : decode b_Pg_init 1 = .ok (.invokespecial 1, 3) := by decide +kernel
theorem d_Pg_init_4 : decode b_Pg_init 4 = .ok (.aload_n 0, 1) := by decide +kernel
theorem d_Pg_init_5 : decode b_Pg_init 5 = .ok (.lconst 0, 1) := by decide +kernel
theorem d_Pg_init_6 : decode b_Pg_init 6 = .ok (.putfield 7, 3) := by decide +kernel
theorem d_Pg_init_9 : decode b_Pg_init 9 = .ok (.aload_n 0, 1) := by decide +kernel
theorem d_Pg_init_10 : decode b_Pg_init 10 = .ok (.iload_n 1, 1) := by decide +kernel
theorem d_Pg_init_11 : decode b_Pg_init 11 = .ok (.putfield 13, 3) := by decide +kernel
theorem d_Pg_init_14 : decode b_Pg_init 14 = .ok (.aload_n 0, 1) := by decide +kernel
theorem d_Pg_init_15 : decode b_Pg_init 15 = .ok (.iload_n 2, 1) := by decide +kernel
theorem d_Pg_init_16 : decode b_Pg_init 16 = .ok (.putfield 17, 3) := by decide +kernel
theorem d_Pg_init_19 : decode b_Pg_init 19 = .ok (.aload_n 0, 1) := by decide +kernel
theorem d_Pg_init_20 : decode b_Pg_init 20 = .ok (.iload_n 2, 1) := by decide +kernel
theorem d_Pg_init_21 : decode b_Pg_init 21 = .ok (.newarray .long, 2) := by decide +kernel
theorem d_Pg_init_23 : decode b_Pg_init 23 = .ok (.putfield 20, 3) := by decide +kernel
theorem d_Pg_init_26 : decode b_Pg_init 26 = .ok (.aload_n 0, 1) := by decide +kernel
theorem d_Pg_init_27 : decode b_Pg_init 27 = .ok (.iload_n 1, 1) := by decide +kernel
theorem d_Pg_init_28 : decode b_Pg_init 28 = .ok (.iconst 1, 1) := by decide +kernel
theorem d_Pg_init_29 : decode b_Pg_init 29 = .ok (.iadd, 1) := by decide +kernel
theorem d_Pg_init_30 : decode b_Pg_init 30 = .ok (.newarray .int, 2) := by decide +kernel
theorem d_Pg_init_32 : decode b_Pg_init 32 = .ok (.putfield 24, 3) := by decide +kernel
theorem d_Pg_init_35 : decode b_Pg_init 35 = .ok (.return_, 1) := by decide +kernel
abbrev b_Ff_init : ByteArray := prog_3_method_1_code
def y_Ff_init : MethodName := ⟨"GlyphPage$FontFile", "<init>", "([BI)V"⟩
theorem d_Ff_init_0 : decode b_Ff_init 0 = .ok (.aload_n 0, 1) := by decide +kernel
theorem d_Ff_init_1 : decode b_Ff_init 1 = .ok (.invokespecial 1, 3) := by decide +kernel
theorem d_Ff_init_4 : decode b_Ff_init 4 = .ok (.aload_n 0, 1) := by decide +kernel
theorem d_Ff_init_5 : decode b_Ff_init 5 = .ok (.bipush 8, 2) := by decide +kernel
theorem d_Ff_init_7 : decode b_Ff_init 7 = .ok (.newarray .int, 2) := by decide +kernel
theorem d_Ff_init_9 : decode b_Ff_init 9 = .ok (.putfield 9, 3) := by decide +kernel
theorem d_Ff_init_12 : decode b_Ff_init 12 = .ok (.aload_n 0, 1) := by decide +kernel
theorem d_Ff_init_13 : decode b_Ff_init 13 = .ok (.bipush 8, 2) := by decide +kernel
theorem d_Ff_init_15 : decode b_Ff_init 15 = .ok (.newarray .int, 2) := by decide +kernel
theorem d_Ff_init_17 : decode b_Ff_init 17 = .ok (.putfield 13, 3) := by decide +kernel
theorem d_Ff_init_20 : decode b_Ff_init 20 = .ok (.aload_n 0, 1) := by decide +kernel
theorem d_Ff_init_21 : decode b_Ff_init 21 = .ok (.bipush 65, 2) := by decide +kernel
theorem d_Ff_init_23 : decode b_Ff_init 23 = .ok (.newarray .int, 2) := by decide +kernel
theorem d_Ff_init_25 : decode b_Ff_init 25 = .ok (.putfield 16, 3) := by decide +kernel
theorem d_Ff_init_28 : decode b_Ff_init 28 = .ok (.aload_n 0, 1) := by decide +kernel
theorem d_Ff_init_29 : decode b_Ff_init 29 = .ok (.bipush 16, 2) := by decide +kernel
theorem d_Ff_init_31 : decode b_Ff_init 31 = .ok (.putfield 19, 3) := by decide +kernel
theorem d_Ff_init_34 : decode b_Ff_init 34 = .ok (.aload_n 0, 1) := by decide +kernel
theorem d_Ff_init_35 : decode b_Ff_init 35 = .ok (.iconst 0, 1) := by decide +kernel
theorem d_Ff_init_36 : decode b_Ff_init 36 = .ok (.putfield 23, 3) := by decide +kernel
theorem d_Ff_init_39 : decode b_Ff_init 39 = .ok (.aload_n 0, 1) := by decide +kernel
theorem d_Ff_init_40 : decode b_Ff_init 40 = .ok (.iconst 0, 1) := by decide +kernel
theorem d_Ff_init_41 : decode b_Ff_init 41 = .ok (.putfield 26, 3) := by decide +kernel
theorem d_Ff_init_44 : decode b_Ff_init 44 = .ok (.aload_n 0, 1) := by decide +kernel
theorem d_Ff_init_45 : decode b_Ff_init 45 = .ok (.iconst 0, 1) := by decide +kernel
theorem d_Ff_init_46 : decode b_Ff_init 46 = .ok (.putfield 29, 3) := by decide +kernel
theorem d_Ff_init_49 : decode b_Ff_init 49 = .ok (.aload_n 0, 1) := by decide +kernel
theorem d_Ff_init_50 : decode b_Ff_init 50 = .ok (.iconst 0, 1) := by decide +kernel
theorem d_Ff_init_51 : decode b_Ff_init 51 = .ok (.putfield 32, 3) := by decide +kernel
theorem d_Ff_init_54 : decode b_Ff_init 54 = .ok (.aload_n 0, 1) := by decide +kernel
theorem d_Ff_init_55 : decode b_Ff_init 55 = .ok (.iconst 0, 1) := by decide +kernel
theorem d_Ff_init_56 : decode b_Ff_init 56 = .ok (.putfield 35, 3) := by decide +kernel
theorem d_Ff_init_59 : decode b_Ff_init 59 = .ok (.aload_n 0, 1) := by decide +kernel
theorem d_Ff_init_60 : decode b_Ff_init 60 = .ok (.iconst 1, 1) := by decide +kernel
theorem d_Ff_init_61 : decode b_Ff_init 61 = .ok (.putfield 39, 3) := by decide +kernel
theorem d_Ff_init_64 : decode b_Ff_init 64 = .ok (.aload_n 0, 1) := by decide +kernel
theorem d_Ff_init_65 : decode b_Ff_init 65 = .ok (.iconst 0, 1) := by decide +kernel
theorem d_Ff_init_66 : decode b_Ff_init 66 = .ok (.putfield 42, 3) := by decide +kernel
theorem d_Ff_init_69 : decode b_Ff_init 69 = .ok (.aload_n 0, 1) := by decide +kernel
theorem d_Ff_init_70 : decode b_Ff_init 70 = .ok (.iconst 0, 1) := by decide +kernel
theorem d_Ff_init_71 : decode b_Ff_init 71 = .ok (.putfield 45, 3) := by decide +kernel
theorem d_Ff_init_74 : decode b_Ff_init 74 = .ok (.aload_n 0, 1) := by decide +kernel
theorem d_Ff_init_75 : decode b_Ff_init 75 = .ok (.iconst 0, 1) := by decide +kernel
theorem d_Ff_init_76 : decode b_Ff_init 76 = .ok (.putfield 48, 3) := by decide +kernel
theorem d_Ff_init_79 : decode b_Ff_init 79 = .ok (.aload_n 0, 1) := by decide +kernel
theorem d_Ff_init_80 : decode b_Ff_init 80 = .ok (.iconst 0, 1) := by decide +kernel
theorem d_Ff_init_81 : decode b_Ff_init 81 = .ok (.putfield 51, 3) := by decide +kernel
theorem d_Ff_init_84 : decode b_Ff_init 84 = .ok (.aload_n 0, 1) := by decide +kernel
theorem d_Ff_init_85 : decode b_Ff_init 85 = .ok (.aload_n 1, 1) := by decide +kernel
theorem d_Ff_init_86 : decode b_Ff_init 86 = .ok (.putfield 54, 3) := by decide +kernel
theorem d_Ff_init_89 : decode b_Ff_init 89 = .ok (.aload_n 0, 1) := by decide +kernel
theorem d_Ff_init_90 : decode b_Ff_init 90 = .ok (.iload_n 2, 1) := by decide +kernel
theorem d_Ff_init_91 : decode b_Ff_init 91 = .ok (.putfield 58, 3) := by decide +kernel
theorem d_Ff_init_94 : decode b_Ff_init 94 = .ok (.aload_n 0, 1) := by decide +kernel
theorem d_Ff_init_95 : decode b_Ff_init 95 = .ok (.getfield 13, 3) := by decide +kernel
theorem d_Ff_init_98 : decode b_Ff_init 98 = .ok (.iconst (-1), 1) := by decide +kernel
theorem d_Ff_init_99 : decode b_Ff_init 99 = .ok (.invokestatic 61, 3) := by decide +kernel
theorem d_Ff_init_102 : decode b_Ff_init 102 = .ok (.return_, 1) := by decide +kernel
section
variable {p : Program} {l : Launch} {e : Env} {s : State} {m : MethodId} {args : Array Value} {below : List Frame} {meth : Method} {c : Code} {A : Nat → Prop} {dC : Nat → ClassId} {dI : Nat → Nat → Nat} {cy : Nat → ClassId}
def P_Rd_init   : Option (Unit) :=
  some ()
set_option maxHeartbeats 4000000 in
set_option maxRecDepth 100000 in
theorem c_Rd_init (l : Launch) (dC : Nat → ClassId) (dI : Nat → Nat → Nat) (cy : Nat → ClassId) (sz : Nat) (o : Nat)   (uu : Unit) (h : P_Rd_init  = some uu) : Met l y_Rd_init (Cond.code y_Rd_init b_Rd_init 1 none :: G) ({ frames := 1, cells := 0, slots := 0, locals := 20 } : Room) (va_Pc [.ref o] (fun U => U.heap.size = sz ∧ va_P (dC, dI) classes [(o, .inr (0, [.null, .int (0 : Int32), .int (0 : Int32), .int (0 : Int32)]))] U.heap ∧ va_K (dC, dI) classes (TY cy) U ∧ va_D (fun _ => True) [(o, .inr (0, [.null, .int (0 : Int32), .int (0 : Int32), .int (0 : Int32)]))])) (va_Qv (fun _ : Unit => True) (fun _ t => va_P (dC, dI) classes [(o, .inr (0, [.null, .int (0 : Int32), .int (0 : Int32), .int (1 : Int32)]))] t.heap ∧ va_K (dC, dI) classes (TY cy) t ∧ va_D (va_A [(o, .inr (0, [.null, .int (0 : Int32), .int (0 : Int32), .int (0 : Int32)]))] sz) [(o, .inr (0, [.null, .int (0 : Int32), .int (0 : Int32), .int (1 : Int32)]))]) (va_A [(o, .inr (0, [.null, .int (0 : Int32), .int (0 : Int32), .int (0 : Int32)]))] sz)) 0 0 (va_A [(o, .inr (0, [.null, .int (0 : Int32), .int (0 : Int32), .int (0 : Int32)]))] sz) := by
  refine Met.ofW (cc := b_Rd_init) (maxL := 1) (ret := none) (by decide) rfl ?_
  intro p e s m args below meth c s₁ B hml hv
  obtain ⟨rfl, hsz, hP, hK, hD0⟩ := hv
  have hx := B.exec
  have hb := B.bytes
  have hr := B.returns
  have hts := atoms_spec (ws := Cond.code y_Rd_init b_Rd_init 1 none :: G) B.pre
  have htsG : ∀ w ∈ G, w.before _ s = true := fun w hw => hts w (List.mem_cons_of_mem _ hw)
  have hown : s.vm.findClass "GlyphPage$Reader" = some m.cls := findClass_of_methodNamed B.named
  have hlocks := B.notSynchronized
  have hin : meth.name = "<init>" := (name_of_methodNamed B.named B.method).1
  subst hsz
  have hD := hD0.self (sz := s.heap.size)
  generalize hAe : va_A [(o, .inr (0, [.null, .int (0 : Int32), .int (0 : Int32), .int (0 : Int32)]))] s.heap.size = A at hD ⊢
  have hA : ∀ q : Nat, s.heap.size ≤ q → A q := fun q h => by rw [← hAe]; exact Or.inr h
  have hS : va_S A s.heap s.heap [] := va_S.rf
  have hl := lv_entry ([.ref o]) (n := 1) (Nat.le_of_ble_eq_true rfl)
  rw [lg_entry_eq]
  generalize (lg_sl ([.ref o]) ++ List.replicate (1 - (lg_sl ([.ref o])).length) Slot.unset).toArray = ls at hl ⊢
  have hl : lv_has ls 1 [(0, .ref o)] := hl
  have C0 : Cx p s m _ meth c A dC dI cy b_Rd_init 1 none "GlyphPage$Reader" := ⟨hx, hb, hr, hlocks, hml, hown, htsG, hA, hK⟩
  unfold P_Rd_init at h
  refine lv_aload_n hx hb d_Rd_init_0 rfl (lv_at hl 0 rfl) ?_
  refine W.objInit hx hb hown (htsG _ mW36) (htsG _ mW20) (htsG _ mW21) rfl (by rw [hml]; exact hl.1) rfl d_Rd_init_1 (Nat.le_of_ble_eq_true rfl) (Nat.le_of_ble_eq_true rfl) ?_
  refine W.eq (g2 := F0 m 4 ls []) rfl ?_
  refine lv_aload_n hx hb d_Rd_init_4 rfl (lv_at hl 0 rfl) ?_
  refine lv_null hx hb d_Rd_init_5 ?_
  refine va_put (D := (dC, dI)) (ci := 0) (v := .null) (ty := .array .byte) (C := "GlyphPage$Reader") (T := F_Rd) (N := 4) hx hb htsG iG_Rd t_Rd t_Rd_ok n_Rd hown hK hP hD hS 0 rfl rfl 0 (by decide) (htsG _ mW37) (fun _ h9 => h9) rfl (by decide +kernel) rfl rfl (Nat.le_of_ble_eq_true rfl) d_Rd_init_6 (fun H locs hP hD hS => ?_)
  have hP : va_P (dC, dI) classes [(o, .inr (0, [.null, .int (0 : Int32), .int (0 : Int32), .int (0 : Int32)]))] H := hP
  have hD : va_D A [(o, .inr (0, [.null, .int (0 : Int32), .int (0 : Int32), .int (0 : Int32)]))] := hD
  refine lv_aload_n hx hb d_Rd_init_9 rfl (lv_at hl 0 rfl) ?_
  refine lv_iconst (v := (0 : Int32)) hx hb d_Rd_init_10 (by decide) ?_
  refine va_put (D := (dC, dI)) (ci := 0) (v := .int (0 : Int32)) (ty := .int) (C := "GlyphPage$Reader") (T := F_Rd) (N := 4) hx hb htsG iG_Rd t_Rd t_Rd_ok n_Rd hown hK hP hD hS 0 rfl rfl 1 (by decide) (htsG _ mW38) (fun _ h9 => h9) rfl (by decide +kernel) rfl rfl (Nat.le_of_ble_eq_true rfl) d_Rd_init_11 (fun H locs hP hD hS => ?_)
  have hP : va_P (dC, dI) classes [(o, .inr (0, [.null, .int (0 : Int32), .int (0 : Int32), .int (0 : Int32)]))] H := hP
  have hD : va_D A [(o, .inr (0, [.null, .int (0 : Int32), .int (0 : Int32), .int (0 : Int32)]))] := hD
  refine lv_aload_n hx hb d_Rd_init_14 rfl (lv_at hl 0 rfl) ?_
  refine lv_iconst (v := (0 : Int32)) hx hb d_Rd_init_15 (by decide) ?_
  refine va_put (D := (dC, dI)) (ci := 0) (v := .int (0 : Int32)) (ty := .int) (C := "GlyphPage$Reader") (T := F_Rd) (N := 4) hx hb htsG iG_Rd t_Rd t_Rd_ok n_Rd hown hK hP hD hS 0 rfl rfl 2 (by decide) (htsG _ mW39) (fun _ h9 => h9) rfl (by decide +kernel) rfl rfl (Nat.le_of_ble_eq_true rfl) d_Rd_init_16 (fun H locs hP hD hS => ?_)
  have hP : va_P (dC, dI) classes [(o, .inr (0, [.null, .int (0 : Int32), .int (0 : Int32), .int (0 : Int32)]))] H := hP
  have hD : va_D A [(o, .inr (0, [.null, .int (0 : Int32), .int (0 : Int32), .int (0 : Int32)]))] := hD
  refine lv_aload_n hx hb d_Rd_init_19 rfl (lv_at hl 0 rfl) ?_
  refine lv_iconst (v := (1 : Int32)) hx hb d_Rd_init_20 (by decide) ?_
  refine va_put (D := (dC, dI)) (ci := 0) (v := .int (1 : Int32)) (ty := .boolean) (C := "GlyphPage$Reader") (T := F_Rd) (N := 4) hx hb htsG iG_Rd t_Rd t_Rd_ok n_Rd hown hK hP hD hS 0 rfl rfl 3 (by decide) (htsG _ mW40) (fun _ h9 => h9) rfl (by decide +kernel) rfl rfl (Nat.le_of_ble_eq_true rfl) d_Rd_init_21 (fun H locs hP hD hS => ?_)
  have hP : va_P (dC, dI) classes [(o, .inr (0, [.null, .int (0 : Int32), .int (0 : Int32), .int (1 : Int32)]))] H := hP
  have hD : va_D A [(o, .inr (0, [.null, .int (0 : Int32), .int (0 : Int32), .int (1 : Int32)]))] := hD
  cases h
  exact W.vret hx hb hr (fun t ht hW => ⟨⟨(), rfl, trivial, by rw [ht]; exact hP, va_K.moved hW.alike hK, hD⟩, hS.F ht⟩) hS.2.2 d_Rd_init_24 hlocks
def P_Pt_init   : Option (Unit) :=
  some ()
set_option maxHeartbeats 4000000 in
set_option maxRecDepth 100000 in
theorem c_Pt_init (l : Launch) (dC : Nat → ClassId) (dI : Nat → Nat → Nat) (cy : Nat → ClassId) (sz : Nat) (o : Nat)   (uu : Unit) (h : P_Pt_init  = some uu) : Met l y_Pt_init (Cond.code y_Pt_init b_Pt_init 1 none :: G) ({ frames := 1, cells := 0, slots := 0, locals := 20 } : Room) (va_Pc [.ref o] (fun U => U.heap.size = sz ∧ va_P (dC, dI) classes [(o, .inr (1, [.int (0 : Int32), .int (0 : Int32), .int (0 : Int32), .int (0 : Int32), .int (0 : Int32), .int (0 : Int32), .int (0 : Int32), .int (0 : Int32)]))] U.heap ∧ va_K (dC, dI) classes (TY cy) U ∧ va_D (fun _ => True) [(o, .inr (1, [.int (0 : Int32), .int (0 : Int32), .int (0 : Int32), .int (0 : Int32), .int (0 : Int32), .int (0 : Int32), .int (0 : Int32), .int (0 : Int32)]))])) (va_Qv (fun _ : Unit => True) (fun _ t => va_P (dC, dI) classes [(o, .inr (1, [.int (0 : Int32), .int (1 : Int32), .int (0 : Int32), .int (0 : Int32), .int (16384 : Int32), .int (0 : Int32), .int (0 : Int32), .int (16384 : Int32)]))] t.heap ∧ va_K (dC, dI) classes (TY cy) t ∧ va_D (va_A [(o, .inr (1, [.int (0 : Int32), .int (0 : Int32), .int (0 : Int32), .int (0 : Int32), .int (0 : Int32), .int (0 : Int32), .int (0 : Int32), .int (0 : Int32)]))] sz) [(o, .inr (1, [.int (0 : Int32), .int (1 : Int32), .int (0 : Int32), .int (0 : Int32), .int (16384 : Int32), .int (0 : Int32), .int (0 : Int32), .int (16384 : Int32)]))]) (va_A [(o, .inr (1, [.int (0 : Int32), .int (0 : Int32), .int (0 : Int32), .int (0 : Int32), .int (0 : Int32), .int (0 : Int32), .int (0 : Int32), .int (0 : Int32)]))] sz)) 0 0 (va_A [(o, .inr (1, [.int (0 : Int32), .int (0 : Int32), .int (0 : Int32), .int (0 : Int32), .int (0 : Int32), .int (0 : Int32), .int (0 : Int32), .int (0 : Int32)]))] sz) := by
  refine Met.ofW (cc := b_Pt_init) (maxL := 1) (ret := none) (by decide) rfl ?_
  intro p e s m args below meth c s₁ B hml hv
  obtain ⟨rfl, hsz, hP, hK, hD0⟩ := hv
  have hx := B.exec
  have hb := B.bytes
  have hr := B.returns
  have hts := atoms_spec (ws := Cond.code y_Pt_init b_Pt_init 1 none :: G) B.pre
  have htsG : ∀ w ∈ G, w.before _ s = true := fun w hw => hts w (List.mem_cons_of_mem _ hw)
  have hown : s.vm.findClass "GlyphPage$Part" = some m.cls := findClass_of_methodNamed B.named
  have hlocks := B.notSynchronized
  have hin : meth.name = "<init>" := (name_of_methodNamed B.named B.method).1
  subst hsz
  have hD := hD0.self (sz := s.heap.size)
  generalize hAe : va_A [(o, .inr (1, [.int (0 : Int32), .int (0 : Int32), .int (0 : Int32), .int (0 : Int32), .int (0 : Int32), .int (0 : Int32), .int (0 : Int32), .int (0 : Int32)]))] s.heap.size = A at hD ⊢
  have hA : ∀ q : Nat, s.heap.size ≤ q → A q := fun q h => by rw [← hAe]; exact Or.inr h
  have hS : va_S A s.heap s.heap [] := va_S.rf
  have hl := lv_entry ([.ref o]) (n := 1) (Nat.le_of_ble_eq_true rfl)
  rw [lg_entry_eq]
  generalize (lg_sl ([.ref o]) ++ List.replicate (1 - (lg_sl ([.ref o])).length) Slot.unset).toArray = ls at hl ⊢
  have hl : lv_has ls 1 [(0, .ref o)] := hl
  have C0 : Cx p s m _ meth c A dC dI cy b_Pt_init 1 none "GlyphPage$Part" := ⟨hx, hb, hr, hlocks, hml, hown, htsG, hA, hK⟩
  unfold P_Pt_init at h
  refine lv_aload_n hx hb d_Pt_init_0 rfl (lv_at hl 0 rfl) ?_
  refine W.objInit hx hb hown (htsG _ mW56) (htsG _ mW20) (htsG _ mW21) rfl (by rw [hml]; exact hl.1) rfl d_Pt_init_1 (Nat.le_of_ble_eq_true rfl) (Nat.le_of_ble_eq_true rfl) ?_
  refine W.eq (g2 := F0 m 4 ls []) rfl ?_
  refine lv_aload_n hx hb d_Pt_init_4 rfl (lv_at hl 0 rfl) ?_
  refine lv_iconst (v := (0 : Int32)) hx hb d_Pt_init_5 (by decide) ?_
  refine va_put (D := (dC, dI)) (ci := 1) (v := .int (0 : Int32)) (ty := .int) (C := "GlyphPage$Part") (T := F_Pt) (N := 8) hx hb htsG iG_Pt t_Pt t_Pt_ok n_Pt hown hK hP hD hS 0 rfl rfl 0 (by decide) (htsG _ mW57) (fun _ h9 => h9) rfl (by decide +kernel) rfl rfl (Nat.le_of_ble_eq_true rfl) d_Pt_init_6 (fun H locs hP hD hS => ?_)
  have hP : va_P (dC, dI) classes [(o, .inr (1, [.int (0 : Int32), .int (0 : Int32), .int (0 : Int32), .int (0 : Int32), .int (0 : Int32), .int (0 : Int32), .int (0 : Int32), .int (0 : Int32)]))] H := hP
  have hD : va_D A [(o, .inr (1, [.int (0 : Int32), .int (0 : Int32), .int (0 : Int32), .int (0 : Int32), .int (0 : Int32), .int (0 : Int32), .int (0 : Int32), .int (0 : Int32)]))] := hD
  refine lv_aload_n hx hb d_Pt_init_9 rfl (lv_at hl 0 rfl) ?_
  refine lv_iconst (v := (1 : Int32)) hx hb d_Pt_init_10 (by decide) ?_
  refine va_put (D := (dC, dI)) (ci := 1) (v := .int (1 : Int32)) (ty := .boolean) (C := "GlyphPage$Part") (T := F_Pt) (N := 8) hx hb htsG iG_Pt t_Pt t_Pt_ok n_Pt hown hK hP hD hS 0 rfl rfl 1 (by decide) (htsG _ mW59) (fun _ h9 => h9) rfl (by decide +kernel) rfl rfl (Nat.le_of_ble_eq_true rfl) d_Pt_init_11 (fun H locs hP hD hS => ?_)
  have hP : va_P (dC, dI) classes [(o, .inr (1, [.int (0 : Int32), .int (1 : Int32), .int (0 : Int32), .int (0 : Int32), .int (0 : Int32), .int (0 : Int32), .int (0 : Int32), .int (0 : Int32)]))] H := hP
  have hD : va_D A [(o, .inr (1, [.int (0 : Int32), .int (1 : Int32), .int (0 : Int32), .int (0 : Int32), .int (0 : Int32), .int (0 : Int32), .int (0 : Int32), .int (0 : Int32)]))] := hD
  refine lv_aload_n hx hb d_Pt_init_14 rfl (lv_at hl 0 rfl) ?_
  refine lv_iconst (v := (0 : Int32)) hx hb d_Pt_init_15 (by decide) ?_
  refine va_put (D := (dC, dI)) (ci := 1) (v := .int (0 : Int32)) (ty := .int) (C := "GlyphPage$Part") (T := F_Pt) (N := 8) hx hb htsG iG_Pt t_Pt t_Pt_ok n_Pt hown hK hP hD hS 0 rfl rfl 2 (by decide) (htsG _ mW61) (fun _ h9 => h9) rfl (by decide +kernel) rfl rfl (Nat.le_of_ble_eq_true rfl) d_Pt_init_16 (fun H locs hP hD hS => ?_)
  have hP : va_P (dC, dI) classes [(o, .inr (1, [.int (0 : Int32), .int (1 : Int32), .int (0 : Int32), .int (0 : Int32), .int (0 : Int32), .int (0 : Int32), .int (0 : Int32), .int (0 : Int32)]))] H := hP
  have hD : va_D A [(o, .inr (1, [.int (0 : Int32), .int (1 : Int32), .int (0 : Int32), .int (0 : Int32), .int (0 : Int32), .int (0 : Int32), .int (0 : Int32), .int (0 : Int32)]))] := hD
  refine lv_aload_n hx hb d_Pt_init_19 rfl (lv_at hl 0 rfl) ?_
  refine lv_iconst (v := (0 : Int32)) hx hb d_Pt_init_20 (by decide) ?_
  refine va_put (D := (dC, dI)) (ci := 1) (v := .int (0 : Int32)) (ty := .int) (C := "GlyphPage$Part") (T := F_Pt) (N := 8) hx hb htsG iG_Pt t_Pt t_Pt_ok n_Pt hown hK hP hD hS 0 rfl rfl 3 (by decide) (htsG _ mW62) (fun _ h9 => h9) rfl (by decide +kernel) rfl rfl (Nat.le_of_ble_eq_true rfl) d_Pt_init_21 (fun H locs hP hD hS => ?_)
  have hP : va_P (dC, dI) classes [(o, .inr (1, [.int (0 : Int32), .int (1 : Int32), .int (0 : Int32), .int (0 : Int32), .int (0 : Int32), .int (0 : Int32), .int (0 : Int32), .int (0 : Int32)]))] H := hP
  have hD : va_D A [(o, .inr (1, [.int (0 : Int32), .int (1 : Int32), .int (0 : Int32), .int (0 : Int32), .int (0 : Int32), .int (0 : Int32), .int (0 : Int32), .int (0 : Int32)]))] := hD
  refine lv_aload_n hx hb d_Pt_init_24 rfl (lv_at hl 0 rfl) ?_
  refine lv_sipush (v := (16384 : Int32)) hx hb d_Pt_init_25 (by decide) ?_
  refine va_put (D := (dC, dI)) (ci := 1) (v := .int (16384 : Int32)) (ty := .int) (C := "GlyphPage$Part") (T := F_Pt) (N := 8) hx hb htsG iG_Pt t_Pt t_Pt_ok n_Pt hown hK hP hD hS 0 rfl rfl 4 (by decide) (htsG _ mW63) (fun _ h9 => h9) rfl (by decide +kernel) rfl rfl (Nat.le_of_ble_eq_true rfl) d_Pt_init_28 (fun H locs hP hD hS => ?_)
  have hP : va_P (dC, dI) classes [(o, .inr (1, [.int (0 : Int32), .int (1 : Int32), .int (0 : Int32), .int (0 : Int32), .int (16384 : Int32), .int (0 : Int32), .int (0 : Int32), .int (0 : Int32)]))] H := hP
  have hD : va_D A [(o, .inr (1, [.int (0 : Int32), .int (1 : Int32), .int (0 : Int32), .int (0 : Int32), .int (16384 : Int32), .int (0 : Int32), .int (0 : Int32), .int (0 : Int32)]))] := hD
  refine lv_aload_n hx hb d_Pt_init_31 rfl (lv_at hl 0 rfl) ?_
  refine lv_iconst (v := (0 : Int32)) hx hb d_Pt_init_32 (by decide) ?_
  refine va_put (D := (dC, dI)) (ci := 1) (v := .int (0 : Int32)) (ty := .int) (C := "GlyphPage$Part") (T := F_Pt) (N := 8) hx hb htsG iG_Pt t_Pt t_Pt_ok n_Pt hown hK hP hD hS 0 rfl rfl 5 (by decide) (htsG _ mW64) (fun _ h9 => h9) rfl (by decide +kernel) rfl rfl (Nat.le_of_ble_eq_true rfl) d_Pt_init_33 (fun H locs hP hD hS => ?_)
  have hP : va_P (dC, dI) classes [(o, .inr (1, [.int (0 : Int32), .int (1 : Int32), .int (0 : Int32), .int (0 : Int32), .int (16384 : Int32), .int (0 : Int32), .int (0 : Int32), .int (0 : Int32)]))] H := hP
  have hD : va_D A [(o, .inr (1, [.int (0 : Int32), .int (1 : Int32), .int (0 : Int32), .int (0 : Int32), .int (16384 : Int32), .int (0 : Int32), .int (0 : Int32), .int (0 : Int32)]))] := hD
  refine lv_aload_n hx hb d_Pt_init_36 rfl (lv_at hl 0 rfl) ?_
  refine lv_iconst (v := (0 : Int32)) hx hb d_Pt_init_37 (by decide) ?_
  refine va_put (D := (dC, dI)) (ci := 1) (v := .int (0 : Int32)) (ty := .int) (C := "GlyphPage$Part") (T := F_Pt) (N := 8) hx hb htsG iG_Pt t_Pt t_Pt_ok n_Pt hown hK hP hD hS 0 rfl rfl 6 (by decide) (htsG _ mW65) (fun _ h9 => h9) rfl (by decide +kernel) rfl rfl (Nat.le_of_ble_eq_true rfl) d_Pt_init_38 (fun H locs hP hD hS => ?_)
  have hP : va_P (dC, dI) classes [(o, .inr (1, [.int (0 : Int32), .int (1 : Int32), .int (0 : Int32), .int (0 : Int32), .int (16384 : Int32), .int (0 : Int32), .int (0 : Int32), .int (0 : Int32)]))] H := hP
  have hD : va_D A [(o, .inr (1, [.int (0 : Int32), .int (1 : Int32), .int (0 : Int32), .int (0 : Int32), .int (16384 : Int32), .int (0 : Int32), .int (0 : Int32), .int (0 : Int32)]))] := hD
  refine lv_aload_n hx hb d_Pt_init_41 rfl (lv_at hl 0 rfl) ?_
  refine lv_sipush (v := (16384 : Int32)) hx hb d_Pt_init_42 (by decide) ?_
  refine va_put (D := (dC, dI)) (ci := 1) (v := .int (16384 : Int32)) (ty := .int) (C := "GlyphPage$Part") (T := F_Pt) (N := 8) hx hb htsG iG_Pt t_Pt t_Pt_ok n_Pt hown hK hP hD hS 0 rfl rfl 7 (by decide) (htsG _ mW66) (fun _ h9 => h9) rfl (by decide +kernel) rfl rfl (Nat.le_of_ble_eq_true rfl) d_Pt_init_45 (fun H locs hP hD hS => ?_)
  have hP : va_P (dC, dI) classes [(o, .inr (1, [.int (0 : Int32), .int (1 : Int32), .int (0 : Int32), .int (0 : Int32), .int (16384 : Int32), .int (0 : Int32), .int (0 : Int32), .int (16384 : Int32)]))] H := hP
  have hD : va_D A [(o, .inr (1, [.int (0 : Int32), .int (1 : Int32), .int (0 : Int32), .int (0 : Int32), .int (16384 : Int32), .int (0 : Int32), .int (0 : Int32), .int (16384 : Int32)]))] := hD
  cases h
  exact W.vret hx hb hr (fun t ht hW => ⟨⟨(), rfl, trivial, by rw [ht]; exact hP, va_K.moved hW.alike hK, hD⟩, hS.F ht⟩) hS.2.2 d_Pt_init_48 hlocks
def P_Pg_init  (a1 : Int32) (a2 : Int32) : Option (Int32 × Int32) :=
  na a2 <| na (a1 + (1 : Int32)) <| some (a1, a2)
set_option maxHeartbeats 4000000 in
set_option maxRecDepth 100000 in
theorem c_Pg_init (l : Launch) (dC : Nat → ClassId) (dI : Nat → Nat → Nat) (cy : Nat → ClassId) (sz : Nat) (o : Nat)  (a1 : Int32) (a2 : Int32) (uu : Int32 × Int32) (h : P_Pg_init a1 a2 = some uu) : Met l y_Pg_init (Cond.code y_Pg_init b_Pg_init 3 none :: G) ({ frames := 1, cells := 2, slots := 130, locals := 20 } : Room) (va_Pc [.ref o, .int a1, .int a2] (fun U => U.heap.size = sz ∧ va_P (dC, dI) classes [(o, .inr (5, [.int (0 : Int32), .int (0 : Int32), .null, .null, .long (0 : Int64)]))] U.heap ∧ va_K (dC, dI) classes (TY cy) U ∧ va_D (fun _ => True) [(o, .inr (5, [.int (0 : Int32), .int (0 : Int32), .null, .null, .long (0 : Int64)]))])) (va_Qv (fun _ : Unit => True) (fun _ t => ∃ e1 e2 : Nat, va_P (dC, dI) classes [(o, .inr (5, [.int uu.1, .int uu.2, .ref e1, .ref e2, .long (0 : Int64)])), (e1, .inl (cy 3, a2.toNatClampNeg, .inr (.inl (fun _ => 0)))), (e2, .inl (cy 0, (a1 + (1 : Int32)).toNatClampNeg, .inl (fun _ => 0)))] t.heap ∧ va_K (dC, dI) classes (TY cy) t ∧ va_D (va_A [(o, .inr (5, [.int (0 : Int32), .int (0 : Int32), .null, .null, .long (0 : Int64)]))] sz) [(o, .inr (5, [.int uu.1, .int uu.2, .ref e1, .ref e2, .long (0 : Int64)])), (e1, .inl (cy 3, a2.toNatClampNeg, .inr (.inl (fun _ => 0)))), (e2, .inl (cy 0, (a1 + (1 : Int32)).toNatClampNeg, .inl (fun _ => 0)))]) (va_A [(o, .inr (5, [.int (0 : Int32), .int (0 : Int32), .null, .null, .long (0 : Int64)]))] sz)) 2 130 (va_A [(o, .inr (5, [.int (0 : Int32), .int (0 : Int32), .null, .null, .long (0 : Int64)]))] sz) := by
  refine Met.ofW (cc := b_Pg_init) (maxL := 3) (ret := none) (by decide) rfl ?_
  intro p e s m args below meth c s₁ B hml hv
  obtain ⟨rfl, hsz, hP, hK, hD0⟩ := hv
  have hx := B.exec
  have hb := B.bytes
  have hr := B.returns
  have hts := atoms_spec (ws := Cond.code y_Pg_init b_Pg_init 3 none :: G) B.pre
  have htsG : ∀ w ∈ G, w.before _ s = true := fun w hw => hts w (List.mem_cons_of_mem _ hw)
  have hown : s.vm.findClass "GlyphPage$Page" = some m.cls := findClass_of_methodNamed B.named
  have hlocks := B.notSynchronized
  have hin : meth.name = "<init>" := (name_of_methodNamed B.named B.method).1
  subst hsz
  have hD := hD0.self (sz := s.heap.size)
  generalize hAe : va_A [(o, .inr (5, [.int (0 : Int32), .int (0 : Int32), .null, .null, .long (0 : Int64)]))] s.heap.size = A at hD ⊢
  have hA : ∀ q : Nat, s.heap.size ≤ q → A q := fun q h => by rw [← hAe]; exact Or.inr h
  have hS : va_S A s.heap s.heap [] := va_S.rf
  have hl := lv_entry ([.ref o, .int a1, .int a2]) (n := 3) (Nat.le_of_ble_eq_true rfl)
  rw [lg_entry_eq]
  generalize (lg_sl ([.ref o, .int a1, .int a2]) ++ List.replicate (3 - (lg_sl ([.ref o, .int a1, .int a2])).length) Slot.unset).toArray = ls at hl ⊢
  have hl : lv_has ls 3 [(0, .ref o), (1, .int a1), (2, .int a2)] := hl
  have C0 : Cx p s m _ meth c A dC dI cy b_Pg_init 3 none "GlyphPage$Page" := ⟨hx, hb, hr, hlocks, hml, hown, htsG, hA, hK⟩
  unfold P_Pg_init at h
  refine lv_aload_n hx hb d_Pg_init_0 rfl (lv_at hl 0 rfl) ?_
  refine W.objInit hx hb hown (htsG _ mW224) (htsG _ mW20) (htsG _ mW21) rfl (by rw [hml]; exact hl.1) rfl d_Pg_init_1 (Nat.le_of_ble_eq_true rfl) (Nat.le_of_ble_eq_true rfl) ?_
  refine W.eq (g2 := F0 m 4 ls []) rfl ?_
  refine lv_aload_n hx hb d_Pg_init_4 rfl (lv_at hl 0 rfl) ?_
  refine lv_lconst (v := (0 : Int64)) hx hb d_Pg_init_5 (by decide) ?_
  refine va_put (D := (dC, dI)) (ci := 5) (v := .long (0 : Int64)) (ty := .long) (C := "GlyphPage$Page") (T := F_Pg) (N := 5) hx hb htsG iG_Pg t_Pg t_Pg_ok n_Pg hown hK hP hD hS 0 rfl rfl 4 (by decide) (htsG _ mW232) (fun _ h9 => h9) rfl (by decide +kernel) rfl rfl (Nat.le_of_ble_eq_true rfl) d_Pg_init_6 (fun H locs hP hD hS => ?_)
  have hP : va_P (dC, dI) classes [(o, .inr (5, [.int (0 : Int32), .int (0 : Int32), .null, .null, .long (0 : Int64)]))] H := hP
  have hD : va_D A [(o, .inr (5, [.int (0 : Int32), .int (0 : Int32), .null, .null, .long (0 : Int64)]))] := hD
  refine lv_aload_n hx hb d_Pg_init_9 rfl (lv_at hl 0 rfl) ?_
  refine lv_iload_n hx hb d_Pg_init_10 rfl (lv_at hl 1 rfl) ?_
  refine va_putF (D := (dC, dI)) (ci := 5) (v := .int a1) (ty := .int) (C := "GlyphPage$Page") (T := F_Pg) (N := 5) hx hb htsG iG_Pg t_Pg t_Pg_ok n_Pg hown hK hP hD hS 0 rfl rfl 0 (by decide) (htsG _ mW225) (fun _ h9 => h9) rfl hin rfl (by decide +kernel) rfl rfl (Nat.le_of_ble_eq_true rfl) d_Pg_init_11 (fun H locs hP hD hS => ?_)
  have hP : va_P (dC, dI) classes [(o, .inr (5, [.int a1, .int (0 : Int32), .null, .null, .long (0 : Int64)]))] H := hP
  have hD : va_D A [(o, .inr (5, [.int a1, .int (0 : Int32), .null, .null, .long (0 : Int64)]))] := hD
  refine lv_aload_n hx hb d_Pg_init_14 rfl (lv_at hl 0 rfl) ?_
  refine lv_iload_n hx hb d_Pg_init_15 rfl (lv_at hl 2 rfl) ?_
  refine va_putF (D := (dC, dI)) (ci := 5) (v := .int a2) (ty := .int) (C := "GlyphPage$Page") (T := F_Pg) (N := 5) hx hb htsG iG_Pg t_Pg t_Pg_ok n_Pg hown hK hP hD hS 0 rfl rfl 1 (by decide) (htsG _ mW227) (fun _ h9 => h9) rfl hin rfl (by decide +kernel) rfl rfl (Nat.le_of_ble_eq_true rfl) d_Pg_init_16 (fun H locs hP hD hS => ?_)
  have hP : va_P (dC, dI) classes [(o, .inr (5, [.int a1, .int a2, .null, .null, .long (0 : Int64)]))] H := hP
  have hD : va_D A [(o, .inr (5, [.int a1, .int a2, .null, .null, .long (0 : Int64)]))] := hD
  refine lv_aload_n hx hb d_Pg_init_19 rfl (lv_at hl 0 rfl) ?_
  refine lv_iload_n hx hb d_Pg_init_20 rfl (lv_at hl 2 rfl) ?_
  obtain ⟨hna_2, h⟩ := na_some h
  refine va_newa (atype := .long) (a0 := (a2.toNatClampNeg, .inr (.inl (fun _ => 0)))) hx hb (htsG _ mW245) rfl hK hP hD hS hA (fun _ => rfl) hna_2.1 rfl (by show a2.toNatClampNeg * 8 ≤ 536870912; have := hna_2.2; omega) (Nat.le_of_ble_eq_true rfl) (by show 0 + a2.toNatClampNeg ≤ 130; have := hna_2.2; omega) d_Pg_init_21 (fun q_1 cA H hK9 hP hD hS => ?_)
  replace hK9 := cyE_J hK9
  subst hK9
  have hP : va_P (dC, dI) classes [(o, .inr (5, [.int a1, .int a2, .null, .null, .long (0 : Int64)])), (q_1, .inl (cy 3, a2.toNatClampNeg, .inr (.inl (fun _ => 0))))] H := hP
  have hD : va_D A [(o, .inr (5, [.int a1, .int a2, .null, .null, .long (0 : Int64)])), (q_1, .inl (cy 3, a2.toNatClampNeg, .inr (.inl (fun _ => 0))))] := hD
  refine W.widen (k := 1) (n := 65) (by decide) (by have := hna_2.2; omega) ?_
  refine va_putF (D := (dC, dI)) (ci := 5) (v := .ref q_1) (ty := .array .long) (C := "GlyphPage$Page") (T := F_Pg) (N := 5) hx hb htsG iG_Pg t_Pg t_Pg_ok n_Pg hown hK hP hD hS 0 rfl rfl 2 (by decide) (htsG _ mW229) (fun _ h9 => h9) rfl hin rfl (by decide +kernel) rfl rfl (Nat.le_of_ble_eq_true rfl) d_Pg_init_23 (fun H locs hP hD hS => ?_)
  have hP : va_P (dC, dI) classes [(o, .inr (5, [.int a1, .int a2, .ref q_1, .null, .long (0 : Int64)])), (q_1, .inl (cy 3, a2.toNatClampNeg, .inr (.inl (fun _ => 0))))] H := hP
  have hD : va_D A [(o, .inr (5, [.int a1, .int a2, .ref q_1, .null, .long (0 : Int64)])), (q_1, .inl (cy 3, a2.toNatClampNeg, .inr (.inl (fun _ => 0))))] := hD
  refine lv_aload_n hx hb d_Pg_init_26 rfl (lv_at hl 0 rfl) ?_
  refine lv_iload_n hx hb d_Pg_init_27 rfl (lv_at hl 1 rfl) ?_
  refine lv_iconst (v := (1 : Int32)) hx hb d_Pg_init_28 (by decide) ?_
  refine lv_iadd hx hb d_Pg_init_29 ?_
  obtain ⟨hna_4, h⟩ := na_some h
  refine va_newa (atype := .int) (a0 := ((a1 + (1 : Int32)).toNatClampNeg, .inl (fun _ => 0))) hx hb (htsG _ mW50) rfl hK hP hD hS hA (fun _ => rfl) hna_4.1 rfl (by show (a1 + (1 : Int32)).toNatClampNeg * 4 ≤ 536870912; have := hna_4.2; omega) (Nat.le_of_ble_eq_true rfl) (by show 65 + (a1 + (1 : Int32)).toNatClampNeg ≤ 130; have := hna_4.2; omega) d_Pg_init_30 (fun q_3 cA H hK9 hP hD hS => ?_)
  replace hK9 := cyE_I hK9
  subst hK9
  have hP : va_P (dC, dI) classes [(o, .inr (5, [.int a1, .int a2, .ref q_1, .null, .long (0 : Int64)])), (q_1, .inl (cy 3, a2.toNatClampNeg, .inr (.inl (fun _ => 0)))), (q_3, .inl (cy 0, (a1 + (1 : Int32)).toNatClampNeg, .inl (fun _ => 0)))] H := hP
  have hD : va_D A [(o, .inr (5, [.int a1, .int a2, .ref q_1, .null, .long (0 : Int64)])), (q_1, .inl (cy 3, a2.toNatClampNeg, .inr (.inl (fun _ => 0)))), (q_3, .inl (cy 0, (a1 + (1 : Int32)).toNatClampNeg, .inl (fun _ => 0)))] := hD
  refine W.widen (k := 2) (n := 130) (by decide) (by have := hna_4.2; omega) ?_
  refine va_putF (D := (dC, dI)) (ci := 5) (v := .ref q_3) (ty := .array .int) (C := "GlyphPage$Page") (T := F_Pg) (N := 5) hx hb htsG iG_Pg t_Pg t_Pg_ok n_Pg hown hK hP hD hS 0 rfl rfl 3 (by decide) (htsG _ mW231) (fun _ h9 => h9) rfl hin rfl (by decide +kernel) rfl rfl (Nat.le_of_ble_eq_true rfl) d_Pg_init_32 (fun H locs hP hD hS => ?_)
  have hP : va_P (dC, dI) classes [(o, .inr (5, [.int a1, .int a2, .ref q_1, .ref q_3, .long (0 : Int64)])), (q_1, .inl (cy 3, a2.toNatClampNeg, .inr (.inl (fun _ => 0)))), (q_3, .inl (cy 0, (a1 + (1 : Int32)).toNatClampNeg, .inl (fun _ => 0)))] H := hP
  have hD : va_D A [(o, .inr (5, [.int a1, .int a2, .ref q_1, .ref q_3, .long (0 : Int64)])), (q_1, .inl (cy 3, a2.toNatClampNeg, .inr (.inl (fun _ => 0)))), (q_3, .inl (cy 0, (a1 + (1 : Int32)).toNatClampNeg, .inl (fun _ => 0)))] := hD
  cases h
  exact W.vret hx hb hr (fun t ht hW => ⟨⟨(), rfl, trivial, q_1, q_3, by rw [ht]; exact hP, va_K.moved hW.alike hK, hD⟩, hS.F ht⟩) hS.2.2 d_Pg_init_35 hlocks
def P_Ff_init  (a2 : Int32) : Option ((Nat → Int32) × Int32) :=
  (P_Ja_fill_aIIV 8 (fun _ => 0) (-1 : Int32)).bind fun n_4 => some (n_4, a2)
set_option maxHeartbeats 4000000 in
set_option maxRecDepth 100000 in
theorem c_Ff_init (l : Launch) (dC : Nat → ClassId) (dI : Nat → Nat → Nat) (cy : Nat → ClassId) (sz : Nat) (o : Nat) (a1 : Nat)  (a2 : Int32) (uu : (Nat → Int32) × Int32) (h : P_Ff_init a2 = some uu) : Met l y_Ff_init (Cond.code y_Ff_init b_Ff_init 3 none :: G) ({ frames := 1, cells := 3, slots := 81, locals := 23 } : Room) (va_Pc [.ref o, .ref a1, .int a2] (fun U => U.heap.size = sz ∧ va_P (dC, dI) classes [(o, .inr (7, [.null, .int (0 : Int32), .null, .null, .null, .int (0 : Int32), .int (0 : Int32), .int (0 : Int32), .int (0 : Int32), .int (0 : Int32), .int (0 : Int32), .int (0 : Int32), .int (0 : Int32), .int (0 : Int32), .int (0 : Int32), .int (0 : Int32)]))] U.heap ∧ va_K (dC, dI) classes (TY cy) U ∧ va_D (fun _ => True) [(o, .inr (7, [.null, .int (0 : Int32), .null, .null, .null, .int (0 : Int32), .int (0 : Int32), .int (0 : Int32), .int (0 : Int32), .int (0 : Int32), .int (0 : Int32), .int (0 : Int32), .int (0 : Int32), .int (0 : Int32), .int (0 : Int32), .int (0 : Int32)]))])) (va_Qv (fun _ : Unit => True) (fun _ t => ∃ e1 e2 e3 : Nat, va_P (dC, dI) classes [(o, .inr (7, [.ref a1, .int uu.2, .ref e1, .ref e2, .ref e3, .int (16 : Int32), .int (0 : Int32), .int (0 : Int32), .int (0 : Int32), .int (0 : Int32), .int (0 : Int32), .int (1 : Int32), .int (0 : Int32), .int (0 : Int32), .int (0 : Int32), .int (0 : Int32)])), (e1, .inl (cy 0, 8, .inl (fun _ => 0))), (e2, .inl (cy 0, 8, .inl uu.1)), (e3, .inl (cy 0, 65, .inl (fun _ => 0)))] t.heap ∧ va_K (dC, dI) classes (TY cy) t ∧ va_D (va_A [(o, .inr (7, [.null, .int (0 : Int32), .null, .null, .null, .int (0 : Int32), .int (0 : Int32), .int (0 : Int32), .int (0 : Int32), .int (0 : Int32), .int (0 : Int32), .int (0 : Int32), .int (0 : Int32), .int (0 : Int32), .int (0 : Int32), .int (0 : Int32)]))] sz) [(o, .inr (7, [.ref a1, .int uu.2, .ref e1, .ref e2, .ref e3, .int (16 : Int32), .int (0 : Int32), .int (0 : Int32), .int (0 : Int32), .int (0 : Int32), .int (0 : Int32), .int (1 : Int32), .int (0 : Int32), .int (0 : Int32), .int (0 : Int32), .int (0 : Int32)])), (e1, .inl (cy 0, 8, .inl (fun _ => 0))), (e2, .inl (cy 0, 8, .inl uu.1)), (e3, .inl (cy 0, 65, .inl (fun _ => 0)))]) (va_A [(o, .inr (7, [.null, .int (0 : Int32), .null, .null, .null, .int (0 : Int32), .int (0 : Int32), .int (0 : Int32), .int (0 : Int32), .int (0 : Int32), .int (0 : Int32), .int (0 : Int32), .int (0 : Int32), .int (0 : Int32), .int (0 : Int32), .int (0 : Int32)]))] sz)) 3 81 (va_A [(o, .inr (7, [.null, .int (0 : Int32), .null, .null, .null, .int (0 : Int32), .int (0 : Int32), .int (0 : Int32), .int (0 : Int32), .int (0 : Int32), .int (0 : Int32), .int (0 : Int32), .int (0 : Int32), .int (0 : Int32), .int (0 : Int32), .int (0 : Int32)]))] sz) := by
  refine Met.ofW (cc := b_Ff_init) (maxL := 3) (ret := none) (by decide) rfl ?_
  intro p e s m args below meth c s₁ B hml hv
  obtain ⟨rfl, hsz, hP, hK, hD0⟩ := hv
  have hx := B.exec
  have hb := B.bytes
  have hr := B.returns
  have hts := atoms_spec (ws := Cond.code y_Ff_init b_Ff_init 3 none :: G) B.pre
  have htsG : ∀ w ∈ G, w.before _ s = true := fun w hw => hts w (List.mem_cons_of_mem _ hw)
  have hown : s.vm.findClass "GlyphPage$FontFile" = some m.cls := findClass_of_methodNamed B.named
  have hlocks := B.notSynchronized
  have hin : meth.name = "<init>" := (name_of_methodNamed B.named B.method).1
  subst hsz
  have hD := hD0.self (sz := s.heap.size)
  generalize hAe : va_A [(o, .inr (7, [.null, .int (0 : Int32), .null, .null, .null, .int (0 : Int32), .int (0 : Int32), .int (0 : Int32), .int (0 : Int32), .int (0 : Int32), .int (0 : Int32), .int (0 : Int32), .int (0 : Int32), .int (0 : Int32), .int (0 : Int32), .int (0 : Int32)]))] s.heap.size = A at hD ⊢
  have hA : ∀ q : Nat, s.heap.size ≤ q → A q := fun q h => by rw [← hAe]; exact Or.inr h
  have hS : va_S A s.heap s.heap [] := va_S.rf
  have hl := lv_entry ([.ref o, .ref a1, .int a2]) (n := 3) (Nat.le_of_ble_eq_true rfl)
  rw [lg_entry_eq]
  generalize (lg_sl ([.ref o, .ref a1, .int a2]) ++ List.replicate (3 - (lg_sl ([.ref o, .ref a1, .int a2])).length) Slot.unset).toArray = ls at hl ⊢
  have hl : lv_has ls 3 [(0, .ref o), (1, .ref a1), (2, .int a2)] := hl
  have C0 : Cx p s m _ meth c A dC dI cy b_Ff_init 3 none "GlyphPage$FontFile" := ⟨hx, hb, hr, hlocks, hml, hown, htsG, hA, hK⟩
  unfold P_Ff_init at h
  refine lv_aload_n hx hb d_Ff_init_0 rfl (lv_at hl 0 rfl) ?_
  refine W.objInit hx hb hown (htsG _ mW295) (htsG _ mW20) (htsG _ mW21) rfl (by rw [hml]; exact hl.1) rfl d_Ff_init_1 (Nat.le_of_ble_eq_true rfl) (Nat.le_of_ble_eq_true rfl) ?_
  refine W.eq (g2 := F0 m 4 ls []) rfl ?_
  refine lv_aload_n hx hb d_Ff_init_4 rfl (lv_at hl 0 rfl) ?_
  refine lv_bipush (v := (8 : Int32)) hx hb d_Ff_init_5 (by decide) ?_
  refine va_newa (atype := .int) (a0 := (8, .inl (fun _ => 0))) hx hb (htsG _ mW50) rfl hK hP hD hS hA (fun _ => rfl) (by decide) (by decide) (by decide) (Nat.le_of_ble_eq_true rfl) (Nat.le_of_ble_eq_true rfl) d_Ff_init_7 (fun q_1 cA H hK9 hP hD hS => ?_)
  replace hK9 := cyE_I hK9
  subst hK9
  have hP : va_P (dC, dI) classes [(o, .inr (7, [.null, .int (0 : Int32), .null, .null, .null, .int (0 : Int32), .int (0 : Int32), .int (0 : Int32), .int (0 : Int32), .int (0 : Int32), .int (0 : Int32), .int (0 : Int32), .int (0 : Int32), .int (0 : Int32), .int (0 : Int32), .int (0 : Int32)])), (q_1, .inl (cy 0, 8, .inl (fun _ => 0)))] H := hP
  have hD : va_D A [(o, .inr (7, [.null, .int (0 : Int32), .null, .null, .null, .int (0 : Int32), .int (0 : Int32), .int (0 : Int32), .int (0 : Int32), .int (0 : Int32), .int (0 : Int32), .int (0 : Int32), .int (0 : Int32), .int (0 : Int32), .int (0 : Int32), .int (0 : Int32)])), (q_1, .inl (cy 0, 8, .inl (fun _ => 0)))] := hD
  refine W.widen (k := 1) (n := 8) (by decide) (by decide) ?_
  refine va_putF (D := (dC, dI)) (ci := 7) (v := .ref q_1) (ty := .array .int) (C := "GlyphPage$FontFile") (T := F_Ff) (N := 16) hx hb htsG iG_Ff t_Ff t_Ff_ok n_Ff hown hK hP hD hS 0 rfl rfl 2 (by decide) (htsG _ mW303) (fun _ h9 => h9) rfl hin rfl (by decide +kernel) rfl rfl (Nat.le_of_ble_eq_true rfl) d_Ff_init_9 (fun H locs hP hD hS => ?_)
  have hP : va_P (dC, dI) classes [(o, .inr (7, [.null, .int (0 : Int32), .ref q_1, .null, .null, .int (0 : Int32), .int (0 : Int32), .int (0 : Int32), .int (0 : Int32), .int (0 : Int32), .int (0 : Int32), .int (0 : Int32), .int (0 : Int32), .int (0 : Int32), .int (0 : Int32), .int (0 : Int32)])), (q_1, .inl (cy 0, 8, .inl (fun _ => 0)))] H := hP
  have hD : va_D A [(o, .inr (7, [.null, .int (0 : Int32), .ref q_1, .null, .null, .int (0 : Int32), .int (0 : Int32), .int (0 : Int32), .int (0 : Int32), .int (0 : Int32), .int (0 : Int32), .int (0 : Int32), .int (0 : Int32), .int (0 : Int32), .int (0 : Int32), .int (0 : Int32)])), (q_1, .inl (cy 0, 8, .inl (fun _ => 0)))] := hD
  refine lv_aload_n hx hb d_Ff_init_12 rfl (lv_at hl 0 rfl) ?_
  refine lv_bipush (v := (8 : Int32)) hx hb d_Ff_init_13 (by decide) ?_
  refine va_newa (atype := .int) (a0 := (8, .inl (fun _ => 0))) hx hb (htsG _ mW50) rfl hK hP hD hS hA (fun _ => rfl) (by decide) (by decide) (by decide) (Nat.le_of_ble_eq_true rfl) (Nat.le_of_ble_eq_true rfl) d_Ff_init_15 (fun q_2 cA H hK9 hP hD hS => ?_)
  replace hK9 := cyE_I hK9
  subst hK9
  have hP : va_P (dC, dI) classes [(o, .inr (7, [.null, .int (0 : Int32), .ref q_1, .null, .null, .int (0 : Int32), .int (0 : Int32), .int (0 : Int32), .int (0 : Int32), .int (0 : Int32), .int (0 : Int32), .int (0 : Int32), .int (0 : Int32), .int (0 : Int32), .int (0 : Int32), .int (0 : Int32)])), (q_1, .inl (cy 0, 8, .inl (fun _ => 0))), (q_2, .inl (cy 0, 8, .inl (fun _ => 0)))] H := hP
  have hD : va_D A [(o, .inr (7, [.null, .int (0 : Int32), .ref q_1, .null, .null, .int (0 : Int32), .int (0 : Int32), .int (0 : Int32), .int (0 : Int32), .int (0 : Int32), .int (0 : Int32), .int (0 : Int32), .int (0 : Int32), .int (0 : Int32), .int (0 : Int32), .int (0 : Int32)])), (q_1, .inl (cy 0, 8, .inl (fun _ => 0))), (q_2, .inl (cy 0, 8, .inl (fun _ => 0)))] := hD
  refine W.widen (k := 2) (n := 16) (by decide) (by decide) ?_
  refine va_putF (D := (dC, dI)) (ci := 7) (v := .ref q_2) (ty := .array .int) (C := "GlyphPage$FontFile") (T := F_Ff) (N := 16) hx hb htsG iG_Ff t_Ff t_Ff_ok n_Ff hown hK hP hD hS 0 rfl rfl 3 (by decide) (htsG _ mW304) (fun _ h9 => h9) rfl hin rfl (by decide +kernel) rfl rfl (Nat.le_of_ble_eq_true rfl) d_Ff_init_17 (fun H locs hP hD hS => ?_)
  have hP : va_P (dC, dI) classes [(o, .inr (7, [.null, .int (0 : Int32), .ref q_1, .ref q_2, .null, .int (0 : Int32), .int (0 : Int32), .int (0 : Int32), .int (0 : Int32), .int (0 : Int32), .int (0 : Int32), .int (0 : Int32), .int (0 : Int32), .int (0 : Int32), .int (0 : Int32), .int (0 : Int32)])), (q_1, .inl (cy 0, 8, .inl (fun _ => 0))), (q_2, .inl (cy 0, 8, .inl (fun _ => 0)))] H := hP
  have hD : va_D A [(o, .inr (7, [.null, .int (0 : Int32), .ref q_1, .ref q_2, .null, .int (0 : Int32), .int (0 : Int32), .int (0 : Int32), .int (0 : Int32), .int (0 : Int32), .int (0 : Int32), .int (0 : Int32), .int (0 : Int32), .int (0 : Int32), .int (0 : Int32), .int (0 : Int32)])), (q_1, .inl (cy 0, 8, .inl (fun _ => 0))), (q_2, .inl (cy 0, 8, .inl (fun _ => 0)))] := hD
  refine lv_aload_n hx hb d_Ff_init_20 rfl (lv_at hl 0 rfl) ?_
  refine lv_bipush (v := (65 : Int32)) hx hb d_Ff_init_21 (by decide) ?_
  refine va_newa (atype := .int) (a0 := (65, .inl (fun _ => 0))) hx hb (htsG _ mW50) rfl hK hP hD hS hA (fun _ => rfl) (by decide) (by decide) (by decide) (Nat.le_of_ble_eq_true rfl) (Nat.le_of_ble_eq_true rfl) d_Ff_init_23 (fun q_3 cA H hK9 hP hD hS => ?_)
  replace hK9 := cyE_I hK9
  subst hK9
  have hP : va_P (dC, dI) classes [(o, .inr (7, [.null, .int (0 : Int32), .ref q_1, .ref q_2, .null, .int (0 : Int32), .int (0 : Int32), .int (0 : Int32), .int (0 : Int32), .int (0 : Int32), .int (0 : Int32), .int (0 : Int32), .int (0 : Int32), .int (0 : Int32), .int (0 : Int32), .int (0 : Int32)])), (q_1, .inl (cy 0, 8, .inl (fun _ => 0))), (q_2, .inl (cy 0, 8, .inl (fun _ => 0))), (q_3, .inl (cy 0, 65, .inl (fun _ => 0)))] H := hP
  have hD : va_D A [(o, .inr (7, [.null, .int (0 : Int32), .ref q_1, .ref q_2, .null, .int (0 : Int32), .int (0 : Int32), .int (0 : Int32), .int (0 : Int32), .int (0 : Int32), .int (0 : Int32), .int (0 : Int32), .int (0 : Int32), .int (0 : Int32), .int (0 : Int32), .int (0 : Int32)])), (q_1, .inl (cy 0, 8, .inl (fun _ => 0))), (q_2, .inl (cy 0, 8, .inl (fun _ => 0))), (q_3, .inl (cy 0, 65, .inl (fun _ => 0)))] := hD
  refine W.widen (k := 3) (n := 81) (by decide) (by decide) ?_
  refine va_putF (D := (dC, dI)) (ci := 7) (v := .ref q_3) (ty := .array .int) (C := "GlyphPage$FontFile") (T := F_Ff) (N := 16) hx hb htsG iG_Ff t_Ff t_Ff_ok n_Ff hown hK hP hD hS 0 rfl rfl 4 (by decide) (htsG _ mW305) (fun _ h9 => h9) rfl hin rfl (by decide +kernel) rfl rfl (Nat.le_of_ble_eq_true rfl) d_Ff_init_25 (fun H locs hP hD hS => ?_)
  have hP : va_P (dC, dI) classes [(o, .inr (7, [.null, .int (0 : Int32), .ref q_1, .ref q_2, .ref q_3, .int (0 : Int32), .int (0 : Int32), .int (0 : Int32), .int (0 : Int32), .int (0 : Int32), .int (0 : Int32), .int (0 : Int32), .int (0 : Int32), .int (0 : Int32), .int (0 : Int32), .int (0 : Int32)])), (q_1, .inl (cy 0, 8, .inl (fun _ => 0))), (q_2, .inl (cy 0, 8, .inl (fun _ => 0))), (q_3, .inl (cy 0, 65, .inl (fun _ => 0)))] H := hP
  have hD : va_D A [(o, .inr (7, [.null, .int (0 : Int32), .ref q_1, .ref q_2, .ref q_3, .int (0 : Int32), .int (0 : Int32), .int (0 : Int32), .int (0 : Int32), .int (0 : Int32), .int (0 : Int32), .int (0 : Int32), .int (0 : Int32), .int (0 : Int32), .int (0 : Int32), .int (0 : Int32)])), (q_1, .inl (cy 0, 8, .inl (fun _ => 0))), (q_2, .inl (cy 0, 8, .inl (fun _ => 0))), (q_3, .inl (cy 0, 65, .inl (fun _ => 0)))] := hD
  refine lv_aload_n hx hb d_Ff_init_28 rfl (lv_at hl 0 rfl) ?_
  refine lv_bipush (v := (16 : Int32)) hx hb d_Ff_init_29 (by decide) ?_
  refine va_put (D := (dC, dI)) (ci := 7) (v := .int (16 : Int32)) (ty := .int) (C := "GlyphPage$FontFile") (T := F_Ff) (N := 16) hx hb htsG iG_Ff t_Ff t_Ff_ok n_Ff hown hK hP hD hS 0 rfl rfl 5 (by decide) (htsG _ mW307) (fun _ h9 => h9) rfl (by decide +kernel) rfl rfl (Nat.le_of_ble_eq_true rfl) d_Ff_init_31 (fun H locs hP hD hS => ?_)
  have hP : va_P (dC, dI) classes [(o, .inr (7, [.null, .int (0 : Int32), .ref q_1, .ref q_2, .ref q_3, .int (16 : Int32), .int (0 : Int32), .int (0 : Int32), .int (0 : Int32), .int (0 : Int32), .int (0 : Int32), .int (0 : Int32), .int (0 : Int32), .int (0 : Int32), .int (0 : Int32), .int (0 : Int32)])), (q_1, .inl (cy 0, 8, .inl (fun _ => 0))), (q_2, .inl (cy 0, 8, .inl (fun _ => 0))), (q_3, .inl (cy 0, 65, .inl (fun _ => 0)))] H := hP
  have hD : va_D A [(o, .inr (7, [.null, .int (0 : Int32), .ref q_1, .ref q_2, .ref q_3, .int (16 : Int32), .int (0 : Int32), .int (0 : Int32), .int (0 : Int32), .int (0 : Int32), .int (0 : Int32), .int (0 : Int32), .int (0 : Int32), .int (0 : Int32), .int (0 : Int32), .int (0 : Int32)])), (q_1, .inl (cy 0, 8, .inl (fun _ => 0))), (q_2, .inl (cy 0, 8, .inl (fun _ => 0))), (q_3, .inl (cy 0, 65, .inl (fun _ => 0)))] := hD
  refine lv_aload_n hx hb d_Ff_init_34 rfl (lv_at hl 0 rfl) ?_
  refine lv_iconst (v := (0 : Int32)) hx hb d_Ff_init_35 (by decide) ?_
  refine va_put (D := (dC, dI)) (ci := 7) (v := .int (0 : Int32)) (ty := .int) (C := "GlyphPage$FontFile") (T := F_Ff) (N := 16) hx hb htsG iG_Ff t_Ff t_Ff_ok n_Ff hown hK hP hD hS 0 rfl rfl 6 (by decide) (htsG _ mW309) (fun _ h9 => h9) rfl (by decide +kernel) rfl rfl (Nat.le_of_ble_eq_true rfl) d_Ff_init_36 (fun H locs hP hD hS => ?_)
  have hP : va_P (dC, dI) classes [(o, .inr (7, [.null, .int (0 : Int32), .ref q_1, .ref q_2, .ref q_3, .int (16 : Int32), .int (0 : Int32), .int (0 : Int32), .int (0 : Int32), .int (0 : Int32), .int (0 : Int32), .int (0 : Int32), .int (0 : Int32), .int (0 : Int32), .int (0 : Int32), .int (0 : Int32)])), (q_1, .inl (cy 0, 8, .inl (fun _ => 0))), (q_2, .inl (cy 0, 8, .inl (fun _ => 0))), (q_3, .inl (cy 0, 65, .inl (fun _ => 0)))] H := hP
  have hD : va_D A [(o, .inr (7, [.null, .int (0 : Int32), .ref q_1, .ref q_2, .ref q_3, .int (16 : Int32), .int (0 : Int32), .int (0 : Int32), .int (0 : Int32), .int (0 : Int32), .int (0 : Int32), .int (0 : Int32), .int (0 : Int32), .int (0 : Int32), .int (0 : Int32), .int (0 : Int32)])), (q_1, .inl (cy 0, 8, .inl (fun _ => 0))), (q_2, .inl (cy 0, 8, .inl (fun _ => 0))), (q_3, .inl (cy 0, 65, .inl (fun _ => 0)))] := hD
  refine lv_aload_n hx hb d_Ff_init_39 rfl (lv_at hl 0 rfl) ?_
  refine lv_iconst (v := (0 : Int32)) hx hb d_Ff_init_40 (by decide) ?_
  refine va_put (D := (dC, dI)) (ci := 7) (v := .int (0 : Int32)) (ty := .int) (C := "GlyphPage$FontFile") (T := F_Ff) (N := 16) hx hb htsG iG_Ff t_Ff t_Ff_ok n_Ff hown hK hP hD hS 0 rfl rfl 7 (by decide) (htsG _ mW312) (fun _ h9 => h9) rfl (by decide +kernel) rfl rfl (Nat.le_of_ble_eq_true rfl) d_Ff_init_41 (fun H locs hP hD hS => ?_)
  have hP : va_P (dC, dI) classes [(o, .inr (7, [.null, .int (0 : Int32), .ref q_1, .ref q_2, .ref q_3, .int (16 : Int32), .int (0 : Int32), .int (0 : Int32), .int (0 : Int32), .int (0 : Int32), .int (0 : Int32), .int (0 : Int32), .int (0 : Int32), .int (0 : Int32), .int (0 : Int32), .int (0 : Int32)])), (q_1, .inl (cy 0, 8, .inl (fun _ => 0))), (q_2, .inl (cy 0, 8, .inl (fun _ => 0))), (q_3, .inl (cy 0, 65, .inl (fun _ => 0)))] H := hP
  have hD : va_D A [(o, .inr (7, [.null, .int (0 : Int32), .ref q_1, .ref q_2, .ref q_3, .int (16 : Int32), .int (0 : Int32), .int (0 : Int32), .int (0 : Int32), .int (0 : Int32), .int (0 : Int32), .int (0 : Int32), .int (0 : Int32), .int (0 : Int32), .int (0 : Int32), .int (0 : Int32)])), (q_1, .inl (cy 0, 8, .inl (fun _ => 0))), (q_2, .inl (cy 0, 8, .inl (fun _ => 0))), (q_3, .inl (cy 0, 65, .inl (fun _ => 0)))] := hD
  refine lv_aload_n hx hb d_Ff_init_44 rfl (lv_at hl 0 rfl) ?_
  refine lv_iconst (v := (0 : Int32)) hx hb d_Ff_init_45 (by decide) ?_
  refine va_put (D := (dC, dI)) (ci := 7) (v := .int (0 : Int32)) (ty := .int) (C := "GlyphPage$FontFile") (T := F_Ff) (N := 16) hx hb htsG iG_Ff t_Ff t_Ff_ok n_Ff hown hK hP hD hS 0 rfl rfl 8 (by decide) (htsG _ mW314) (fun _ h9 => h9) rfl (by decide +kernel) rfl rfl (Nat.le_of_ble_eq_true rfl) d_Ff_init_46 (fun H locs hP hD hS => ?_)
  have hP : va_P (dC, dI) classes [(o, .inr (7, [.null, .int (0 : Int32), .ref q_1, .ref q_2, .ref q_3, .int (16 : Int32), .int (0 : Int32), .int (0 : Int32), .int (0 : Int32), .int (0 : Int32), .int (0 : Int32), .int (0 : Int32), .int (0 : Int32), .int (0 : Int32), .int (0 : Int32), .int (0 : Int32)])), (q_1, .inl (cy 0, 8, .inl (fun _ => 0))), (q_2, .inl (cy 0, 8, .inl (fun _ => 0))), (q_3, .inl (cy 0, 65, .inl (fun _ => 0)))] H := hP
  have hD : va_D A [(o, .inr (7, [.null, .int (0 : Int32), .ref q_1, .ref q_2, .ref q_3, .int (16 : Int32), .int (0 : Int32), .int (0 : Int32), .int (0 : Int32), .int (0 : Int32), .int (0 : Int32), .int (0 : Int32), .int (0 : Int32), .int (0 : Int32), .int (0 : Int32), .int (0 : Int32)])), (q_1, .inl (cy 0, 8, .inl (fun _ => 0))), (q_2, .inl (cy 0, 8, .inl (fun _ => 0))), (q_3, .inl (cy 0, 65, .inl (fun _ => 0)))] := hD
  refine lv_aload_n hx hb d_Ff_init_49 rfl (lv_at hl 0 rfl) ?_
  refine lv_iconst (v := (0 : Int32)) hx hb d_Ff_init_50 (by decide) ?_
  refine va_put (D := (dC, dI)) (ci := 7) (v := .int (0 : Int32)) (ty := .int) (C := "GlyphPage$FontFile") (T := F_Ff) (N := 16) hx hb htsG iG_Ff t_Ff t_Ff_ok n_Ff hown hK hP hD hS 0 rfl rfl 9 (by decide) (htsG _ mW316) (fun _ h9 => h9) rfl (by decide +kernel) rfl rfl (Nat.le_of_ble_eq_true rfl) d_Ff_init_51 (fun H locs hP hD hS => ?_)
  have hP : va_P (dC, dI) classes [(o, .inr (7, [.null, .int (0 : Int32), .ref q_1, .ref q_2, .ref q_3, .int (16 : Int32), .int (0 : Int32), .int (0 : Int32), .int (0 : Int32), .int (0 : Int32), .int (0 : Int32), .int (0 : Int32), .int (0 : Int32), .int (0 : Int32), .int (0 : Int32), .int (0 : Int32)])), (q_1, .inl (cy 0, 8, .inl (fun _ => 0))), (q_2, .inl (cy 0, 8, .inl (fun _ => 0))), (q_3, .inl (cy 0, 65, .inl (fun _ => 0)))] H := hP
  have hD : va_D A [(o, .inr (7, [.null, .int (0 : Int32), .ref q_1, .ref q_2, .ref q_3, .int (16 : Int32), .int (0 : Int32), .int (0 : Int32), .int (0 : Int32), .int (0 : Int32), .int (0 : Int32), .int (0 : Int32), .int (0 : Int32), .int (0 : Int32), .int (0 : Int32), .int (0 : Int32)])), (q_1, .inl (cy 0, 8, .inl (fun _ => 0))), (q_2, .inl (cy 0, 8, .inl (fun _ => 0))), (q_3, .inl (cy 0, 65, .inl (fun _ => 0)))] := hD
  refine lv_aload_n hx hb d_Ff_init_54 rfl (lv_at hl 0 rfl) ?_
  refine lv_iconst (v := (0 : Int32)) hx hb d_Ff_init_55 (by decide) ?_
  refine va_put (D := (dC, dI)) (ci := 7) (v := .int (0 : Int32)) (ty := .boolean) (C := "GlyphPage$FontFile") (T := F_Ff) (N := 16) hx hb htsG iG_Ff t_Ff t_Ff_ok n_Ff hown hK hP hD hS 0 rfl rfl 10 (by decide) (htsG _ mW318) (fun _ h9 => h9) rfl (by decide +kernel) rfl rfl (Nat.le_of_ble_eq_true rfl) d_Ff_init_56 (fun H locs hP hD hS => ?_)
  have hP : va_P (dC, dI) classes [(o, .inr (7, [.null, .int (0 : Int32), .ref q_1, .ref q_2, .ref q_3, .int (16 : Int32), .int (0 : Int32), .int (0 : Int32), .int (0 : Int32), .int (0 : Int32), .int (0 : Int32), .int (0 : Int32), .int (0 : Int32), .int (0 : Int32), .int (0 : Int32), .int (0 : Int32)])), (q_1, .inl (cy 0, 8, .inl (fun _ => 0))), (q_2, .inl (cy 0, 8, .inl (fun _ => 0))), (q_3, .inl (cy 0, 65, .inl (fun _ => 0)))] H := hP
  have hD : va_D A [(o, .inr (7, [.null, .int (0 : Int32), .ref q_1, .ref q_2, .ref q_3, .int (16 : Int32), .int (0 : Int32), .int (0 : Int32), .int (0 : Int32), .int (0 : Int32), .int (0 : Int32), .int (0 : Int32), .int (0 : Int32), .int (0 : Int32), .int (0 : Int32), .int (0 : Int32)])), (q_1, .inl (cy 0, 8, .inl (fun _ => 0))), (q_2, .inl (cy 0, 8, .inl (fun _ => 0))), (q_3, .inl (cy 0, 65, .inl (fun _ => 0)))] := hD
  refine lv_aload_n hx hb d_Ff_init_59 rfl (lv_at hl 0 rfl) ?_
  refine lv_iconst (v := (1 : Int32)) hx hb d_Ff_init_60 (by decide) ?_
  refine va_put (D := (dC, dI)) (ci := 7) (v := .int (1 : Int32)) (ty := .int) (C := "GlyphPage$FontFile") (T := F_Ff) (N := 16) hx hb htsG iG_Ff t_Ff t_Ff_ok n_Ff hown hK hP hD hS 0 rfl rfl 11 (by decide) (htsG _ mW319) (fun _ h9 => h9) rfl (by decide +kernel) rfl rfl (Nat.le_of_ble_eq_true rfl) d_Ff_init_61 (fun H locs hP hD hS => ?_)
  have hP : va_P (dC, dI) classes [(o, .inr (7, [.null, .int (0 : Int32), .ref q_1, .ref q_2, .ref q_3, .int (16 : Int32), .int (0 : Int32), .int (0 : Int32), .int (0 : Int32), .int (0 : Int32), .int (0 : Int32), .int (1 : Int32), .int (0 : Int32), .int (0 : Int32), .int (0 : Int32), .int (0 : Int32)])), (q_1, .inl (cy 0, 8, .inl (fun _ => 0))), (q_2, .inl (cy 0, 8, .inl (fun _ => 0))), (q_3, .inl (cy 0, 65, .inl (fun _ => 0)))] H := hP
  have hD : va_D A [(o, .inr (7, [.null, .int (0 : Int32), .ref q_1, .ref q_2, .ref q_3, .int (16 : Int32), .int (0 : Int32), .int (0 : Int32), .int (0 : Int32), .int (0 : Int32), .int (0 : Int32), .int (1 : Int32), .int (0 : Int32), .int (0 : Int32), .int (0 : Int32), .int (0 : Int32)])), (q_1, .inl (cy 0, 8, .inl (fun _ => 0))), (q_2, .inl (cy 0, 8, .inl (fun _ => 0))), (q_3, .inl (cy 0, 65, .inl (fun _ => 0)))] := hD
  refine lv_aload_n hx hb d_Ff_init_64 rfl (lv_at hl 0 rfl) ?_
  refine lv_iconst (v := (0 : Int32)) hx hb d_Ff_init_65 (by decide) ?_
  refine va_put (D := (dC, dI)) (ci := 7) (v := .int (0 : Int32)) (ty := .int) (C := "GlyphPage$FontFile") (T := F_Ff) (N := 16) hx hb htsG iG_Ff t_Ff t_Ff_ok n_Ff hown hK hP hD hS 0 rfl rfl 12 (by decide) (htsG _ mW320) (fun _ h9 => h9) rfl (by decide +kernel) rfl rfl (Nat.le_of_ble_eq_true rfl) d_Ff_init_66 (fun H locs hP hD hS => ?_)
  have hP : va_P (dC, dI) classes [(o, .inr (7, [.null, .int (0 : Int32), .ref q_1, .ref q_2, .ref q_3, .int (16 : Int32), .int (0 : Int32), .int (0 : Int32), .int (0 : Int32), .int (0 : Int32), .int (0 : Int32), .int (1 : Int32), .int (0 : Int32), .int (0 : Int32), .int (0 : Int32), .int (0 : Int32)])), (q_1, .inl (cy 0, 8, .inl (fun _ => 0))), (q_2, .inl (cy 0, 8, .inl (fun _ => 0))), (q_3, .inl (cy 0, 65, .inl (fun _ => 0)))] H := hP
  have hD : va_D A [(o, .inr (7, [.null, .int (0 : Int32), .ref q_1, .ref q_2, .ref q_3, .int (16 : Int32), .int (0 : Int32), .int (0 : Int32), .int (0 : Int32), .int (0 : Int32), .int (0 : Int32), .int (1 : Int32), .int (0 : Int32), .int (0 : Int32), .int (0 : Int32), .int (0 : Int32)])), (q_1, .inl (cy 0, 8, .inl (fun _ => 0))), (q_2, .inl (cy 0, 8, .inl (fun _ => 0))), (q_3, .inl (cy 0, 65, .inl (fun _ => 0)))] := hD
  refine lv_aload_n hx hb d_Ff_init_69 rfl (lv_at hl 0 rfl) ?_
  refine lv_iconst (v := (0 : Int32)) hx hb d_Ff_init_70 (by decide) ?_
  refine va_put (D := (dC, dI)) (ci := 7) (v := .int (0 : Int32)) (ty := .int) (C := "GlyphPage$FontFile") (T := F_Ff) (N := 16) hx hb htsG iG_Ff t_Ff t_Ff_ok n_Ff hown hK hP hD hS 0 rfl rfl 13 (by decide) (htsG _ mW321) (fun _ h9 => h9) rfl (by decide +kernel) rfl rfl (Nat.le_of_ble_eq_true rfl) d_Ff_init_71 (fun H locs hP hD hS => ?_)
  have hP : va_P (dC, dI) classes [(o, .inr (7, [.null, .int (0 : Int32), .ref q_1, .ref q_2, .ref q_3, .int (16 : Int32), .int (0 : Int32), .int (0 : Int32), .int (0 : Int32), .int (0 : Int32), .int (0 : Int32), .int (1 : Int32), .int (0 : Int32), .int (0 : Int32), .int (0 : Int32), .int (0 : Int32)])), (q_1, .inl (cy 0, 8, .inl (fun _ => 0))), (q_2, .inl (cy 0, 8, .inl (fun _ => 0))), (q_3, .inl (cy 0, 65, .inl (fun _ => 0)))] H := hP
  have hD : va_D A [(o, .inr (7, [.null, .int (0 : Int32), .ref q_1, .ref q_2, .ref q_3, .int (16 : Int32), .int (0 : Int32), .int (0 : Int32), .int (0 : Int32), .int (0 : Int32), .int (0 : Int32), .int (1 : Int32), .int (0 : Int32), .int (0 : Int32), .int (0 : Int32), .int (0 : Int32)])), (q_1, .inl (cy 0, 8, .inl (fun _ => 0))), (q_2, .inl (cy 0, 8, .inl (fun _ => 0))), (q_3, .inl (cy 0, 65, .inl (fun _ => 0)))] := hD
  refine lv_aload_n hx hb d_Ff_init_74 rfl (lv_at hl 0 rfl) ?_
  refine lv_iconst (v := (0 : Int32)) hx hb d_Ff_init_75 (by decide) ?_
  refine va_put (D := (dC, dI)) (ci := 7) (v := .int (0 : Int32)) (ty := .int) (C := "GlyphPage$FontFile") (T := F_Ff) (N := 16) hx hb htsG iG_Ff t_Ff t_Ff_ok n_Ff hown hK hP hD hS 0 rfl rfl 14 (by decide) (htsG _ mW322) (fun _ h9 => h9) rfl (by decide +kernel) rfl rfl (Nat.le_of_ble_eq_true rfl) d_Ff_init_76 (fun H locs hP hD hS => ?_)
  have hP : va_P (dC, dI) classes [(o, .inr (7, [.null, .int (0 : Int32), .ref q_1, .ref q_2, .ref q_3, .int (16 : Int32), .int (0 : Int32), .int (0 : Int32), .int (0 : Int32), .int (0 : Int32), .int (0 : Int32), .int (1 : Int32), .int (0 : Int32), .int (0 : Int32), .int (0 : Int32), .int (0 : Int32)])), (q_1, .inl (cy 0, 8, .inl (fun _ => 0))), (q_2, .inl (cy 0, 8, .inl (fun _ => 0))), (q_3, .inl (cy 0, 65, .inl (fun _ => 0)))] H := hP
  have hD : va_D A [(o, .inr (7, [.null, .int (0 : Int32), .ref q_1, .ref q_2, .ref q_3, .int (16 : Int32), .int (0 : Int32), .int (0 : Int32), .int (0 : Int32), .int (0 : Int32), .int (0 : Int32), .int (1 : Int32), .int (0 : Int32), .int (0 : Int32), .int (0 : Int32), .int (0 : Int32)])), (q_1, .inl (cy 0, 8, .inl (fun _ => 0))), (q_2, .inl (cy 0, 8, .inl (fun _ => 0))), (q_3, .inl (cy 0, 65, .inl (fun _ => 0)))] := hD
  refine lv_aload_n hx hb d_Ff_init_79 rfl (lv_at hl 0 rfl) ?_
  refine lv_iconst (v := (0 : Int32)) hx hb d_Ff_init_80 (by decide) ?_
  refine va_put (D := (dC, dI)) (ci := 7) (v := .int (0 : Int32)) (ty := .int) (C := "GlyphPage$FontFile") (T := F_Ff) (N := 16) hx hb htsG iG_Ff t_Ff t_Ff_ok n_Ff hown hK hP hD hS 0 rfl rfl 15 (by decide) (htsG _ mW323) (fun _ h9 => h9) rfl (by decide +kernel) rfl rfl (Nat.le_of_ble_eq_true rfl) d_Ff_init_81 (fun H locs hP hD hS => ?_)
  have hP : va_P (dC, dI) classes [(o, .inr (7, [.null, .int (0 : Int32), .ref q_1, .ref q_2, .ref q_3, .int (16 : Int32), .int (0 : Int32), .int (0 : Int32), .int (0 : Int32), .int (0 : Int32), .int (0 : Int32), .int (1 : Int32), .int (0 : Int32), .int (0 : Int32), .int (0 : Int32), .int (0 : Int32)])), (q_1, .inl (cy 0, 8, .inl (fun _ => 0))), (q_2, .inl (cy 0, 8, .inl (fun _ => 0))), (q_3, .inl (cy 0, 65, .inl (fun _ => 0)))] H := hP
  have hD : va_D A [(o, .inr (7, [.null, .int (0 : Int32), .ref q_1, .ref q_2, .ref q_3, .int (16 : Int32), .int (0 : Int32), .int (0 : Int32), .int (0 : Int32), .int (0 : Int32), .int (0 : Int32), .int (1 : Int32), .int (0 : Int32), .int (0 : Int32), .int (0 : Int32), .int (0 : Int32)])), (q_1, .inl (cy 0, 8, .inl (fun _ => 0))), (q_2, .inl (cy 0, 8, .inl (fun _ => 0))), (q_3, .inl (cy 0, 65, .inl (fun _ => 0)))] := hD
  refine lv_aload_n hx hb d_Ff_init_84 rfl (lv_at hl 0 rfl) ?_
  refine lv_aload_n hx hb d_Ff_init_85 rfl (lv_at hl 1 rfl) ?_
  refine va_putF (D := (dC, dI)) (ci := 7) (v := .ref a1) (ty := .array .byte) (C := "GlyphPage$FontFile") (T := F_Ff) (N := 16) hx hb htsG iG_Ff t_Ff t_Ff_ok n_Ff hown hK hP hD hS 0 rfl rfl 0 (by decide) (htsG _ mW299) (fun _ h9 => h9) rfl hin rfl (by decide +kernel) rfl rfl (Nat.le_of_ble_eq_true rfl) d_Ff_init_86 (fun H locs hP hD hS => ?_)
  have hP : va_P (dC, dI) classes [(o, .inr (7, [.ref a1, .int (0 : Int32), .ref q_1, .ref q_2, .ref q_3, .int (16 : Int32), .int (0 : Int32), .int (0 : Int32), .int (0 : Int32), .int (0 : Int32), .int (0 : Int32), .int (1 : Int32), .int (0 : Int32), .int (0 : Int32), .int (0 : Int32), .int (0 : Int32)])), (q_1, .inl (cy 0, 8, .inl (fun _ => 0))), (q_2, .inl (cy 0, 8, .inl (fun _ => 0))), (q_3, .inl (cy 0, 65, .inl (fun _ => 0)))] H := hP
  have hD : va_D A [(o, .inr (7, [.ref a1, .int (0 : Int32), .ref q_1, .ref q_2, .ref q_3, .int (16 : Int32), .int (0 : Int32), .int (0 : Int32), .int (0 : Int32), .int (0 : Int32), .int (0 : Int32), .int (1 : Int32), .int (0 : Int32), .int (0 : Int32), .int (0 : Int32), .int (0 : Int32)])), (q_1, .inl (cy 0, 8, .inl (fun _ => 0))), (q_2, .inl (cy 0, 8, .inl (fun _ => 0))), (q_3, .inl (cy 0, 65, .inl (fun _ => 0)))] := hD
  refine lv_aload_n hx hb d_Ff_init_89 rfl (lv_at hl 0 rfl) ?_
  refine lv_iload_n hx hb d_Ff_init_90 rfl (lv_at hl 2 rfl) ?_
  refine va_putF (D := (dC, dI)) (ci := 7) (v := .int a2) (ty := .int) (C := "GlyphPage$FontFile") (T := F_Ff) (N := 16) hx hb htsG iG_Ff t_Ff t_Ff_ok n_Ff hown hK hP hD hS 0 rfl rfl 1 (by decide) (htsG _ mW301) (fun _ h9 => h9) rfl hin rfl (by decide +kernel) rfl rfl (Nat.le_of_ble_eq_true rfl) d_Ff_init_91 (fun H locs hP hD hS => ?_)
  have hP : va_P (dC, dI) classes [(o, .inr (7, [.ref a1, .int a2, .ref q_1, .ref q_2, .ref q_3, .int (16 : Int32), .int (0 : Int32), .int (0 : Int32), .int (0 : Int32), .int (0 : Int32), .int (0 : Int32), .int (1 : Int32), .int (0 : Int32), .int (0 : Int32), .int (0 : Int32), .int (0 : Int32)])), (q_1, .inl (cy 0, 8, .inl (fun _ => 0))), (q_2, .inl (cy 0, 8, .inl (fun _ => 0))), (q_3, .inl (cy 0, 65, .inl (fun _ => 0)))] H := hP
  have hD : va_D A [(o, .inr (7, [.ref a1, .int a2, .ref q_1, .ref q_2, .ref q_3, .int (16 : Int32), .int (0 : Int32), .int (0 : Int32), .int (0 : Int32), .int (0 : Int32), .int (0 : Int32), .int (1 : Int32), .int (0 : Int32), .int (0 : Int32), .int (0 : Int32), .int (0 : Int32)])), (q_1, .inl (cy 0, 8, .inl (fun _ => 0))), (q_2, .inl (cy 0, 8, .inl (fun _ => 0))), (q_3, .inl (cy 0, 65, .inl (fun _ => 0)))] := hD
  refine lv_aload_n hx hb d_Ff_init_94 rfl (lv_at hl 0 rfl) ?_
  refine va_get (D := (dC, dI)) (ci := 7) (v := .ref q_2) (C := "GlyphPage$FontFile") (T := F_Ff) (N := 16) hx hb htsG iG_Ff hown hK hP 0 rfl rfl 3 (by decide) (htsG _ mW304) (fun _ h9 => h9) rfl d_Ff_init_95 ?_
  refine lv_iconst (v := (-1 : Int32)) hx hb d_Ff_init_98 (by decide) ?_
  obtain ⟨n_4, hq, h⟩ := Option.bind_eq_some_iff.mp h
  try dsimp only at h
  have hPc := hP.sub (ws' := [(q_2, .inl (cy 0, 8, .inl (fun _ => 0)))]) [2] rfl
  have hDc := hD.sub (ws' := [(q_2, .inl (cy 0, 8, .inl (fun _ => 0)))]) [2] (by decide) rfl
  have hFc := va_free (wc := [(q_2, .inl (cy 0, 8, .inl (fun _ => 0)))]) hD hS hA [2] rfl
  refine va_callv (va_runS (As := [.ref q_2, .int (-1 : Int32)]) (rest := []) ⟨hx, hb, hml, hown, htsG⟩ (c_Ja_fill_aIIV l dC dI cy H.size q_2 8 (fun _ => 0) (-1 : Int32) n_4 hq) (va_cwS 2 htsG (gS mW296 mW297 mW12 mW298) rfl rfl rfl (by decide +kernel) ⟨Nat.le_of_ble_eq_true rfl, Nat.le_of_ble_eq_true rfl⟩) ⟨fun a U g mk q => by obtain ⟨q0, q1, qP, qK, qD⟩ := q; exact ⟨q0, q1, qP, va_K.moved (u := U) (U := U.calling g mk a) (Vm.Alike.refl U.vm) qK, qD⟩, fun U hU hW => ⟨rfl, by rw [hU], by rw [hU]; exact hPc, va_K.moved hW.alike hK, hDc.weaken (fun _ _ _ _ => trivial)⟩⟩ rfl rfl hl.1 rfl (lv_room (Nat.le_of_ble_eq_true rfl)) d_Ff_init_99 ⟨Nat.le_of_ble_eq_true rfl, Nat.le_of_ble_eq_true rfl⟩) hS (fun q _ h => hFc q h) hFc (fun u t H1 locs ht hvm hw hB hz1 hk1 hS => ?_)
  obtain ⟨hP1, hK1, hD1⟩ := hB
  rw [ht] at hP1
  obtain ⟨hP, hD⟩ := va_join (wr := [(o, .inr (7, [.ref a1, .int a2, .ref q_1, .ref q_2, .ref q_3, .int (16 : Int32), .int (0 : Int32), .int (0 : Int32), .int (0 : Int32), .int (0 : Int32), .int (0 : Int32), .int (1 : Int32), .int (0 : Int32), .int (0 : Int32), .int (0 : Int32), .int (0 : Int32)])), (q_1, .inl (cy 0, 8, .inl (fun _ => 0))), (q_3, .inl (cy 0, 65, .inl (fun _ => 0)))]) (w1 := [(q_2, .inl (cy 0, 8, .inl n_4))]) hP hD [2] [0, 1, 3] rfl rfl (by decide) (by decide) hk1 hFc hP1 hD1
  generalize H1 = H at hP hS ⊢
  have hP := hP.sub (ws' := [(o, .inr (7, [.ref a1, .int a2, .ref q_1, .ref q_2, .ref q_3, .int (16 : Int32), .int (0 : Int32), .int (0 : Int32), .int (0 : Int32), .int (0 : Int32), .int (0 : Int32), .int (1 : Int32), .int (0 : Int32), .int (0 : Int32), .int (0 : Int32), .int (0 : Int32)])), (q_1, .inl (cy 0, 8, .inl (fun _ => 0))), (q_2, .inl (cy 0, 8, .inl n_4)), (q_3, .inl (cy 0, 65, .inl (fun _ => 0)))]) [0, 1, 3, 2] rfl
  have hD := hD.sub (ws' := [(o, .inr (7, [.ref a1, .int a2, .ref q_1, .ref q_2, .ref q_3, .int (16 : Int32), .int (0 : Int32), .int (0 : Int32), .int (0 : Int32), .int (0 : Int32), .int (0 : Int32), .int (1 : Int32), .int (0 : Int32), .int (0 : Int32), .int (0 : Int32), .int (0 : Int32)])), (q_1, .inl (cy 0, 8, .inl (fun _ => 0))), (q_2, .inl (cy 0, 8, .inl n_4)), (q_3, .inl (cy 0, 65, .inl (fun _ => 0)))]) [0, 1, 3, 2] (by decide) rfl
  refine W.widen (k := 3) (n := 81) (by decide) (by decide) ?_
  cases h
  exact W.vret hx hb hr (fun t ht hW => ⟨⟨(), rfl, trivial, q_1, q_2, q_3, by rw [ht]; exact hP, va_K.moved hW.alike hK, hD⟩, hS.F ht⟩) hS.2.2 d_Ff_init_102 hlocks
end
