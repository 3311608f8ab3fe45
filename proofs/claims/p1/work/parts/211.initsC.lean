theorem mW131 : (Jvm.Cond.methodLink "GlyphPage$Curves" (3 : Nat) ({ cls := "java/lang/Object", name := "<init>", desc := "()V" } : Jvm.MethodName)) ∈ G := inG (inT1 (List.mem_of_getElem? (i := 131) rfl)) rfl
theorem mW184 : (Jvm.Cond.methodLink "GlyphPage$Lines" (3 : Nat) ({ cls := "java/lang/Object", name := "<init>", desc := "()V" } : Jvm.MethodName)) ∈ G := inG (inT1 (List.mem_of_getElem? (i := 184) rfl)) rfl
abbrev b_Cv_init : ByteArray := prog_2_method_1_code
def y_Cv_init : MethodName := ⟨"GlyphPage$Curves", "<init>", "()V"⟩
theorem d_Cv_init_0 : decode b_Cv_init 0 = .ok (.aload_n 0, 1) := by decide +kernel
theorem d_Cv_init_1 : decode b_Cv_init 1 = .ok (.invokespecial 3, 3) := by decide +kernel
theorem d_Cv_init_4 : decode b_Cv_init 4 = .ok (.aload_n 0, 1) := by decide +kernel
theorem d_Cv_init_5 : decode b_Cv_init 5 = .ok (.sipush 256, 3) := by decide +kernel
theorem d_Cv_init_8 : decode b_Cv_init 8 = .ok (.newarray .int, 2) := by decide +kernel
theorem d_Cv_init_10 : decode b_Cv_init 10 = .ok (.putfield 11, 3) := by decide +kernel
theorem d_Cv_init_13 : decode b_Cv_init 13 = .ok (.aload_n 0, 1) := by decide +kernel
theorem d_Cv_init_14 : decode b_Cv_init 14 = .ok (.sipush 256, 3) := by decide +kernel
theorem d_Cv_init_17 : decode b_Cv_init 17 = .ok (.newarray .int, 2) := by decide +kernel
theorem d_Cv_init_19 : decode b_Cv_init 19 = .ok (.putfield 15, 3) := by decide +kernel
theorem d_Cv_init_22 : decode b_Cv_init 22 = .ok (.aload_n 0, 1) := by decide +kernel
theorem d_Cv_init_23 : decode b_Cv_init 23 = .ok (.sipush 256, 3) := by decide +kernel
theorem d_Cv_init_26 : decode b_Cv_init 26 = .ok (.newarray .int, 2) := by decide +kernel
theorem d_Cv_init_28 : decode b_Cv_init 28 = .ok (.putfield 18, 3) := by decide +kernel
theorem d_Cv_init_31 : decode b_Cv_init 31 = .ok (.aload_n 0, 1) := by decide +kernel
theorem d_Cv_init_32 : decode b_Cv_init 32 = .ok (.sipush 256, 3) := by decide +kernel
theorem d_Cv_init_35 : decode b_Cv_init 35 = .ok (.newarray .int, 2) := by decide +kernel
theorem d_Cv_init_37 : decode b_Cv_init 37 = .ok (.putfield 21, 3) := by decide +kernel
theorem d_Cv_init_40 : decode b_Cv_init 40 = .ok (.aload_n 0, 1) := by decide +kernel
theorem d_Cv_init_41 : decode b_Cv_init 41 = .ok (.sipush 256, 3) := by decide +kernel
theorem d_Cv_init_44 : decode b_Cv_init 44 = .ok (.newarray .int, 2) := by decide +kernel
theorem d_Cv_init_46 : decode b_Cv_init 46 = .ok (.putfield 24, 3) := by decide +kernel
theorem d_Cv_init_49 : decode b_Cv_init 49 = .ok (.aload_n 0, 1) := by decide +kernel
theorem d_Cv_init_50 : decode b_Cv_init 50 = .ok (.sipush 256, 3) := by decide +kernel
theorem d_Cv_init_53 : decode b_Cv_init 53 = .ok (.newarray .int, 2) := by decide +kernel
theorem d_Cv_init_55 : decode b_Cv_init 55 = .ok (.putfield 27, 3) := by decide +kernel
theorem d_Cv_init_58 : decode b_Cv_init 58 = .ok (.aload_n 0, 1) := by decide +kernel
theorem d_Cv_init_59 : decode b_Cv_init 59 = .ok (.iconst 0, 1) := by decide +kernel
theorem d_Cv_init_60 : decode b_Cv_init 60 = .ok (.putfield 30, 3) := by decide +kernel
theorem d_Cv_init_63 : decode b_Cv_init 63 = .ok (.aload_n 0, 1) := by decide +kernel
theorem d_Cv_init_64 : decode b_Cv_init 64 = .ok (.sipush 256, 3) := by decide +kernel
theorem d_Cv_init_67 : decode b_Cv_init 67 = .ok (.newarray .int, 2) := by decide +kernel
theorem d_Cv_init_69 : decode b_Cv_init 69 = .ok (.putfield 34, 3) := by decide +kernel
theorem d_Cv_init_72 : decode b_Cv_init 72 = .ok (.aload_n 0, 1) := by decide +kernel
theorem d_Cv_init_73 : decode b_Cv_init 73 = .ok (.sipush 256, 3) := by decide +kernel
theorem d_Cv_init_76 : decode b_Cv_init 76 = .ok (.newarray .int, 2) := by decide +kernel
theorem d_Cv_init_78 : decode b_Cv_init 78 = .ok (.putfield 37, 3) := by decide +kernel
theorem d_Cv_init_81 : decode b_Cv_init 81 = .ok (.aload_n 0, 1) := by decide +kernel
theorem d_Cv_init_82 : decode b_Cv_init 82 = .ok (.sipush 256, 3) := by decide +kernel
theorem d_Cv_init_85 : decode b_Cv_init 85 = .ok (.newarray .int, 2) := by decide +kernel
theorem d_Cv_init_87 : decode b_Cv_init 87 = .ok (.putfield 40, 3) := by decide +kernel
theorem d_Cv_init_90 : decode b_Cv_init 90 = .ok (.aload_n 0, 1) := by decide +kernel
theorem d_Cv_init_91 : decode b_Cv_init 91 = .ok (.sipush 256, 3) := by decide +kernel
theorem d_Cv_init_94 : decode b_Cv_init 94 = .ok (.newarray .int, 2) := by decide +kernel
theorem d_Cv_init_96 : decode b_Cv_init 96 = .ok (.putfield 43, 3) := by decide +kernel
theorem d_Cv_init_99 : decode b_Cv_init 99 = .ok (.aload_n 0, 1) := by decide +kernel
theorem d_Cv_init_100 : decode b_Cv_init 100 = .ok (.sipush 256, 3) := by decide +kernel
theorem d_Cv_init_103 : decode b_Cv_init 103 = .ok (.newarray .int, 2) := by decide +kernel
theorem d_Cv_init_105 : decode b_Cv_init 105 = .ok (.putfield 46, 3) := by decide +kernel
theorem d_Cv_init_108 : decode b_Cv_init 108 = .ok (.aload_n 0, 1) := by decide +kernel
theorem d_Cv_init_109 : decode b_Cv_init 109 = .ok (.sipush 256, 3) := by decide +kernel
theorem d_Cv_init_112 : decode b_Cv_init 112 = .ok (.newarray .int, 2) := by decide +kernel
theorem d_Cv_init_114 : decode b_Cv_init 114 = .ok (.putfield 49, 3) := by decide +kernel
theorem d_Cv_init_117 : decode b_Cv_init 117 = .ok (.return_, 1) := by decide +kernel
abbrev b_Ln_init : ByteArray := prog_4_method_1_code
def y_Ln_init : MethodName := ⟨"GlyphPage$Lines", "<init>", "()V"⟩
theorem d_Ln_init_0 : decode b_Ln_init 0 = .ok (.aload_n 0, 1) := by decide +kernel
theorem d_Ln_init_1 : decode b_Ln_init 1 = .ok (.invokespecial 3, 3) := by decide +kernel
theorem d_Ln_init_4 : decode b_Ln_init 4 = .ok (.aload_n 0, 1) := by decide +kernel
theorem d_Ln_init_5 : decode b_Ln_init 5 = .ok (.sipush 200, 3) := by decide +kernel
theorem d_Ln_init_8 : decode b_Ln_init 8 = .ok (.newarray .int, 2) := by decide +kernel
theorem d_Ln_init_10 : decode b_Ln_init 10 = .ok (.putfield 9, 3) := by decide +kernel
theorem d_Ln_init_13 : decode b_Ln_init 13 = .ok (.aload_n 0, 1) := by decide +kernel
theorem d_Ln_init_14 : decode b_Ln_init 14 = .ok (.sipush 200, 3) := by decide +kernel
theorem d_Ln_init_17 : decode b_Ln_init 17 = .ok (.newarray .int, 2) := by decide +kernel
theorem d_Ln_init_19 : decode b_Ln_init 19 = .ok (.putfield 15, 3) := by decide +kernel
theorem d_Ln_init_22 : decode b_Ln_init 22 = .ok (.aload_n 0, 1) := by decide +kernel
theorem d_Ln_init_23 : decode b_Ln_init 23 = .ok (.sipush 200, 3) := by decide +kernel
theorem d_Ln_init_26 : decode b_Ln_init 26 = .ok (.newarray .int, 2) := by decide +kernel
theorem d_Ln_init_28 : decode b_Ln_init 28 = .ok (.putfield 18, 3) := by decide +kernel
theorem d_Ln_init_31 : decode b_Ln_init 31 = .ok (.aload_n 0, 1) := by decide +kernel
theorem d_Ln_init_32 : decode b_Ln_init 32 = .ok (.iconst 0, 1) := by decide +kernel
theorem d_Ln_init_33 : decode b_Ln_init 33 = .ok (.putfield 21, 3) := by decide +kernel
theorem d_Ln_init_36 : decode b_Ln_init 36 = .ok (.aload_n 0, 1) := by decide +kernel
theorem d_Ln_init_37 : decode b_Ln_init 37 = .ok (.sipush 200, 3) := by decide +kernel
theorem d_Ln_init_40 : decode b_Ln_init 40 = .ok (.newarray .int, 2) := by decide +kernel
theorem d_Ln_init_42 : decode b_Ln_init 42 = .ok (.putfield 25, 3) := by decide +kernel
theorem d_Ln_init_45 : decode b_Ln_init 45 = .ok (.aload_n 0, 1) := by decide +kernel
theorem d_Ln_init_46 : decode b_Ln_init 46 = .ok (.sipush 200, 3) := by decide +kernel
theorem d_Ln_init_49 : decode b_Ln_init 49 = .ok (.newarray .int, 2) := by decide +kernel
theorem d_Ln_init_51 : decode b_Ln_init 51 = .ok (.putfield 28, 3) := by decide +kernel
theorem d_Ln_init_54 : decode b_Ln_init 54 = .ok (.aload_n 0, 1) := by decide +kernel
theorem d_Ln_init_55 : decode b_Ln_init 55 = .ok (.sipush 200, 3) := by decide +kernel
theorem d_Ln_init_58 : decode b_Ln_init 58 = .ok (.newarray .int, 2) := by decide +kernel
theorem d_Ln_init_60 : decode b_Ln_init 60 = .ok (.putfield 31, 3) := by decide +kernel
theorem d_Ln_init_63 : decode b_Ln_init 63 = .ok (.return_, 1) := by decide +kernel
section
variable {p : Program} {l : Launch} {e : Env} {s : State} {m : MethodId} {args : Array Value} {below : List Frame} {meth : Method} {c : Code} {A : Nat → Prop} {dC : Nat → ClassId} {dI : Nat → Nat → Nat} {cy : Nat → ClassId}
def P_Cv_init   : Option (Unit) :=
  some ()
set_option maxHeartbeats 4000000 in
set_option maxRecDepth 100000 in
theorem c_Cv_init (l : Launch) (dC : Nat → ClassId) (dI : Nat → Nat → Nat) (cy : Nat → ClassId) (sz : Nat) (o : Nat)   (uu : Unit) (h : P_Cv_init  = some uu) : Met l y_Cv_init (Cond.code y_Cv_init b_Cv_init 1 none :: G) ({ frames := 1, cells := 12, slots := 3072, locals := 20 } : Room) (va_Pc [.ref o] (fun U => U.heap.size = sz ∧ va_P (dC, dI) classes [(o, .inr (3, [.null, .null, .null, .null, .null, .null, .int (0 : Int32), .null, .null, .null, .null, .null, .null]))] U.heap ∧ va_K (dC, dI) classes (TY cy) U ∧ va_D (fun _ => True) [(o, .inr (3, [.null, .null, .null, .null, .null, .null, .int (0 : Int32), .null, .null, .null, .null, .null, .null]))])) (va_Qv (fun _ : Unit => True) (fun _ t => ∃ e1 e2 e3 e4 e5 e6 e7 e8 e9 e10 e11 e12 : Nat, va_P (dC, dI) classes [(o, .inr (3, [.ref e1, .ref e2, .ref e3, .ref e4, .ref e5, .ref e6, .int (0 : Int32), .ref e7, .ref e8, .ref e9, .ref e10, .ref e11, .ref e12])), (e1, .inl (cy 0, 256, .inl (fun _ => 0))), (e2, .inl (cy 0, 256, .inl (fun _ => 0))), (e3, .inl (cy 0, 256, .inl (fun _ => 0))), (e4, .inl (cy 0, 256, .inl (fun _ => 0))), (e5, .inl (cy 0, 256, .inl (fun _ => 0))), (e6, .inl (cy 0, 256, .inl (fun _ => 0))), (e7, .inl (cy 0, 256, .inl (fun _ => 0))), (e8, .inl (cy 0, 256, .inl (fun _ => 0))), (e9, .inl (cy 0, 256, .inl (fun _ => 0))), (e10, .inl (cy 0, 256, .inl (fun _ => 0))), (e11, .inl (cy 0, 256, .inl (fun _ => 0))), (e12, .inl (cy 0, 256, .inl (fun _ => 0)))] t.heap ∧ va_K (dC, dI) classes (TY cy) t ∧ va_D (va_A [(o, .inr (3, [.null, .null, .null, .null, .null, .null, .int (0 : Int32), .null, .null, .null, .null, .null, .null]))] sz) [(o, .inr (3, [.ref e1, .ref e2, .ref e3, .ref e4, .ref e5, .ref e6, .int (0 : Int32), .ref e7, .ref e8, .ref e9, .ref e10, .ref e11, .ref e12])), (e1, .inl (cy 0, 256, .inl (fun _ => 0))), (e2, .inl (cy 0, 256, .inl (fun _ => 0))), (e3, .inl (cy 0, 256, .inl (fun _ => 0))), (e4, .inl (cy 0, 256, .inl (fun _ => 0))), (e5, .inl (cy 0, 256, .inl (fun _ => 0))), (e6, .inl (cy 0, 256, .inl (fun _ => 0))), (e7, .inl (cy 0, 256, .inl (fun _ => 0))), (e8, .inl (cy 0, 256, .inl (fun _ => 0))), (e9, .inl (cy 0, 256, .inl (fun _ => 0))), (e10, .inl (cy 0, 256, .inl (fun _ => 0))), (e11, .inl (cy 0, 256, .inl (fun _ => 0))), (e12, .inl (cy 0, 256, .inl (fun _ => 0)))]) (va_A [(o, .inr (3, [.null, .null, .null, .null, .null, .null, .int (0 : Int32), .null, .null, .null, .null, .null, .null]))] sz)) 12 3072 (va_A [(o, .inr (3, [.null, .null, .null, .null, .null, .null, .int (0 : Int32), .null, .null, .null, .null, .null, .null]))] sz) := by
  refine Met.ofW (cc := b_Cv_init) (maxL := 1) (ret := none) (by decide) rfl ?_
  intro p e s m args below meth c s₁ B hml hv
  obtain ⟨rfl, hsz, hP, hK, hD0⟩ := hv
  have hx := B.exec
  have hb := B.bytes
  have hr := B.returns
  have hts := atoms_spec (ws := Cond.code y_Cv_init b_Cv_init 1 none :: G) B.pre
  have htsG : ∀ w ∈ G, w.before _ s = true := fun w hw => hts w (List.mem_cons_of_mem _ hw)
  have hown : s.vm.findClass "GlyphPage$Curves" = some m.cls := findClass_of_methodNamed B.named
  have hlocks := B.notSynchronized
  have hin : meth.name = "<init>" := (name_of_methodNamed B.named B.method).1
  subst hsz
  have hD := hD0.self (sz := s.heap.size)
  generalize hAe : va_A [(o, .inr (3, [.null, .null, .null, .null, .null, .null, .int (0 : Int32), .null, .null, .null, .null, .null, .null]))] s.heap.size = A at hD ⊢
  have hA : ∀ q : Nat, s.heap.size ≤ q → A q := fun q h => by rw [← hAe]; exact Or.inr h
  have hS : va_S A s.heap s.heap [] := va_S.rf
  have hl := lv_entry ([.ref o]) (n := 1) (Nat.le_of_ble_eq_true rfl)
  rw [lg_entry_eq]
  generalize (lg_sl ([.ref o]) ++ List.replicate (1 - (lg_sl ([.ref o])).length) Slot.unset).toArray = ls at hl ⊢
  have hl : lv_has ls 1 [(0, .ref o)] := hl
  have C0 : Cx p s m _ meth c A dC dI cy b_Cv_init 1 none "GlyphPage$Curves" := ⟨hx, hb, hr, hlocks, hml, hown, htsG, hA, hK⟩
  unfold P_Cv_init at h
  refine lv_aload_n hx hb d_Cv_init_0 rfl (lv_at hl 0 rfl) ?_
  refine W.objInit hx hb hown (htsG _ mW131) (htsG _ mW20) (htsG _ mW21) rfl (by rw [hml]; exact hl.1) rfl d_Cv_init_1 (Nat.le_of_ble_eq_true rfl) (Nat.le_of_ble_eq_true rfl) ?_
  refine W.eq (g2 := F0 m 4 ls []) rfl ?_
  refine lv_aload_n hx hb d_Cv_init_4 rfl (lv_at hl 0 rfl) ?_
  refine lv_sipush (v := (256 : Int32)) hx hb d_Cv_init_5 (by decide) ?_
  refine va_newa (atype := .int) (a0 := (256, .inl (fun _ => 0))) hx hb (htsG _ mW50) rfl hK hP hD hS hA (fun _ => rfl) (by decide) (by decide) (by decide) (Nat.le_of_ble_eq_true rfl) (Nat.le_of_ble_eq_true rfl) d_Cv_init_8 (fun q_1 cA H hK9 hP hD hS => ?_)
  replace hK9 := cyE_I hK9
  subst hK9
  have hP : va_P (dC, dI) classes [(o, .inr (3, [.null, .null, .null, .null, .null, .null, .int (0 : Int32), .null, .null, .null, .null, .null, .null])), (q_1, .inl (cy 0, 256, .inl (fun _ => 0)))] H := hP
  have hD : va_D A [(o, .inr (3, [.null, .null, .null, .null, .null, .null, .int (0 : Int32), .null, .null, .null, .null, .null, .null])), (q_1, .inl (cy 0, 256, .inl (fun _ => 0)))] := hD
  refine W.widen (k := 1) (n := 256) (by decide) (by decide) ?_
  refine va_putF (D := (dC, dI)) (ci := 3) (v := .ref q_1) (ty := .array .int) (C := "GlyphPage$Curves") (T := F_Cv) (N := 13) hx hb htsG iG_Cv t_Cv t_Cv_ok n_Cv hown hK hP hD hS 0 rfl rfl 0 (by decide) (htsG _ mW132) (fun _ h9 => h9) rfl hin rfl (by decide +kernel) rfl rfl (Nat.le_of_ble_eq_true rfl) d_Cv_init_10 (fun H locs hP hD hS => ?_)
  have hP : va_P (dC, dI) classes [(o, .inr (3, [.ref q_1, .null, .null, .null, .null, .null, .int (0 : Int32), .null, .null, .null, .null, .null, .null])), (q_1, .inl (cy 0, 256, .inl (fun _ => 0)))] H := hP
  have hD : va_D A [(o, .inr (3, [.ref q_1, .null, .null, .null, .null, .null, .int (0 : Int32), .null, .null, .null, .null, .null, .null])), (q_1, .inl (cy 0, 256, .inl (fun _ => 0)))] := hD
  refine lv_aload_n hx hb d_Cv_init_13 rfl (lv_at hl 0 rfl) ?_
  refine lv_sipush (v := (256 : Int32)) hx hb d_Cv_init_14 (by decide) ?_
  refine va_newa (atype := .int) (a0 := (256, .inl (fun _ => 0))) hx hb (htsG _ mW50) rfl hK hP hD hS hA (fun _ => rfl) (by decide) (by decide) (by decide) (Nat.le_of_ble_eq_true rfl) (Nat.le_of_ble_eq_true rfl) d_Cv_init_17 (fun q_2 cA H hK9 hP hD hS => ?_)
  replace hK9 := cyE_I hK9
  subst hK9
  have hP : va_P (dC, dI) classes [(o, .inr (3, [.ref q_1, .null, .null, .null, .null, .null, .int (0 : Int32), .null, .null, .null, .null, .null, .null])), (q_1, .inl (cy 0, 256, .inl (fun _ => 0))), (q_2, .inl (cy 0, 256, .inl (fun _ => 0)))] H := hP
  have hD : va_D A [(o, .inr (3, [.ref q_1, .null, .null, .null, .null, .null, .int (0 : Int32), .null, .null, .null, .null, .null, .null])), (q_1, .inl (cy 0, 256, .inl (fun _ => 0))), (q_2, .inl (cy 0, 256, .inl (fun _ => 0)))] := hD
  refine W.widen (k := 2) (n := 512) (by decide) (by decide) ?_
  refine va_putF (D := (dC, dI)) (ci := 3) (v := .ref q_2) (ty := .array .int) (C := "GlyphPage$Curves") (T := F_Cv) (N := 13) hx hb htsG iG_Cv t_Cv t_Cv_ok n_Cv hown hK hP hD hS 0 rfl rfl 1 (by decide) (htsG _ mW134) (fun _ h9 => h9) rfl hin rfl (by decide +kernel) rfl rfl (Nat.le_of_ble_eq_true rfl) d_Cv_init_19 (fun H locs hP hD hS => ?_)
  have hP : va_P (dC, dI) classes [(o, .inr (3, [.ref q_1, .ref q_2, .null, .null, .null, .null, .int (0 : Int32), .null, .null, .null, .null, .null, .null])), (q_1, .inl (cy 0, 256, .inl (fun _ => 0))), (q_2, .inl (cy 0, 256, .inl (fun _ => 0)))] H := hP
  have hD : va_D A [(o, .inr (3, [.ref q_1, .ref q_2, .null, .null, .null, .null, .int (0 : Int32), .null, .null, .null, .null, .null, .null])), (q_1, .inl (cy 0, 256, .inl (fun _ => 0))), (q_2, .inl (cy 0, 256, .inl (fun _ => 0)))] := hD
  refine lv_aload_n hx hb d_Cv_init_22 rfl (lv_at hl 0 rfl) ?_
  refine lv_sipush (v := (256 : Int32)) hx hb d_Cv_init_23 (by decide) ?_
  refine va_newa (atype := .int) (a0 := (256, .inl (fun _ => 0))) hx hb (htsG _ mW50) rfl hK hP hD hS hA (fun _ => rfl) (by decide) (by decide) (by decide) (Nat.le_of_ble_eq_true rfl) (Nat.le_of_ble_eq_true rfl) d_Cv_init_26 (fun q_3 cA H hK9 hP hD hS => ?_)
  replace hK9 := cyE_I hK9
  subst hK9
  have hP : va_P (dC, dI) classes [(o, .inr (3, [.ref q_1, .ref q_2, .null, .null, .null, .null, .int (0 : Int32), .null, .null, .null, .null, .null, .null])), (q_1, .inl (cy 0, 256, .inl (fun _ => 0))), (q_2, .inl (cy 0, 256, .inl (fun _ => 0))), (q_3, .inl (cy 0, 256, .inl (fun _ => 0)))] H := hP
  have hD : va_D A [(o, .inr (3, [.ref q_1, .ref q_2, .null, .null, .null, .null, .int (0 : Int32), .null, .null, .null, .null, .null, .null])), (q_1, .inl (cy 0, 256, .inl (fun _ => 0))), (q_2, .inl (cy 0, 256, .inl (fun _ => 0))), (q_3, .inl (cy 0, 256, .inl (fun _ => 0)))] := hD
  refine W.widen (k := 3) (n := 768) (by decide) (by decide) ?_
  refine va_putF (D := (dC, dI)) (ci := 3) (v := .ref q_3) (ty := .array .int) (C := "GlyphPage$Curves") (T := F_Cv) (N := 13) hx hb htsG iG_Cv t_Cv t_Cv_ok n_Cv hown hK hP hD hS 0 rfl rfl 2 (by decide) (htsG _ mW136) (fun _ h9 => h9) rfl hin rfl (by decide +kernel) rfl rfl (Nat.le_of_ble_eq_true rfl) d_Cv_init_28 (fun H locs hP hD hS => ?_)
  have hP : va_P (dC, dI) classes [(o, .inr (3, [.ref q_1, .ref q_2, .ref q_3, .null, .null, .null, .int (0 : Int32), .null, .null, .null, .null, .null, .null])), (q_1, .inl (cy 0, 256, .inl (fun _ => 0))), (q_2, .inl (cy 0, 256, .inl (fun _ => 0))), (q_3, .inl (cy 0, 256, .inl (fun _ => 0)))] H := hP
  have hD : va_D A [(o, .inr (3, [.ref q_1, .ref q_2, .ref q_3, .null, .null, .null, .int (0 : Int32), .null, .null, .null, .null, .null, .null])), (q_1, .inl (cy 0, 256, .inl (fun _ => 0))), (q_2, .inl (cy 0, 256, .inl (fun _ => 0))), (q_3, .inl (cy 0, 256, .inl (fun _ => 0)))] := hD
  refine lv_aload_n hx hb d_Cv_init_31 rfl (lv_at hl 0 rfl) ?_
  refine lv_sipush (v := (256 : Int32)) hx hb d_Cv_init_32 (by decide) ?_
  refine va_newa (atype := .int) (a0 := (256, .inl (fun _ => 0))) hx hb (htsG _ mW50) rfl hK hP hD hS hA (fun _ => rfl) (by decide) (by decide) (by decide) (Nat.le_of_ble_eq_true rfl) (Nat.le_of_ble_eq_true rfl) d_Cv_init_35 (fun q_4 cA H hK9 hP hD hS => ?_)
  replace hK9 := cyE_I hK9
  subst hK9
  have hP : va_P (dC, dI) classes [(o, .inr (3, [.ref q_1, .ref q_2, .ref q_3, .null, .null, .null, .int (0 : Int32), .null, .null, .null, .null, .null, .null])), (q_1, .inl (cy 0, 256, .inl (fun _ => 0))), (q_2, .inl (cy 0, 256, .inl (fun _ => 0))), (q_3, .inl (cy 0, 256, .inl (fun _ => 0))), (q_4, .inl (cy 0, 256, .inl (fun _ => 0)))] H := hP
  have hD : va_D A [(o, .inr (3, [.ref q_1, .ref q_2, .ref q_3, .null, .null, .null, .int (0 : Int32), .null, .null, .null, .null, .null, .null])), (q_1, .inl (cy 0, 256, .inl (fun _ => 0))), (q_2, .inl (cy 0, 256, .inl (fun _ => 0))), (q_3, .inl (cy 0, 256, .inl (fun _ => 0))), (q_4, .inl (cy 0, 256, .inl (fun _ => 0)))] := hD
  refine W.widen (k := 4) (n := 1024) (by decide) (by decide) ?_
  refine va_putF (D := (dC, dI)) (ci := 3) (v := .ref q_4) (ty := .array .int) (C := "GlyphPage$Curves") (T := F_Cv) (N := 13) hx hb htsG iG_Cv t_Cv t_Cv_ok n_Cv hown hK hP hD hS 0 rfl rfl 3 (by decide) (htsG _ mW138) (fun _ h9 => h9) rfl hin rfl (by decide +kernel) rfl rfl (Nat.le_of_ble_eq_true rfl) d_Cv_init_37 (fun H locs hP hD hS => ?_)
  have hP : va_P (dC, dI) classes [(o, .inr (3, [.ref q_1, .ref q_2, .ref q_3, .ref q_4, .null, .null, .int (0 : Int32), .null, .null, .null, .null, .null, .null])), (q_1, .inl (cy 0, 256, .inl (fun _ => 0))), (q_2, .inl (cy 0, 256, .inl (fun _ => 0))), (q_3, .inl (cy 0, 256, .inl (fun _ => 0))), (q_4, .inl (cy 0, 256, .inl (fun _ => 0)))] H := hP
  have hD : va_D A [(o, .inr (3, [.ref q_1, .ref q_2, .ref q_3, .ref q_4, .null, .null, .int (0 : Int32), .null, .null, .null, .null, .null, .null])), (q_1, .inl (cy 0, 256, .inl (fun _ => 0))), (q_2, .inl (cy 0, 256, .inl (fun _ => 0))), (q_3, .inl (cy 0, 256, .inl (fun _ => 0))), (q_4, .inl (cy 0, 256, .inl (fun _ => 0)))] := hD
  refine lv_aload_n hx hb d_Cv_init_40 rfl (lv_at hl 0 rfl) ?_
  refine lv_sipush (v := (256 : Int32)) hx hb d_Cv_init_41 (by decide) ?_
  refine va_newa (atype := .int) (a0 := (256, .inl (fun _ => 0))) hx hb (htsG _ mW50) rfl hK hP hD hS hA (fun _ => rfl) (by decide) (by decide) (by decide) (Nat.le_of_ble_eq_true rfl) (Nat.le_of_ble_eq_true rfl) d_Cv_init_44 (fun q_5 cA H hK9 hP hD hS => ?_)
  replace hK9 := cyE_I hK9
  subst hK9
  have hP : va_P (dC, dI) classes [(o, .inr (3, [.ref q_1, .ref q_2, .ref q_3, .ref q_4, .null, .null, .int (0 : Int32), .null, .null, .null, .null, .null, .null])), (q_1, .inl (cy 0, 256, .inl (fun _ => 0))), (q_2, .inl (cy 0, 256, .inl (fun _ => 0))), (q_3, .inl (cy 0, 256, .inl (fun _ => 0))), (q_4, .inl (cy 0, 256, .inl (fun _ => 0))), (q_5, .inl (cy 0, 256, .inl (fun _ => 0)))] H := hP
  have hD : va_D A [(o, .inr (3, [.ref q_1, .ref q_2, .ref q_3, .ref q_4, .null, .null, .int (0 : Int32), .null, .null, .null, .null, .null, .null])), (q_1, .inl (cy 0, 256, .inl (fun _ => 0))), (q_2, .inl (cy 0, 256, .inl (fun _ => 0))), (q_3, .inl (cy 0, 256, .inl (fun _ => 0))), (q_4, .inl (cy 0, 256, .inl (fun _ => 0))), (q_5, .inl (cy 0, 256, .inl (fun _ => 0)))] := hD
  refine W.widen (k := 5) (n := 1280) (by decide) (by decide) ?_
  refine va_putF (D := (dC, dI)) (ci := 3) (v := .ref q_5) (ty := .array .int) (C := "GlyphPage$Curves") (T := F_Cv) (N := 13) hx hb htsG iG_Cv t_Cv t_Cv_ok n_Cv hown hK hP hD hS 0 rfl rfl 4 (by decide) (htsG _ mW140) (fun _ h9 => h9) rfl hin rfl (by decide +kernel) rfl rfl (Nat.le_of_ble_eq_true rfl) d_Cv_init_46 (fun H locs hP hD hS => ?_)
  have hP : va_P (dC, dI) classes [(o, .inr (3, [.ref q_1, .ref q_2, .ref q_3, .ref q_4, .ref q_5, .null, .int (0 : Int32), .null, .null, .null, .null, .null, .null])), (q_1, .inl (cy 0, 256, .inl (fun _ => 0))), (q_2, .inl (cy 0, 256, .inl (fun _ => 0))), (q_3, .inl (cy 0, 256, .inl (fun _ => 0))), (q_4, .inl (cy 0, 256, .inl (fun _ => 0))), (q_5, .inl (cy 0, 256, .inl (fun _ => 0)))] H := hP
  have hD : va_D A [(o, .inr (3, [.ref q_1, .ref q_2, .ref q_3, .ref q_4, .ref q_5, .null, .int (0 : Int32), .null, .null, .null, .null, .null, .null])), (q_1, .inl (cy 0, 256, .inl (fun _ => 0))), (q_2, .inl (cy 0, 256, .inl (fun _ => 0))), (q_3, .inl (cy 0, 256, .inl (fun _ => 0))), (q_4, .inl (cy 0, 256, .inl (fun _ => 0))), (q_5, .inl (cy 0, 256, .inl (fun _ => 0)))] := hD
  refine lv_aload_n hx hb d_Cv_init_49 rfl (lv_at hl 0 rfl) ?_
  refine lv_sipush (v := (256 : Int32)) hx hb d_Cv_init_50 (by decide) ?_
  refine va_newa (atype := .int) (a0 := (256, .inl (fun _ => 0))) hx hb (htsG _ mW50) rfl hK hP hD hS hA (fun _ => rfl) (by decide) (by decide) (by decide) (Nat.le_of_ble_eq_true rfl) (Nat.le_of_ble_eq_true rfl) d_Cv_init_53 (fun q_6 cA H hK9 hP hD hS => ?_)
  replace hK9 := cyE_I hK9
  subst hK9
  have hP : va_P (dC, dI) classes [(o, .inr (3, [.ref q_1, .ref q_2, .ref q_3, .ref q_4, .ref q_5, .null, .int (0 : Int32), .null, .null, .null, .null, .null, .null])), (q_1, .inl (cy 0, 256, .inl (fun _ => 0))), (q_2, .inl (cy 0, 256, .inl (fun _ => 0))), (q_3, .inl (cy 0, 256, .inl (fun _ => 0))), (q_4, .inl (cy 0, 256, .inl (fun _ => 0))), (q_5, .inl (cy 0, 256, .inl (fun _ => 0))), (q_6, .inl (cy 0, 256, .inl (fun _ => 0)))] H := hP
  have hD : va_D A [(o, .inr (3, [.ref q_1, .ref q_2, .ref q_3, .ref q_4, .ref q_5, .null, .int (0 : Int32), .null, .null, .null, .null, .null, .null])), (q_1, .inl (cy 0, 256, .inl (fun _ => 0))), (q_2, .inl (cy 0, 256, .inl (fun _ => 0))), (q_3, .inl (cy 0, 256, .inl (fun _ => 0))), (q_4, .inl (cy 0, 256, .inl (fun _ => 0))), (q_5, .inl (cy 0, 256, .inl (fun _ => 0))), (q_6, .inl (cy 0, 256, .inl (fun _ => 0)))] := hD
  refine W.widen (k := 6) (n := 1536) (by decide) (by decide) ?_
  refine va_putF (D := (dC, dI)) (ci := 3) (v := .ref q_6) (ty := .array .int) (C := "GlyphPage$Curves") (T := F_Cv) (N := 13) hx hb htsG iG_Cv t_Cv t_Cv_ok n_Cv hown hK hP hD hS 0 rfl rfl 5 (by decide) (htsG _ mW142) (fun _ h9 => h9) rfl hin rfl (by decide +kernel) rfl rfl (Nat.le_of_ble_eq_true rfl) d_Cv_init_55 (fun H locs hP hD hS => ?_)
  have hP : va_P (dC, dI) classes [(o, .inr (3, [.ref q_1, .ref q_2, .ref q_3, .ref q_4, .ref q_5, .ref q_6, .int (0 : Int32), .null, .null, .null, .null, .null, .null])), (q_1, .inl (cy 0, 256, .inl (fun _ => 0))), (q_2, .inl (cy 0, 256, .inl (fun _ => 0))), (q_3, .inl (cy 0, 256, .inl (fun _ => 0))), (q_4, .inl (cy 0, 256, .inl (fun _ => 0))), (q_5, .inl (cy 0, 256, .inl (fun _ => 0))), (q_6, .inl (cy 0, 256, .inl (fun _ => 0)))] H := hP
  have hD : va_D A [(o, .inr (3, [.ref q_1, .ref q_2, .ref q_3, .ref q_4, .ref q_5, .ref q_6, .int (0 : Int32), .null, .null, .null, .null, .null, .null])), (q_1, .inl (cy 0, 256, .inl (fun _ => 0))), (q_2, .inl (cy 0, 256, .inl (fun _ => 0))), (q_3, .inl (cy 0, 256, .inl (fun _ => 0))), (q_4, .inl (cy 0, 256, .inl (fun _ => 0))), (q_5, .inl (cy 0, 256, .inl (fun _ => 0))), (q_6, .inl (cy 0, 256, .inl (fun _ => 0)))] := hD
  refine lv_aload_n hx hb d_Cv_init_58 rfl (lv_at hl 0 rfl) ?_
  refine lv_iconst (v := (0 : Int32)) hx hb d_Cv_init_59 (by decide) ?_
  refine va_put (D := (dC, dI)) (ci := 3) (v := .int (0 : Int32)) (ty := .int) (C := "GlyphPage$Curves") (T := F_Cv) (N := 13) hx hb htsG iG_Cv t_Cv t_Cv_ok n_Cv hown hK hP hD hS 0 rfl rfl 6 (by decide) (htsG _ mW144) (fun _ h9 => h9) rfl (by decide +kernel) rfl rfl (Nat.le_of_ble_eq_true rfl) d_Cv_init_60 (fun H locs hP hD hS => ?_)
  have hP : va_P (dC, dI) classes [(o, .inr (3, [.ref q_1, .ref q_2, .ref q_3, .ref q_4, .ref q_5, .ref q_6, .int (0 : Int32), .null, .null, .null, .null, .null, .null])), (q_1, .inl (cy 0, 256, .inl (fun _ => 0))), (q_2, .inl (cy 0, 256, .inl (fun _ => 0))), (q_3, .inl (cy 0, 256, .inl (fun _ => 0))), (q_4, .inl (cy 0, 256, .inl (fun _ => 0))), (q_5, .inl (cy 0, 256, .inl (fun _ => 0))), (q_6, .inl (cy 0, 256, .inl (fun _ => 0)))] H := hP
  have hD : va_D A [(o, .inr (3, [.ref q_1, .ref q_2, .ref q_3, .ref q_4, .ref q_5, .ref q_6, .int (0 : Int32), .null, .null, .null, .null, .null, .null])), (q_1, .inl (cy 0, 256, .inl (fun _ => 0))), (q_2, .inl (cy 0, 256, .inl (fun _ => 0))), (q_3, .inl (cy 0, 256, .inl (fun _ => 0))), (q_4, .inl (cy 0, 256, .inl (fun _ => 0))), (q_5, .inl (cy 0, 256, .inl (fun _ => 0))), (q_6, .inl (cy 0, 256, .inl (fun _ => 0)))] := hD
  refine lv_aload_n hx hb d_Cv_init_63 rfl (lv_at hl 0 rfl) ?_
  refine lv_sipush (v := (256 : Int32)) hx hb d_Cv_init_64 (by decide) ?_
  refine va_newa (atype := .int) (a0 := (256, .inl (fun _ => 0))) hx hb (htsG _ mW50) rfl hK hP hD hS hA (fun _ => rfl) (by decide) (by decide) (by decide) (Nat.le_of_ble_eq_true rfl) (Nat.le_of_ble_eq_true rfl) d_Cv_init_67 (fun q_7 cA H hK9 hP hD hS => ?_)
  replace hK9 := cyE_I hK9
  subst hK9
  have hP : va_P (dC, dI) classes [(o, .inr (3, [.ref q_1, .ref q_2, .ref q_3, .ref q_4, .ref q_5, .ref q_6, .int (0 : Int32), .null, .null, .null, .null, .null, .null])), (q_1, .inl (cy 0, 256, .inl (fun _ => 0))), (q_2, .inl (cy 0, 256, .inl (fun _ => 0))), (q_3, .inl (cy 0, 256, .inl (fun _ => 0))), (q_4, .inl (cy 0, 256, .inl (fun _ => 0))), (q_5, .inl (cy 0, 256, .inl (fun _ => 0))), (q_6, .inl (cy 0, 256, .inl (fun _ => 0))), (q_7, .inl (cy 0, 256, .inl (fun _ => 0)))] H := hP
  have hD : va_D A [(o, .inr (3, [.ref q_1, .ref q_2, .ref q_3, .ref q_4, .ref q_5, .ref q_6, .int (0 : Int32), .null, .null, .null, .null, .null, .null])), (q_1, .inl (cy 0, 256, .inl (fun _ => 0))), (q_2, .inl (cy 0, 256, .inl (fun _ => 0))), (q_3, .inl (cy 0, 256, .inl (fun _ => 0))), (q_4, .inl (cy 0, 256, .inl (fun _ => 0))), (q_5, .inl (cy 0, 256, .inl (fun _ => 0))), (q_6, .inl (cy 0, 256, .inl (fun _ => 0))), (q_7, .inl (cy 0, 256, .inl (fun _ => 0)))] := hD
  refine W.widen (k := 7) (n := 1792) (by decide) (by decide) ?_
  refine va_putF (D := (dC, dI)) (ci := 3) (v := .ref q_7) (ty := .array .int) (C := "GlyphPage$Curves") (T := F_Cv) (N := 13) hx hb htsG iG_Cv t_Cv t_Cv_ok n_Cv hown hK hP hD hS 0 rfl rfl 7 (by decide) (htsG _ mW146) (fun _ h9 => h9) rfl hin rfl (by decide +kernel) rfl rfl (Nat.le_of_ble_eq_true rfl) d_Cv_init_69 (fun H locs hP hD hS => ?_)
  have hP : va_P (dC, dI) classes [(o, .inr (3, [.ref q_1, .ref q_2, .ref q_3, .ref q_4, .ref q_5, .ref q_6, .int (0 : Int32), .ref q_7, .null, .null, .null, .null, .null])), (q_1, .inl (cy 0, 256, .inl (fun _ => 0))), (q_2, .inl (cy 0, 256, .inl (fun _ => 0))), (q_3, .inl (cy 0, 256, .inl (fun _ => 0))), (q_4, .inl (cy 0, 256, .inl (fun _ => 0))), (q_5, .inl (cy 0, 256, .inl (fun _ => 0))), (q_6, .inl (cy 0, 256, .inl (fun _ => 0))), (q_7, .inl (cy 0, 256, .inl (fun _ => 0)))] H := hP
  have hD : va_D A [(o, .inr (3, [.ref q_1, .ref q_2, .ref q_3, .ref q_4, .ref q_5, .ref q_6, .int (0 : Int32), .ref q_7, .null, .null, .null, .null, .null])), (q_1, .inl (cy 0, 256, .inl (fun _ => 0))), (q_2, .inl (cy 0, 256, .inl (fun _ => 0))), (q_3, .inl (cy 0, 256, .inl (fun _ => 0))), (q_4, .inl (cy 0, 256, .inl (fun _ => 0))), (q_5, .inl (cy 0, 256, .inl (fun _ => 0))), (q_6, .inl (cy 0, 256, .inl (fun _ => 0))), (q_7, .inl (cy 0, 256, .inl (fun _ => 0)))] := hD
  refine lv_aload_n hx hb d_Cv_init_72 rfl (lv_at hl 0 rfl) ?_
  refine lv_sipush (v := (256 : Int32)) hx hb d_Cv_init_73 (by decide) ?_
  refine va_newa (atype := .int) (a0 := (256, .inl (fun _ => 0))) hx hb (htsG _ mW50) rfl hK hP hD hS hA (fun _ => rfl) (by decide) (by decide) (by decide) (Nat.le_of_ble_eq_true rfl) (Nat.le_of_ble_eq_true rfl) d_Cv_init_76 (fun q_8 cA H hK9 hP hD hS => ?_)
  replace hK9 := cyE_I hK9
  subst hK9
  have hP : va_P (dC, dI) classes [(o, .inr (3, [.ref q_1, .ref q_2, .ref q_3, .ref q_4, .ref q_5, .ref q_6, .int (0 : Int32), .ref q_7, .null, .null, .null, .null, .null])), (q_1, .inl (cy 0, 256, .inl (fun _ => 0))), (q_2, .inl (cy 0, 256, .inl (fun _ => 0))), (q_3, .inl (cy 0, 256, .inl (fun _ => 0))), (q_4, .inl (cy 0, 256, .inl (fun _ => 0))), (q_5, .inl (cy 0, 256, .inl (fun _ => 0))), (q_6, .inl (cy 0, 256, .inl (fun _ => 0))), (q_7, .inl (cy 0, 256, .inl (fun _ => 0))), (q_8, .inl (cy 0, 256, .inl (fun _ => 0)))] H := hP
  have hD : va_D A [(o, .inr (3, [.ref q_1, .ref q_2, .ref q_3, .ref q_4, .ref q_5, .ref q_6, .int (0 : Int32), .ref q_7, .null, .null, .null, .null, .null])), (q_1, .inl (cy 0, 256, .inl (fun _ => 0))), (q_2, .inl (cy 0, 256, .inl (fun _ => 0))), (q_3, .inl (cy 0, 256, .inl (fun _ => 0))), (q_4, .inl (cy 0, 256, .inl (fun _ => 0))), (q_5, .inl (cy 0, 256, .inl (fun _ => 0))), (q_6, .inl (cy 0, 256, .inl (fun _ => 0))), (q_7, .inl (cy 0, 256, .inl (fun _ => 0))), (q_8, .inl (cy 0, 256, .inl (fun _ => 0)))] := hD
  refine W.widen (k := 8) (n := 2048) (by decide) (by decide) ?_
  refine va_putF (D := (dC, dI)) (ci := 3) (v := .ref q_8) (ty := .array .int) (C := "GlyphPage$Curves") (T := F_Cv) (N := 13) hx hb htsG iG_Cv t_Cv t_Cv_ok n_Cv hown hK hP hD hS 0 rfl rfl 8 (by decide) (htsG _ mW147) (fun _ h9 => h9) rfl hin rfl (by decide +kernel) rfl rfl (Nat.le_of_ble_eq_true rfl) d_Cv_init_78 (fun H locs hP hD hS => ?_)
  have hP : va_P (dC, dI) classes [(o, .inr (3, [.ref q_1, .ref q_2, .ref q_3, .ref q_4, .ref q_5, .ref q_6, .int (0 : Int32), .ref q_7, .ref q_8, .null, .null, .null, .null])), (q_1, .inl (cy 0, 256, .inl (fun _ => 0))), (q_2, .inl (cy 0, 256, .inl (fun _ => 0))), (q_3, .inl (cy 0, 256, .inl (fun _ => 0))), (q_4, .inl (cy 0, 256, .inl (fun _ => 0))), (q_5, .inl (cy 0, 256, .inl (fun _ => 0))), (q_6, .inl (cy 0, 256, .inl (fun _ => 0))), (q_7, .inl (cy 0, 256, .inl (fun _ => 0))), (q_8, .inl (cy 0, 256, .inl (fun _ => 0)))] H := hP
  have hD : va_D A [(o, .inr (3, [.ref q_1, .ref q_2, .ref q_3, .ref q_4, .ref q_5, .ref q_6, .int (0 : Int32), .ref q_7, .ref q_8, .null, .null, .null, .null])), (q_1, .inl (cy 0, 256, .inl (fun _ => 0))), (q_2, .inl (cy 0, 256, .inl (fun _ => 0))), (q_3, .inl (cy 0, 256, .inl (fun _ => 0))), (q_4, .inl (cy 0, 256, .inl (fun _ => 0))), (q_5, .inl (cy 0, 256, .inl (fun _ => 0))), (q_6, .inl (cy 0, 256, .inl (fun _ => 0))), (q_7, .inl (cy 0, 256, .inl (fun _ => 0))), (q_8, .inl (cy 0, 256, .inl (fun _ => 0)))] := hD
  refine lv_aload_n hx hb d_Cv_init_81 rfl (lv_at hl 0 rfl) ?_
  refine lv_sipush (v := (256 : Int32)) hx hb d_Cv_init_82 (by decide) ?_
  refine va_newa (atype := .int) (a0 := (256, .inl (fun _ => 0))) hx hb (htsG _ mW50) rfl hK hP hD hS hA (fun _ => rfl) (by decide) (by decide) (by decide) (Nat.le_of_ble_eq_true rfl) (Nat.le_of_ble_eq_true rfl) d_Cv_init_85 (fun q_9 cA H hK9 hP hD hS => ?_)
  replace hK9 := cyE_I hK9
  subst hK9
  have hP : va_P (dC, dI) classes [(o, .inr (3, [.ref q_1, .ref q_2, .ref q_3, .ref q_4, .ref q_5, .ref q_6, .int (0 : Int32), .ref q_7, .ref q_8, .null, .null, .null, .null])), (q_1, .inl (cy 0, 256, .inl (fun _ => 0))), (q_2, .inl (cy 0, 256, .inl (fun _ => 0))), (q_3, .inl (cy 0, 256, .inl (fun _ => 0))), (q_4, .inl (cy 0, 256, .inl (fun _ => 0))), (q_5, .inl (cy 0, 256, .inl (fun _ => 0))), (q_6, .inl (cy 0, 256, .inl (fun _ => 0))), (q_7, .inl (cy 0, 256, .inl (fun _ => 0))), (q_8, .inl (cy 0, 256, .inl (fun _ => 0))), (q_9, .inl (cy 0, 256, .inl (fun _ => 0)))] H := hP
  have hD : va_D A [(o, .inr (3, [.ref q_1, .ref q_2, .ref q_3, .ref q_4, .ref q_5, .ref q_6, .int (0 : Int32), .ref q_7, .ref q_8, .null, .null, .null, .null])), (q_1, .inl (cy 0, 256, .inl (fun _ => 0))), (q_2, .inl (cy 0, 256, .inl (fun _ => 0))), (q_3, .inl (cy 0, 256, .inl (fun _ => 0))), (q_4, .inl (cy 0, 256, .inl (fun _ => 0))), (q_5, .inl (cy 0, 256, .inl (fun _ => 0))), (q_6, .inl (cy 0, 256, .inl (fun _ => 0))), (q_7, .inl (cy 0, 256, .inl (fun _ => 0))), (q_8, .inl (cy 0, 256, .inl (fun _ => 0))), (q_9, .inl (cy 0, 256, .inl (fun _ => 0)))] := hD
  refine W.widen (k := 9) (n := 2304) (by decide) (by decide) ?_
  refine va_putF (D := (dC, dI)) (ci := 3) (v := .ref q_9) (ty := .array .int) (C := "GlyphPage$Curves") (T := F_Cv) (N := 13) hx hb htsG iG_Cv t_Cv t_Cv_ok n_Cv hown hK hP hD hS 0 rfl rfl 9 (by decide) (htsG _ mW148) (fun _ h9 => h9) rfl hin rfl (by decide +kernel) rfl rfl (Nat.le_of_ble_eq_true rfl) d_Cv_init_87 (fun H locs hP hD hS => ?_)
  have hP : va_P (dC, dI) classes [(o, .inr (3, [.ref q_1, .ref q_2, .ref q_3, .ref q_4, .ref q_5, .ref q_6, .int (0 : Int32), .ref q_7, .ref q_8, .ref q_9, .null, .null, .null])), (q_1, .inl (cy 0, 256, .inl (fun _ => 0))), (q_2, .inl (cy 0, 256, .inl (fun _ => 0))), (q_3, .inl (cy 0, 256, .inl (fun _ => 0))), (q_4, .inl (cy 0, 256, .inl (fun _ => 0))), (q_5, .inl (cy 0, 256, .inl (fun _ => 0))), (q_6, .inl (cy 0, 256, .inl (fun _ => 0))), (q_7, .inl (cy 0, 256, .inl (fun _ => 0))), (q_8, .inl (cy 0, 256, .inl (fun _ => 0))), (q_9, .inl (cy 0, 256, .inl (fun _ => 0)))] H := hP
  have hD : va_D A [(o, .inr (3, [.ref q_1, .ref q_2, .ref q_3, .ref q_4, .ref q_5, .ref q_6, .int (0 : Int32), .ref q_7, .ref q_8, .ref q_9, .null, .null, .null])), (q_1, .inl (cy 0, 256, .inl (fun _ => 0))), (q_2, .inl (cy 0, 256, .inl (fun _ => 0))), (q_3, .inl (cy 0, 256, .inl (fun _ => 0))), (q_4, .inl (cy 0, 256, .inl (fun _ => 0))), (q_5, .inl (cy 0, 256, .inl (fun _ => 0))), (q_6, .inl (cy 0, 256, .inl (fun _ => 0))), (q_7, .inl (cy 0, 256, .inl (fun _ => 0))), (q_8, .inl (cy 0, 256, .inl (fun _ => 0))), (q_9, .inl (cy 0, 256, .inl (fun _ => 0)))] := hD
  refine lv_aload_n hx hb d_Cv_init_90 rfl (lv_at hl 0 rfl) ?_
  refine lv_sipush (v := (256 : Int32)) hx hb d_Cv_init_91 (by decide) ?_
  refine va_newa (atype := .int) (a0 := (256, .inl (fun _ => 0))) hx hb (htsG _ mW50) rfl hK hP hD hS hA (fun _ => rfl) (by decide) (by decide) (by decide) (Nat.le_of_ble_eq_true rfl) (Nat.le_of_ble_eq_true rfl) d_Cv_init_94 (fun q_10 cA H hK9 hP hD hS => ?_)
  replace hK9 := cyE_I hK9
  subst hK9
  have hP : va_P (dC, dI) classes [(o, .inr (3, [.ref q_1, .ref q_2, .ref q_3, .ref q_4, .ref q_5, .ref q_6, .int (0 : Int32), .ref q_7, .ref q_8, .ref q_9, .null, .null, .null])), (q_1, .inl (cy 0, 256, .inl (fun _ => 0))), (q_2, .inl (cy 0, 256, .inl (fun _ => 0))), (q_3, .inl (cy 0, 256, .inl (fun _ => 0))), (q_4, .inl (cy 0, 256, .inl (fun _ => 0))), (q_5, .inl (cy 0, 256, .inl (fun _ => 0))), (q_6, .inl (cy 0, 256, .inl (fun _ => 0))), (q_7, .inl (cy 0, 256, .inl (fun _ => 0))), (q_8, .inl (cy 0, 256, .inl (fun _ => 0))), (q_9, .inl (cy 0, 256, .inl (fun _ => 0))), (q_10, .inl (cy 0, 256, .inl (fun _ => 0)))] H := hP
  have hD : va_D A [(o, .inr (3, [.ref q_1, .ref q_2, .ref q_3, .ref q_4, .ref q_5, .ref q_6, .int (0 : Int32), .ref q_7, .ref q_8, .ref q_9, .null, .null, .null])), (q_1, .inl (cy 0, 256, .inl (fun _ => 0))), (q_2, .inl (cy 0, 256, .inl (fun _ => 0))), (q_3, .inl (cy 0, 256, .inl (fun _ => 0))), (q_4, .inl (cy 0, 256, .inl (fun _ => 0))), (q_5, .inl (cy 0, 256, .inl (fun _ => 0))), (q_6, .inl (cy 0, 256, .inl (fun _ => 0))), (q_7, .inl (cy 0, 256, .inl (fun _ => 0))), (q_8, .inl (cy 0, 256, .inl (fun _ => 0))), (q_9, .inl (cy 0, 256, .inl (fun _ => 0))), (q_10, .inl (cy 0, 256, .inl (fun _ => 0)))] := hD
  refine W.widen (k := 10) (n := 2560) (by decide) (by decide) ?_
  refine va_putF (D := (dC, dI)) (ci := 3) (v := .ref q_10) (ty := .array .int) (C := "GlyphPage$Curves") (T := F_Cv) (N := 13) hx hb htsG iG_Cv t_Cv t_Cv_ok n_Cv hown hK hP hD hS 0 rfl rfl 10 (by decide) (htsG _ mW149) (fun _ h9 => h9) rfl hin rfl (by decide +kernel) rfl rfl (Nat.le_of_ble_eq_true rfl) d_Cv_init_96 (fun H locs hP hD hS => ?_)
  have hP : va_P (dC, dI) classes [(o, .inr (3, [.ref q_1, .ref q_2, .ref q_3, .ref q_4, .ref q_5, .ref q_6, .int (0 : Int32), .ref q_7, .ref q_8, .ref q_9, .ref q_10, .null, .null])), (q_1, .inl (cy 0, 256, .inl (fun _ => 0))), (q_2, .inl (cy 0, 256, .inl (fun _ => 0))), (q_3, .inl (cy 0, 256, .inl (fun _ => 0))), (q_4, .inl (cy 0, 256, .inl (fun _ => 0))), (q_5, .inl (cy 0, 256, .inl (fun _ => 0))), (q_6, .inl (cy 0, 256, .inl (fun _ => 0))), (q_7, .inl (cy 0, 256, .inl (fun _ => 0))), (q_8, .inl (cy 0, 256, .inl (fun _ => 0))), (q_9, .inl (cy 0, 256, .inl (fun _ => 0))), (q_10, .inl (cy 0, 256, .inl (fun _ => 0)))] H := hP
  have hD : va_D A [(o, .inr (3, [.ref q_1, .ref q_2, .ref q_3, .ref q_4, .ref q_5, .ref q_6, .int (0 : Int32), .ref q_7, .ref q_8, .ref q_9, .ref q_10, .null, .null])), (q_1, .inl (cy 0, 256, .inl (fun _ => 0))), (q_2, .inl (cy 0, 256, .inl (fun _ => 0))), (q_3, .inl (cy 0, 256, .inl (fun _ => 0))), (q_4, .inl (cy 0, 256, .inl (fun _ => 0))), (q_5, .inl (cy 0, 256, .inl (fun _ => 0))), (q_6, .inl (cy 0, 256, .inl (fun _ => 0))), (q_7, .inl (cy 0, 256, .inl (fun _ => 0))), (q_8, .inl (cy 0, 256, .inl (fun _ => 0))), (q_9, .inl (cy 0, 256, .inl (fun _ => 0))), (q_10, .inl (cy 0, 256, .inl (fun _ => 0)))] := hD
  refine lv_aload_n hx hb d_Cv_init_99 rfl (lv_at hl 0 rfl) ?_
  refine lv_sipush (v := (256 : Int32)) hx hb d_Cv_init_100 (by decide) ?_
  refine va_newa (atype := .int) (a0 := (256, .inl (fun _ => 0))) hx hb (htsG _ mW50) rfl hK hP hD hS hA (fun _ => rfl) (by decide) (by decide) (by decide) (Nat.le_of_ble_eq_true rfl) (Nat.le_of_ble_eq_true rfl) d_Cv_init_103 (fun q_11 cA H hK9 hP hD hS => ?_)
  replace hK9 := cyE_I hK9
  subst hK9
  have hP : va_P (dC, dI) classes [(o, .inr (3, [.ref q_1, .ref q_2, .ref q_3, .ref q_4, .ref q_5, .ref q_6, .int (0 : Int32), .ref q_7, .ref q_8, .ref q_9, .ref q_10, .null, .null])), (q_1, .inl (cy 0, 256, .inl (fun _ => 0))), (q_2, .inl (cy 0, 256, .inl (fun _ => 0))), (q_3, .inl (cy 0, 256, .inl (fun _ => 0))), (q_4, .inl (cy 0, 256, .inl (fun _ => 0))), (q_5, .inl (cy 0, 256, .inl (fun _ => 0))), (q_6, .inl (cy 0, 256, .inl (fun _ => 0))), (q_7, .inl (cy 0, 256, .inl (fun _ => 0))), (q_8, .inl (cy 0, 256, .inl (fun _ => 0))), (q_9, .inl (cy 0, 256, .inl (fun _ => 0))), (q_10, .inl (cy 0, 256, .inl (fun _ => 0))), (q_11, .inl (cy 0, 256, .inl (fun _ => 0)))] H := hP
  have hD : va_D A [(o, .inr (3, [.ref q_1, .ref q_2, .ref q_3, .ref q_4, .ref q_5, .ref q_6, .int (0 : Int32), .ref q_7, .ref q_8, .ref q_9, .ref q_10, .null, .null])), (q_1, .inl (cy 0, 256, .inl (fun _ => 0))), (q_2, .inl (cy 0, 256, .inl (fun _ => 0))), (q_3, .inl (cy 0, 256, .inl (fun _ => 0))), (q_4, .inl (cy 0, 256, .inl (fun _ => 0))), (q_5, .inl (cy 0, 256, .inl (fun _ => 0))), (q_6, .inl (cy 0, 256, .inl (fun _ => 0))), (q_7, .inl (cy 0, 256, .inl (fun _ => 0))), (q_8, .inl (cy 0, 256, .inl (fun _ => 0))), (q_9, .inl (cy 0, 256, .inl (fun _ => 0))), (q_10, .inl (cy 0, 256, .inl (fun _ => 0))), (q_11, .inl (cy 0, 256, .inl (fun _ => 0)))] := hD
  refine W.widen (k := 11) (n := 2816) (by decide) (by decide) ?_
  refine va_putF (D := (dC, dI)) (ci := 3) (v := .ref q_11) (ty := .array .int) (C := "GlyphPage$Curves") (T := F_Cv) (N := 13) hx hb htsG iG_Cv t_Cv t_Cv_ok n_Cv hown hK hP hD hS 0 rfl rfl 11 (by decide) (htsG _ mW150) (fun _ h9 => h9) rfl hin rfl (by decide +kernel) rfl rfl (Nat.le_of_ble_eq_true rfl) d_Cv_init_105 (fun H locs hP hD hS => ?_)
  have hP : va_P (dC, dI) classes [(o, .inr (3, [.ref q_1, .ref q_2, .ref q_3, .ref q_4, .ref q_5, .ref q_6, .int (0 : Int32), .ref q_7, .ref q_8, .ref q_9, .ref q_10, .ref q_11, .null])), (q_1, .inl (cy 0, 256, .inl (fun _ => 0))), (q_2, .inl (cy 0, 256, .inl (fun _ => 0))), (q_3, .inl (cy 0, 256, .inl (fun _ => 0))), (q_4, .inl (cy 0, 256, .inl (fun _ => 0))), (q_5, .inl (cy 0, 256, .inl (fun _ => 0))), (q_6, .inl (cy 0, 256, .inl (fun _ => 0))), (q_7, .inl (cy 0, 256, .inl (fun _ => 0))), (q_8, .inl (cy 0, 256, .inl (fun _ => 0))), (q_9, .inl (cy 0, 256, .inl (fun _ => 0))), (q_10, .inl (cy 0, 256, .inl (fun _ => 0))), (q_11, .inl (cy 0, 256, .inl (fun _ => 0)))] H := hP
  have hD : va_D A [(o, .inr (3, [.ref q_1, .ref q_2, .ref q_3, .ref q_4, .ref q_5, .ref q_6, .int (0 : Int32), .ref q_7, .ref q_8, .ref q_9, .ref q_10, .ref q_11, .null])), (q_1, .inl (cy 0, 256, .inl (fun _ => 0))), (q_2, .inl (cy 0, 256, .inl (fun _ => 0))), (q_3, .inl (cy 0, 256, .inl (fun _ => 0))), (q_4, .inl (cy 0, 256, .inl (fun _ => 0))), (q_5, .inl (cy 0, 256, .inl (fun _ => 0))), (q_6, .inl (cy 0, 256, .inl (fun _ => 0))), (q_7, .inl (cy 0, 256, .inl (fun _ => 0))), (q_8, .inl (cy 0, 256, .inl (fun _ => 0))), (q_9, .inl (cy 0, 256, .inl (fun _ => 0))), (q_10, .inl (cy 0, 256, .inl (fun _ => 0))), (q_11, .inl (cy 0, 256, .inl (fun _ => 0)))] := hD
  refine lv_aload_n hx hb d_Cv_init_108 rfl (lv_at hl 0 rfl) ?_
  refine lv_sipush (v := (256 : Int32)) hx hb d_Cv_init_109 (by decide) ?_
  refine va_newa (atype := .int) (a0 := (256, .inl (fun _ => 0))) hx hb (htsG _ mW50) rfl hK hP hD hS hA (fun _ => rfl) (by decide) (by decide) (by decide) (Nat.le_of_ble_eq_true rfl) (Nat.le_of_ble_eq_true rfl) d_Cv_init_112 (fun q_12 cA H hK9 hP hD hS => ?_)
  replace hK9 := cyE_I hK9
  subst hK9
  have hP : va_P (dC, dI) classes [(o, .inr (3, [.ref q_1, .ref q_2, .ref q_3, .ref q_4, .ref q_5, .ref q_6, .int (0 : Int32), .ref q_7, .ref q_8, .ref q_9, .ref q_10, .ref q_11, .null])), (q_1, .inl (cy 0, 256, .inl (fun _ => 0))), (q_2, .inl (cy 0, 256, .inl (fun _ => 0))), (q_3, .inl (cy 0, 256, .inl (fun _ => 0))), (q_4, .inl (cy 0, 256, .inl (fun _ => 0))), (q_5, .inl (cy 0, 256, .inl (fun _ => 0))), (q_6, .inl (cy 0, 256, .inl (fun _ => 0))), (q_7, .inl (cy 0, 256, .inl (fun _ => 0))), (q_8, .inl (cy 0, 256, .inl (fun _ => 0))), (q_9, .inl (cy 0, 256, .inl (fun _ => 0))), (q_10, .inl (cy 0, 256, .inl (fun _ => 0))), (q_11, .inl (cy 0, 256, .inl (fun _ => 0))), (q_12, .inl (cy 0, 256, .inl (fun _ => 0)))] H := hP
  have hD : va_D A [(o, .inr (3, [.ref q_1, .ref q_2, .ref q_3, .ref q_4, .ref q_5, .ref q_6, .int (0 : Int32), .ref q_7, .ref q_8, .ref q_9, .ref q_10, .ref q_11, .null])), (q_1, .inl (cy 0, 256, .inl (fun _ => 0))), (q_2, .inl (cy 0, 256, .inl (fun _ => 0))), (q_3, .inl (cy 0, 256, .inl (fun _ => 0))), (q_4, .inl (cy 0, 256, .inl (fun _ => 0))), (q_5, .inl (cy 0, 256, .inl (fun _ => 0))), (q_6, .inl (cy 0, 256, .inl (fun _ => 0))), (q_7, .inl (cy 0, 256, .inl (fun _ => 0))), (q_8, .inl (cy 0, 256, .inl (fun _ => 0))), (q_9, .inl (cy 0, 256, .inl (fun _ => 0))), (q_10, .inl (cy 0, 256, .inl (fun _ => 0))), (q_11, .inl (cy 0, 256, .inl (fun _ => 0))), (q_12, .inl (cy 0, 256, .inl (fun _ => 0)))] := hD
  refine W.widen (k := 12) (n := 3072) (by decide) (by decide) ?_
  refine va_putF (D := (dC, dI)) (ci := 3) (v := .ref q_12) (ty := .array .int) (C := "GlyphPage$Curves") (T := F_Cv) (N := 13) hx hb htsG iG_Cv t_Cv t_Cv_ok n_Cv hown hK hP hD hS 0 rfl rfl 12 (by decide) (htsG _ mW151) (fun _ h9 => h9) rfl hin rfl (by decide +kernel) rfl rfl (Nat.le_of_ble_eq_true rfl) d_Cv_init_114 (fun H locs hP hD hS => ?_)
  have hP : va_P (dC, dI) classes [(o, .inr (3, [.ref q_1, .ref q_2, .ref q_3, .ref q_4, .ref q_5, .ref q_6, .int (0 : Int32), .ref q_7, .ref q_8, .ref q_9, .ref q_10, .ref q_11, .ref q_12])), (q_1, .inl (cy 0, 256, .inl (fun _ => 0))), (q_2, .inl (cy 0, 256, .inl (fun _ => 0))), (q_3, .inl (cy 0, 256, .inl (fun _ => 0))), (q_4, .inl (cy 0, 256, .inl (fun _ => 0))), (q_5, .inl (cy 0, 256, .inl (fun _ => 0))), (q_6, .inl (cy 0, 256, .inl (fun _ => 0))), (q_7, .inl (cy 0, 256, .inl (fun _ => 0))), (q_8, .inl (cy 0, 256, .inl (fun _ => 0))), (q_9, .inl (cy 0, 256, .inl (fun _ => 0))), (q_10, .inl (cy 0, 256, .inl (fun _ => 0))), (q_11, .inl (cy 0, 256, .inl (fun _ => 0))), (q_12, .inl (cy 0, 256, .inl (fun _ => 0)))] H := hP
  have hD : va_D A [(o, .inr (3, [.ref q_1, .ref q_2, .ref q_3, .ref q_4, .ref q_5, .ref q_6, .int (0 : Int32), .ref q_7, .ref q_8, .ref q_9, .ref q_10, .ref q_11, .ref q_12])), (q_1, .inl (cy 0, 256, .inl (fun _ => 0))), (q_2, .inl (cy 0, 256, .inl (fun _ => 0))), (q_3, .inl (cy 0, 256, .inl (fun _ => 0))), (q_4, .inl (cy 0, 256, .inl (fun _ => 0))), (q_5, .inl (cy 0, 256, .inl (fun _ => 0))), (q_6, .inl (cy 0, 256, .inl (fun _ => 0))), (q_7, .inl (cy 0, 256, .inl (fun _ => 0))), (q_8, .inl (cy 0, 256, .inl (fun _ => 0))), (q_9, .inl (cy 0, 256, .inl (fun _ => 0))), (q_10, .inl (cy 0, 256, .inl (fun _ => 0))), (q_11, .inl (cy 0, 256, .inl (fun _ => 0))), (q_12, .inl (cy 0, 256, .inl (fun _ => 0)))] := hD
  cases h
  exact W.vret hx hb hr (fun t ht hW => ⟨⟨(), rfl, trivial, q_1, q_2, q_3, q_4, q_5, q_6, q_7, q_8, q_9, q_10, q_11, q_12, by rw [ht]; exact hP, va_K.moved hW.alike hK, hD⟩, hS.F ht⟩) hS.2.2 d_Cv_init_117 hlocks
def P_Ln_init   : Option (Unit) :=
  some ()
set_option maxHeartbeats 4000000 in
set_option maxRecDepth 100000 in
theorem c_Ln_init (l : Launch) (dC : Nat → ClassId) (dI : Nat → Nat → Nat) (cy : Nat → ClassId) (sz : Nat) (o : Nat)   (uu : Unit) (h : P_Ln_init  = some uu) : Met l y_Ln_init (Cond.code y_Ln_init b_Ln_init 1 none :: G) ({ frames := 1, cells := 6, slots := 1200, locals := 20 } : Room) (va_Pc [.ref o] (fun U => U.heap.size = sz ∧ va_P (dC, dI) classes [(o, .inr (4, [.null, .null, .null, .int (0 : Int32), .null, .null, .null]))] U.heap ∧ va_K (dC, dI) classes (TY cy) U ∧ va_D (fun _ => True) [(o, .inr (4, [.null, .null, .null, .int (0 : Int32), .null, .null, .null]))])) (va_Qv (fun _ : Unit => True) (fun _ t => ∃ e1 e2 e3 e4 e5 e6 : Nat, va_P (dC, dI) classes [(o, .inr (4, [.ref e1, .ref e2, .ref e3, .int (0 : Int32), .ref e4, .ref e5, .ref e6])), (e1, .inl (cy 0, 200, .inl (fun _ => 0))), (e2, .inl (cy 0, 200, .inl (fun _ => 0))), (e3, .inl (cy 0, 200, .inl (fun _ => 0))), (e4, .inl (cy 0, 200, .inl (fun _ => 0))), (e5, .inl (cy 0, 200, .inl (fun _ => 0))), (e6, .inl (cy 0, 200, .inl (fun _ => 0)))] t.heap ∧ va_K (dC, dI) classes (TY cy) t ∧ va_D (va_A [(o, .inr (4, [.null, .null, .null, .int (0 : Int32), .null, .null, .null]))] sz) [(o, .inr (4, [.ref e1, .ref e2, .ref e3, .int (0 : Int32), .ref e4, .ref e5, .ref e6])), (e1, .inl (cy 0, 200, .inl (fun _ => 0))), (e2, .inl (cy 0, 200, .inl (fun _ => 0))), (e3, .inl (cy 0, 200, .inl (fun _ => 0))), (e4, .inl (cy 0, 200, .inl (fun _ => 0))), (e5, .inl (cy 0, 200, .inl (fun _ => 0))), (e6, .inl (cy 0, 200, .inl (fun _ => 0)))]) (va_A [(o, .inr (4, [.null, .null, .null, .int (0 : Int32), .null, .null, .null]))] sz)) 6 1200 (va_A [(o, .inr (4, [.null, .null, .null, .int (0 : Int32), .null, .null, .null]))] sz) := by
  refine Met.ofW (cc := b_Ln_init) (maxL := 1) (ret := none) (by decide) rfl ?_
  intro p e s m args below meth c s₁ B hml hv
  obtain ⟨rfl, hsz, hP, hK, hD0⟩ := hv
  have hx := B.exec
  have hb := B.bytes
  have hr := B.returns
  have hts := atoms_spec (ws := Cond.code y_Ln_init b_Ln_init 1 none :: G) B.pre
  have htsG : ∀ w ∈ G, w.before _ s = true := fun w hw => hts w (List.mem_cons_of_mem _ hw)
  have hown : s.vm.findClass "GlyphPage$Lines" = some m.cls := findClass_of_methodNamed B.named
  have hlocks := B.notSynchronized
  have hin : meth.name = "<init>" := (name_of_methodNamed B.named B.method).1
  subst hsz
  have hD := hD0.self (sz := s.heap.size)
  generalize hAe : va_A [(o, .inr (4, [.null, .null, .null, .int (0 : Int32), .null, .null, .null]))] s.heap.size = A at hD ⊢
  have hA : ∀ q : Nat, s.heap.size ≤ q → A q := fun q h => by rw [← hAe]; exact Or.inr h
  have hS : va_S A s.heap s.heap [] := va_S.rf
  have hl := lv_entry ([.ref o]) (n := 1) (Nat.le_of_ble_eq_true rfl)
  rw [lg_entry_eq]
  generalize (lg_sl ([.ref o]) ++ List.replicate (1 - (lg_sl ([.ref o])).length) Slot.unset).toArray = ls at hl ⊢
  have hl : lv_has ls 1 [(0, .ref o)] := hl
  have C0 : Cx p s m _ meth c A dC dI cy b_Ln_init 1 none "GlyphPage$Lines" := ⟨hx, hb, hr, hlocks, hml, hown, htsG, hA, hK⟩
  unfold P_Ln_init at h
  refine lv_aload_n hx hb d_Ln_init_0 rfl (lv_at hl 0 rfl) ?_
  refine W.objInit hx hb hown (htsG _ mW184) (htsG _ mW20) (htsG _ mW21) rfl (by rw [hml]; exact hl.1) rfl d_Ln_init_1 (Nat.le_of_ble_eq_true rfl) (Nat.le_of_ble_eq_true rfl) ?_
  refine W.eq (g2 := F0 m 4 ls []) rfl ?_
  refine lv_aload_n hx hb d_Ln_init_4 rfl (lv_at hl 0 rfl) ?_
  refine lv_sipush (v := (200 : Int32)) hx hb d_Ln_init_5 (by decide) ?_
  refine va_newa (atype := .int) (a0 := (200, .inl (fun _ => 0))) hx hb (htsG _ mW50) rfl hK hP hD hS hA (fun _ => rfl) (by decide) (by decide) (by decide) (Nat.le_of_ble_eq_true rfl) (Nat.le_of_ble_eq_true rfl) d_Ln_init_8 (fun q_1 cA H hK9 hP hD hS => ?_)
  replace hK9 := cyE_I hK9
  subst hK9
  have hP : va_P (dC, dI) classes [(o, .inr (4, [.null, .null, .null, .int (0 : Int32), .null, .null, .null])), (q_1, .inl (cy 0, 200, .inl (fun _ => 0)))] H := hP
  have hD : va_D A [(o, .inr (4, [.null, .null, .null, .int (0 : Int32), .null, .null, .null])), (q_1, .inl (cy 0, 200, .inl (fun _ => 0)))] := hD
  refine W.widen (k := 1) (n := 200) (by decide) (by decide) ?_
  refine va_putF (D := (dC, dI)) (ci := 4) (v := .ref q_1) (ty := .array .int) (C := "GlyphPage$Lines") (T := F_Ln) (N := 7) hx hb htsG iG_Ln t_Ln t_Ln_ok n_Ln hown hK hP hD hS 0 rfl rfl 0 (by decide) (htsG _ mW185) (fun _ h9 => h9) rfl hin rfl (by decide +kernel) rfl rfl (Nat.le_of_ble_eq_true rfl) d_Ln_init_10 (fun H locs hP hD hS => ?_)
  have hP : va_P (dC, dI) classes [(o, .inr (4, [.ref q_1, .null, .null, .int (0 : Int32), .null, .null, .null])), (q_1, .inl (cy 0, 200, .inl (fun _ => 0)))] H := hP
  have hD : va_D A [(o, .inr (4, [.ref q_1, .null, .null, .int (0 : Int32), .null, .null, .null])), (q_1, .inl (cy 0, 200, .inl (fun _ => 0)))] := hD
  refine lv_aload_n hx hb d_Ln_init_13 rfl (lv_at hl 0 rfl) ?_
  refine lv_sipush (v := (200 : Int32)) hx hb d_Ln_init_14 (by decide) ?_
  refine va_newa (atype := .int) (a0 := (200, .inl (fun _ => 0))) hx hb (htsG _ mW50) rfl hK hP hD hS hA (fun _ => rfl) (by decide) (by decide) (by decide) (Nat.le_of_ble_eq_true rfl) (Nat.le_of_ble_eq_true rfl) d_Ln_init_17 (fun q_2 cA H hK9 hP hD hS => ?_)
  replace hK9 := cyE_I hK9
  subst hK9
  have hP : va_P (dC, dI) classes [(o, .inr (4, [.ref q_1, .null, .null, .int (0 : Int32), .null, .null, .null])), (q_1, .inl (cy 0, 200, .inl (fun _ => 0))), (q_2, .inl (cy 0, 200, .inl (fun _ => 0)))] H := hP
  have hD : va_D A [(o, .inr (4, [.ref q_1, .null, .null, .int (0 : Int32), .null, .null, .null])), (q_1, .inl (cy 0, 200, .inl (fun _ => 0))), (q_2, .inl (cy 0, 200, .inl (fun _ => 0)))] := hD
  refine W.widen (k := 2) (n := 400) (by decide) (by decide) ?_
  refine va_putF (D := (dC, dI)) (ci := 4) (v := .ref q_2) (ty := .array .int) (C := "GlyphPage$Lines") (T := F_Ln) (N := 7) hx hb htsG iG_Ln t_Ln t_Ln_ok n_Ln hown hK hP hD hS 0 rfl rfl 1 (by decide) (htsG _ mW187) (fun _ h9 => h9) rfl hin rfl (by decide +kernel) rfl rfl (Nat.le_of_ble_eq_true rfl) d_Ln_init_19 (fun H locs hP hD hS => ?_)
  have hP : va_P (dC, dI) classes [(o, .inr (4, [.ref q_1, .ref q_2, .null, .int (0 : Int32), .null, .null, .null])), (q_1, .inl (cy 0, 200, .inl (fun _ => 0))), (q_2, .inl (cy 0, 200, .inl (fun _ => 0)))] H := hP
  have hD : va_D A [(o, .inr (4, [.ref q_1, .ref q_2, .null, .int (0 : Int32), .null, .null, .null])), (q_1, .inl (cy 0, 200, .inl (fun _ => 0))), (q_2, .inl (cy 0, 200, .inl (fun _ => 0)))] := hD
  refine lv_aload_n hx hb d_Ln_init_22 rfl (lv_at hl 0 rfl) ?_
  refine lv_sipush (v := (200 : Int32)) hx hb d_Ln_init_23 (by decide) ?_
  refine va_newa (atype := .int) (a0 := (200, .inl (fun _ => 0))) hx hb (htsG _ mW50) rfl hK hP hD hS hA (fun _ => rfl) (by decide) (by decide) (by decide) (Nat.le_of_ble_eq_true rfl) (Nat.le_of_ble_eq_true rfl) d_Ln_init_26 (fun q_3 cA H hK9 hP hD hS => ?_)
  replace hK9 := cyE_I hK9
  subst hK9
  have hP : va_P (dC, dI) classes [(o, .inr (4, [.ref q_1, .ref q_2, .null, .int (0 : Int32), .null, .null, .null])), (q_1, .inl (cy 0, 200, .inl (fun _ => 0))), (q_2, .inl (cy 0, 200, .inl (fun _ => 0))), (q_3, .inl (cy 0, 200, .inl (fun _ => 0)))] H := hP
  have hD : va_D A [(o, .inr (4, [.ref q_1, .ref q_2, .null, .int (0 : Int32), .null, .null, .null])), (q_1, .inl (cy 0, 200, .inl (fun _ => 0))), (q_2, .inl (cy 0, 200, .inl (fun _ => 0))), (q_3, .inl (cy 0, 200, .inl (fun _ => 0)))] := hD
  refine W.widen (k := 3) (n := 600) (by decide) (by decide) ?_
  refine va_putF (D := (dC, dI)) (ci := 4) (v := .ref q_3) (ty := .array .int) (C := "GlyphPage$Lines") (T := F_Ln) (N := 7) hx hb htsG iG_Ln t_Ln t_Ln_ok n_Ln hown hK hP hD hS 0 rfl rfl 2 (by decide) (htsG _ mW189) (fun _ h9 => h9) rfl hin rfl (by decide +kernel) rfl rfl (Nat.le_of_ble_eq_true rfl) d_Ln_init_28 (fun H locs hP hD hS => ?_)
  have hP : va_P (dC, dI) classes [(o, .inr (4, [.ref q_1, .ref q_2, .ref q_3, .int (0 : Int32), .null, .null, .null])), (q_1, .inl (cy 0, 200, .inl (fun _ => 0))), (q_2, .inl (cy 0, 200, .inl (fun _ => 0))), (q_3, .inl (cy 0, 200, .inl (fun _ => 0)))] H := hP
  have hD : va_D A [(o, .inr (4, [.ref q_1, .ref q_2, .ref q_3, .int (0 : Int32), .null, .null, .null])), (q_1, .inl (cy 0, 200, .inl (fun _ => 0))), (q_2, .inl (cy 0, 200, .inl (fun _ => 0))), (q_3, .inl (cy 0, 200, .inl (fun _ => 0)))] := hD
  refine lv_aload_n hx hb d_Ln_init_31 rfl (lv_at hl 0 rfl) ?_
  refine lv_iconst (v := (0 : Int32)) hx hb d_Ln_init_32 (by decide) ?_
  refine va_put (D := (dC, dI)) (ci := 4) (v := .int (0 : Int32)) (ty := .int) (C := "GlyphPage$Lines") (T := F_Ln) (N := 7) hx hb htsG iG_Ln t_Ln t_Ln_ok n_Ln hown hK hP hD hS 0 rfl rfl 3 (by decide) (htsG _ mW191) (fun _ h9 => h9) rfl (by decide +kernel) rfl rfl (Nat.le_of_ble_eq_true rfl) d_Ln_init_33 (fun H locs hP hD hS => ?_)
  have hP : va_P (dC, dI) classes [(o, .inr (4, [.ref q_1, .ref q_2, .ref q_3, .int (0 : Int32), .null, .null, .null])), (q_1, .inl (cy 0, 200, .inl (fun _ => 0))), (q_2, .inl (cy 0, 200, .inl (fun _ => 0))), (q_3, .inl (cy 0, 200, .inl (fun _ => 0)))] H := hP
  have hD : va_D A [(o, .inr (4, [.ref q_1, .ref q_2, .ref q_3, .int (0 : Int32), .null, .null, .null])), (q_1, .inl (cy 0, 200, .inl (fun _ => 0))), (q_2, .inl (cy 0, 200, .inl (fun _ => 0))), (q_3, .inl (cy 0, 200, .inl (fun _ => 0)))] := hD
  refine lv_aload_n hx hb d_Ln_init_36 rfl (lv_at hl 0 rfl) ?_
  refine lv_sipush (v := (200 : Int32)) hx hb d_Ln_init_37 (by decide) ?_
  refine va_newa (atype := .int) (a0 := (200, .inl (fun _ => 0))) hx hb (htsG _ mW50) rfl hK hP hD hS hA (fun _ => rfl) (by decide) (by decide) (by decide) (Nat.le_of_ble_eq_true rfl) (Nat.le_of_ble_eq_true rfl) d_Ln_init_40 (fun q_4 cA H hK9 hP hD hS => ?_)
  replace hK9 := cyE_I hK9
  subst hK9
  have hP : va_P (dC, dI) classes [(o, .inr (4, [.ref q_1, .ref q_2, .ref q_3, .int (0 : Int32), .null, .null, .null])), (q_1, .inl (cy 0, 200, .inl (fun _ => 0))), (q_2, .inl (cy 0, 200, .inl (fun _ => 0))), (q_3, .inl (cy 0, 200, .inl (fun _ => 0))), (q_4, .inl (cy 0, 200, .inl (fun _ => 0)))] H := hP
  have hD : va_D A [(o, .inr (4, [.ref q_1, .ref q_2, .ref q_3, .int (0 : Int32), .null, .null, .null])), (q_1, .inl (cy 0, 200, .inl (fun _ => 0))), (q_2, .inl (cy 0, 200, .inl (fun _ => 0))), (q_3, .inl (cy 0, 200, .inl (fun _ => 0))), (q_4, .inl (cy 0, 200, .inl (fun _ => 0)))] := hD
  refine W.widen (k := 4) (n := 800) (by decide) (by decide) ?_
  refine va_putF (D := (dC, dI)) (ci := 4) (v := .ref q_4) (ty := .array .int) (C := "GlyphPage$Lines") (T := F_Ln) (N := 7) hx hb htsG iG_Ln t_Ln t_Ln_ok n_Ln hown hK hP hD hS 0 rfl rfl 4 (by decide) (htsG _ mW193) (fun _ h9 => h9) rfl hin rfl (by decide +kernel) rfl rfl (Nat.le_of_ble_eq_true rfl) d_Ln_init_42 (fun H locs hP hD hS => ?_)
  have hP : va_P (dC, dI) classes [(o, .inr (4, [.ref q_1, .ref q_2, .ref q_3, .int (0 : Int32), .ref q_4, .null, .null])), (q_1, .inl (cy 0, 200, .inl (fun _ => 0))), (q_2, .inl (cy 0, 200, .inl (fun _ => 0))), (q_3, .inl (cy 0, 200, .inl (fun _ => 0))), (q_4, .inl (cy 0, 200, .inl (fun _ => 0)))] H := hP
  have hD : va_D A [(o, .inr (4, [.ref q_1, .ref q_2, .ref q_3, .int (0 : Int32), .ref q_4, .null, .null])), (q_1, .inl (cy 0, 200, .inl (fun _ => 0))), (q_2, .inl (cy 0, 200, .inl (fun _ => 0))), (q_3, .inl (cy 0, 200, .inl (fun _ => 0))), (q_4, .inl (cy 0, 200, .inl (fun _ => 0)))] := hD
  refine lv_aload_n hx hb d_Ln_init_45 rfl (lv_at hl 0 rfl) ?_
  refine lv_sipush (v := (200 : Int32)) hx hb d_Ln_init_46 (by decide) ?_
  refine va_newa (atype := .int) (a0 := (200, .inl (fun _ => 0))) hx hb (htsG _ mW50) rfl hK hP hD hS hA (fun _ => rfl) (by decide) (by decide) (by decide) (Nat.le_of_ble_eq_true rfl) (Nat.le_of_ble_eq_true rfl) d_Ln_init_49 (fun q_5 cA H hK9 hP hD hS => ?_)
  replace hK9 := cyE_I hK9
  subst hK9
  have hP : va_P (dC, dI) classes [(o, .inr (4, [.ref q_1, .ref q_2, .ref q_3, .int (0 : Int32), .ref q_4, .null, .null])), (q_1, .inl (cy 0, 200, .inl (fun _ => 0))), (q_2, .inl (cy 0, 200, .inl (fun _ => 0))), (q_3, .inl (cy 0, 200, .inl (fun _ => 0))), (q_4, .inl (cy 0, 200, .inl (fun _ => 0))), (q_5, .inl (cy 0, 200, .inl (fun _ => 0)))] H := hP
  have hD : va_D A [(o, .inr (4, [.ref q_1, .ref q_2, .ref q_3, .int (0 : Int32), .ref q_4, .null, .null])), (q_1, .inl (cy 0, 200, .inl (fun _ => 0))), (q_2, .inl (cy 0, 200, .inl (fun _ => 0))), (q_3, .inl (cy 0, 200, .inl (fun _ => 0))), (q_4, .inl (cy 0, 200, .inl (fun _ => 0))), (q_5, .inl (cy 0, 200, .inl (fun _ => 0)))] := hD
  refine W.widen (k := 5) (n := 1000) (by decide) (by decide) ?_
  refine va_putF (D := (dC, dI)) (ci := 4) (v := .ref q_5) (ty := .array .int) (C := "GlyphPage$Lines") (T := F_Ln) (N := 7) hx hb htsG iG_Ln t_Ln t_Ln_ok n_Ln hown hK hP hD hS 0 rfl rfl 5 (by decide) (htsG _ mW195) (fun _ h9 => h9) rfl hin rfl (by decide +kernel) rfl rfl (Nat.le_of_ble_eq_true rfl) d_Ln_init_51 (fun H locs hP hD hS => ?_)
  have hP : va_P (dC, dI) classes [(o, .inr (4, [.ref q_1, .ref q_2, .ref q_3, .int (0 : Int32), .ref q_4, .ref q_5, .null])), (q_1, .inl (cy 0, 200, .inl (fun _ => 0))), (q_2, .inl (cy 0, 200, .inl (fun _ => 0))), (q_3, .inl (cy 0, 200, .inl (fun _ => 0))), (q_4, .inl (cy 0, 200, .inl (fun _ => 0))), (q_5, .inl (cy 0, 200, .inl (fun _ => 0)))] H := hP
  have hD : va_D A [(o, .inr (4, [.ref q_1, .ref q_2, .ref q_3, .int (0 : Int32), .ref q_4, .ref q_5, .null])), (q_1, .inl (cy 0, 200, .inl (fun _ => 0))), (q_2, .inl (cy 0, 200, .inl (fun _ => 0))), (q_3, .inl (cy 0, 200, .inl (fun _ => 0))), (q_4, .inl (cy 0, 200, .inl (fun _ => 0))), (q_5, .inl (cy 0, 200, .inl (fun _ => 0)))] := hD
  refine lv_aload_n hx hb d_Ln_init_54 rfl (lv_at hl 0 rfl) ?_
  refine lv_sipush (v := (200 : Int32)) hx hb d_Ln_init_55 (by decide) ?_
  refine va_newa (atype := .int) (a0 := (200, .inl (fun _ => 0))) hx hb (htsG _ mW50) rfl hK hP hD hS hA (fun _ => rfl) (by decide) (by decide) (by decide) (Nat.le_of_ble_eq_true rfl) (Nat.le_of_ble_eq_true rfl) d_Ln_init_58 (fun q_6 cA H hK9 hP hD hS => ?_)
  replace hK9 := cyE_I hK9
  subst hK9
  have hP : va_P (dC, dI) classes [(o, .inr (4, [.ref q_1, .ref q_2, .ref q_3, .int (0 : Int32), .ref q_4, .ref q_5, .null])), (q_1, .inl (cy 0, 200, .inl (fun _ => 0))), (q_2, .inl (cy 0, 200, .inl (fun _ => 0))), (q_3, .inl (cy 0, 200, .inl (fun _ => 0))), (q_4, .inl (cy 0, 200, .inl (fun _ => 0))), (q_5, .inl (cy 0, 200, .inl (fun _ => 0))), (q_6, .inl (cy 0, 200, .inl (fun _ => 0)))] H := hP
  have hD : va_D A [(o, .inr (4, [.ref q_1, .ref q_2, .ref q_3, .int (0 : Int32), .ref q_4, .ref q_5, .null])), (q_1, .inl (cy 0, 200, .inl (fun _ => 0))), (q_2, .inl (cy 0, 200, .inl (fun _ => 0))), (q_3, .inl (cy 0, 200, .inl (fun _ => 0))), (q_4, .inl (cy 0, 200, .inl (fun _ => 0))), (q_5, .inl (cy 0, 200, .inl (fun _ => 0))), (q_6, .inl (cy 0, 200, .inl (fun _ => 0)))] := hD
  refine W.widen (k := 6) (n := 1200) (by decide) (by decide) ?_
  refine va_putF (D := (dC, dI)) (ci := 4) (v := .ref q_6) (ty := .array .int) (C := "GlyphPage$Lines") (T := F_Ln) (N := 7) hx hb htsG iG_Ln t_Ln t_Ln_ok n_Ln hown hK hP hD hS 0 rfl rfl 6 (by decide) (htsG _ mW197) (fun _ h9 => h9) rfl hin rfl (by decide +kernel) rfl rfl (Nat.le_of_ble_eq_true rfl) d_Ln_init_60 (fun H locs hP hD hS => ?_)
  have hP : va_P (dC, dI) classes [(o, .inr (4, [.ref q_1, .ref q_2, .ref q_3, .int (0 : Int32), .ref q_4, .ref q_5, .ref q_6])), (q_1, .inl (cy 0, 200, .inl (fun _ => 0))), (q_2, .inl (cy 0, 200, .inl (fun _ => 0))), (q_3, .inl (cy 0, 200, .inl (fun _ => 0))), (q_4, .inl (cy 0, 200, .inl (fun _ => 0))), (q_5, .inl (cy 0, 200, .inl (fun _ => 0))), (q_6, .inl (cy 0, 200, .inl (fun _ => 0)))] H := hP
  have hD : va_D A [(o, .inr (4, [.ref q_1, .ref q_2, .ref q_3, .int (0 : Int32), .ref q_4, .ref q_5, .ref q_6])), (q_1, .inl (cy 0, 200, .inl (fun _ => 0))), (q_2, .inl (cy 0, 200, .inl (fun _ => 0))), (q_3, .inl (cy 0, 200, .inl (fun _ => 0))), (q_4, .inl (cy 0, 200, .inl (fun _ => 0))), (q_5, .inl (cy 0, 200, .inl (fun _ => 0))), (q_6, .inl (cy 0, 200, .inl (fun _ => 0)))] := hD
  cases h
  exact W.vret hx hb hr (fun t ht hW => ⟨⟨(), rfl, trivial, q_1, q_2, q_3, q_4, q_5, q_6, by rw [ht]; exact hP, va_K.moved hW.alike hK, hD⟩, hS.F ht⟩) hS.2.2 d_Ln_init_63 hlocks
end
