theorem mW37 : (Jvm.Cond.fieldLink "GlyphPage$Reader" (7 : Nat) "GlyphPage$Reader" "bytes" "[B") ∈ G := inG (inT1 (List.mem_of_getElem? (i := 37) rfl)) rfl
theorem mW38 : (Jvm.Cond.fieldLink "GlyphPage$Reader" (13 : Nat) "GlyphPage$Reader" "place" "I") ∈ G := inG (inT1 (List.mem_of_getElem? (i := 38) rfl)) rfl
theorem mW39 : (Jvm.Cond.fieldLink "GlyphPage$Reader" (17 : Nat) "GlyphPage$Reader" "limit" "I") ∈ G := inG (inT1 (List.mem_of_getElem? (i := 39) rfl)) rfl
theorem mW40 : (Jvm.Cond.fieldLink "GlyphPage$Reader" (20 : Nat) "GlyphPage$Reader" "whole" "Z") ∈ G := inG (inT1 (List.mem_of_getElem? (i := 40) rfl)) rfl
abbrev b_Jm_max : ByteArray := prog_13_method_65_code
def y_Jm_max : MethodName := ⟨"java/lang/Math", "max", "(II)I"⟩
theorem d_Jm_max_0 : decode b_Jm_max 0 = .ok (.iload_n 0, 1) := by decide +kernel
theorem d_Jm_max_1 : decode b_Jm_max 1 = .ok (.iload_n 1, 1) := by decide +kernel
theorem d_Jm_max_2 : decode b_Jm_max 2 = .ok (.if_icmp .lt 7, 3) := by decide +kernel
theorem d_Jm_max_5 : decode b_Jm_max 5 = .ok (.iload_n 0, 1) := by decide +kernel
theorem d_Jm_max_6 : decode b_Jm_max 6 = .ok (.goto 4, 3) := by decide +kernel
theorem d_Jm_max_9 : decode b_Jm_max 9 = .ok (.iload_n 1, 1) := by decide +kernel
theorem d_Jm_max_10 : decode b_Jm_max 10 = .ok (.ireturn, 1) := by decide +kernel
abbrev b_Jm_min : ByteArray := prog_13_method_69_code
def y_Jm_min : MethodName := ⟨"java/lang/Math", "min", "(II)I"⟩
theorem d_Jm_min_0 : decode b_Jm_min 0 = .ok (.iload_n 0, 1) := by decide +kernel
theorem d_Jm_min_1 : decode b_Jm_min 1 = .ok (.iload_n 1, 1) := by decide +kernel
theorem d_Jm_min_2 : decode b_Jm_min 2 = .ok (.if_icmp .gt 7, 3) := by decide +kernel
theorem d_Jm_min_5 : decode b_Jm_min 5 = .ok (.iload_n 0, 1) := by decide +kernel
theorem d_Jm_min_6 : decode b_Jm_min 6 = .ok (.goto 4, 3) := by decide +kernel
theorem d_Jm_min_9 : decode b_Jm_min 9 = .ok (.iload_n 1, 1) := by decide +kernel
theorem d_Jm_min_10 : decode b_Jm_min 10 = .ok (.ireturn, 1) := by decide +kernel
abbrev b_Rd_isWhole : ByteArray := prog_7_method_3_code
def y_Rd_isWhole : MethodName := ⟨"GlyphPage$Reader", "isWhole", "()Z"⟩
theorem d_Rd_isWhole_0 : decode b_Rd_isWhole 0 = .ok (.aload_n 0, 1) := by decide +kernel
theorem d_Rd_isWhole_1 : decode b_Rd_isWhole 1 = .ok (.getfield 20, 3) := by decide +kernel
theorem d_Rd_isWhole_4 : decode b_Rd_isWhole 4 = .ok (.ireturn, 1) := by decide +kernel
abbrev b_Rd_skip : ByteArray := prog_7_method_4_code
def y_Rd_skip : MethodName := ⟨"GlyphPage$Reader", "skip", "(I)V"⟩
theorem d_Rd_skip_0 : decode b_Rd_skip 0 = .ok (.iload_n 1, 1) := by decide +kernel
theorem d_Rd_skip_1 : decode b_Rd_skip 1 = .ok (.aload_n 0, 1) := by decide +kernel
theorem d_Rd_skip_2 : decode b_Rd_skip 2 = .ok (.getfield 17, 3) := by decide +kernel
theorem d_Rd_skip_5 : decode b_Rd_skip 5 = .ok (.aload_n 0, 1) := by decide +kernel
theorem d_Rd_skip_6 : decode b_Rd_skip 6 = .ok (.getfield 13, 3) := by decide +kernel
theorem d_Rd_skip_9 : decode b_Rd_skip 9 = .ok (.isub, 1) := by decide +kernel
theorem d_Rd_skip_10 : decode b_Rd_skip 10 = .ok (.if_icmp .le 11, 3) := by decide +kernel
theorem d_Rd_skip_13 : decode b_Rd_skip 13 = .ok (.aload_n 0, 1) := by decide +kernel
theorem d_Rd_skip_14 : decode b_Rd_skip 14 = .ok (.iconst 0, 1) := by decide +kernel
theorem d_Rd_skip_15 : decode b_Rd_skip 15 = .ok (.putfield 20, 3) := by decide +kernel
theorem d_Rd_skip_18 : decode b_Rd_skip 18 = .ok (.goto 13, 3) := by decide +kernel
theorem d_Rd_skip_21 : decode b_Rd_skip 21 = .ok (.aload_n 0, 1) := by decide +kernel
theorem d_Rd_skip_22 : decode b_Rd_skip 22 = .ok (.dup, 1) := by decide +kernel
theorem d_Rd_skip_23 : decode b_Rd_skip 23 = .ok (.getfield 13, 3) := by decide +kernel
theorem d_Rd_skip_26 : decode b_Rd_skip 26 = .ok (.iload_n 1, 1) := by decide +kernel
theorem d_Rd_skip_27 : decode b_Rd_skip 27 = .ok (.iadd, 1) := by decide +kernel
theorem d_Rd_skip_28 : decode b_Rd_skip 28 = .ok (.putfield 13, 3) := by decide +kernel
theorem d_Rd_skip_31 : decode b_Rd_skip 31 = .ok (.return_, 1) := by decide +kernel
abbrev b_Rd_one : ByteArray := prog_7_method_5_code
def y_Rd_one : MethodName := ⟨"GlyphPage$Reader", "one", "()I"⟩
theorem d_Rd_one_0 : decode b_Rd_one 0 = .ok (.aload_n 0, 1) := by decide +kernel
theorem d_Rd_one_1 : decode b_Rd_one 1 = .ok (.getfield 7, 3) := by decide +kernel
theorem d_Rd_one_4 : decode b_Rd_one 4 = .ok (.ifnull 14, 3) := by decide +kernel
theorem d_Rd_one_7 : decode b_Rd_one 7 = .ok (.aload_n 0, 1) := by decide +kernel
theorem d_Rd_one_8 : decode b_Rd_one 8 = .ok (.getfield 13, 3) := by decide +kernel
theorem d_Rd_one_11 : decode b_Rd_one 11 = .ok (.aload_n 0, 1) := by decide +kernel
theorem d_Rd_one_12 : decode b_Rd_one 12 = .ok (.getfield 17, 3) := by decide +kernel
theorem d_Rd_one_15 : decode b_Rd_one 15 = .ok (.if_icmp .lt 10, 3) := by decide +kernel
theorem d_Rd_one_18 : decode b_Rd_one 18 = .ok (.aload_n 0, 1) := by decide +kernel
theorem d_Rd_one_19 : decode b_Rd_one 19 = .ok (.iconst 0, 1) := by decide +kernel
theorem d_Rd_one_20 : decode b_Rd_one 20 = .ok (.putfield 20, 3) := by decide +kernel
theorem d_Rd_one_23 : decode b_Rd_one 23 = .ok (.iconst 0, 1) := by decide +kernel
theorem d_Rd_one_24 : decode b_Rd_one 24 = .ok (.ireturn, 1) := by decide +kernel
theorem d_Rd_one_25 : decode b_Rd_one 25 = .ok (.aload_n 0, 1) := by decide +kernel
theorem d_Rd_one_26 : decode b_Rd_one 26 = .ok (.getfield 7, 3) := by decide +kernel
theorem d_Rd_one_29 : decode b_Rd_one 29 = .ok (.aload_n 0, 1) := by decide +kernel
theorem d_Rd_one_30 : decode b_Rd_one 30 = .ok (.dup, 1) := by decide +kernel
theorem d_Rd_one_31 : decode b_Rd_one 31 = .ok (.getfield 13, 3) := by decide +kernel
theorem d_Rd_one_34 : decode b_Rd_one 34 = .ok (.dup_x1, 1) := by decide +kernel
theorem d_Rd_one_35 : decode b_Rd_one 35 = .ok (.iconst 1, 1) := by decide +kernel
theorem d_Rd_one_36 : decode b_Rd_one 36 = .ok (.iadd, 1) := by decide +kernel
theorem d_Rd_one_37 : decode b_Rd_one 37 = .ok (.putfield 13, 3) := by decide +kernel
theorem d_Rd_one_40 : decode b_Rd_one 40 = .ok (.baload, 1) := by decide +kernel
theorem d_Rd_one_41 : decode b_Rd_one 41 = .ok (.sipush 255, 3) := by decide +kernel
theorem d_Rd_one_44 : decode b_Rd_one 44 = .ok (.iand, 1) := by decide +kernel
theorem d_Rd_one_45 : decode b_Rd_one 45 = .ok (.ireturn, 1) := by decide +kernel
abbrev b_Rd_two : ByteArray := prog_7_method_6_code
def y_Rd_two : MethodName := ⟨"GlyphPage$Reader", "two", "()I"⟩
theorem d_Rd_two_0 : decode b_Rd_two 0 = .ok (.aload_n 0, 1) := by decide +kernel
theorem d_Rd_two_1 : decode b_Rd_two 1 = .ok (.getfield 7, 3) := by decide +kernel
theorem d_Rd_two_4 : decode b_Rd_two 4 = .ok (.ifnull 16, 3) := by decide +kernel
theorem d_Rd_two_7 : decode b_Rd_two 7 = .ok (.aload_n 0, 1) := by decide +kernel
theorem d_Rd_two_8 : decode b_Rd_two 8 = .ok (.getfield 13, 3) := by decide +kernel
theorem d_Rd_two_11 : decode b_Rd_two 11 = .ok (.iconst 1, 1) := by decide +kernel
theorem d_Rd_two_12 : decode b_Rd_two 12 = .ok (.iadd, 1) := by decide +kernel
theorem d_Rd_two_13 : decode b_Rd_two 13 = .ok (.aload_n 0, 1) := by decide +kernel
theorem d_Rd_two_14 : decode b_Rd_two 14 = .ok (.getfield 17, 3) := by decide +kernel
theorem d_Rd_two_17 : decode b_Rd_two 17 = .ok (.if_icmp .lt 10, 3) := by decide +kernel
theorem d_Rd_two_20 : decode b_Rd_two 20 = .ok (.aload_n 0, 1) := by decide +kernel
theorem d_Rd_two_21 : decode b_Rd_two 21 = .ok (.iconst 0, 1) := by decide +kernel
theorem d_Rd_two_22 : decode b_Rd_two 22 = .ok (.putfield 20, 3) := by decide +kernel
theorem d_Rd_two_25 : decode b_Rd_two 25 = .ok (.iconst 0, 1) := by decide +kernel
theorem d_Rd_two_26 : decode b_Rd_two 26 = .ok (.ireturn, 1) := by decide +kernel
theorem d_Rd_two_27 : decode b_Rd_two 27 = .ok (.aload_n 0, 1) := by decide +kernel
theorem d_Rd_two_28 : decode b_Rd_two 28 = .ok (.dup, 1) := by decide +kernel
theorem d_Rd_two_29 : decode b_Rd_two 29 = .ok (.getfield 13, 3) := by decide +kernel
theorem d_Rd_two_32 : decode b_Rd_two 32 = .ok (.iconst 2, 1) := by decide +kernel
theorem d_Rd_two_33 : decode b_Rd_two 33 = .ok (.iadd, 1) := by decide +kernel
theorem d_Rd_two_34 : decode b_Rd_two 34 = .ok (.putfield 13, 3) := by decide +kernel
theorem d_Rd_two_37 : decode b_Rd_two 37 = .ok (.aload_n 0, 1) := by decide +kernel
theorem d_Rd_two_38 : decode b_Rd_two 38 = .ok (.getfield 7, 3) := by decide +kernel
theorem d_Rd_two_41 : decode b_Rd_two 41 = .ok (.aload_n 0, 1) := by decide +kernel
theorem d_Rd_two_42 : decode b_Rd_two 42 = .ok (.getfield 13, 3) := by decide +kernel
theorem d_Rd_two_45 : decode b_Rd_two 45 = .ok (.iconst 2, 1) := by decide +kernel
theorem d_Rd_two_46 : decode b_Rd_two 46 = .ok (.isub, 1) := by decide +kernel
theorem d_Rd_two_47 : decode b_Rd_two 47 = .ok (.baload, 1) := by decide +kernel
theorem d_Rd_two_48 : decode b_Rd_two 48 = .ok (.sipush 255, 3) := by decide +kernel
theorem d_Rd_two_51 : decode b_Rd_two 51 = .ok (.iand, 1) := by decide +kernel
theorem d_Rd_two_52 : decode b_Rd_two 52 = .ok (.bipush 8, 2) := by decide +kernel
theorem d_Rd_two_54 : decode b_Rd_two 54 = .ok (.ishl, 1) := by decide +kernel
theorem d_Rd_two_55 : decode b_Rd_two 55 = .ok (.aload_n 0, 1) := by decide +kernel
theorem d_Rd_two_56 : decode b_Rd_two 56 = .ok (.getfield 7, 3) := by decide +kernel
theorem d_Rd_two_59 : decode b_Rd_two 59 = .ok (.aload_n 0, 1) := by decide +kernel
theorem d_Rd_two_60 : decode b_Rd_two 60 = .ok (.getfield 13, 3) := by decide +kernel
theorem d_Rd_two_63 : decode b_Rd_two 63 = .ok (.iconst 1, 1) := by decide +kernel
theorem d_Rd_two_64 : decode b_Rd_two 64 = .ok (.isub, 1) := by decide +kernel
theorem d_Rd_two_65 : decode b_Rd_two 65 = .ok (.baload, 1) := by decide +kernel
theorem d_Rd_two_66 : decode b_Rd_two 66 = .ok (.sipush 255, 3) := by decide +kernel
theorem d_Rd_two_69 : decode b_Rd_two 69 = .ok (.iand, 1) := by decide +kernel
theorem d_Rd_two_70 : decode b_Rd_two 70 = .ok (.ior, 1) := by decide +kernel
theorem d_Rd_two_71 : decode b_Rd_two 71 = .ok (.ireturn, 1) := by decide +kernel
section
variable {p : Program} {l : Launch} {e : Env} {s : State} {m : MethodId} {args : Array Value} {below : List Frame} {meth : Method} {c : Code} {A : Nat → Prop} {dC : Nat → ClassId} {dI : Nat → Nat → Nat} {cy : Nat → ClassId}
def P_Jm_max  (a1 : Int32) (a2 : Int32) : Option (Int32) :=
  if a1 < a2 then (some a2) else (some a1)
set_option maxHeartbeats 4000000 in
set_option maxRecDepth 100000 in
theorem c_Jm_max (l : Launch) (dC : Nat → ClassId) (dI : Nat → Nat → Nat) (cy : Nat → ClassId) (sz : Nat)   (a1 : Int32) (a2 : Int32) (uu : Int32) (h : P_Jm_max a1 a2 = some uu) : Met l y_Jm_max (Cond.code y_Jm_max b_Jm_max 2 (some .int) :: G) ({ frames := 0, cells := 0, slots := 0, locals := 0 } : Room) (va_Pc [.int a1, .int a2] (fun U => U.heap.size = sz ∧ va_P (dC, dI) classes [] U.heap ∧ va_K (dC, dI) classes (TY cy) U ∧ va_D (fun _ => True) [])) (va_Qi (fun r (_ : Unit) => r = uu) (fun _ t => va_P (dC, dI) classes [] t.heap ∧ va_K (dC, dI) classes (TY cy) t ∧ va_D (va_A [] sz) []) (va_A [] sz)) 0 0 (va_A [] sz) := by
  refine va_MetF (cc := b_Jm_max) (maxL := 2) (ret := (some .int)) (by decide +kernel) rfl ?_
  intro p e s m args below meth c s₁ B hml hv
  obtain ⟨rfl, hsz, hP, hK, hD0⟩ := hv
  have hx := B.exec
  have hb := B.bytes
  have hr := B.returns
  have hts := atoms_spec (ws := Cond.code y_Jm_max b_Jm_max 2 (some .int) :: G) B.pre
  have htsG : ∀ w ∈ G, w.before _ s = true := fun w hw => hts w (List.mem_cons_of_mem _ hw)
  have hown : s.vm.findClass "java/lang/Math" = some m.cls := findClass_of_methodNamed B.named
  have hlocks := B.notSynchronized
  subst hsz
  have hD := hD0.self (sz := s.heap.size)
  generalize hAe : va_A [] s.heap.size = A at hD ⊢
  have hA : ∀ q : Nat, s.heap.size ≤ q → A q := fun q h => by rw [← hAe]; exact Or.inr h
  have hS : va_S A s.heap s.heap [] := va_S.rf
  have hl := lv_entry ([.int a1, .int a2]) (n := 2) (Nat.le_of_ble_eq_true rfl)
  rw [lg_entry_eq]
  generalize (lg_sl ([.int a1, .int a2]) ++ List.replicate (2 - (lg_sl ([.int a1, .int a2])).length) Slot.unset).toArray = ls at hl ⊢
  have hl : lv_has ls 2 [(0, .int a1), (1, .int a2)] := hl
  have C0 : Cx p s m _ meth c A dC dI cy b_Jm_max 2 (some .int) "java/lang/Math" := ⟨hx, hb, hr, hlocks, hml, hown, htsG, hA, hK⟩
  unfold P_Jm_max at h
  refine lv_iload_n hx hb d_Jm_max_0 rfl (lv_at hl 0 rfl) ?_
  refine lv_iload_n hx hb d_Jm_max_1 rfl (lv_at hl 1 rfl) ?_
  refine lv_icmp_lt (tgt := 9) hx hb d_Jm_max_2 (by decide) (fun c_1 => ?_) (fun c_1 => ?_)
  · replace h := (if_pos c_1).symm.trans h
    refine lv_iload_n hx hb d_Jm_max_9 rfl (lv_at hl 1 rfl) ?_
    cases h
    exact W.iret hx hb hr (fun t ht hW => ⟨⟨_, (), rfl, rfl, by rw [ht]; exact hP, va_K.moved hW.alike hK, hD⟩, hS.F ht⟩) hS.2.2 d_Jm_max_10 hlocks
  · replace h := (if_neg c_1).symm.trans h
    refine lv_iload_n hx hb d_Jm_max_5 rfl (lv_at hl 0 rfl) ?_
    refine lv_goto (tgt := 10) hx hb d_Jm_max_6 (by decide) ?_
    cases h
    exact W.iret hx hb hr (fun t ht hW => ⟨⟨_, (), rfl, rfl, by rw [ht]; exact hP, va_K.moved hW.alike hK, hD⟩, hS.F ht⟩) hS.2.2 d_Jm_max_10 hlocks
def P_Jm_min  (a1 : Int32) (a2 : Int32) : Option (Int32) :=
  if a2 < a1 then (some a2) else (some a1)
set_option maxHeartbeats 4000000 in
set_option maxRecDepth 100000 in
theorem c_Jm_min (l : Launch) (dC : Nat → ClassId) (dI : Nat → Nat → Nat) (cy : Nat → ClassId) (sz : Nat)   (a1 : Int32) (a2 : Int32) (uu : Int32) (h : P_Jm_min a1 a2 = some uu) : Met l y_Jm_min (Cond.code y_Jm_min b_Jm_min 2 (some .int) :: G) ({ frames := 0, cells := 0, slots := 0, locals := 0 } : Room) (va_Pc [.int a1, .int a2] (fun U => U.heap.size = sz ∧ va_P (dC, dI) classes [] U.heap ∧ va_K (dC, dI) classes (TY cy) U ∧ va_D (fun _ => True) [])) (va_Qi (fun r (_ : Unit) => r = uu) (fun _ t => va_P (dC, dI) classes [] t.heap ∧ va_K (dC, dI) classes (TY cy) t ∧ va_D (va_A [] sz) []) (va_A [] sz)) 0 0 (va_A [] sz) := by
  refine va_MetF (cc := b_Jm_min) (maxL := 2) (ret := (some .int)) (by decide +kernel) rfl ?_
  intro p e s m args below meth c s₁ B hml hv
  obtain ⟨rfl, hsz, hP, hK, hD0⟩ := hv
  have hx := B.exec
  have hb := B.bytes
  have hr := B.returns
  have hts := atoms_spec (ws := Cond.code y_Jm_min b_Jm_min 2 (some .int) :: G) B.pre
  have htsG : ∀ w ∈ G, w.before _ s = true := fun w hw => hts w (List.mem_cons_of_mem _ hw)
  have hown : s.vm.findClass "java/lang/Math" = some m.cls := findClass_of_methodNamed B.named
  have hlocks := B.notSynchronized
  subst hsz
  have hD := hD0.self (sz := s.heap.size)
  generalize hAe : va_A [] s.heap.size = A at hD ⊢
  have hA : ∀ q : Nat, s.heap.size ≤ q → A q := fun q h => by rw [← hAe]; exact Or.inr h
  have hS : va_S A s.heap s.heap [] := va_S.rf
  have hl := lv_entry ([.int a1, .int a2]) (n := 2) (Nat.le_of_ble_eq_true rfl)
  rw [lg_entry_eq]
  generalize (lg_sl ([.int a1, .int a2]) ++ List.replicate (2 - (lg_sl ([.int a1, .int a2])).length) Slot.unset).toArray = ls at hl ⊢
  have hl : lv_has ls 2 [(0, .int a1), (1, .int a2)] := hl
  have C0 : Cx p s m _ meth c A dC dI cy b_Jm_min 2 (some .int) "java/lang/Math" := ⟨hx, hb, hr, hlocks, hml, hown, htsG, hA, hK⟩
  unfold P_Jm_min at h
  refine lv_iload_n hx hb d_Jm_min_0 rfl (lv_at hl 0 rfl) ?_
  refine lv_iload_n hx hb d_Jm_min_1 rfl (lv_at hl 1 rfl) ?_
  refine lv_icmp_gt (tgt := 9) hx hb d_Jm_min_2 (by decide) (fun c_1 => ?_) (fun c_1 => ?_)
  · replace h := (if_pos c_1).symm.trans h
    refine lv_iload_n hx hb d_Jm_min_9 rfl (lv_at hl 1 rfl) ?_
    cases h
    exact W.iret hx hb hr (fun t ht hW => ⟨⟨_, (), rfl, rfl, by rw [ht]; exact hP, va_K.moved hW.alike hK, hD⟩, hS.F ht⟩) hS.2.2 d_Jm_min_10 hlocks
  · replace h := (if_neg c_1).symm.trans h
    refine lv_iload_n hx hb d_Jm_min_5 rfl (lv_at hl 0 rfl) ?_
    refine lv_goto (tgt := 10) hx hb d_Jm_min_6 (by decide) ?_
    cases h
    exact W.iret hx hb hr (fun t ht hW => ⟨⟨_, (), rfl, rfl, by rw [ht]; exact hP, va_K.moved hW.alike hK, hD⟩, hS.F ht⟩) hS.2.2 d_Jm_min_10 hlocks
def P_Rd_isWhole (o_whole : Int32)  : Option (Int32) :=
  zb o_whole <| some o_whole
set_option maxHeartbeats 4000000 in
set_option maxRecDepth 100000 in
theorem c_Rd_isWhole (l : Launch) (dC : Nat → ClassId) (dI : Nat → Nat → Nat) (cy : Nat → ClassId) (sz : Nat) (o : Nat) (o_bytes : Option Nat) (o_place : Int32) (o_limit : Int32) (o_whole : Int32)  (uu : Int32) (h : P_Rd_isWhole o_whole = some uu) : Met l y_Rd_isWhole (Cond.code y_Rd_isWhole b_Rd_isWhole 1 (some .boolean) :: G) ({ frames := 0, cells := 0, slots := 0, locals := 0 } : Room) (va_Pc [.ref o] (fun U => U.heap.size = sz ∧ va_P (dC, dI) classes [(o, .inr (0, [va_rf o_bytes, .int o_place, .int o_limit, .int o_whole]))] U.heap ∧ va_K (dC, dI) classes (TY cy) U ∧ va_D (fun _ => True) [(o, .inr (0, [va_rf o_bytes, .int o_place, .int o_limit, .int o_whole]))])) (va_Qi (fun r (_ : Unit) => r = uu) (fun _ t => va_P (dC, dI) classes [(o, .inr (0, [va_rf o_bytes, .int o_place, .int o_limit, .int o_whole]))] t.heap ∧ va_K (dC, dI) classes (TY cy) t ∧ va_D (va_A [(o, .inr (0, [va_rf o_bytes, .int o_place, .int o_limit, .int o_whole]))] sz) [(o, .inr (0, [va_rf o_bytes, .int o_place, .int o_limit, .int o_whole]))]) (va_A [(o, .inr (0, [va_rf o_bytes, .int o_place, .int o_limit, .int o_whole]))] sz)) 0 0 (va_A [(o, .inr (0, [va_rf o_bytes, .int o_place, .int o_limit, .int o_whole]))] sz) := by
  refine Met.ofW (cc := b_Rd_isWhole) (maxL := 1) (ret := (some .boolean)) (by decide) rfl ?_
  intro p e s m args below meth c s₁ B hml hv
  obtain ⟨rfl, hsz, hP, hK, hD0⟩ := hv
  have hx := B.exec
  have hb := B.bytes
  have hr := B.returns
  have hts := atoms_spec (ws := Cond.code y_Rd_isWhole b_Rd_isWhole 1 (some .boolean) :: G) B.pre
  have htsG : ∀ w ∈ G, w.before _ s = true := fun w hw => hts w (List.mem_cons_of_mem _ hw)
  have hown : s.vm.findClass "GlyphPage$Reader" = some m.cls := findClass_of_methodNamed B.named
  have hlocks := B.notSynchronized
  subst hsz
  have hD := hD0.self (sz := s.heap.size)
  generalize hAe : va_A [(o, .inr (0, [va_rf o_bytes, .int o_place, .int o_limit, .int o_whole]))] s.heap.size = A at hD ⊢
  have hA : ∀ q : Nat, s.heap.size ≤ q → A q := fun q h => by rw [← hAe]; exact Or.inr h
  have hS : va_S A s.heap s.heap [] := va_S.rf
  have hl := lv_entry ([.ref o]) (n := 1) (Nat.le_of_ble_eq_true rfl)
  rw [lg_entry_eq]
  generalize (lg_sl ([.ref o]) ++ List.replicate (1 - (lg_sl ([.ref o])).length) Slot.unset).toArray = ls at hl ⊢
  have hl : lv_has ls 1 [(0, .ref o)] := hl
  have C0 : Cx p s m _ meth c A dC dI cy b_Rd_isWhole 1 (some .boolean) "GlyphPage$Reader" := ⟨hx, hb, hr, hlocks, hml, hown, htsG, hA, hK⟩
  unfold P_Rd_isWhole at h
  refine lv_aload_n hx hb d_Rd_isWhole_0 rfl (lv_at hl 0 rfl) ?_
  refine va_get (D := (dC, dI)) (ci := 0) (v := .int o_whole) (C := "GlyphPage$Reader") (T := F_Rd) (N := 4) hx hb htsG iG_Rd hown hK hP 0 rfl rfl 3 (by decide) (htsG _ mW40) (fun _ h9 => h9) rfl d_Rd_isWhole_1 ?_
  obtain ⟨hz_1, h⟩ := zb_some h
  cases h
  exact W.zret (ty := .boolean) hx hb hr hz_1.1 (fun t ht hW => ⟨⟨_, (), rfl, rfl, by rw [ht]; exact hP, va_K.moved hW.alike hK, hD⟩, hS.F ht⟩) hS.2.2 d_Rd_isWhole_4 hlocks
def P_Rd_skip (o_place : Int32) (o_limit : Int32) (o_whole : Int32) (a1 : Int32) : Option (Int32 × Int32) :=
  if a1 ≤ (o_limit - o_place) then (some ((o_place + a1), o_whole)) else (some (o_place, (0 : Int32)))
set_option maxHeartbeats 4000000 in
set_option maxRecDepth 100000 in
theorem c_Rd_skip (l : Launch) (dC : Nat → ClassId) (dI : Nat → Nat → Nat) (cy : Nat → ClassId) (sz : Nat) (o : Nat) (o_bytes : Option Nat) (o_place : Int32) (o_limit : Int32) (o_whole : Int32) (a1 : Int32) (uu : Int32 × Int32) (h : P_Rd_skip o_place o_limit o_whole a1 = some uu) : Met l y_Rd_skip (Cond.code y_Rd_skip b_Rd_skip 2 none :: G) ({ frames := 0, cells := 0, slots := 0, locals := 0 } : Room) (va_Pc [.ref o, .int a1] (fun U => U.heap.size = sz ∧ va_P (dC, dI) classes [(o, .inr (0, [va_rf o_bytes, .int o_place, .int o_limit, .int o_whole]))] U.heap ∧ va_K (dC, dI) classes (TY cy) U ∧ va_D (fun _ => True) [(o, .inr (0, [va_rf o_bytes, .int o_place, .int o_limit, .int o_whole]))])) (va_Qv (fun _ : Unit => True) (fun _ t => va_P (dC, dI) classes [(o, .inr (0, [va_rf o_bytes, .int uu.1, .int o_limit, .int uu.2]))] t.heap ∧ va_K (dC, dI) classes (TY cy) t ∧ va_D (va_A [(o, .inr (0, [va_rf o_bytes, .int o_place, .int o_limit, .int o_whole]))] sz) [(o, .inr (0, [va_rf o_bytes, .int uu.1, .int o_limit, .int uu.2]))]) (va_A [(o, .inr (0, [va_rf o_bytes, .int o_place, .int o_limit, .int o_whole]))] sz)) 0 0 (va_A [(o, .inr (0, [va_rf o_bytes, .int o_place, .int o_limit, .int o_whole]))] sz) := by
  refine Met.ofW (cc := b_Rd_skip) (maxL := 2) (ret := none) (by decide) rfl ?_
  intro p e s m args below meth c s₁ B hml hv
  obtain ⟨rfl, hsz, hP, hK, hD0⟩ := hv
  have hx := B.exec
  have hb := B.bytes
  have hr := B.returns
  have hts := atoms_spec (ws := Cond.code y_Rd_skip b_Rd_skip 2 none :: G) B.pre
  have htsG : ∀ w ∈ G, w.before _ s = true := fun w hw => hts w (List.mem_cons_of_mem _ hw)
  have hown : s.vm.findClass "GlyphPage$Reader" = some m.cls := findClass_of_methodNamed B.named
  have hlocks := B.notSynchronized
  subst hsz
  have hD := hD0.self (sz := s.heap.size)
  generalize hAe : va_A [(o, .inr (0, [va_rf o_bytes, .int o_place, .int o_limit, .int o_whole]))] s.heap.size = A at hD ⊢
  have hA : ∀ q : Nat, s.heap.size ≤ q → A q := fun q h => by rw [← hAe]; exact Or.inr h
  have hS : va_S A s.heap s.heap [] := va_S.rf
  have hl := lv_entry ([.ref o, .int a1]) (n := 2) (Nat.le_of_ble_eq_true rfl)
  rw [lg_entry_eq]
  generalize (lg_sl ([.ref o, .int a1]) ++ List.replicate (2 - (lg_sl ([.ref o, .int a1])).length) Slot.unset).toArray = ls at hl ⊢
  have hl : lv_has ls 2 [(0, .ref o), (1, .int a1)] := hl
  have C0 : Cx p s m _ meth c A dC dI cy b_Rd_skip 2 none "GlyphPage$Reader" := ⟨hx, hb, hr, hlocks, hml, hown, htsG, hA, hK⟩
  unfold P_Rd_skip at h
  refine lv_iload_n hx hb d_Rd_skip_0 rfl (lv_at hl 1 rfl) ?_
  refine lv_aload_n hx hb d_Rd_skip_1 rfl (lv_at hl 0 rfl) ?_
  refine va_get (D := (dC, dI)) (ci := 0) (v := .int o_limit) (C := "GlyphPage$Reader") (T := F_Rd) (N := 4) hx hb htsG iG_Rd hown hK hP 0 rfl rfl 2 (by decide) (htsG _ mW39) (fun _ h9 => h9) rfl d_Rd_skip_2 ?_
  refine lv_aload_n hx hb d_Rd_skip_5 rfl (lv_at hl 0 rfl) ?_
  refine va_get (D := (dC, dI)) (ci := 0) (v := .int o_place) (C := "GlyphPage$Reader") (T := F_Rd) (N := 4) hx hb htsG iG_Rd hown hK hP 0 rfl rfl 1 (by decide) (htsG _ mW38) (fun _ h9 => h9) rfl d_Rd_skip_6 ?_
  refine lv_isub hx hb d_Rd_skip_9 ?_
  refine lv_icmp_le (tgt := 21) hx hb d_Rd_skip_10 (by decide) (fun c_1 => ?_) (fun c_1 => ?_)
  · replace h := (if_pos c_1).symm.trans h
    refine lv_aload_n hx hb d_Rd_skip_21 rfl (lv_at hl 0 rfl) ?_
    refine lv_dup hx hb d_Rd_skip_22 rfl ?_
    refine va_get (D := (dC, dI)) (ci := 0) (v := .int o_place) (C := "GlyphPage$Reader") (T := F_Rd) (N := 4) hx hb htsG iG_Rd hown hK hP 0 rfl rfl 1 (by decide) (htsG _ mW38) (fun _ h9 => h9) rfl d_Rd_skip_23 ?_
    refine lv_iload_n hx hb d_Rd_skip_26 rfl (lv_at hl 1 rfl) ?_
    refine lv_iadd hx hb d_Rd_skip_27 ?_
    refine va_put (D := (dC, dI)) (ci := 0) (v := .int (o_place + a1)) (ty := .int) (C := "GlyphPage$Reader") (T := F_Rd) (N := 4) hx hb htsG iG_Rd t_Rd t_Rd_ok n_Rd hown hK hP hD hS 0 rfl rfl 1 (by decide) (htsG _ mW38) (fun _ h9 => h9) rfl (by decide +kernel) rfl rfl (Nat.le_of_ble_eq_true rfl) d_Rd_skip_28 (fun H locs hP hD hS => ?_)
    have hP : va_P (dC, dI) classes [(o, .inr (0, [va_rf o_bytes, .int (o_place + a1), .int o_limit, .int o_whole]))] H := hP
    have hD : va_D A [(o, .inr (0, [va_rf o_bytes, .int (o_place + a1), .int o_limit, .int o_whole]))] := hD
    cases h
    exact W.vret hx hb hr (fun t ht hW => ⟨⟨(), rfl, trivial, by rw [ht]; exact hP, va_K.moved hW.alike hK, hD⟩, hS.F ht⟩) hS.2.2 d_Rd_skip_31 hlocks
  · replace h := (if_neg c_1).symm.trans h
    refine lv_aload_n hx hb d_Rd_skip_13 rfl (lv_at hl 0 rfl) ?_
    refine lv_iconst (v := (0 : Int32)) hx hb d_Rd_skip_14 (by decide) ?_
    refine va_put (D := (dC, dI)) (ci := 0) (v := .int (0 : Int32)) (ty := .boolean) (C := "GlyphPage$Reader") (T := F_Rd) (N := 4) hx hb htsG iG_Rd t_Rd t_Rd_ok n_Rd hown hK hP hD hS 0 rfl rfl 3 (by decide) (htsG _ mW40) (fun _ h9 => h9) rfl (by decide +kernel) rfl rfl (Nat.le_of_ble_eq_true rfl) d_Rd_skip_15 (fun H locs hP hD hS => ?_)
    have hP : va_P (dC, dI) classes [(o, .inr (0, [va_rf o_bytes, .int o_place, .int o_limit, .int (0 : Int32)]))] H := hP
    have hD : va_D A [(o, .inr (0, [va_rf o_bytes, .int o_place, .int o_limit, .int (0 : Int32)]))] := hD
    refine lv_goto (tgt := 31) hx hb d_Rd_skip_18 (by decide) ?_
    cases h
    exact W.vret hx hb hr (fun t ht hW => ⟨⟨(), rfl, trivial, by rw [ht]; exact hP, va_K.moved hW.alike hK, hD⟩, hS.F ht⟩) hS.2.2 d_Rd_skip_31 hlocks
def P_Rd_one (o_place : Int32) (o_limit : Int32) (o_whole : Int32) (o_bytes_f : Nat → Int32)  : Option (Int32 × Int32 × Int32) :=
  if o_place < o_limit then (bd o_place 4096 <| some (((o_bytes_f o_place.toNatClampNeg) &&& (255 : Int32)), (o_place + (1 : Int32)), o_whole)) else (some ((0 : Int32), o_place, (0 : Int32)))
set_option maxHeartbeats 4000000 in
set_option maxRecDepth 100000 in
theorem c_Rd_one (l : Launch) (dC : Nat → ClassId) (dI : Nat → Nat → Nat) (cy : Nat → ClassId) (sz : Nat) (o : Nat) (o_bytes : Nat) (o_place : Int32) (o_limit : Int32) (o_whole : Int32) (o_bytes_f : Nat → Int32)  (uu : Int32 × Int32 × Int32) (h : P_Rd_one o_place o_limit o_whole o_bytes_f = some uu) : Met l y_Rd_one (Cond.code y_Rd_one b_Rd_one 1 (some .int) :: G) ({ frames := 0, cells := 0, slots := 0, locals := 0 } : Room) (va_Pc [.ref o] (fun U => U.heap.size = sz ∧ va_P (dC, dI) classes [(o, .inr (0, [.ref o_bytes, .int o_place, .int o_limit, .int o_whole])), (o_bytes, .inl (cy 1, 4096, .inl o_bytes_f))] U.heap ∧ va_K (dC, dI) classes (TY cy) U ∧ va_D (fun _ => True) [(o, .inr (0, [.ref o_bytes, .int o_place, .int o_limit, .int o_whole])), (o_bytes, .inl (cy 1, 4096, .inl o_bytes_f))])) (va_Qi (fun r (_ : Unit) => r = uu.1) (fun _ t => va_P (dC, dI) classes [(o, .inr (0, [.ref o_bytes, .int uu.2.1, .int o_limit, .int uu.2.2])), (o_bytes, .inl (cy 1, 4096, .inl o_bytes_f))] t.heap ∧ va_K (dC, dI) classes (TY cy) t ∧ va_D (va_A [(o, .inr (0, [.ref o_bytes, .int o_place, .int o_limit, .int o_whole])), (o_bytes, .inl (cy 1, 4096, .inl o_bytes_f))] sz) [(o, .inr (0, [.ref o_bytes, .int uu.2.1, .int o_limit, .int uu.2.2])), (o_bytes, .inl (cy 1, 4096, .inl o_bytes_f))]) (va_A [(o, .inr (0, [.ref o_bytes, .int o_place, .int o_limit, .int o_whole])), (o_bytes, .inl (cy 1, 4096, .inl o_bytes_f))] sz)) 0 0 (va_A [(o, .inr (0, [.ref o_bytes, .int o_place, .int o_limit, .int o_whole])), (o_bytes, .inl (cy 1, 4096, .inl o_bytes_f))] sz) := by
  refine Met.ofW (cc := b_Rd_one) (maxL := 1) (ret := (some .int)) (by decide) rfl ?_
  intro p e s m args below meth c s₁ B hml hv
  obtain ⟨rfl, hsz, hP, hK, hD0⟩ := hv
  have hx := B.exec
  have hb := B.bytes
  have hr := B.returns
  have hts := atoms_spec (ws := Cond.code y_Rd_one b_Rd_one 1 (some .int) :: G) B.pre
  have htsG : ∀ w ∈ G, w.before _ s = true := fun w hw => hts w (List.mem_cons_of_mem _ hw)
  have hown : s.vm.findClass "GlyphPage$Reader" = some m.cls := findClass_of_methodNamed B.named
  have hlocks := B.notSynchronized
  subst hsz
  have hD := hD0.self (sz := s.heap.size)
  generalize hAe : va_A [(o, .inr (0, [.ref o_bytes, .int o_place, .int o_limit, .int o_whole])), (o_bytes, .inl (cy 1, 4096, .inl o_bytes_f))] s.heap.size = A at hD ⊢
  have hA : ∀ q : Nat, s.heap.size ≤ q → A q := fun q h => by rw [← hAe]; exact Or.inr h
  have hS : va_S A s.heap s.heap [] := va_S.rf
  have hl := lv_entry ([.ref o]) (n := 1) (Nat.le_of_ble_eq_true rfl)
  rw [lg_entry_eq]
  generalize (lg_sl ([.ref o]) ++ List.replicate (1 - (lg_sl ([.ref o])).length) Slot.unset).toArray = ls at hl ⊢
  have hl : lv_has ls 1 [(0, .ref o)] := hl
  have C0 : Cx p s m _ meth c A dC dI cy b_Rd_one 1 (some .int) "GlyphPage$Reader" := ⟨hx, hb, hr, hlocks, hml, hown, htsG, hA, hK⟩
  unfold P_Rd_one at h
  refine lv_aload_n hx hb d_Rd_one_0 rfl (lv_at hl 0 rfl) ?_
  refine va_get (D := (dC, dI)) (ci := 0) (v := .ref o_bytes) (C := "GlyphPage$Reader") (T := F_Rd) (N := 4) hx hb htsG iG_Rd hown hK hP 0 rfl rfl 0 (by decide) (htsG _ mW37) (fun _ h9 => h9) rfl d_Rd_one_1 ?_
  refine lv_ifnull hx hb d_Rd_one_4 ?_
  refine lv_aload_n hx hb d_Rd_one_7 rfl (lv_at hl 0 rfl) ?_
  refine va_get (D := (dC, dI)) (ci := 0) (v := .int o_place) (C := "GlyphPage$Reader") (T := F_Rd) (N := 4) hx hb htsG iG_Rd hown hK hP 0 rfl rfl 1 (by decide) (htsG _ mW38) (fun _ h9 => h9) rfl d_Rd_one_8 ?_
  refine lv_aload_n hx hb d_Rd_one_11 rfl (lv_at hl 0 rfl) ?_
  refine va_get (D := (dC, dI)) (ci := 0) (v := .int o_limit) (C := "GlyphPage$Reader") (T := F_Rd) (N := 4) hx hb htsG iG_Rd hown hK hP 0 rfl rfl 2 (by decide) (htsG _ mW39) (fun _ h9 => h9) rfl d_Rd_one_12 ?_
  refine lv_icmp_lt (tgt := 25) hx hb d_Rd_one_15 (by decide) (fun c_1 => ?_) (fun c_1 => ?_)
  · replace h := (if_pos c_1).symm.trans h
    refine lv_aload_n hx hb d_Rd_one_25 rfl (lv_at hl 0 rfl) ?_
    refine va_get (D := (dC, dI)) (ci := 0) (v := .ref o_bytes) (C := "GlyphPage$Reader") (T := F_Rd) (N := 4) hx hb htsG iG_Rd hown hK hP 0 rfl rfl 0 (by decide) (htsG _ mW37) (fun _ h9 => h9) rfl d_Rd_one_26 ?_
    refine lv_aload_n hx hb d_Rd_one_29 rfl (lv_at hl 0 rfl) ?_
    refine lv_dup hx hb d_Rd_one_30 rfl ?_
    refine va_get (D := (dC, dI)) (ci := 0) (v := .int o_place) (C := "GlyphPage$Reader") (T := F_Rd) (N := 4) hx hb htsG iG_Rd hown hK hP 0 rfl rfl 1 (by decide) (htsG _ mW38) (fun _ h9 => h9) rfl d_Rd_one_31 ?_
    refine lv_dup_x1 hx hb d_Rd_one_34 rfl rfl ?_
    refine lv_iconst (v := (1 : Int32)) hx hb d_Rd_one_35 (by decide) ?_
    refine lv_iadd hx hb d_Rd_one_36 ?_
    refine va_put (D := (dC, dI)) (ci := 0) (v := .int (o_place + (1 : Int32))) (ty := .int) (C := "GlyphPage$Reader") (T := F_Rd) (N := 4) hx hb htsG iG_Rd t_Rd t_Rd_ok n_Rd hown hK hP hD hS 0 rfl rfl 1 (by decide) (htsG _ mW38) (fun _ h9 => h9) rfl (by decide +kernel) rfl rfl (Nat.le_of_ble_eq_true rfl) d_Rd_one_37 (fun H locs hP hD hS => ?_)
    have hP : va_P (dC, dI) classes [(o, .inr (0, [.ref o_bytes, .int (o_place + (1 : Int32)), .int o_limit, .int o_whole])), (o_bytes, .inl (cy 1, 4096, .inl o_bytes_f))] H := hP
    have hD : va_D A [(o, .inr (0, [.ref o_bytes, .int (o_place + (1 : Int32)), .int o_limit, .int o_whole])), (o_bytes, .inl (cy 1, 4096, .inl o_bytes_f))] := hD
    obtain ⟨hin_2, h⟩ := bd_some h
    refine va_bald hx hb hK hP 1 1 rfl rfl hin_2 d_Rd_one_40 ?_
    refine lv_sipush (v := (255 : Int32)) hx hb d_Rd_one_41 (by decide) ?_
    refine lv_iand hx hb d_Rd_one_44 ?_
    cases h
    exact W.iret hx hb hr (fun t ht hW => ⟨⟨_, (), rfl, rfl, by rw [ht]; exact hP, va_K.moved hW.alike hK, hD⟩, hS.F ht⟩) hS.2.2 d_Rd_one_45 hlocks
  · replace h := (if_neg c_1).symm.trans h
    refine lv_aload_n hx hb d_Rd_one_18 rfl (lv_at hl 0 rfl) ?_
    refine lv_iconst (v := (0 : Int32)) hx hb d_Rd_one_19 (by decide) ?_
    refine va_put (D := (dC, dI)) (ci := 0) (v := .int (0 : Int32)) (ty := .boolean) (C := "GlyphPage$Reader") (T := F_Rd) (N := 4) hx hb htsG iG_Rd t_Rd t_Rd_ok n_Rd hown hK hP hD hS 0 rfl rfl 3 (by decide) (htsG _ mW40) (fun _ h9 => h9) rfl (by decide +kernel) rfl rfl (Nat.le_of_ble_eq_true rfl) d_Rd_one_20 (fun H locs hP hD hS => ?_)
    have hP : va_P (dC, dI) classes [(o, .inr (0, [.ref o_bytes, .int o_place, .int o_limit, .int (0 : Int32)])), (o_bytes, .inl (cy 1, 4096, .inl o_bytes_f))] H := hP
    have hD : va_D A [(o, .inr (0, [.ref o_bytes, .int o_place, .int o_limit, .int (0 : Int32)])), (o_bytes, .inl (cy 1, 4096, .inl o_bytes_f))] := hD
    refine lv_iconst (v := (0 : Int32)) hx hb d_Rd_one_23 (by decide) ?_
    cases h
    exact W.iret hx hb hr (fun t ht hW => ⟨⟨_, (), rfl, rfl, by rw [ht]; exact hP, va_K.moved hW.alike hK, hD⟩, hS.F ht⟩) hS.2.2 d_Rd_one_24 hlocks
def P_Rd_two (o_place : Int32) (o_limit : Int32) (o_whole : Int32) (o_bytes_f : Nat → Int32)  : Option (Int32 × Int32 × Int32) :=
  if (o_place + (1 : Int32)) < o_limit then (bd ((o_place + (2 : Int32)) - (2 : Int32)) 4096 <| bd ((o_place + (2 : Int32)) - (1 : Int32)) 4096 <| some (((((o_bytes_f ((o_place + (2 : Int32)) - (2 : Int32)).toNatClampNeg) &&& (255 : Int32)) <<< ((8 : Int32) &&& 31)) ||| ((o_bytes_f ((o_place + (2 : Int32)) - (1 : Int32)).toNatClampNeg) &&& (255 : Int32))), (o_place + (2 : Int32)), o_whole)) else (some ((0 : Int32), o_place, (0 : Int32)))
set_option maxHeartbeats 4000000 in
set_option maxRecDepth 100000 in
theorem c_Rd_two (l : Launch) (dC : Nat → ClassId) (dI : Nat → Nat → Nat) (cy : Nat → ClassId) (sz : Nat) (o : Nat) (o_bytes : Nat) (o_place : Int32) (o_limit : Int32) (o_whole : Int32) (o_bytes_f : Nat → Int32)  (uu : Int32 × Int32 × Int32) (h : P_Rd_two o_place o_limit o_whole o_bytes_f = some uu) : Met l y_Rd_two (Cond.code y_Rd_two b_Rd_two 1 (some .int) :: G) ({ frames := 0, cells := 0, slots := 0, locals := 0 } : Room) (va_Pc [.ref o] (fun U => U.heap.size = sz ∧ va_P (dC, dI) classes [(o, .inr (0, [.ref o_bytes, .int o_place, .int o_limit, .int o_whole])), (o_bytes, .inl (cy 1, 4096, .inl o_bytes_f))] U.heap ∧ va_K (dC, dI) classes (TY cy) U ∧ va_D (fun _ => True) [(o, .inr (0, [.ref o_bytes, .int o_place, .int o_limit, .int o_whole])), (o_bytes, .inl (cy 1, 4096, .inl o_bytes_f))])) (va_Qi (fun r (_ : Unit) => r = uu.1) (fun _ t => va_P (dC, dI) classes [(o, .inr (0, [.ref o_bytes, .int uu.2.1, .int o_limit, .int uu.2.2])), (o_bytes, .inl (cy 1, 4096, .inl o_bytes_f))] t.heap ∧ va_K (dC, dI) classes (TY cy) t ∧ va_D (va_A [(o, .inr (0, [.ref o_bytes, .int o_place, .int o_limit, .int o_whole])), (o_bytes, .inl (cy 1, 4096, .inl o_bytes_f))] sz) [(o, .inr (0, [.ref o_bytes, .int uu.2.1, .int o_limit, .int uu.2.2])), (o_bytes, .inl (cy 1, 4096, .inl o_bytes_f))]) (va_A [(o, .inr (0, [.ref o_bytes, .int o_place, .int o_limit, .int o_whole])), (o_bytes, .inl (cy 1, 4096, .inl o_bytes_f))] sz)) 0 0 (va_A [(o, .inr (0, [.ref o_bytes, .int o_place, .int o_limit, .int o_whole])), (o_bytes, .inl (cy 1, 4096, .inl o_bytes_f))] sz) := by
  refine Met.ofW (cc := b_Rd_two) (maxL := 1) (ret := (some .int)) (by decide) rfl ?_
  intro p e s m args below meth c s₁ B hml hv
  obtain ⟨rfl, hsz, hP, hK, hD0⟩ := hv
  have hx := B.exec
  have hb := B.bytes
  have hr := B.returns
  have hts := atoms_spec (ws := Cond.code y_Rd_two b_Rd_two 1 (some .int) :: G) B.pre
  have htsG : ∀ w ∈ G, w.before _ s = true := fun w hw => hts w (List.mem_cons_of_mem _ hw)
  have hown : s.vm.findClass "GlyphPage$Reader" = some m.cls := findClass_of_methodNamed B.named
  have hlocks := B.notSynchronized
  subst hsz
  have hD := hD0.self (sz := s.heap.size)
  generalize hAe : va_A [(o, .inr (0, [.ref o_bytes, .int o_place, .int o_limit, .int o_whole])), (o_bytes, .inl (cy 1, 4096, .inl o_bytes_f))] s.heap.size = A at hD ⊢
  have hA : ∀ q : Nat, s.heap.size ≤ q → A q := fun q h => by rw [← hAe]; exact Or.inr h
  have hS : va_S A s.heap s.heap [] := va_S.rf
  have hl := lv_entry ([.ref o]) (n := 1) (Nat.le_of_ble_eq_true rfl)
  rw [lg_entry_eq]
  generalize (lg_sl ([.ref o]) ++ List.replicate (1 - (lg_sl ([.ref o])).length) Slot.unset).toArray = ls at hl ⊢
  have hl : lv_has ls 1 [(0, .ref o)] := hl
  have C0 : Cx p s m _ meth c A dC dI cy b_Rd_two 1 (some .int) "GlyphPage$Reader" := ⟨hx, hb, hr, hlocks, hml, hown, htsG, hA, hK⟩
  unfold P_Rd_two at h
  refine lv_aload_n hx hb d_Rd_two_0 rfl (lv_at hl 0 rfl) ?_
  refine va_get (D := (dC, dI)) (ci := 0) (v := .ref o_bytes) (C := "GlyphPage$Reader") (T := F_Rd) (N := 4) hx hb htsG iG_Rd hown hK hP 0 rfl rfl 0 (by decide) (htsG _ mW37) (fun _ h9 => h9) rfl d_Rd_two_1 ?_
  refine lv_ifnull hx hb d_Rd_two_4 ?_
  refine lv_aload_n hx hb d_Rd_two_7 rfl (lv_at hl 0 rfl) ?_
  refine va_get (D := (dC, dI)) (ci := 0) (v := .int o_place) (C := "GlyphPage$Reader") (T := F_Rd) (N := 4) hx hb htsG iG_Rd hown hK hP 0 rfl rfl 1 (by decide) (htsG _ mW38) (fun _ h9 => h9) rfl d_Rd_two_8 ?_
  refine lv_iconst (v := (1 : Int32)) hx hb d_Rd_two_11 (by decide) ?_
  refine lv_iadd hx hb d_Rd_two_12 ?_
  refine lv_aload_n hx hb d_Rd_two_13 rfl (lv_at hl 0 rfl) ?_
  refine va_get (D := (dC, dI)) (ci := 0) (v := .int o_limit) (C := "GlyphPage$Reader") (T := F_Rd) (N := 4) hx hb htsG iG_Rd hown hK hP 0 rfl rfl 2 (by decide) (htsG _ mW39) (fun _ h9 => h9) rfl d_Rd_two_14 ?_
  refine lv_icmp_lt (tgt := 27) hx hb d_Rd_two_17 (by decide) (fun c_1 => ?_) (fun c_1 => ?_)
  · replace h := (if_pos c_1).symm.trans h
    refine lv_aload_n hx hb d_Rd_two_27 rfl (lv_at hl 0 rfl) ?_
    refine lv_dup hx hb d_Rd_two_28 rfl ?_
    refine va_get (D := (dC, dI)) (ci := 0) (v := .int o_place) (C := "GlyphPage$Reader") (T := F_Rd) (N := 4) hx hb htsG iG_Rd hown hK hP 0 rfl rfl 1 (by decide) (htsG _ mW38) (fun _ h9 => h9) rfl d_Rd_two_29 ?_
    refine lv_iconst (v := (2 : Int32)) hx hb d_Rd_two_32 (by decide) ?_
    refine lv_iadd hx hb d_Rd_two_33 ?_
    refine va_put (D := (dC, dI)) (ci := 0) (v := .int (o_place + (2 : Int32))) (ty := .int) (C := "GlyphPage$Reader") (T := F_Rd) (N := 4) hx hb htsG iG_Rd t_Rd t_Rd_ok n_Rd hown hK hP hD hS 0 rfl rfl 1 (by decide) (htsG _ mW38) (fun _ h9 => h9) rfl (by decide +kernel) rfl rfl (Nat.le_of_ble_eq_true rfl) d_Rd_two_34 (fun H locs hP hD hS => ?_)
    have hP : va_P (dC, dI) classes [(o, .inr (0, [.ref o_bytes, .int (o_place + (2 : Int32)), .int o_limit, .int o_whole])), (o_bytes, .inl (cy 1, 4096, .inl o_bytes_f))] H := hP
    have hD : va_D A [(o, .inr (0, [.ref o_bytes, .int (o_place + (2 : Int32)), .int o_limit, .int o_whole])), (o_bytes, .inl (cy 1, 4096, .inl o_bytes_f))] := hD
    refine lv_aload_n hx hb d_Rd_two_37 rfl (lv_at hl 0 rfl) ?_
    refine va_get (D := (dC, dI)) (ci := 0) (v := .ref o_bytes) (C := "GlyphPage$Reader") (T := F_Rd) (N := 4) hx hb htsG iG_Rd hown hK hP 0 rfl rfl 0 (by decide) (htsG _ mW37) (fun _ h9 => h9) rfl d_Rd_two_38 ?_
    refine lv_aload_n hx hb d_Rd_two_41 rfl (lv_at hl 0 rfl) ?_
    refine va_get (D := (dC, dI)) (ci := 0) (v := .int (o_place + (2 : Int32))) (C := "GlyphPage$Reader") (T := F_Rd) (N := 4) hx hb htsG iG_Rd hown hK hP 0 rfl rfl 1 (by decide) (htsG _ mW38) (fun _ h9 => h9) rfl d_Rd_two_42 ?_
    refine lv_iconst (v := (2 : Int32)) hx hb d_Rd_two_45 (by decide) ?_
    refine lv_isub hx hb d_Rd_two_46 ?_
    obtain ⟨hin_2, h⟩ := bd_some h
    refine va_bald hx hb hK hP 1 1 rfl rfl hin_2 d_Rd_two_47 ?_
    refine lv_sipush (v := (255 : Int32)) hx hb d_Rd_two_48 (by decide) ?_
    refine lv_iand hx hb d_Rd_two_51 ?_
    refine lv_bipush (v := (8 : Int32)) hx hb d_Rd_two_52 (by decide) ?_
    refine lv_ishl hx hb d_Rd_two_54 ?_
    refine lv_aload_n hx hb d_Rd_two_55 rfl (lv_at hl 0 rfl) ?_
    refine va_get (D := (dC, dI)) (ci := 0) (v := .ref o_bytes) (C := "GlyphPage$Reader") (T := F_Rd) (N := 4) hx hb htsG iG_Rd hown hK hP 0 rfl rfl 0 (by decide) (htsG _ mW37) (fun _ h9 => h9) rfl d_Rd_two_56 ?_
    refine lv_aload_n hx hb d_Rd_two_59 rfl (lv_at hl 0 rfl) ?_
    refine va_get (D := (dC, dI)) (ci := 0) (v := .int (o_place + (2 : Int32))) (C := "GlyphPage$Reader") (T := F_Rd) (N := 4) hx hb htsG iG_Rd hown hK hP 0 rfl rfl 1 (by decide) (htsG _ mW38) (fun _ h9 => h9) rfl d_Rd_two_60 ?_
    refine lv_iconst (v := (1 : Int32)) hx hb d_Rd_two_63 (by decide) ?_
    refine lv_isub hx hb d_Rd_two_64 ?_
    obtain ⟨hin_3, h⟩ := bd_some h
    refine va_bald hx hb hK hP 1 1 rfl rfl hin_3 d_Rd_two_65 ?_
    refine lv_sipush (v := (255 : Int32)) hx hb d_Rd_two_66 (by decide) ?_
    refine lv_iand hx hb d_Rd_two_69 ?_
    refine lv_ior hx hb d_Rd_two_70 ?_
    cases h
    exact W.iret hx hb hr (fun t ht hW => ⟨⟨_, (), rfl, rfl, by rw [ht]; exact hP, va_K.moved hW.alike hK, hD⟩, hS.F ht⟩) hS.2.2 d_Rd_two_71 hlocks
  · replace h := (if_neg c_1).symm.trans h
    refine lv_aload_n hx hb d_Rd_two_20 rfl (lv_at hl 0 rfl) ?_
    refine lv_iconst (v := (0 : Int32)) hx hb d_Rd_two_21 (by decide) ?_
    refine va_put (D := (dC, dI)) (ci := 0) (v := .int (0 : Int32)) (ty := .boolean) (C := "GlyphPage$Reader") (T := F_Rd) (N := 4) hx hb htsG iG_Rd t_Rd t_Rd_ok n_Rd hown hK hP hD hS 0 rfl rfl 3 (by decide) (htsG _ mW40) (fun _ h9 => h9) rfl (by decide +kernel) rfl rfl (Nat.le_of_ble_eq_true rfl) d_Rd_two_22 (fun H locs hP hD hS => ?_)
    have hP : va_P (dC, dI) classes [(o, .inr (0, [.ref o_bytes, .int o_place, .int o_limit, .int (0 : Int32)])), (o_bytes, .inl (cy 1, 4096, .inl o_bytes_f))] H := hP
    have hD : va_D A [(o, .inr (0, [.ref o_bytes, .int o_place, .int o_limit, .int (0 : Int32)])), (o_bytes, .inl (cy 1, 4096, .inl o_bytes_f))] := hD
    refine lv_iconst (v := (0 : Int32)) hx hb d_Rd_two_25 (by decide) ?_
    cases h
    exact W.iret hx hb hr (fun t ht hW => ⟨⟨_, (), rfl, rfl, by rw [ht]; exact hP, va_K.moved hW.alike hK, hD⟩, hS.F ht⟩) hS.2.2 d_Rd_two_26 hlocks
end
