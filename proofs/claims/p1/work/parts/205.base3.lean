theorem dfl_Rd : ∀ j, j < 4 → defaultValue (t_Rd j) = vp_V [.null, .int 0, .int 0, .int 0] j := by
  intro j hj
  match j, hj with
  | 0, _ => rfl
  | 1, _ => rfl
  | 2, _ => rfl
  | 3, _ => rfl
  | j + 4, hj => exact absurd hj (by omega)
theorem dfl_Pt : ∀ j, j < 8 → defaultValue (t_Pt j) = vp_V [.int 0, .int 0, .int 0, .int 0, .int 0, .int 0, .int 0, .int 0] j := by
  intro j hj
  match j, hj with
  | 0, _ => rfl
  | 1, _ => rfl
  | 2, _ => rfl
  | 3, _ => rfl
  | 4, _ => rfl
  | 5, _ => rfl
  | 6, _ => rfl
  | 7, _ => rfl
  | j + 8, hj => exact absurd hj (by omega)
theorem dfl_Sh : ∀ j, j < 10 → defaultValue (t_Sh j) = vp_V [.null, .null, .null, .null, .int 0, .int 0, .int 0, .null, .null, .null] j := by
  intro j hj
  match j, hj with
  | 0, _ => rfl
  | 1, _ => rfl
  | 2, _ => rfl
  | 3, _ => rfl
  | 4, _ => rfl
  | 5, _ => rfl
  | 6, _ => rfl
  | 7, _ => rfl
  | 8, _ => rfl
  | 9, _ => rfl
  | j + 10, hj => exact absurd hj (by omega)
theorem dfl_Cv : ∀ j, j < 13 → defaultValue (t_Cv j) = vp_V [.null, .null, .null, .null, .null, .null, .int 0, .null, .null, .null, .null, .null, .null] j := by
  intro j hj
  match j, hj with
  | 0, _ => rfl
  | 1, _ => rfl
  | 2, _ => rfl
  | 3, _ => rfl
  | 4, _ => rfl
  | 5, _ => rfl
  | 6, _ => rfl
  | 7, _ => rfl
  | 8, _ => rfl
  | 9, _ => rfl
  | 10, _ => rfl
  | 11, _ => rfl
  | 12, _ => rfl
  | j + 13, hj => exact absurd hj (by omega)
theorem dfl_Ln : ∀ j, j < 7 → defaultValue (t_Ln j) = vp_V [.null, .null, .null, .int 0, .null, .null, .null] j := by
  intro j hj
  match j, hj with
  | 0, _ => rfl
  | 1, _ => rfl
  | 2, _ => rfl
  | 3, _ => rfl
  | 4, _ => rfl
  | 5, _ => rfl
  | 6, _ => rfl
  | j + 7, hj => exact absurd hj (by omega)
theorem dfl_Pg : ∀ j, j < 5 → defaultValue (t_Pg j) = vp_V [.int 0, .int 0, .null, .null, .long 0] j := by
  intro j hj
  match j, hj with
  | 0, _ => rfl
  | 1, _ => rfl
  | 2, _ => rfl
  | 3, _ => rfl
  | 4, _ => rfl
  | j + 5, hj => exact absurd hj (by omega)
theorem dfl_Gp : ∀ j, j < 9 → defaultValue (t_Gp j) = vp_V [.null, .null, .null, .null, .null, .null, .int 0, .null, .int 0] j := by
  intro j hj
  match j, hj with
  | 0, _ => rfl
  | 1, _ => rfl
  | 2, _ => rfl
  | 3, _ => rfl
  | 4, _ => rfl
  | 5, _ => rfl
  | 6, _ => rfl
  | 7, _ => rfl
  | 8, _ => rfl
  | j + 9, hj => exact absurd hj (by omega)
theorem dfl_Ff : ∀ j, j < 16 → defaultValue (t_Ff j) = vp_V [.null, .int 0, .null, .null, .null, .int 0, .int 0, .int 0, .int 0, .int 0, .int 0, .int 0, .int 0, .int 0, .int 0, .int 0] j := by
  intro j hj
  match j, hj with
  | 0, _ => rfl
  | 1, _ => rfl
  | 2, _ => rfl
  | 3, _ => rfl
  | 4, _ => rfl
  | 5, _ => rfl
  | 6, _ => rfl
  | 7, _ => rfl
  | 8, _ => rfl
  | 9, _ => rfl
  | 10, _ => rfl
  | 11, _ => rfl
  | 12, _ => rfl
  | 13, _ => rfl
  | 14, _ => rfl
  | 15, _ => rfl
  | j + 16, hj => exact absurd hj (by omega)
theorem dfl_Mf : ∀ j, j < 23 → defaultValue (t_Mf j) = vp_V [.null, .int 0, .null, .null, .int 0, .int 0, .int 0, .int 0, .int 0, .int 0, .int 0, .int 0, .int 0, .int 0, .null, .null, .null, .null, .null, .null, .null, .null, .null] j := by
  intro j hj
  match j, hj with
  | 0, _ => rfl
  | 1, _ => rfl
  | 2, _ => rfl
  | 3, _ => rfl
  | 4, _ => rfl
  | 5, _ => rfl
  | 6, _ => rfl
  | 7, _ => rfl
  | 8, _ => rfl
  | 9, _ => rfl
  | 10, _ => rfl
  | 11, _ => rfl
  | 12, _ => rfl
  | 13, _ => rfl
  | 14, _ => rfl
  | 15, _ => rfl
  | 16, _ => rfl
  | 17, _ => rfl
  | 18, _ => rfl
  | 19, _ => rfl
  | 20, _ => rfl
  | 21, _ => rfl
  | 22, _ => rfl
  | j + 23, hj => exact absurd hj (by omega)
theorem dfl_Mo : ∀ j, j < 22 → defaultValue (t_Mo j) = vp_V [.int 0, .int 0, .null, .null, .int 0, .null, .null, .int 0, .null, .null, .null, .int 0, .int 0, .int 0, .int 0, .null, .null, .null, .int 0, .null, .null, .int 0] j := by
  intro j hj
  match j, hj with
  | 0, _ => rfl
  | 1, _ => rfl
  | 2, _ => rfl
  | 3, _ => rfl
  | 4, _ => rfl
  | 5, _ => rfl
  | 6, _ => rfl
  | 7, _ => rfl
  | 8, _ => rfl
  | 9, _ => rfl
  | 10, _ => rfl
  | 11, _ => rfl
  | 12, _ => rfl
  | 13, _ => rfl
  | 14, _ => rfl
  | 15, _ => rfl
  | 16, _ => rfl
  | 17, _ => rfl
  | 18, _ => rfl
  | 19, _ => rfl
  | 20, _ => rfl
  | 21, _ => rfl
  | j + 22, hj => exact absurd hj (by omega)
theorem cyE_I {D : va_G} {cl : List vw_C} {cy : Nat → ClassId} {cA : ClassId} {s : State} (h : va_K D cl (TY cy ++ [(cA, .int)]) s) : cA = cy 0 := by
  have h1 : s.vm.findClass ("[" ++ (.int : FieldType).toString) = some cA := (h.2 6 (cA, .int) rfl).2
  have h0 : s.vm.findClass ("[" ++ (.int : FieldType).toString) = some (cy 0) := (h.2 0 (cy 0, .int) rfl).2
  exact Option.some.inj (h1.symm.trans h0)
theorem cyE_B {D : va_G} {cl : List vw_C} {cy : Nat → ClassId} {cA : ClassId} {s : State} (h : va_K D cl (TY cy ++ [(cA, .byte)]) s) : cA = cy 1 := by
  have h1 : s.vm.findClass ("[" ++ (.byte : FieldType).toString) = some cA := (h.2 6 (cA, .byte) rfl).2
  have h0 : s.vm.findClass ("[" ++ (.byte : FieldType).toString) = some (cy 1) := (h.2 1 (cy 1, .byte) rfl).2
  exact Option.some.inj (h1.symm.trans h0)
theorem cyE_Z {D : va_G} {cl : List vw_C} {cy : Nat → ClassId} {cA : ClassId} {s : State} (h : va_K D cl (TY cy ++ [(cA, .boolean)]) s) : cA = cy 2 := by
  have h1 : s.vm.findClass ("[" ++ (.boolean : FieldType).toString) = some cA := (h.2 6 (cA, .boolean) rfl).2
  have h0 : s.vm.findClass ("[" ++ (.boolean : FieldType).toString) = some (cy 2) := (h.2 2 (cy 2, .boolean) rfl).2
  exact Option.some.inj (h1.symm.trans h0)
theorem cyE_J {D : va_G} {cl : List vw_C} {cy : Nat → ClassId} {cA : ClassId} {s : State} (h : va_K D cl (TY cy ++ [(cA, .long)]) s) : cA = cy 3 := by
  have h1 : s.vm.findClass ("[" ++ (.long : FieldType).toString) = some cA := (h.2 6 (cA, .long) rfl).2
  have h0 : s.vm.findClass ("[" ++ (.long : FieldType).toString) = some (cy 3) := (h.2 3 (cy 3, .long) rfl).2
  exact Option.some.inj (h1.symm.trans h0)
theorem cyE_Rd {D : va_G} {cl : List vw_C} {cy : Nat → ClassId} {cA : ClassId} {s : State} (h : va_K D cl (TY cy ++ [(cA, .object "GlyphPage$Reader")]) s) : cA = cy 4 := by
  obtain ⟨_, _, _, _, _, h1⟩ := (h.2 6 (cA, .object "GlyphPage$Reader") rfl).2
  obtain ⟨_, _, _, _, _, h0⟩ := (h.2 4 (cy 4, .object "GlyphPage$Reader") rfl).2
  exact Option.some.inj (h1.symm.trans h0)
theorem cyE_Pt {D : va_G} {cl : List vw_C} {cy : Nat → ClassId} {cA : ClassId} {s : State} (h : va_K D cl (TY cy ++ [(cA, .object "GlyphPage$Part")]) s) : cA = cy 5 := by
  obtain ⟨_, _, _, _, _, h1⟩ := (h.2 6 (cA, .object "GlyphPage$Part") rfl).2
  obtain ⟨_, _, _, _, _, h0⟩ := (h.2 5 (cy 5, .object "GlyphPage$Part") rfl).2
  exact Option.some.inj (h1.symm.trans h0)
def na {α : Type} (v : Int32) (k : Option α) : Option α := if v < 0 ∨ 65 < v.toNatClampNeg then none else k
theorem na_some {α : Type} {v : Int32} {k : Option α} {r : α} (h : na v k = some r) : (¬ v < 0 ∧ v.toNatClampNeg ≤ 65) ∧ k = some r := by
  unfold na at h
  split at h
  · cases h
  · rename_i q
    exact ⟨⟨fun z => q (Or.inl z), Nat.not_lt.mp fun z => q (Or.inr z)⟩, h⟩
theorem re5_cell (cA : ClassId) (f g : Nat → Option Nat) (h : ∀ j, j < 5 → f j = g j) : vp_cell cA (5, .inr (.inr (.inr (.inr f)))) = vp_cell cA (5, .inr (.inr (.inr (.inr g)))) := by
  show arrV cA 5 (fun j => va_rf (f j)) = arrV cA 5 (fun j => va_rf (g j))
  unfold arrV
  congr 1
  exact congrArg Array.ofFn (funext fun j => by show va_rf (f j.val) = va_rf (g j.val); rw [h j.val j.isLt])
theorem re5P {D : va_G} {cl : List vw_C} {ws : va_W} {H : Heap} (hP : va_P D cl ws H) (k : Nat) {a : Nat} {cA : ClassId} {f : Nat → Option Nat} (he : ws[k]? = some (a, .inl (cA, 5, .inr (.inr (.inr (.inr f)))))) (g : Nat → Option Nat) (hfg : ∀ j, j < 5 → f j = g j) : va_P D cl (ws.set k (a, .inl (cA, 5, .inr (.inr (.inr (.inr g)))))) H := by
  intro i q hq
  by_cases hi : i = k
  · subst hi
    have hlt : i < ws.length := (List.getElem?_eq_some_iff.mp he).1
    rw [List.getElem?_set_self hlt] at hq
    cases hq
    show H[a]? = some (vp_cell cA (5, .inr (.inr (.inr (.inr g)))))
    rw [← re5_cell cA f g hfg]
    exact hP i _ he
  · rw [List.getElem?_set_ne (fun z => hi z.symm)] at hq
    exact hP i q hq
theorem re5D {A : Nat → Prop} {ws : va_W} (hD : va_D A ws) (k : Nat) {a : Nat} {cA : ClassId} {f : Nat → Option Nat} (he : ws[k]? = some (a, .inl (cA, 5, .inr (.inr (.inr (.inr f)))))) (g : Nat → Option Nat) : va_D A (ws.set k (a, .inl (cA, 5, .inr (.inr (.inr (.inr g)))))) := hD.set he
def NW (U : State) : Prop := va_Nw (Jvm.Cond.methodLinkNest "GlyphPage$Shape" (48 : Nat) ({ cls := "GlyphPage$Reader", name := "<init>", desc := "()V" } : Jvm.MethodName) "GlyphPage") U ∧ va_Nw (Jvm.Cond.methodLinkNest "GlyphPage$Shape" (49 : Nat) ({ cls := "GlyphPage$Part", name := "<init>", desc := "()V" } : Jvm.MethodName) "GlyphPage") U ∧ va_Nw (Jvm.Cond.methodLinkNest "GlyphPage" (18 : Nat) ({ cls := "GlyphPage$Curves", name := "<init>", desc := "()V" } : Jvm.MethodName) "GlyphPage") U ∧ va_Nw (Jvm.Cond.methodLinkNest "GlyphPage" (25 : Nat) ({ cls := "GlyphPage$Lines", name := "<init>", desc := "()V" } : Jvm.MethodName) "GlyphPage") U ∧ va_Nw (Jvm.Cond.methodLinkNest "GlyphPageModel" (19 : Nat) ({ cls := "GlyphPageModel$Font", name := "<init>", desc := "()V" } : Jvm.MethodName) "GlyphPageModel") U ∧ va_AO "GlyphPage$Reader" U ∧ va_AO "GlyphPage$Part" U
def CxSN (p : Program) (s : State) (m : MethodId) (args : Array Value) (meth : Method) (c : Code) (A : Nat → Prop) (dC : Nat → ClassId) (dI : Nat → Nat → Nat) (cy : Nat → ClassId) (cc : ByteArray) (n : Nat) (ret : Option FieldType) (own : String) (C : String) (tf : Nat → Int32) (tg : Nat) : Prop :=
  p.tables.exec = Jvm.exec ∧ c.code = cc ∧ meth.sig.returnType = ret ∧ meth.locks = false ∧ c.maxLocals = n ∧ s.vm.findClass own = some m.cls ∧ (∀ w ∈ G, w.before args s = true) ∧ (∀ q : Nat, s.heap.size ≤ q → A q) ∧ va_K (dC, dI) classes (TY cy) s ∧ va_Z C "TAGS" "[I" (.ref tg) A s s.heap ∧ va_T .int tg 8 (fun j => .int (tf j)) A s s.heap ∧ NW s
theorem NWsame {u U : State} (h : u.vm = U.vm) (hN : NW u) : NW U := by
  obtain ⟨h1, h2, h3, h4, h5, h6, h7⟩ := hN
  exact ⟨va_Nw.same rfl h h1, va_Nw.same rfl h h2, va_Nw.same rfl h h3, va_Nw.same rfl h h4, va_Nw.same rfl h h5, va_AO.moved (by rw [h]; exact Vm.Alike.refl _) h6, va_AO.moved (by rw [h]; exact Vm.Alike.refl _) h7⟩
theorem NWwarm {s U : State} (hW : s.WarmedH U.vm) (hN : NW s) : NW U := by
  obtain ⟨h1, h2, h3, h4, h5, h6, h7⟩ := hN
  exact ⟨va_Nw.warmM hW h1, va_Nw.warmM hW h2, va_Nw.warmM hW h3, va_Nw.warmM hW h4, va_Nw.warmM hW h5, va_AO.moved hW.alike h6, va_AO.moved hW.alike h7⟩
theorem NW_Rd_init {s : State} (h : NW s) : va_Nw (Jvm.Cond.methodLinkNest "GlyphPage$Shape" (48 : Nat) ({ cls := "GlyphPage$Reader", name := "<init>", desc := "()V" } : Jvm.MethodName) "GlyphPage") s := h.1
theorem NW_Pt_init {s : State} (h : NW s) : va_Nw (Jvm.Cond.methodLinkNest "GlyphPage$Shape" (49 : Nat) ({ cls := "GlyphPage$Part", name := "<init>", desc := "()V" } : Jvm.MethodName) "GlyphPage") s := h.2.1
theorem NW_Cv_init {s : State} (h : NW s) : va_Nw (Jvm.Cond.methodLinkNest "GlyphPage" (18 : Nat) ({ cls := "GlyphPage$Curves", name := "<init>", desc := "()V" } : Jvm.MethodName) "GlyphPage") s := h.2.2.1
theorem NW_Ln_init {s : State} (h : NW s) : va_Nw (Jvm.Cond.methodLinkNest "GlyphPage" (25 : Nat) ({ cls := "GlyphPage$Lines", name := "<init>", desc := "()V" } : Jvm.MethodName) "GlyphPage") s := h.2.2.2.1
theorem NW_Mf_init {s : State} (h : NW s) : va_Nw (Jvm.Cond.methodLinkNest "GlyphPageModel" (19 : Nat) ({ cls := "GlyphPageModel$Font", name := "<init>", desc := "()V" } : Jvm.MethodName) "GlyphPageModel") s := h.2.2.2.2.1
theorem NW_AO_Rd {s : State} (h : NW s) : va_AO "GlyphPage$Reader" s := h.2.2.2.2.2.1
theorem NW_AO_Pt {s : State} (h : NW s) : va_AO "GlyphPage$Part" s := h.2.2.2.2.2.2
