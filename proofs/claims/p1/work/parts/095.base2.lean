def tgs_Ff : Nat → Int32 := fun k => match k with
  | 0 => 1668112752
  | 1 => 1735162214
  | 2 => 1751474532
  | 3 => 1751672161
  | 4 => 1752003704
  | 5 => 1819239265
  | 6 => 1835104368
  | _ => 1801810542
def tgs_Mo : Nat → Int32 := fun k => match k with
  | 0 => 1668112752
  | 1 => 1735162214
  | 2 => 1751474532
  | 3 => 1751672161
  | 4 => 1752003704
  | 5 => 1801810542
  | 6 => 1819239265
  | _ => 1835104368
def CxS (p : Program) (s : State) (m : MethodId) (args : Array Value) (meth : Method) (c : Code) (A : Nat → Prop) (dC : Nat → ClassId) (dI : Nat → Nat → Nat) (cy : Nat → ClassId) (cc : ByteArray) (n : Nat) (ret : Option FieldType) (own : String) (C : String) (tf : Nat → Int32) (tg : Nat) : Prop :=
  p.tables.exec = Jvm.exec ∧ c.code = cc ∧ meth.sig.returnType = ret ∧ meth.locks = false ∧ c.maxLocals = n ∧ s.vm.findClass own = some m.cls ∧ (∀ w ∈ G, w.before args s = true) ∧ (∀ q : Nat, s.heap.size ≤ q → A q) ∧ va_K (dC, dI) classes (TY cy) s ∧ va_Z C "TAGS" "[I" (.ref tg) A s s.heap ∧ va_T .int tg 8 (fun j => .int (tf j)) A s s.heap
def rf5 (a b c d e : Nat) (i : Nat) : Option Nat := match i with
  | 0 => some a
  | 1 => some b
  | 2 => some c
  | 3 => some d
  | _ => some e
