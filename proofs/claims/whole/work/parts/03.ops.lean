/-! an instruction with its numbers; a method; what the kernel checks of them -/
abbrev gl_M : Type := MethodName × ByteArray × Nat × Option FieldType × Nat × Nat
abbrev gl_O : Type := Instr × Nat × Nat × Nat × Int32
def gl_len (i : Instr) : Nat := match i with
  | .bipush _ => 2
  | .sipush _ => 3
  | .ldc _ => 2
  | .iload _ => 2
  | .aload _ => 2
  | .istore _ => 2
  | .astore _ => 2
  | .iinc _ _ => 3
  | .getfield _ => 3
  | .putfield _ => 3
  | .new _ => 3
  | .newarray _ => 2
  | .invokespecial _ => 3
  | .invokestatic _ => 3
  | .invokevirtual _ => 3
  | .if_icmp _ _ => 3
  | .ifCond _ _ => 3
  | .goto _ => 3
  | _ => 1
/-- what is checked of an instruction, by the kernel: its pool's entry, its number -/
def gl_lf (Mt : gl_M) (o : gl_O) (i : Nat) (q : vw_C) : Bool := decide (gl_tb[o.2.2.2.1]? = some (.fieldLink Mt.1.cls i (q.2.1 o.2.2.1).1 (q.2.1 o.2.2.1).2.1 (q.2.1 o.2.2.1).2.2.1))
def gl_ln (Mt : gl_M) (o : gl_O) (i : Nat) (q : vw_C) : Bool := decide (gl_tb[o.2.2.2.1]? = some (.fieldLinkNest Mt.1.cls i (q.2.1 o.2.2.1).1 (q.2.1 o.2.2.1).2.1 (q.2.1 o.2.2.1).2.2.1 "ModeCells"))
def gl_res (mn : List MethodName) (Mt : gl_M) (o : gl_O) : Bool := match o.1 with
  | .iconst a => decide (Int32.ofInt a = o.2.2.2.2)
  | .bipush a => decide ((Int8.ofInt a).toInt32 = o.2.2.2.2)
  | .sipush a => decide ((Int16.ofInt a).toInt32 = o.2.2.2.2)
  | .iinc _ a => decide (Int32.ofInt a = o.2.2.2.2)
  | .ldc i => decide (gl_tb[o.2.2.2.1]? = some (.constant Mt.1.cls i o.2.2.2.2))
  | .getfield i => match gl_cls[o.2.1]? with
    | some q => decide (o.2.2.1 < q.2.2) && (gl_lf Mt o i q || gl_ln Mt o i q)
    | none => false
  | .putfield i => match gl_cls[o.2.1]? with
    | some q => decide (o.2.2.1 < q.2.2) && ((gl_lf Mt o i q && (decide ((q.2.1 o.2.2.1).2.2.2 = false) || (decide (Mt.1.name = "<init>") && decide ((q.2.1 o.2.2.1).1 = Mt.1.cls)))) || (gl_ln Mt o i q && decide ((q.2.1 o.2.2.1).2.2.2 = false)))
    | none => false
  | .new i => match gl_cls[o.2.1]? with
    | some q => decide (gl_tb[o.2.2.2.1]? = some (.classLink Mt.1.cls i q.1))
    | none => false
  | .invokestatic i => match o.2.1 with
    | 0 => match mn[o.2.2.1]? with
      | some y => decide (gl_tb[o.2.2.2.1]? = some (.methodLink Mt.1.cls i y)) || decide (gl_tb[o.2.2.2.1]? = some (.methodLinkNest Mt.1.cls i y "ModeCells"))
      | none => false
    | 1 => decide (gl_tb[o.2.2.2.1]? = some (.methodLink Mt.1.cls i Lib.Math.min.name)) && decide (1 ≤ Mt.2.2.2.2.1) && decide (26 ≤ Mt.2.2.2.2.2)
    | _ => decide (gl_tb[o.2.2.2.1]? = some (.methodLink Mt.1.cls i arraycopyName)) && decide (1 ≤ Mt.2.2.2.2.1) && decide (26 ≤ Mt.2.2.2.2.2)
  | .invokespecial i => match o.2.1 with
    | 3 => decide (gl_tb[o.2.2.2.1]? = some (.methodLink Mt.1.cls i Lib.objectInit)) && decide (1 ≤ Mt.2.2.2.2.1) && decide (26 ≤ Mt.2.2.2.2.2)
    | _ => match mn[o.2.2.1]? with
      | some y => decide (gl_tb[o.2.2.2.1]? = some (.methodLink Mt.1.cls i y)) || decide (gl_tb[o.2.2.2.1]? = some (.methodLinkNest Mt.1.cls i y "ModeCells"))
      | none => false
  | .invokevirtual i => match mn[o.2.2.1]? with
      | some y => decide (gl_tb[o.2.2.2.1]? = some (.methodLink Mt.1.cls i y)) || decide (gl_tb[o.2.2.2.1]? = some (.methodLinkNest Mt.1.cls i y "ModeCells"))
      | none => false
  | _ => true
def gl_ok1 (mn : List MethodName) (Mt : gl_M) (q : Nat × gl_O) : Bool := decide (decode Mt.2.1 q.1 = .ok (q.2.1, gl_len q.2.1)) && gl_res mn Mt q.2
/-- the words of a call: of the method called; of the place that calls -/
def gl_mw (M' : gl_M) (np : Nat) : Prop := Cond.code M'.1 M'.2.1 M'.2.2.1 M'.2.2.2.1 ∈ gl_tb ∧ Cond.initialized M'.1.cls ∈ gl_tb ∧ (M'.1.cls ≠ "java/lang/invoke/MethodHandle" ∧ M'.1.cls ≠ "java/lang/invoke/VarHandle") ∧ (parseMethodDescriptor M'.1.desc).map (fun d => d.parameters.length) = some np
