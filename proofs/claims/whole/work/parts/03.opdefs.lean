def pv_isN (w : Jvm.Cond) : Bool := match w with
  | .fieldLinkNest .. => true
  | .methodLinkNest .. => true
  | _ => false
/-- the classes' tables -/
def pv_clsOk (Ts : List Jvm.Cond) (cl : List vw_C) (FD : Nat → List FieldType) : Prop := ∀ (ci : Nat) (C : String) (T : u_T) (N : Nat), cl[ci]? = some (C, T, N) → (∀ w ∈ u_ws C T N, w ∈ Ts) ∧ N = (FD ci).length ∧ (∀ k, k < N → parseFieldDescriptor (T k).2.2.1 = (FD ci)[k]?) ∧ (∀ a, a < N → ∀ b, b < N → a ≠ b → (T a).2.1 ≠ (T b).2.1) ∧ ∀ k, k < N → (T k).1 = C
/-! PV: one instruction of a method, and its words -/
def pv_fl (GW NW : List Jvm.Cond) (cl : List vw_C) (own : String) (idx : Nat) (aux : Nat × Nat × Nat) : Prop := ∃ (C : String) (T : u_T) (N : Nat), cl[aux.2.1]? = some (C, T, N) ∧ aux.2.2 < N ∧ ((aux.1 = 0 ∧ Cond.fieldLink own idx (T aux.2.2).1 (T aux.2.2).2.1 (T aux.2.2).2.2.1 ∈ GW) ∨ (aux.1 = 1 ∧ ∃ host, Cond.fieldLinkNest own idx (T aux.2.2).1 (T aux.2.2).2.1 (T aux.2.2).2.2.1 host ∈ NW))
def pv_pf (cl : List vw_C) (M : pv_M) (aux : Nat × Nat × Nat) : Prop := ∃ (C : String) (T : u_T) (N : Nat), cl[aux.2.1]? = some (C, T, N) ∧ ((T aux.2.2).2.2.2 = false ∨ (aux.1 = 0 ∧ (T aux.2.2).2.2.2 = true ∧ M.1.name = "<init>" ∧ C = M.1.cls))
/-- what the tables say of a method -/
def pv_mOk (GW : List Jvm.Cond) (M : pv_M) : Prop := plainName M.1.cls = true ∧ Cond.code M.1 M.2.1 M.2.2.1 M.2.2.2.1 ∈ GW ∧ (M.1.cls ≠ "java/lang/invoke/MethodHandle" ∧ M.1.cls ≠ "java/lang/invoke/VarHandle" ∧ (parseMethodDescriptor M.1.desc).map (fun d => d.parameters.length) = some M.2.2.2.2) ∧ M.2.2.1 ≤ 45
/-- a call's words -/
def pv_cw (X : pv_X) (GW NW : List Jvm.Cond) (cl : List vw_C) (own : String) (idx : Nat) (aux : Nat × Nat × Nat) : Prop := ∃ M : pv_M, X.2.1 aux.2.1 = some M ∧ pv_mOk GW M ∧ Cond.initialized M.1.cls ∈ GW ∧
  ((aux.1 = 0 ∧ Cond.methodLink own idx M.1 ∈ GW ∧ Cond.instanceMethod M.1 ∈ GW ∧ Cond.selects M.1.cls M.1 M.1 ∈ GW ∧ ∃ T N, cl[aux.2.2]? = some (M.1.cls, T, N)) ∨
   (aux.1 = 1 ∧ Cond.methodLink own idx M.1 ∈ GW ∧ Cond.static M.1 ∈ GW) ∨
   (aux.1 = 2 ∧ Cond.methodLink own idx M.1 ∈ GW ∧ Cond.instanceMethod M.1 ∈ GW ∧ M.1.name = "<init>" ∧ M.2.2.2.1 = none) ∨
   (aux.1 = 3 ∧ (∃ host, Cond.methodLinkNest own idx M.1 host ∈ NW) ∧ Cond.instanceMethod M.1 ∈ GW ∧ Cond.selects M.1.cls M.1 M.1 ∈ GW ∧ ∃ T N, cl[aux.2.2]? = some (M.1.cls, T, N)) ∨
   (aux.1 = 4 ∧ (∃ host, Cond.methodLinkNest own idx M.1 host ∈ NW) ∧ Cond.static M.1 ∈ GW) ∨
   (aux.1 = 5 ∧ (∃ host, Cond.methodLinkNest own idx M.1 host ∈ NW) ∧ Cond.instanceMethod M.1 ∈ GW ∧ M.1.name = "<init>" ∧ M.2.2.2.1 = none))
def pv_yLen : MethodName := ⟨"java/lang/String", "length", "()I"⟩
def pv_yChar : MethodName := ⟨"java/lang/String", "charAt", "(I)C"⟩
/-- an instruction's words -/
def pv_iw (X : pv_X) (GW NW : List Jvm.Cond) (cl : List vw_C) (SK : List (String × Nat × String)) (M : pv_M) (pc : Nat) (op : Instr) (len : Nat) (aux : Nat × Nat × Nat) : Prop := match op with
  | .ldc i => len = 2 ∧ ((aux.1 = 0 ∧ Cond.constant M.1.cls i (Int32.ofNat aux.2.1) ∈ GW) ∨ (aux.1 = 1 ∧ ∃ tx, SK[aux.2.1]? = some (M.1.cls, i, tx)))
  | .ldc_w i => len = 3 ∧ ((aux.1 = 0 ∧ Cond.constant M.1.cls i (Int32.ofNat aux.2.1) ∈ GW) ∨ (aux.1 = 1 ∧ ∃ tx, SK[aux.2.1]? = some (M.1.cls, i, tx)))
  | .ldc2_w i => len = 3 ∧ Cond.constantLong M.1.cls i (Int64.ofNat aux.2.1) ∈ GW
  | .goto off => len = 3 ∧ (pc : Int) + off = (aux.1 : Int)
  | .ifCond _ off => len = 3 ∧ (pc : Int) + off = (aux.1 : Int)
  | .if_icmp _ off => len = 3 ∧ (pc : Int) + off = (aux.1 : Int)
  | .getfield i => len = 3 ∧ pv_fl GW NW cl M.1.cls i aux
  | .putfield i => len = 3 ∧ pv_fl GW NW cl M.1.cls i aux ∧ pv_pf cl M aux
  | .new i => len = 3 ∧ ∃ C T N, cl[aux.1]? = some (C, T, N) ∧ Cond.classLink M.1.cls i C ∈ GW ∧ Cond.instantiable C N ∈ GW ∧ Cond.initialized C ∈ GW
  | .newarray aty => len = 2 ∧ newarray.typeOf aty = pv_ty aux.1 ∧ Cond.arrayClass (pv_ty aux.1) ∈ GW
  | .multianewarray i n => len = 4 ∧ n = 2 ∧ Cond.classLink M.1.cls i ("[" ++ (FieldType.array (pv_ty aux.1)).toString) ∈ GW ∧ Cond.arrayClass (pv_ty aux.1) ∈ GW
  | .invokevirtual i => len = 3 ∧ ((pv_cw X GW NW cl M.1.cls i aux ∧ (aux.1 = 0 ∨ aux.1 = 3)) ∨ (aux.1 = 7 ∧ Cond.methodLink M.1.cls i pv_yLen ∈ GW) ∨ (aux.1 = 8 ∧ Cond.methodLink M.1.cls i pv_yChar ∈ GW))
  | .invokestatic i => len = 3 ∧ ((pv_cw X GW NW cl M.1.cls i aux ∧ (aux.1 = 1 ∨ aux.1 = 4)) ∨
      (aux.1 = 9 ∧ Cond.methodLink M.1.cls i Lib.Math.max.name ∈ GW ∧ Cond.static Lib.Math.max.name ∈ GW ∧ Cond.initialized "java/lang/Math" ∈ GW ∧ Cond.code Lib.Math.max.name Lib.Math.max.code 2 (some .int) ∈ GW) ∨
      (aux.1 = 10 ∧ Cond.methodLink M.1.cls i Lib.Math.min.name ∈ GW ∧ Cond.static Lib.Math.min.name ∈ GW ∧ Cond.initialized "java/lang/Math" ∈ GW ∧ Cond.code Lib.Math.min.name Lib.Math.min.code 2 (some .int) ∈ GW) ∨
      (aux.1 = 11 ∧ Cond.methodLink M.1.cls i Lib.MathLoose.abs_long.x ∈ GW ∧ Cond.static Lib.MathLoose.abs_long.x ∈ GW ∧ Cond.initialized "java/lang/Math" ∈ GW ∧ Cond.code Lib.MathLoose.abs_long.x Lib.MathLoose.abs_long.code 2 (some .long) ∈ GW))
  | .invokespecial i => len = 3 ∧ ((pv_cw X GW NW cl M.1.cls i aux ∧ (aux.1 = 2 ∨ aux.1 = 5)) ∨ (aux.1 = 6 ∧ Cond.methodLink M.1.cls i objectInit ∈ GW ∧ Cond.instanceMethod objectInit ∈ GW ∧ Cond.code objectInit ⟨#[0xb1]⟩ 1 none ∈ GW))
  | .tableswitch .. => True
  | .bipush _ => len = 2
  | .sipush _ => len = 3
  | .iload _ => len = 2
  | .lload _ => len = 2
  | .aload _ => len = 2
  | .istore _ => len = 2
  | .lstore _ => len = 2
  | .astore _ => len = 2
  | .iinc _ _ => len = 3
  | _ => len = 1
