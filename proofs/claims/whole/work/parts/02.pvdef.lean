/-! PV: a pure interpreter of the bytecode: cells by their numbers, big steps, depth d, fuel n. -/
abbrev pv_L : Type := List (Option Value)
abbrev pv_S : Type := List Value
abbrev pv_K : Type := (Nat × vp_A) ⊕ (Nat × List Value)
abbrev pv_W : Type := Nat × List pv_K
abbrev pv_R : Type := Option (Option Value × pv_W)
abbrev pv_E : Type := Instr × Nat × (Nat × Nat × Nat)
/-- a method: its name, bytes, words of locals, what it returns, how many parameters -/
abbrev pv_M : Type := MethodName × ByteArray × Nat × Option FieldType × Nat
/-- depth, method, place, locals, stack, world -/
abbrev pv_G : Type := Nat → Nat → Nat → pv_L → pv_S → pv_W → pv_R
/-- code, methods, fields of the classes, script's length, script -/
abbrev pv_X : Type := (Nat → Nat → Option pv_E) × (Nat → Option pv_M) × (Nat → List FieldType) × Nat × (Nat → Int32)
def pv_ix (i : Int32) (n : Nat) (K : Nat → pv_R) : pv_R := if ¬ (i < 0 ∨ n ≤ i.toNatClampNeg) then K i.toNatClampNeg else none
def pv_i2 (f : Int32 → Int32 → Int32) (st : pv_S) (K : pv_S → pv_R) : pv_R := match st with
  | .int y :: .int x :: r => K (.int (f x y) :: r)
  | _ => none
def pv_i2z (f : Int32 → Int32 → Int32) (st : pv_S) (K : pv_S → pv_R) : pv_R := match st with
  | .int y :: .int x :: r => if y = 0 then none else K (.int (f x y) :: r)
  | _ => none
def pv_l2 (f : Int64 → Int64 → Int64) (st : pv_S) (K : pv_S → pv_R) : pv_R := match st with
  | .long y :: .long x :: r => K (.long (f x y) :: r)
  | _ => none
def pv_l2z (f : Int64 → Int64 → Int64) (st : pv_S) (K : pv_S → pv_R) : pv_R := match st with
  | .long y :: .long x :: r => if y = 0 then none else K (.long (f x y) :: r)
  | _ => none
def pv_lc (f : Int64 → Int64 → Int32) (st : pv_S) (K : pv_S → pv_R) : pv_R := match st with
  | .long y :: .long x :: r => K (.int (f x y) :: r)
  | _ => none
def pv_ls (f : Int64 → Int32 → Int64) (st : pv_S) (K : pv_S → pv_R) : pv_R := match st with
  | .int y :: .long x :: r => K (.long (f x y) :: r)
  | _ => none
def pv_i1 (f : Int32 → Int32) (st : pv_S) (K : pv_S → pv_R) : pv_R := match st with
  | .int x :: r => K (.int (f x) :: r)
  | _ => none
def pv_l1 (f : Int64 → Int64) (st : pv_S) (K : pv_S → pv_R) : pv_R := match st with
  | .long x :: r => K (.long (f x) :: r)
  | _ => none
def pv_il (f : Int32 → Int64) (st : pv_S) (K : pv_S → pv_R) : pv_R := match st with
  | .int x :: r => K (.long (f x) :: r)
  | _ => none
def pv_li (f : Int64 → Int32) (st : pv_S) (K : pv_S → pv_R) : pv_R := match st with
  | .long x :: r => K (.int (f x) :: r)
  | _ => none
def pv_ldI (l : pv_L) (i : Nat) (K : Int32 → pv_R) : pv_R := match l[i]? with
  | some (some (.int x)) => K x
  | _ => none
def pv_ldJ (l : pv_L) (i : Nat) (K : Int64 → pv_R) : pv_R := match l[i]? with
  | some (some (.long x)) => K x
  | _ => none
def pv_ldA (l : pv_L) (i : Nat) (K : Nat → pv_R) : pv_R := match l[i]? with
  | some (some (.ref x)) => K x
  | _ => none
/-- a long whose second word is overwritten is lost -/
def pv_clr (l : pv_L) (i : Nat) : pv_L := match i with
  | 0 => l
  | j + 1 => match l[j]? with
    | some (some (.long _)) => l.set j none
    | some (some (.double _)) => l.set j none
    | _ => l
def pv_s1 (l : pv_L) (i : Nat) (v : Value) : pv_L := (pv_clr l i).set i (some v)
def pv_s2 (l : pv_L) (i : Nat) (v : Value) : pv_L := ((pv_clr l i).set i (some v)).set (i + 1) none
def pv_stI (l : pv_L) (i : Nat) (st : pv_S) (K : pv_L → pv_S → pv_R) : pv_R := match st with
  | .int x :: r => bif Nat.blt i l.length then K (pv_s1 l i (.int x)) r else none
  | _ => none
def pv_stJ (l : pv_L) (i : Nat) (st : pv_S) (K : pv_L → pv_S → pv_R) : pv_R := match st with
  | .long x :: r => bif Nat.blt (i + 1) l.length then K (pv_s2 l i (.long x)) r else none
  | _ => none
def pv_stA (l : pv_L) (i : Nat) (st : pv_S) (K : pv_L → pv_S → pv_R) : pv_R := match st with
  | .ref x :: r => bif Nat.blt i l.length then K (pv_s1 l i (.ref x)) r else none
  | _ => none
def pv_if (c : ClassFile.Cond) (x : Int32) (A B : pv_R) : pv_R := match c with
  | .eq => if x = 0 then A else B
  | .ne => if x = 0 then B else A
  | .lt => if x < 0 then A else B
  | .ge => if 0 ≤ x then A else B
  | .gt => if 0 < x then A else B
  | .le => if x ≤ 0 then A else B
def pv_ic (c : ClassFile.Cond) (x y : Int32) (A B : pv_R) : pv_R := match c with
  | .eq => if x = y then A else B
  | .ne => if x = y then B else A
  | .lt => if x < y then A else B
  | .ge => if y ≤ x then A else B
  | .gt => if y < x then A else B
  | .le => if x ≤ y then A else B
def pv_sw (pc : Nat) (dflt lo hi : Int) (offs : Array Int) (x : Int32) (K : Nat → pv_R) : pv_R :=
  if x.toInt < lo ∨ hi < x.toInt then (if 0 ≤ (pc : Int) + dflt then K ((pc : Int) + dflt).toNat else none)
  else match offs[(x.toInt - lo).toNat]? with
    | some off => if 0 ≤ (pc : Int) + off then K ((pc : Int) + off).toNat else none
    | none => none
def pv_obj (w : pv_W) (a ci : Nat) (K : List Value → pv_R) : pv_R := bif Nat.blt a 1000000 then (match w.2[a]? with
  | some (.inr (c, fs)) => bif Nat.beq c ci then K fs else none
  | _ => none) else none
def pv_arr (w : pv_W) (a t : Nat) (K : vp_A → pv_R) : pv_R := bif Nat.blt a 1000000 then (match w.2[a]? with
  | some (.inl (u, x)) => bif Nat.beq u t then K x else none
  | _ => none) else none
def pv_arrB (w : pv_W) (a : Nat) (K : Nat → vp_A → pv_R) : pv_R := bif Nat.blt a 1000000 then (match w.2[a]? with
  | some (.inl (u, x)) => bif Nat.beq u 2 then K 2 x else bif Nat.beq u 3 then K 3 x else none
  | _ => none) else none
def pv_arrQ (w : pv_W) (a : Nat) (K : Nat → vp_A → pv_R) : pv_R := bif Nat.blt a 1000000 then (match w.2[a]? with
  | some (.inl (u, x)) => bif Nat.beq u 4 then K 4 x else bif Nat.beq u 5 then K 5 x else none
  | _ => none) else none
/-- the types of arrays, by their numbers -/
def pv_ty (t : Nat) : FieldType := match t with
  | 0 => .int
  | 1 => .long
  | 2 => .byte
  | 3 => .boolean
  | 4 => .array .int
  | _ => .array .long
def pv_fit (ty : FieldType) (v : Value) : Bool := match ty with
  | .int => (match v with | .int _ => true | _ => false)
  | .long => (match v with | .long _ => true | _ => false)
  | .boolean => (match v with | .int x => decide (x = 0) || decide (x = 1) | _ => false)
  | .object _ => (match v with | .ref _ => true | _ => false)
  | .array _ => (match v with | .ref _ => true | _ => false)
  | _ => false
def pv_zero (t : Nat) : (Nat → Int32) ⊕ (Nat → Int64) ⊕ (Nat → UInt32) ⊕ (Nat → UInt64) ⊕ (Nat → Option Nat) := match t with
  | 1 => .inr (.inl (fun _ => 0))
  | _ => .inl (fun _ => 0)
def pv_pop : Nat → pv_S → List Value → Option (List Value × pv_S)
  | 0, st, acc => some (acc, st)
  | n + 1, v :: st, acc => pv_pop n st (v :: acc)
  | _ + 1, [], _ => none
def pv_cat : pv_S → Nat
  | [] => 0
  | v :: r => v.category + pv_cat r
def pv_lay : List Value → pv_L
  | [] => []
  | .long x :: r => some (.long x) :: none :: pv_lay r
  | .double x :: r => some (.double x) :: none :: pv_lay r
  | v :: r => some v :: pv_lay r
def pv_ent (maxL : Nat) (As : List Value) : pv_L := pv_lay As ++ List.replicate (maxL - (pv_lay As).length) none
def pv_run1 (gc : pv_G) (d k : Nat) (maxL : Nat) (As : List Value) (w : pv_W) : pv_R := match d with
  | 0 => none
  | d' + 1 => bif Nat.ble (pv_lay As).length maxL then gc d' k 0 (pv_ent maxL As) [] w else none
/-- the ten texts -/
def pv_txt (i : Nat) : List Int32 := match i with
  | 0 => [104, 111, 109, 101]
  | 1 => [97, 119, 97, 121]
  | 2 => [102, 111, 114]
  | 3 => [97, 103, 97, 105, 110, 115, 116]
  | 4 => [100, 97, 121]
  | 5 => [119, 101, 105, 103, 104, 116]
  | 6 => [118, 111, 105, 100]
  | 7 => [109, 97, 114, 103, 105, 110]
  | 8 => [119, 111, 110]
  | _ => [104, 111, 109, 101, 32, 32, 32, 97, 119, 97, 121, 32, 32, 32, 102, 111, 114, 32, 32, 32, 32, 97, 103, 97, 105, 110, 115, 116, 100, 97, 121, 32, 32, 32, 32, 119, 101, 105, 103, 104, 116, 32, 109, 97, 114, 103, 105, 110, 32, 118, 111, 105, 100, 32, 32, 32, 119, 111, 110, 32, 32, 32, 32]
def pv_str (a : Nat) (K : Nat → pv_R) : pv_R := bif Nat.blt a 1000000 then none else bif Nat.blt a 1000010 then K (a - 1000000) else none
/-- a call: kind 0 virtual, 1 static, 2 a constructor, 3 to 5 the same of a nest mate, 6 Object's constructor, 7 a text's length, 8 a char of it -/
def pv_call (X : pv_X) (gc gk : pv_G) (d k pc : Nat) (l : pv_L) (st : pv_S) (w : pv_W) (aux : Nat × Nat × Nat) : pv_R :=
  bif Nat.beq aux.1 6 then (match st with
    | .ref _ :: r => bif Nat.ble (pv_cat r) 8 then bif Nat.blt 0 d then gk d k (pc + 3) l r w else none else none
    | _ => none)
  else bif Nat.beq aux.1 7 then (match st with
    | .ref a :: r => bif Nat.ble (pv_cat r) 8 then bif Nat.blt 3 d then pv_str a fun i => gk d k (pc + 3) l (.int (Int32.ofNat (pv_txt i).length) :: r) w else none else none
    | _ => none)
  else bif Nat.beq aux.1 8 then (match st with
    | .int j :: .ref a :: r => bif Nat.ble (pv_cat r) 8 then bif Nat.blt 3 d then pv_str a fun i => pv_ix j (pv_txt i).length fun q => gk d k (pc + 3) l (.int ((pv_txt i).getD q 0) :: r) w else none else none
    | _ => none)
  else match X.2.1 aux.2.1 with
    | none => none
    | some M => match pv_pop M.2.2.2.2 st [] with
      | none => none
      | some (As, r) => bif Nat.beq aux.1 1 || Nat.beq aux.1 4 then
          (bif Nat.ble (pv_cat r) 8 then match pv_run1 gc d aux.2.1 M.2.2.1 As w with
            | some (v, w1) => gk d k (pc + 3) l (v.toList ++ r) w1
            | none => none
          else none)
        else match r with
          | .ref a :: r => pv_obj w a aux.2.2 fun _ => bif Nat.ble (pv_cat r) 8 then match pv_run1 gc d aux.2.1 M.2.2.1 (.ref a :: As) w with
            | some (v, w1) => gk d k (pc + 3) l (v.toList ++ r) w1
            | none => none
            else none
          | _ => none
/-- Math's max, min, abs: kinds 9, 10, 11 -/
def pv_math (q d : Nat) (st : pv_S) (K : pv_S → pv_R) : pv_R := bif Nat.blt 0 d then (match st with
  | .int y :: .int x :: r => bif Nat.ble (pv_cat r) 8 then (bif Nat.beq q 9 then K (.int (if x < y then y else x) :: r) else bif Nat.beq q 10 then K (.int (if y < x then y else x) :: r) else none) else none
  | .long x :: r => bif Nat.ble (pv_cat r) 8 then (bif Nat.beq q 11 then K (.long (if 0 < x then x else -x) :: r) else none) else none
  | _ => none) else none
def pv_ret (X : pv_X) (k : Nat) (v : Option Value) (w : pv_W) : pv_R := match X.2.1 k with
  | none => none
  | some M => match M.2.2.2.1, v with
    | none, none => some (none, w)
    | some ty, some x => bif pv_fit ty x then some (some x, w) else none
    | _, _ => none
def pv_op (X : pv_X) (gc gk : pv_G) (d k pc : Nat) (l : pv_L) (st : pv_S) (w : pv_W) (op : Instr) (len : Nat) (aux : Nat × Nat × Nat) : pv_R := match op with
  | .iconst n => gk d k (pc + 1) l (.int (Int32.ofInt n) :: st) w
  | .bipush n => gk d k (pc + 2) l (.int ((Int8.ofInt n).toInt32) :: st) w
  | .sipush n => gk d k (pc + 3) l (.int ((Int16.ofInt n).toInt32) :: st) w
  | .lconst n => gk d k (pc + 1) l (.long (Int64.ofNat n.val) :: st) w
  | .ldc _ => bif Nat.beq aux.1 0 then gk d k (pc + 2) l (.int (Int32.ofNat aux.2.1) :: st) w else gk d k (pc + 2) l (.ref (1000000 + aux.2.1) :: st) w
  | .ldc_w _ => bif Nat.beq aux.1 0 then gk d k (pc + 3) l (.int (Int32.ofNat aux.2.1) :: st) w else gk d k (pc + 3) l (.ref (1000000 + aux.2.1) :: st) w
  | .ldc2_w _ => gk d k (pc + 3) l (.long (Int64.ofNat aux.2.1) :: st) w
  | .iload_n i => pv_ldI l i.val fun x => gk d k (pc + 1) l (.int x :: st) w
  | .iload i => pv_ldI l i fun x => gk d k (pc + 2) l (.int x :: st) w
  | .lload_n i => pv_ldJ l i.val fun x => gk d k (pc + 1) l (.long x :: st) w
  | .lload i => pv_ldJ l i fun x => gk d k (pc + 2) l (.long x :: st) w
  | .aload_n i => pv_ldA l i.val fun x => gk d k (pc + 1) l (.ref x :: st) w
  | .aload i => pv_ldA l i fun x => gk d k (pc + 2) l (.ref x :: st) w
  | .istore_n i => pv_stI l i.val st fun l st => gk d k (pc + 1) l st w
  | .istore i => pv_stI l i st fun l st => gk d k (pc + 2) l st w
  | .lstore_n i => pv_stJ l i.val st fun l st => gk d k (pc + 1) l st w
  | .lstore i => pv_stJ l i st fun l st => gk d k (pc + 2) l st w
  | .astore_n i => pv_stA l i.val st fun l st => gk d k (pc + 1) l st w
  | .astore i => pv_stA l i st fun l st => gk d k (pc + 2) l st w
  | .iinc i n => bif Nat.beq len 3 then pv_ldI l i fun x => bif Nat.blt i l.length then gk d k (pc + 3) (pv_s1 l i (.int (x + Int32.ofInt n))) st w else none else none
  | .iadd => pv_i2 (fun x y => x + y) st fun st => gk d k (pc + 1) l st w
  | .isub => pv_i2 (fun x y => x - y) st fun st => gk d k (pc + 1) l st w
  | .imul => pv_i2 (fun x y => x * y) st fun st => gk d k (pc + 1) l st w
  | .iand => pv_i2 (fun x y => x &&& y) st fun st => gk d k (pc + 1) l st w
  | .ior => pv_i2 (fun x y => x ||| y) st fun st => gk d k (pc + 1) l st w
  | .ixor => pv_i2 (fun x y => x ^^^ y) st fun st => gk d k (pc + 1) l st w
  | .ishl => pv_i2 (fun x y => x <<< (y &&& 31)) st fun st => gk d k (pc + 1) l st w
  | .ishr => pv_i2 (fun x y => x >>> (y &&& 31)) st fun st => gk d k (pc + 1) l st w
  | .iushr => pv_i2 (fun x y => (x.toUInt32 >>> (y.toUInt32 &&& Int32.toUInt32 31)).toInt32) st fun st => gk d k (pc + 1) l st w
  | .idiv => pv_i2z (fun x y => x / y) st fun st => gk d k (pc + 1) l st w
  | .irem => pv_i2z (fun x y => x - x / y * y) st fun st => gk d k (pc + 1) l st w
  | .ineg => pv_i1 (fun x => -x) st fun st => gk d k (pc + 1) l st w
  | .i2b => pv_i1 (fun x => x.toInt8.toInt32) st fun st => gk d k (pc + 1) l st w
  | .i2c => pv_i1 (fun x => (x.toUInt32 % 65536).toInt32) st fun st => gk d k (pc + 1) l st w
  | .ladd => pv_l2 (fun x y => x + y) st fun st => gk d k (pc + 1) l st w
  | .lsub => pv_l2 (fun x y => x - y) st fun st => gk d k (pc + 1) l st w
  | .lmul => pv_l2 (fun x y => x * y) st fun st => gk d k (pc + 1) l st w
  | .land => pv_l2 (fun x y => x &&& y) st fun st => gk d k (pc + 1) l st w
  | .lor => pv_l2 (fun x y => x ||| y) st fun st => gk d k (pc + 1) l st w
  | .lxor => pv_l2 (fun x y => x ^^^ y) st fun st => gk d k (pc + 1) l st w
  | .ldiv => pv_l2z (fun x y => x / y) st fun st => gk d k (pc + 1) l st w
  | .lrem => pv_l2z (fun x y => x - x / y * y) st fun st => gk d k (pc + 1) l st w
  | .lneg => pv_l1 (fun x => -x) st fun st => gk d k (pc + 1) l st w
  | .lshl => pv_ls (fun x y => x <<< (y.toInt64 &&& 63)) st fun st => gk d k (pc + 1) l st w
  | .lcmp => pv_lc (fun x y => lg_cmp x y) st fun st => gk d k (pc + 1) l st w
  | .i2l => pv_il (fun x => x.toInt64) st fun st => gk d k (pc + 1) l st w
  | .l2i => pv_li (fun x => x.toInt32) st fun st => gk d k (pc + 1) l st w
  | .dup => (match st with
    | .int x :: r => gk d k (pc + 1) l (.int x :: .int x :: r) w
    | .ref x :: r => gk d k (pc + 1) l (.ref x :: .ref x :: r) w
    | _ => none)
  | .dup2 => (match st with
    | .long x :: r => gk d k (pc + 1) l (.long x :: .long x :: r) w
    | .int y :: .ref x :: r => gk d k (pc + 1) l (.int y :: .ref x :: .int y :: .ref x :: r) w
    | _ => none)
  | .pop => (match st with
    | .int _ :: r => gk d k (pc + 1) l r w
    | .ref _ :: r => gk d k (pc + 1) l r w
    | _ => none)
  | .goto _ => gk d k aux.1 l st w
  | .ifCond c _ => (match st with
    | .int x :: r => pv_if c x (gk d k aux.1 l r w) (gk d k (pc + 3) l r w)
    | _ => none)
  | .if_icmp c _ => (match st with
    | .int y :: .int x :: r => pv_ic c x y (gk d k aux.1 l r w) (gk d k (pc + 3) l r w)
    | _ => none)
  | .tableswitch dflt lo hi offs => (match st with
    | .int x :: r => pv_sw pc dflt lo hi offs x fun q => gk d k q l r w
    | _ => none)
  | .getfield _ => (match st with
    | .ref a :: r => pv_obj w a aux.2.1 fun fs => match fs[aux.2.2]? with
      | some v => gk d k (pc + 3) l (v :: r) w
      | none => none
    | _ => none)
  | .putfield _ => (match st with
    | v :: .ref a :: r => pv_obj w a aux.2.1 fun fs => match (X.2.2.1 aux.2.1)[aux.2.2]?, fs[aux.2.2]? with
      | some ty, some _ => bif pv_fit ty v then gk d k (pc + 3) l r (w.1, w.2.set a (.inr (aux.2.1, fs.set aux.2.2 v))) else none
      | _, _ => none
    | _ => none)
  | .iaload => (match st with
    | .int i :: .ref a :: r => bif Nat.beq a 2000000 then pv_ix i X.2.2.2.1 fun j => gk d k (pc + 1) l (.int (X.2.2.2.2 j) :: r) w
      else pv_arr w a 0 fun x => match x.2 with
        | .inl f => pv_ix i x.1 fun j => gk d k (pc + 1) l (.int (f j) :: r) w
        | _ => none
    | _ => none)
  | .laload => (match st with
    | .int i :: .ref a :: r => pv_arr w a 1 fun x => match x.2 with
        | .inr (.inl f) => pv_ix i x.1 fun j => gk d k (pc + 1) l (.long (f j) :: r) w
        | _ => none
    | _ => none)
  | .baload => (match st with
    | .int i :: .ref a :: r => pv_arrB w a fun _ x => match x.2 with
        | .inl f => pv_ix i x.1 fun j => gk d k (pc + 1) l (.int (f j) :: r) w
        | _ => none
    | _ => none)
  | .aaload => (match st with
    | .int i :: .ref a :: r => pv_arrQ w a fun _ x => match x.2 with
        | .inr (.inr (.inr (.inr f))) => pv_ix i x.1 fun j => match f j with
          | some b => gk d k (pc + 1) l (.ref b :: r) w
          | none => none
        | _ => none
    | _ => none)
  | .iastore => (match st with
    | .int v :: .int i :: .ref a :: r => pv_arr w a 0 fun x => match x.2 with
        | .inl f => pv_ix i x.1 fun j => gk d k (pc + 1) l r (w.1, w.2.set a (.inl (0, x.1, .inl (upd f j v))))
        | _ => none
    | _ => none)
  | .lastore => (match st with
    | .long v :: .int i :: .ref a :: r => pv_arr w a 1 fun x => match x.2 with
        | .inr (.inl f) => pv_ix i x.1 fun j => gk d k (pc + 1) l r (w.1, w.2.set a (.inl (1, x.1, .inr (.inl (vp_updL f j v)))))
        | _ => none
    | _ => none)
  | .bastore => (match st with
    | .int v :: .int i :: .ref a :: r => pv_arrB w a fun t x => match x.2 with
        | .inl f => pv_ix i x.1 fun j => gk d k (pc + 1) l r (w.1, w.2.set a (.inl (t, x.1, .inl (upd f j (vp_nar (pv_ty t) v)))))
        | _ => none
    | _ => none)
  | .arraylength => (match st with
    | .ref a :: r => bif Nat.beq a 2000000 then gk d k (pc + 1) l (.int (Int32.ofNat X.2.2.2.1) :: r) w
      else bif Nat.blt a 1000000 then (match w.2[a]? with
        | some (.inl (t, x)) => bif Nat.blt t 6 then gk d k (pc + 1) l (.int (Int32.ofNat x.1) :: r) w else none
        | _ => none) else none
    | _ => none)
  | .new _ => bif Nat.blt w.2.length 1000000 then gk d k (pc + 3) l (.ref w.2.length :: st) (w.1 + (X.2.2.1 aux.1).length, w.2 ++ [.inr (aux.1, (X.2.2.1 aux.1).map defaultValue)]) else none
  | .newarray _ => (match st with
    | .int n :: r => bif Nat.blt w.2.length 1000000 && Nat.ble n.toNatClampNeg 1000000 && Nat.blt aux.1 4 then (if n < 0 then none else
        gk d k (pc + 2) l (.ref w.2.length :: r) (w.1 + n.toNatClampNeg, w.2 ++ [.inl (aux.1, n.toNatClampNeg, pv_zero aux.1)])) else none
    | _ => none)
  | .multianewarray _ _ => (match st with
    | .int q :: .int n :: r => bif Nat.blt (w.2.length + 1 + n.toNatClampNeg) 1000000 && Nat.ble n.toNatClampNeg 1000000 && Nat.ble q.toNatClampNeg 1000000 && Nat.ble aux.1 1 then (if n < 0 ∨ q < 0 then none else
        gk d k (pc + 4) l (.ref w.2.length :: r) (w.1 + (n.toNatClampNeg + n.toNatClampNeg * q.toNatClampNeg), (w.2 ++ [.inl (aux.1 + 4, n.toNatClampNeg, .inr (.inr (.inr (.inr fun i => if i < n.toNatClampNeg then some (w.2.length + 1 + i) else none))))]) ++ List.replicate n.toNatClampNeg (.inl (aux.1, q.toNatClampNeg, pv_zero aux.1)))) else none
    | _ => none)
  | .invokevirtual _ => pv_call X gc gk d k pc l st w aux
  | .invokestatic _ => bif Nat.ble 9 aux.1 then pv_math aux.1 d st (fun st => gk d k (pc + 3) l st w) else pv_call X gc gk d k pc l st w aux
  | .invokespecial _ => pv_call X gc gk d k pc l st w aux
  | .ireturn => (match st with
    | [.int x] => pv_ret X k (some (.int x)) w
    | _ => none)
  | .lreturn => (match st with
    | [.long x] => pv_ret X k (some (.long x)) w
    | _ => none)
  | .return_ => (match st with
    | [] => pv_ret X k none w
    | _ => none)
  | _ => none
def pv_step (X : pv_X) (gc gk : pv_G) : pv_G := fun d k pc l st w => match X.1 k pc with
  | none => none
  | some e => pv_op X gc gk d k pc l st w e.1 e.2.1 e.2.2
def pv_run (X : pv_X) : Nat → pv_G
  | 0 => fun _ _ _ _ _ _ => none
  | n + 1 => pv_step X (pv_run X n) (pv_run X n)
