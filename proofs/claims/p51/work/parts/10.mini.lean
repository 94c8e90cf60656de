/-! THE MINI-MACHINE: a frame of a method over a list of cells; references are places in the list (from q_big on: the script, and the String constants); it answers 'none' for whatever this proof needs no word of -/
abbrev q_M : Type := List va_E × Nat × Nat
abbrev q_L : Type := List (Nat × Value)
abbrev q_O : Type := Option Value ⊕ String
def q_big : Nat := 1000000
def q_ld (lv : q_L) (i : Nat) : Option Value := (lv.find? (fun q => q.1 == i)).map (fun q => q.2)
def q_s1 (lv : q_L) (i : Nat) (v : Value) : q_L := (i, v) :: lv.filter (fun q => !(q.1 == i) && !(q.1 + 1 == i && q.2.category == 2))
def q_s2 (lv : q_L) (i : Nat) (v : Value) : q_L := (i, v) :: lv.filter (fun q => !(q.1 == i) && (!(q.1 == i + 1) && !(q.1 + 1 == i && q.2.category == 2)))
def q_len (i : Instr) (b : Nat) : Nat := match i with
  | .bipush _ | .iload _ | .istore _ | .lload _ | .lstore _ | .fload _ | .fstore _ | .dload _ | .dstore _ | .aload _ | .astore _ | .ldc _ | .newarray _ => 2
  | .sipush _ | .ldc_w _ | .ldc2_w _ | .goto _ | .ifCond _ _ | .if_icmp _ _ | .ifnull _ | .ifnonnull _ | .iinc _ _ | .getfield _ | .putfield _ | .invokestatic _ | .invokevirtual _ | .invokespecial _ | .new _ | .anewarray _ => 3
  | .tableswitch _ _ _ _ => b
  | _ => 1
/-- where a jump goes: told in the table, held against the offset -/
def q_br (i : Instr) (a pc : Nat) : Bool := match i with
  | .goto off | .ifCond _ off | .if_icmp _ off | .ifnull off | .ifnonnull off => decide ((pc : Int) + off = (a : Int))
  | _ => true
def q_c (c : Jvm.ClassFile.Cond) (x y : Int32) : Bool := match c with
  | .eq => decide (x = y)
  | .ne => decide (¬ x = y)
  | .lt => decide (x < y)
  | .ge => decide (y ≤ x)
  | .gt => decide (y < x)
  | .le => decide (x ≤ y)
def q_sw (pc : Nat) (dflt lo hi : Int) (offs : Array Int) (x : Int32) : Option Nat :=
  if x.toInt < lo ∨ hi < x.toInt then (if 0 ≤ (pc : Int) + dflt then some ((pc : Int) + dflt).toNat else none)
  else match offs[(x.toInt - lo).toNat]? with
    | some off => if 0 ≤ (pc : Int) + off then some ((pc : Int) + off).toNat else none
    | none => none
/-- what touches the stack and the locals alone -/
def q_p1 (i : Instr) (a pc nL : Nat) (lv : q_L) (st : List Value) : Option (Nat × q_L × List Value) := match i with
  | .iconst n => some (pc + 1, lv, .int (Int32.ofInt n) :: st)
  | .bipush n => some (pc + 2, lv, .int (Int8.ofInt n).toInt32 :: st)
  | .sipush n => some (pc + 3, lv, .int (Int16.ofInt n).toInt32 :: st)
  | .lconst n => some (pc + 1, lv, .long (Int64.ofNat (n : Nat)) :: st)
  | .fconst n => if n = 0 then some (pc + 1, lv, .float FP.fconst0 :: st) else none
  | .dconst n => if n = 0 then some (pc + 1, lv, .double FP.dconst0 :: st) else none
  | .aconst_null => some (pc + 1, lv, .null :: st)
  | .iload k => (match q_ld lv k with | some (.int x) => some (pc + 2, lv, .int x :: st) | _ => none)
  | .iload_n k => (match q_ld lv (k : Nat) with | some (.int x) => some (pc + 1, lv, .int x :: st) | _ => none)
  | .lload k => (match q_ld lv k with | some (.long x) => some (pc + 2, lv, .long x :: st) | _ => none)
  | .lload_n k => (match q_ld lv (k : Nat) with | some (.long x) => some (pc + 1, lv, .long x :: st) | _ => none)
  | .fload k => (match q_ld lv k with | some (.float x) => some (pc + 2, lv, .float x :: st) | _ => none)
  | .dload k => (match q_ld lv k with | some (.double x) => some (pc + 2, lv, .double x :: st) | _ => none)
  | .aload k => (match q_ld lv k with | some (.ref x) => some (pc + 2, lv, .ref x :: st) | _ => none)
  | .aload_n k => (match q_ld lv (k : Nat) with | some (.ref x) => some (pc + 1, lv, .ref x :: st) | _ => none)
  | .istore k => (match st with | .int x :: r => if k < nL then some (pc + 2, q_s1 lv k (.int x), r) else none | _ => none)
  | .istore_n k => (match st with | .int x :: r => if (k : Nat) < nL then some (pc + 1, q_s1 lv (k : Nat) (.int x), r) else none | _ => none)
  | .lstore k => (match st with | .long x :: r => if k + 1 < nL then some (pc + 2, q_s2 lv k (.long x), r) else none | _ => none)
  | .lstore_n k => (match st with | .long x :: r => if (k : Nat) + 1 < nL then some (pc + 1, q_s2 lv (k : Nat) (.long x), r) else none | _ => none)
  | .fstore k => (match st with | .float x :: r => if k < nL then some (pc + 2, q_s1 lv k (.float x), r) else none | _ => none)
  | .dstore k => (match st with | .double x :: r => if k + 1 < nL then some (pc + 2, q_s2 lv k (.double x), r) else none | _ => none)
  | .astore k => (match st with | .ref x :: r => if k < nL then some (pc + 2, q_s1 lv k (.ref x), r) else none | _ => none)
  | .astore_n k => (match st with | .ref x :: r => if (k : Nat) < nL then some (pc + 1, q_s1 lv (k : Nat) (.ref x), r) else none | _ => none)
  | .iinc k n => (match q_ld lv k with | some (.int x) => if k < nL then some (pc + 3, q_s1 lv k (.int (x + Int32.ofInt n)), st) else none | _ => none)
  | .iadd => (match st with | .int y :: .int x :: r => some (pc + 1, lv, .int (x + y) :: r) | _ => none)
  | .isub => (match st with | .int y :: .int x :: r => some (pc + 1, lv, .int (x - y) :: r) | _ => none)
  | .imul => (match st with | .int y :: .int x :: r => some (pc + 1, lv, .int (x * y) :: r) | _ => none)
  | .idiv => (match st with | .int y :: .int x :: r => if y = 0 then none else some (pc + 1, lv, .int (x / y) :: r) | _ => none)
  | .irem => (match st with | .int y :: .int x :: r => if y = 0 then none else some (pc + 1, lv, .int (x - x / y * y) :: r) | _ => none)
  | .ineg => (match st with | .int x :: r => some (pc + 1, lv, .int (-x) :: r) | _ => none)
  | .iand => (match st with | .int y :: .int x :: r => some (pc + 1, lv, .int (x &&& y) :: r) | _ => none)
  | .ior => (match st with | .int y :: .int x :: r => some (pc + 1, lv, .int (x ||| y) :: r) | _ => none)
  | .ixor => (match st with | .int y :: .int x :: r => some (pc + 1, lv, .int (x ^^^ y) :: r) | _ => none)
  | .ishl => (match st with | .int y :: .int x :: r => some (pc + 1, lv, .int (x <<< (y &&& 31)) :: r) | _ => none)
  | .ishr => (match st with | .int y :: .int x :: r => some (pc + 1, lv, .int (x >>> (y &&& 31)) :: r) | _ => none)
  | .ladd => (match st with | .long y :: .long x :: r => some (pc + 1, lv, .long (x + y) :: r) | _ => none)
  | .lsub => (match st with | .long y :: .long x :: r => some (pc + 1, lv, .long (x - y) :: r) | _ => none)
  | .lmul => (match st with | .long y :: .long x :: r => some (pc + 1, lv, .long (x * y) :: r) | _ => none)
  | .land => (match st with | .long y :: .long x :: r => some (pc + 1, lv, .long (x &&& y) :: r) | _ => none)
  | .lor => (match st with | .long y :: .long x :: r => some (pc + 1, lv, .long (x ||| y) :: r) | _ => none)
  | .lxor => (match st with | .long y :: .long x :: r => some (pc + 1, lv, .long (x ^^^ y) :: r) | _ => none)
  | .lshl => (match st with | .int y :: .long x :: r => some (pc + 1, lv, .long (x <<< (y.toInt64 &&& 63)) :: r) | _ => none)
  | .lshr => (match st with | .int y :: .long x :: r => some (pc + 1, lv, .long (x >>> (y.toInt64 &&& 63)) :: r) | _ => none)
  | .lushr => (match st with | .int y :: .long x :: r => some (pc + 1, lv, .long (x.toUInt64 >>> (y.toInt64.toUInt64 &&& Int64.toUInt64 63)).toInt64 :: r) | _ => none)
  | .i2l => (match st with | .int x :: r => some (pc + 1, lv, .long x.toInt64 :: r) | _ => none)
  | .l2i => (match st with | .long x :: r => some (pc + 1, lv, .int x.toInt32 :: r) | _ => none)
  | .i2b => (match st with | .int x :: r => some (pc + 1, lv, .int x.toInt8.toInt32 :: r) | _ => none)
  | .i2f => (match st with | .int x :: r => some (pc + 1, lv, .float (FP.i2f x) :: r) | _ => none)
  | .i2d => (match st with | .int x :: r => some (pc + 1, lv, .double (FP.i2d x) :: r) | _ => none)
  | .f2d => (match st with | .float x :: r => if FP.f2d x &&& 0x7fffffffffffffff ≤ 0x7ff0000000000000 then some (pc + 1, lv, .double (FP.f2d x) :: r) else none | _ => none)
  | .fdiv => (match st with | .float y :: .float x :: r => if FP.fdiv x y &&& 0x7fffffff ≤ 0x7f800000 then some (pc + 1, lv, .float (FP.fdiv x y) :: r) else none | _ => none)
  | .ddiv => (match st with | .double y :: .double x :: r => if FP.ddiv x y &&& 0x7fffffffffffffff ≤ 0x7ff0000000000000 then some (pc + 1, lv, .double (FP.ddiv x y) :: r) else none | _ => none)
  | .lcmp => (match st with | .long y :: .long x :: r => some (pc + 1, lv, .int (lg_cmp x y) :: r) | _ => none)
  | .fcmp op => (match st with | .float y :: .float x :: r => some (pc + 1, lv, .int (Op.cmpValue (FP.fcmp x y) op) :: r) | _ => none)
  | .dcmp op => (match st with | .double y :: .double x :: r => some (pc + 1, lv, .int (Op.cmpValue (FP.dcmp x y) op) :: r) | _ => none)
  | .dup => (match st with | v :: r => if v.category = 1 then some (pc + 1, lv, v :: v :: r) else none | _ => none)
  | .dup2 => (match st with | v :: w :: r => if v.category = 1 ∧ w.category = 1 then some (pc + 1, lv, v :: w :: v :: w :: r) else none | _ => none)
  | .pop => (match st with | v :: r => if v.category = 1 then some (pc + 1, lv, r) else none | _ => none)
  | .goto _ => some (a, lv, st)
  | .ifCond c _ => (match st with | .int x :: r => some (if q_c c x 0 = true then a else pc + 3, lv, r) | _ => none)
  | .if_icmp c _ => (match st with | .int y :: .int x :: r => some (if q_c c x y = true then a else pc + 3, lv, r) | _ => none)
  | .ifnull _ => (match st with | .ref _ :: r => some (pc + 3, lv, r) | .null :: r => some (a, lv, r) | _ => none)
  | .ifnonnull _ => (match st with | .ref _ :: r => some (a, lv, r) | .null :: r => some (pc + 3, lv, r) | _ => none)
  | .tableswitch dflt lo hi offs => (match st with | .int x :: r => (q_sw pc dflt lo hi offs x).map (fun t => (t, lv, r)) | _ => none)
  | _ => none
/-- constants of the pool -/
def q_pk (i : Instr) (a b pc : Nat) (st : List Value) : Option (Nat × List Value) := match i with
  | .ldc _ => if a = 0 then some (pc + 2, .int (Int32.ofNat b) :: st) else some (pc + 2, .ref (q_big + 1 + b) :: st)
  | .ldc_w _ => if a = 0 then some (pc + 3, .int (Int32.ofNat b) :: st) else none
  | .ldc2_w _ => some (pc + 3, .long (Int64.ofNat b) :: st)
  | _ => none
/-- the script: its length and its numbers -/
abbrev q_X : Type := Nat × (Nat → Int32)
def q_at (M : List va_E) (id : Nat) : Option va_E := if id < q_big then M[id]? else none
/-- what reads the cells -/
def q_p2 (X : q_X) (M : List va_E) (i : Instr) (a b pc : Nat) (st : List Value) : Option (Nat × List Value) := match i with
  | .getfield _ => (match st with | .ref id :: r => (match q_at M id with | some (.inr (ci, fs)) => if ci = a ∧ b < q_N a then (match fs[b]? with | some v => some (pc + 3, v :: r) | none => none) else none | _ => none) | _ => none)
  | .iaload => (match st with
    | .int j :: .ref id :: r => if id = q_big then (if j < 0 ∨ X.1 ≤ j.toNatClampNeg then none else some (pc + 1, .int (X.2 j.toNatClampNeg) :: r)) else
      (match q_at M id with | some (.inl (t, n, .inl f)) => if t = 0 ∧ ¬ (j < 0 ∨ n ≤ j.toNatClampNeg) then some (pc + 1, .int (f j.toNatClampNeg) :: r) else none | _ => none)
    | _ => none)
  | .baload => (match st with
    | .int j :: .ref id :: r => (match q_at M id with | some (.inl (t, n, .inl f)) => if t = 2 ∧ ¬ (j < 0 ∨ n ≤ j.toNatClampNeg) then some (pc + 1, .int (f j.toNatClampNeg) :: r) else none | _ => none)
    | _ => none)
  | .laload => (match st with
    | .int j :: .ref id :: r => (match q_at M id with | some (.inl (t, n, .inr (.inl f))) => if t = 1 ∧ ¬ (j < 0 ∨ n ≤ j.toNatClampNeg) then some (pc + 1, .long (f j.toNatClampNeg) :: r) else none | _ => none)
    | _ => none)
  | .aaload => (match st with
    | .int j :: .ref id :: r => (match q_at M id with | some (.inl (t, n, .inr (.inr (.inr (.inr f))))) => if (t = 5 ∨ t = 6) ∧ ¬ (j < 0 ∨ n ≤ j.toNatClampNeg) then some (pc + 1, va_rf (f j.toNatClampNeg) :: r) else none | _ => none)
    | _ => none)
  | .arraylength => (match st with
    | .ref id :: r => if id = q_big then some (pc + 1, .int (Int32.ofNat X.1) :: r) else (match q_at M id with | some (.inl (t, n, _)) => if t < 7 then some (pc + 1, .int (Int32.ofNat n) :: r) else none | _ => none)
    | _ => none)
  | _ => none
/-- may a field be written: not final, or in a constructor of its own class -/
def q_fin (o : Nat) (init : Bool) (a b : Nat) : Bool := !(q_T a b).2.2.2 || (init && decide ((q_T a b).1 = q_cn o))
/-- what writes the cells -/
def q_p3 (o : Nat) (init : Bool) (M : List va_E) (i : Instr) (a b pc : Nat) (st : List Value) : Option (Nat × List Value × List va_E) := match i with
  | .putfield _ => (match st with | v :: .ref id :: r => (match q_at M id with | some (.inr (ci, fs)) => if ci = a ∧ b < q_N a ∧ b < fs.length ∧ narrow (q_y a b) v = v ∧ fits (q_y a b) v = true ∧ q_fin o init a b = true then some (pc + 3, r, M.set id (.inr (ci, fs.set b v))) else none | _ => none) | _ => none)
  | .iastore => (match st with
    | .int x :: .int j :: .ref id :: r => (match q_at M id with | some (.inl (t, n, .inl f)) => if t = 0 ∧ ¬ (j < 0 ∨ n ≤ j.toNatClampNeg) then some (pc + 1, r, M.set id (.inl (t, n, .inl (upd f j.toNatClampNeg x)))) else none | _ => none)
    | _ => none)
  | .bastore => (match st with
    | .int x :: .int j :: .ref id :: r => (match q_at M id with | some (.inl (t, n, .inl f)) => if ¬ (j < 0 ∨ n ≤ j.toNatClampNeg) then (if t = 2 then some (pc + 1, r, M.set id (.inl (t, n, .inl (upd f j.toNatClampNeg (vp_nar .byte x))))) else none) else none | _ => none)
    | _ => none)
  | .lastore => (match st with
    | .long x :: .int j :: .ref id :: r => (match q_at M id with | some (.inl (t, n, .inr (.inl f))) => if t = 1 ∧ ¬ (j < 0 ∨ n ≤ j.toNatClampNeg) then some (pc + 1, r, M.set id (.inl (t, n, .inr (.inl (vp_updL f j.toNatClampNeg x))))) else none | _ => none)
    | _ => none)
  | .aastore => (match st with
    | .ref v :: .int j :: .ref id :: r => (match q_at M id, q_at M v with | some (.inl (t, n, .inr (.inr (.inr (.inr f))))), some (.inr (ci, _)) => if (t = 5 ∧ ci = 6 ∨ t = 6 ∧ ci = 9) ∧ ¬ (j < 0 ∨ n ≤ j.toNatClampNeg) then some (pc + 1, r, M.set id (.inl (t, n, .inr (.inr (.inr (.inr (va_up f j.toNatClampNeg (some v)))))))) else none | _, _ => none)
    | _ => none)
  | _ => none
/-- the cell of a new array of a primitive type -/
def q_na (t : Jvm.ClassFile.ArrayType) (n : Nat) : Option va_E := match t with
  | .int => some (.inl (0, n, .inl (fun _ => 0)))
  | .long => some (.inl (1, n, .inr (.inl (fun _ => 0))))
  | .byte => some (.inl (2, n, .inl (fun _ => 0)))
  | _ => none
/-- what makes a cell: the cell, its slots -/
def q_p4 (i : Instr) (a pc : Nat) (st : List Value) : Option (Nat × List Value × va_E × Nat) := match i with
  | .new _ => if a < 12 then some (pc + 3, st, .inr (a, (List.range (q_N a)).map (fun j => defaultValue (q_y a j))), q_N a) else none
  | .newarray t => (match st with | .int n :: r => if n < 0 ∨ 20000 < n.toNatClampNeg then none else (q_na t n.toNatClampNeg).map (fun e => (pc + 2, r, e, n.toNatClampNeg)) | _ => none)
  | .anewarray _ => (match st with | .int n :: r => if n < 0 ∨ 20000 < n.toNatClampNeg then none else if a = 5 ∨ a = 6 then some (pc + 3, r, .inl (a, n.toNatClampNeg, .inr (.inr (.inr (.inr (fun _ => none))))), n.toNatClampNeg) else none | _ => none)
  | _ => none
/-- one instruction that is no call and no end -/
def q_stp (X : q_X) (o : Nat) (init : Bool) (nL : Nat) (i : Instr) (a b pc : Nat) (lv : q_L) (st : List Value) (M : q_M) : Option (Nat × q_L × List Value × q_M) :=
  match q_p1 i a pc nL lv st with
  | some (pc', lv', st') => some (pc', lv', st', M)
  | none => match q_pk i a b pc st with
    | some (pc', st') => some (pc', lv, st', M)
    | none => match q_p2 X M.1 i a b pc st with
      | some (pc', st') => some (pc', lv, st', M)
      | none => match q_p3 o init M.1 i a b pc st with
        | some (pc', st', M') => some (pc', lv, st', (M', M.2))
        | none => match q_p4 i a pc st with
          | some (pc', st', e, n) => if M.1.length < q_big then some (pc', lv, .ref M.1.length :: st', (M.1 ++ [e], M.2.1 + 1, M.2.2 + n)) else none
          | none => none
/-- methods of the JDK that are told here, not walked: the answer, on the stack behind it -/
def q_jdk (X : q_X) (M : List va_E) (a : Nat) (st : List Value) : Option (List Value × List va_E) := match a with
  | 900 => (match st with | .ref id :: r => if q_big < id ∧ id - q_big - 1 < q_sc.length then some (.int (Int32.ofNat (q_sc.getD (id - q_big - 1) default).2.2.2.length) :: r, M) else none | _ => none)
  | 901 => (match st with | .int j :: .ref id :: r => if q_big < id ∧ id - q_big - 1 < q_sc.length ∧ ¬ (j < 0 ∨ (q_sc.getD (id - q_big - 1) default).2.2.2.length ≤ j.toNatClampNeg) then some (.int ((q_sc.getD (id - q_big - 1) default).2.2.2.getD j.toNatClampNeg 0) :: r, M) else none | _ => none)
  | 910 => (match st with | .int y :: .int x :: r => some (.int (if x < y then y else x) :: r, M) | _ => none)
  | 911 => (match st with | .int y :: .int x :: r => some (.int (if x < y then x else y) :: r, M) | _ => none)
  | 912 => (match st with | .int x :: r => some (.int (if 0 ≤ x then x else 0 - x) :: r, M) | _ => none)
  | 913 => (match st with
    | .int n :: .int dp :: .ref d :: .int sp :: .ref s :: r => if sp < 0 ∨ dp < 0 ∨ n < 0 then none else
      (match q_at M s, q_at M d with
       | some (.inl (0, n0, .inl f)), some (.inl (0, n1, .inl g)) => if sp.toNatClampNeg + n.toNatClampNeg ≤ n0 ∧ dp.toNatClampNeg + n.toNatClampNeg ≤ n1 then some (r, M.set d (.inl (0, n1, .inl (va_cpy f g sp.toNatClampNeg dp.toNatClampNeg n.toNatClampNeg)))) else none
       | some (.inl (1, n0, .inr (.inl f))), some (.inl (1, n1, .inr (.inl g))) => if sp.toNatClampNeg + n.toNatClampNeg ≤ n0 ∧ dp.toNatClampNeg + n.toNatClampNeg ≤ n1 then some (r, M.set d (.inl (1, n1, .inr (.inl (va_cpy f g sp.toNatClampNeg dp.toNatClampNeg n.toNatClampNeg))))) else none
       | _, _ => none)
    | _ => none)
  | 914 => (match st with | .ref _ :: r => some (r, M) | _ => none)
  | _ => none
/-- the end of a method: what it answers -/
def q_end (rt : Option FieldType) (i : Instr) (st : List Value) : Option (Option Value) := match i with
  | .return_ => (match rt, st with | none, [] => some none | _, _ => none)
  | .ireturn => (match rt, st with | some ty, [.int v] => if narrow ty (.int v) = .int v then some (some (.int v)) else none | _, _ => none)
  | .lreturn => (match rt, st with | some .long, [.long v] => some (some (.long v)) | _, _ => none)
  | .freturn => (match rt, st with | some .float, [.float v] => some (some (.float v)) | _, _ => none)
  | .dreturn => (match rt, st with | some .double, [.double v] => some (some (.double v)) | _, _ => none)
  | .areturn => (match rt, st with | some (.object _), [.ref v] => some (some (.ref v)) | _, _ => none)
  | _ => none
def q_exn (a : Nat) : Option String := match a with
  | 1000 => some "java/util/NoSuchElementException"
  | 1001 => some "java/lang/IllegalArgumentException"
  | _ => none
/-- the handler of a row of a method's table: it stores the exception and forgets it -/
def q_cty (E : String) (ct : Nat) : Bool := (E == "java/util/NoSuchElementException" && ct == 18) || (E == "java/lang/IllegalArgumentException" && ct == 13)
def q_hnd (hh : List (Nat × Nat × Nat × Nat)) (pc : Nat) (E : String) : Option Nat := (hh.find? (fun h => decide (h.1 ≤ pc) && decide (pc < h.2.1) && q_cty E h.2.2.2)).map (fun h => h.2.2.1)
def q_row (y : Nat) : q_MT := q_mt.getD y (⟨"", "", ""⟩, ⟨#[]⟩, 0, none, [], 0, 0, [])
def q_ins (k : List (Nat × Instr × Nat × Nat)) (pc : Nat) : Option (Instr × Nat × Nat) := (k.find? (fun e => e.1 == pc)).map (fun e => e.2)
/-- a call's arguments, off the stack: n, and the receiver -/
def q_args (k n : Nat) (st : List Value) : Option (List Value × List Value) := if k = 0 then (if n ≤ st.length then some ((st.take n).reverse, st.drop n) else none) else (if n + 1 ≤ st.length then some ((st.take (n + 1)).reverse, st.drop (n + 1)) else none)
def q_run (X : q_X) : Nat → Nat → Nat → Nat → q_L → List Value → q_M → Option (q_O × q_M)
  | 0, _, _, _, _, _, _ => none
  | f + 1, d, y, pc, lv, st, M =>
    match q_ins (q_row y).2.2.2.2.2.2.2 pc with
    | none => none
    | some (i, a, b) =>
      match q_end (q_row y).2.2.2.1 i st with
      | some v => some (.inl v, M)
      | none =>
        match q_stp X (q_row y).2.2.2.2.2.2.1 ((q_row y).2.2.2.2.2.1 == 2) (q_row y).2.2.1 i a b pc lv st M with
        | some (pc', lv', st', M') => q_run X f d y pc' lv' st' M'
        | none =>
          match i with
          | .new _ => if (q_row y).2.2.2.2.1 = [] then (match q_exn a with | some E => if (st.map fun v => v.category).sum ≤ 8 then some (.inr E, (M.1, M.2.1 + 1, M.2.2 + 6)) else none | none => none) else none
          | .invokestatic _ | .invokevirtual _ | .invokespecial _ =>
            if 900 ≤ a then
              (match q_jdk X M.1 a st with
               | some (st', M') => if (st.map fun v => v.category).sum ≤ 16 then q_run X f d y (pc + 3) lv st' (M', M.2) else none
               | none => none)
            else
              (match d, q_args (q_row a).2.2.2.2.2.1 b st with
               | d' + 1, some (as, rest) =>
                 if (rest.map fun v => v.category).sum ≤ 8 ∧ a < q_mt.length ∧ a ≠ q_law then
                   (match q_run X f d' a 0 (lv_args 0 as) [] M with
                    | some (.inl v, M') => q_run X f d y (pc + 3) lv (v.toList ++ rest) M'
                    | some (.inr E, M') =>
                      (match q_hnd (q_row y).2.2.2.2.1 pc E with
                       | some h => (match q_ins (q_row y).2.2.2.2.2.2.2 h with
                         | some (.astore k, _) => if k < (q_row y).2.2.1 then q_run X f d y (h + 2) ((q_s1 lv k .null).drop 1) [] M' else none
                         | some (.astore_n k, _) => if (k : Nat) < (q_row y).2.2.1 then q_run X f d y (h + 1) ((q_s1 lv (k : Nat) .null).drop 1) [] M' else none
                         | _ => none)
                       | none => if (q_row y).2.2.2.2.1 = [] then some (.inr E, M') else none)
                    | none => none)
                 else none
               | _, _ => none)
          | _ => none
