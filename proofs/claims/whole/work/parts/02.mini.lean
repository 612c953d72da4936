/-! THE SMALL MACHINE: a plain function over the claim's instructions, resolved ahead; its heap: kinds of the cells, ints, references.
A kind: (0, class number), (1, n) int[n], (2, n) byte[n], (3, n) boolean[n]. An entry: instruction, its length, three numbers (see qm_x). -/
abbrev qm_H : Type := List (Nat × Nat) × (Nat → Nat → Int32) × (Nat → Nat → Option Nat)
abbrev qm_e : Type := Instr × Nat × Nat × Nat × Nat
abbrev qm_S : Type := Nat × List Value × List Value × qm_H
abbrev qm_A : Type := qm_S ⊕ (Option Value ⊕ (Nat × List Value × List Value))
def qm_u {α : Type} (f : Nat → Nat → α) (a i : Nat) (x : α) : Nat → Nat → α := fun b j => if b = a then (if j = i then x else f b j) else f b j
def qm_z {α : Type} (f : Nat → Nat → α) (a : Nat) (x : α) : Nat → Nat → α := fun b j => if b = a then x else f b j
/-- constants that ldc, ldc2_w push: by number -/
def qm_k (n : Nat) : Option Value := match n with
  | 0 => some (.int 1000000)
  | 1 => some (.ref 1000000)
  | 2 => some (.ref 1000002)
  | _ => none
/-- storing into a local: a long in front of it is lost -/
def qm_st (ls : List Value) (i : Nat) (v : Value) : List Value := match i with
  | 0 => ls.set 0 v
  | j + 1 => match ls[j]? with
    | some (.long _) => (ls.set j (.retAddr 0)).set (j + 1) v
    | some (.double _) => (ls.set j (.retAddr 0)).set (j + 1) v
    | _ => ls.set (j + 1) v
def qm_tgt (pc : Nat) (off : Int) : Nat := ((pc : Int) + off).toNat
def qm_ld (ls : List Value) (i : Nat) : Option Value := match ls[i]? with
  | some (.retAddr _) => none
  | x => x
/-- entry locals: longs take two -/
def qm_el (n : Nat) (as : List Value) : List Value :=
  let l := as.flatMap (fun v => if v.category = 2 then [v, .retAddr 0] else [v])
  l ++ List.replicate (n - l.length) (.retAddr 0)
def qm_nx (pc : Nat) (ls st : List Value) (h : qm_H) : Option qm_A := some (.inl (pc, ls, st, h))
/-- a branch -/
def qm_go (pc : Nat) (off : Int) (ls st : List Value) (h : qm_H) : Option qm_A := if 0 ≤ (pc : Int) + off then qm_nx (qm_tgt pc off) ls st h else none
def qm_cat (st : List Value) : Nat := (st.map fun v => v.category).sum
def qm_al (h : qm_H) (k : Nat × Nat) : qm_H := (h.1 ++ [k], qm_z h.2.1 h.1.length 0, qm_z h.2.2 h.1.length none)
def qm_c1 (c : Jvm.ClassFile.Cond) (x : Int32) : Bool := match c with
  | .eq => decide (x = 0)
  | .ne => !decide (x = 0)
  | .lt => decide (x < 0)
  | .ge => decide (0 ≤ x)
  | .gt => decide (0 < x)
  | .le => decide (x ≤ 0)
def qm_c2 (c : Jvm.ClassFile.Cond) (x y : Int32) : Bool := match c with
  | .eq => decide (x = y)
  | .ne => !decide (x = y)
  | .lt => decide (x < y)
  | .ge => decide (y ≤ x)
  | .gt => decide (y < x)
  | .le => decide (x ≤ y)
/-- an index within -/
def qm_in (i : Int32) (n : Nat) : Bool := !decide (i < 0) && decide (i.toNatClampNeg < n)
def qm_bz (x : Int32) : Bool := decide (x = 0) || decide (x = 1)
def qm_by (x : Int32) : Int32 := x.toInt8.toInt32
/-- a field read -/
def qm_gv (h : qm_H) (a f t : Nat) : Value := if t % 10 = 2 then (match h.2.2 a f with
  | none => .null
  | some b => .ref b) else .int (h.2.1 a f)
/-- one instruction. Numbers: fields (class, field, type: 0 int, 1 boolean, 2 reference; +10 final, +20 a nest mate's); calls (callee, how many arguments); new (class); ldc (constant) -/
def qm_x (rt : Nat) (e : qm_e) (pc : Nat) (ls st : List Value) (h : qm_H) : Option qm_A :=
  let nx := pc + e.2.1
  match e.1 with
  | .iconst n => qm_nx nx ls (.int (Int32.ofInt n) :: st) h
  | .bipush n => qm_nx nx ls (.int (Int8.ofInt n).toInt32 :: st) h
  | .sipush n => qm_nx nx ls (.int (Int16.ofInt n).toInt32 :: st) h
  | .lconst n => qm_nx nx ls (.long (Int64.ofNat (n : Nat)) :: st) h
  | .aconst_null => qm_nx nx ls (.null :: st) h
  | .ldc _ => match qm_k e.2.2.1 with
    | some v => qm_nx nx ls (v :: st) h
    | none => none
  | .ldc2_w _ => qm_nx nx ls (.long (if e.2.2.2.1 = 0 then Int64.ofNat e.2.2.1 else - Int64.ofNat e.2.2.1) :: st) h
  | .iload i => match qm_ld ls i with
    | some (.int x) => qm_nx nx ls (.int x :: st) h
    | _ => none
  | .iload_n i => match qm_ld ls i with
    | some (.int x) => qm_nx nx ls (.int x :: st) h
    | _ => none
  | .aload i => match qm_ld ls i with
    | some (.ref x) => qm_nx nx ls (.ref x :: st) h
    | _ => none
  | .aload_n i => match qm_ld ls i with
    | some (.ref x) => qm_nx nx ls (.ref x :: st) h
    | _ => none
  | .lload i => match qm_ld ls i with
    | some (.long x) => qm_nx nx ls (.long x :: st) h
    | _ => none
  | .lload_n i => match qm_ld ls i with
    | some (.long x) => qm_nx nx ls (.long x :: st) h
    | _ => none
  | .istore i => match st with
    | .int x :: st => if i < ls.length then qm_nx nx (qm_st ls i (.int x)) st h else none
    | _ => none
  | .istore_n i => match st with
    | .int x :: st => if (i : Nat) < ls.length then qm_nx nx (qm_st ls i (.int x)) st h else none
    | _ => none
  | .astore i => match st with
    | .ref x :: st => if i < ls.length then qm_nx nx (qm_st ls i (.ref x)) st h else none
    | _ => none
  | .astore_n i => match st with
    | .ref x :: st => if (i : Nat) < ls.length then qm_nx nx (qm_st ls i (.ref x)) st h else none
    | _ => none
  | .lstore i => match st with
    | .long x :: st => if i + 1 < ls.length then qm_nx nx ((qm_st ls i (.long x)).set (i + 1) (.retAddr 0)) st h else none
    | _ => none
  | .lstore_n i => match st with
    | .long x :: st => if (i : Nat) + 1 < ls.length then qm_nx nx ((qm_st ls i (.long x)).set ((i : Nat) + 1) (.retAddr 0)) st h else none
    | _ => none
  | .iinc i n => match qm_ld ls i with
    | some (.int x) => qm_nx nx (qm_st ls i (.int (x + Int32.ofInt n))) st h
    | _ => none
  | .iadd => match st with
    | .int y :: .int x :: st => qm_nx nx ls (.int (x + y) :: st) h
    | _ => none
  | .isub => match st with
    | .int y :: .int x :: st => qm_nx nx ls (.int (x - y) :: st) h
    | _ => none
  | .imul => match st with
    | .int y :: .int x :: st => qm_nx nx ls (.int (x * y) :: st) h
    | _ => none
  | .iand => match st with
    | .int y :: .int x :: st => qm_nx nx ls (.int (x &&& y) :: st) h
    | _ => none
  | .ior => match st with
    | .int y :: .int x :: st => qm_nx nx ls (.int (x ||| y) :: st) h
    | _ => none
  | .ixor => match st with
    | .int y :: .int x :: st => qm_nx nx ls (.int (x ^^^ y) :: st) h
    | _ => none
  | .ishl => match st with
    | .int y :: .int x :: st => qm_nx nx ls (.int (x <<< (y &&& 31)) :: st) h
    | _ => none
  | .ishr => match st with
    | .int y :: .int x :: st => qm_nx nx ls (.int (x >>> (y &&& 31)) :: st) h
    | _ => none
  | .iushr => match st with
    | .int y :: .int x :: st => qm_nx nx ls (.int (x.toUInt32 >>> (y.toUInt32 &&& Int32.toUInt32 31)).toInt32 :: st) h
    | _ => none
  | .ineg => match st with
    | .int x :: st => qm_nx nx ls (.int (-x) :: st) h
    | _ => none
  | .idiv => match st with
    | .int y :: .int x :: st => if y = 0 then none else qm_nx nx ls (.int (x / y) :: st) h
    | _ => none
  | .irem => match st with
    | .int y :: .int x :: st => if y = 0 then none else qm_nx nx ls (.int (x - x / y * y) :: st) h
    | _ => none
  | .ladd => match st with
    | .long y :: .long x :: st => qm_nx nx ls (.long (x + y) :: st) h
    | _ => none
  | .lsub => match st with
    | .long y :: .long x :: st => qm_nx nx ls (.long (x - y) :: st) h
    | _ => none
  | .land => match st with
    | .long y :: .long x :: st => qm_nx nx ls (.long (x &&& y) :: st) h
    | _ => none
  | .lxor => match st with
    | .long y :: .long x :: st => qm_nx nx ls (.long (x ^^^ y) :: st) h
    | _ => none
  | .lshl => match st with
    | .int y :: .long x :: st => qm_nx nx ls (.long (x <<< (y.toInt64 &&& 63)) :: st) h
    | _ => none
  | .lushr => match st with
    | .int y :: .long x :: st => qm_nx nx ls (.long (x.toUInt64 >>> (y.toInt64.toUInt64 &&& Int64.toUInt64 63)).toInt64 :: st) h
    | _ => none
  | .lcmp => match st with
    | .long y :: .long x :: st => qm_nx nx ls (.int (lg_cmp x y) :: st) h
    | _ => none
  | .i2l => match st with
    | .int x :: st => qm_nx nx ls (.long x.toInt64 :: st) h
    | _ => none
  | .l2i => match st with
    | .long x :: st => qm_nx nx ls (.int x.toInt32 :: st) h
    | _ => none
  | .i2b => match st with
    | .int x :: st => qm_nx nx ls (.int x.toInt8.toInt32 :: st) h
    | _ => none
  | .i2c => match st with
    | .int x :: st => qm_nx nx ls (.int (x.toUInt32 % 65536).toInt32 :: st) h
    | _ => none
  | .dup => match st with
    | .int v :: st => qm_nx nx ls (.int v :: .int v :: st) h
    | .ref v :: st => qm_nx nx ls (.ref v :: .ref v :: st) h
    | _ => none
  | .dup2 => match st with
    | .int v :: .ref w :: st => qm_nx nx ls (.int v :: .ref w :: .int v :: .ref w :: st) h
    | _ => none
  | .pop => match st with
    | .int _ :: st => qm_nx nx ls st h
    | .ref _ :: st => qm_nx nx ls st h
    | _ => none
  | .ifCond c off => match st with
    | .int x :: st => if 0 ≤ (pc : Int) + off then (if qm_c1 c x = true then qm_nx (qm_tgt pc off) ls st h else qm_nx nx ls st h) else none
    | _ => none
  | .if_icmp c off => match st with
    | .int y :: .int x :: st => if 0 ≤ (pc : Int) + off then (if qm_c2 c x y = true then qm_nx (qm_tgt pc off) ls st h else qm_nx nx ls st h) else none
    | _ => none
  | .ifnull off => match st with
    | .null :: st => qm_go pc off ls st h
    | .ref _ :: st => qm_nx nx ls st h
    | _ => none
  | .ifnonnull off => match st with
    | .null :: st => qm_nx nx ls st h
    | .ref _ :: st => qm_go pc off ls st h
    | _ => none
  | .goto off => qm_go pc off ls st h
  | .tableswitch d lo hi offs => match st with
    | .int x :: st => if x.toInt < lo ∨ hi < x.toInt then qm_go pc d ls st h else match offs[(x.toInt - lo).toNat]? with
      | some o => qm_go pc o ls st h
      | none => none
    | _ => none
  | .lookupswitch d ps => match st with
    | .int x :: st => if (ps.toList.zip (ps.toList.drop 1)).all (fun (a, next) => a.1 < next.1) = true then qm_go pc (Op.lookupswitch.offset ps.toList d x.toInt) ls st h else none
    | _ => none
  | .getfield _ => match st with
    | .ref a :: st => if h.1[a]? = some (0, e.2.2.1) then qm_nx nx ls (qm_gv h a e.2.2.2.1 e.2.2.2.2 :: st) h else none
    | _ => none
  | .putfield _ => match st with
    | .int x :: .ref a :: st => if h.1[a]? = some (0, e.2.2.1) ∧ e.2.2.2.2 % 10 ≠ 2 ∧ (e.2.2.2.2 % 10 = 1 → qm_bz x = true) then qm_nx nx ls st (h.1, qm_u h.2.1 a e.2.2.2.1 x, h.2.2) else none
    | .null :: .ref a :: st => if h.1[a]? = some (0, e.2.2.1) ∧ e.2.2.2.2 % 10 = 2 then qm_nx nx ls st (h.1, h.2.1, qm_u h.2.2 a e.2.2.2.1 none) else none
    | .ref b :: .ref a :: st => if h.1[a]? = some (0, e.2.2.1) ∧ e.2.2.2.2 % 10 = 2 then qm_nx nx ls st (h.1, h.2.1, qm_u h.2.2 a e.2.2.2.1 (some b)) else none
    | _ => none
  | .arraylength => match st with
    | .ref a :: st => match h.1[a]? with
      | some (k + 1, n) => if n < 2147483648 then qm_nx nx ls (.int (Int32.ofNat n) :: st) h else none
      | _ => none
    | _ => none
  | .iaload => match st with
    | .int i :: .ref a :: st => match h.1[a]? with
      | some (1, n) => if qm_in i n = true then qm_nx nx ls (.int (h.2.1 a i.toNatClampNeg) :: st) h else none
      | _ => none
    | _ => none
  | .baload => match st with
    | .int i :: .ref a :: st => match h.1[a]? with
      | some (2, n) => if qm_in i n = true then qm_nx nx ls (.int (h.2.1 a i.toNatClampNeg) :: st) h else none
      | some (3, n) => if qm_in i n = true then qm_nx nx ls (.int (h.2.1 a i.toNatClampNeg) :: st) h else none
      | _ => none
    | _ => none
  | .iastore => match st with
    | .int x :: .int i :: .ref a :: st => match h.1[a]? with
      | some (1, n) => if qm_in i n = true then qm_nx nx ls st (h.1, qm_u h.2.1 a i.toNatClampNeg x, h.2.2) else none
      | _ => none
    | _ => none
  | .bastore => match st with
    | .int x :: .int i :: .ref a :: st => match h.1[a]? with
      | some (2, n) => if qm_in i n = true then qm_nx nx ls st (h.1, qm_u h.2.1 a i.toNatClampNeg (qm_by x), h.2.2) else none
      | some (3, n) => if qm_in i n = true ∧ qm_bz x = true then qm_nx nx ls st (h.1, qm_u h.2.1 a i.toNatClampNeg x, h.2.2) else none
      | _ => none
    | _ => none
  | .new _ => if h.1.length < 900000 then qm_nx nx ls (.ref h.1.length :: st) (qm_al h (0, e.2.2.1)) else none
  | .newarray t => match st with
    | .int n :: st => if qm_in n 100000 = true ∧ h.1.length < 900000 then (match t with
      | .int => qm_nx nx ls (.ref h.1.length :: st) (qm_al h (1, n.toNatClampNeg))
      | .byte => qm_nx nx ls (.ref h.1.length :: st) (qm_al h (2, n.toNatClampNeg))
      | .boolean => qm_nx nx ls (.ref h.1.length :: st) (qm_al h (3, n.toNatClampNeg))
      | _ => none) else none
    | _ => none
  | .return_ => if rt = 0 ∧ st = [] then some (.inr (.inl none)) else none
  | .ireturn => match st with
    | [.int x] => if rt = 1 ∨ (rt = 2 ∧ qm_bz x = true) then some (.inr (.inl (some (.int x)))) else none
    | _ => none
  | .areturn => match st with
    | [.ref a] => if rt = 3 then some (.inr (.inl (some (.ref a)))) else none
    | _ => none
  | .lreturn => match st with
    | [.long x] => if rt = 4 then some (.inr (.inl (some (.long x)))) else none
    | _ => none
  | .invokestatic _ => if e.2.2.2.1 ≤ st.length ∧ qm_cat (st.drop e.2.2.2.1) ≤ 8 then some (.inr (.inr (e.2.2.1, (st.take e.2.2.2.1).reverse, st.drop e.2.2.2.1))) else none
  | .invokevirtual _ => match st.drop e.2.2.2.1 with
    | .ref b :: r => if qm_cat r ≤ 8 ∧ (e.2.2.2.2 = 99 ∨ h.1[b]? = some (0, e.2.2.2.2)) then some (.inr (.inr (e.2.2.1, .ref b :: (st.take e.2.2.2.1).reverse, r))) else none
    | _ => none
  | .invokespecial _ => if e.2.2.1 = 999 then (match st with
      | .ref _ :: r => if qm_cat r ≤ 8 then qm_nx nx ls r h else none
      | _ => none) else match st.drop e.2.2.2.1 with
    | .ref b :: r => if qm_cat r ≤ 8 then some (.inr (.inr (e.2.2.1, .ref b :: (st.take e.2.2.2.1).reverse, r))) else none
    | _ => none
  | _ => none
