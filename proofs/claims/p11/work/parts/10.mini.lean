/-! The small machine: the methods' bytecode run on a heap of its own (a list of cells), by fuel. The next part shows that the JVM does what it does. -/
/-- a cell: its kind (a class's number, or an array's), its fields or elements -/
abbrev mC : Type := Nat × List Value
abbrev mH : Type := List mC
/-- the locals, by their places -/
abbrev mL : Type := List (Option Value)
/-- an instruction: itself, its length, what it links (three numbers) -/
abbrev mI : Type := ClassFile.Instr × Nat × Nat × Nat × Nat
/-- the heap; how many cells and slots more may be made -/
abbrev mS : Type := mH × Nat × Nat
/-- pc, locals, operand stack, heap -/
abbrev mG : Type := Nat × mL × List Value × mS
/-- a method: name, bytes, locals, answer, handlers (from, to, handler, kind), code by pc -/
abbrev mM : Type := MethodName × ByteArray × Nat × Option FieldType × List (Nat × Nat × Nat × Nat) × List (Option mI)
def m_ld (ml : mL) (i : Nat) : Option Value := match ml[i]? with
  | some (some v) => some v
  | _ => none
def m_clr (ml : mL) (i : Nat) : mL := match i with
  | 0 => ml
  | j + 1 => match m_ld ml j with
    | some (.long _) => ml.set j none
    | some (.double _) => ml.set j none
    | _ => ml
def m_st1 (ml : mL) (i : Nat) (v : Value) : mL := (m_clr ml i).set i (some v)
def m_st2 (ml : mL) (i : Nat) (v : Value) : mL := ((m_clr ml i).set i (some v)).set (i + 1) none
/-- the locals at a method's start -/
def m_sl : List Value → mL
  | [] => []
  | .long x :: r => some (.long x) :: none :: m_sl r
  | .double x :: r => some (.double x) :: none :: m_sl r
  | v :: r => some v :: m_sl r
def m_ent (vs : List Value) (n : Nat) : mL := m_sl vs ++ List.replicate (n - (m_sl vs).length) none
section Steps
variable (pc : Nat) (ml : mL) (st : List Value) (S : mS)
def m_i2 (f : Int32 → Int32 → Int32) : Option mG := match st with
  | .int y :: .int x :: r => some (pc + 1, ml, .int (f x y) :: r, S)
  | _ => none
def m_l2 (f : Int64 → Int64 → Int64) : Option mG := match st with
  | .long y :: .long x :: r => some (pc + 1, ml, .long (f x y) :: r, S)
  | _ => none
def m_ldI (i n : Nat) : Option mG := match m_ld ml i with
  | some (.int x) => some (pc + n, ml, .int x :: st, S)
  | _ => none
def m_ldL (i n : Nat) : Option mG := match m_ld ml i with
  | some (.long x) => some (pc + n, ml, .long x :: st, S)
  | _ => none
def m_ldA (i n : Nat) : Option mG := match m_ld ml i with
  | some (.ref x) => some (pc + n, ml, .ref x :: st, S)
  | _ => none
def m_stI (i n : Nat) : Option mG := match st with
  | .int x :: r => if i < ml.length then some (pc + n, m_st1 ml i (.int x), r, S) else none
  | _ => none
def m_stL (i n : Nat) : Option mG := match st with
  | .long x :: r => if i + 1 < ml.length then some (pc + n, m_st2 ml i (.long x), r, S) else none
  | _ => none
def m_stA (i n : Nat) : Option mG := match st with
  | .ref x :: r => if i < ml.length then some (pc + n, m_st1 ml i (.ref x), r, S) else none
  | _ => none
def m_inc (i : Nat) (k : Int) : Option mG := match m_ld ml i with
  | some (.int x) => if i < ml.length then some (pc + 3, m_st1 ml i (.int (x + Int32.ofInt k)), st, S) else none
  | _ => none
def m_if (c : ClassFile.Cond) (tgt : Nat) : Option mG := match st with
  | .int x :: r => match c with
    | .eq => if x = 0 then some (tgt, ml, r, S) else some (pc + 3, ml, r, S)
    | .ne => if x = 0 then some (pc + 3, ml, r, S) else some (tgt, ml, r, S)
    | .lt => if x < 0 then some (tgt, ml, r, S) else some (pc + 3, ml, r, S)
    | .ge => if 0 ≤ x then some (tgt, ml, r, S) else some (pc + 3, ml, r, S)
    | .gt => if 0 < x then some (tgt, ml, r, S) else some (pc + 3, ml, r, S)
    | .le => if x ≤ 0 then some (tgt, ml, r, S) else some (pc + 3, ml, r, S)
  | _ => none
def m_icmp (c : ClassFile.Cond) (tgt : Nat) : Option mG := match st with
  | .int y :: .int x :: r => match c with
    | .eq => if x = y then some (tgt, ml, r, S) else some (pc + 3, ml, r, S)
    | .ne => if x = y then some (pc + 3, ml, r, S) else some (tgt, ml, r, S)
    | .lt => if x < y then some (tgt, ml, r, S) else some (pc + 3, ml, r, S)
    | .ge => if y ≤ x then some (tgt, ml, r, S) else some (pc + 3, ml, r, S)
    | .gt => if y < x then some (tgt, ml, r, S) else some (pc + 3, ml, r, S)
    | .le => if x ≤ y then some (tgt, ml, r, S) else some (pc + 3, ml, r, S)
  | _ => none
def m_dup : Option mG := match st with
  | .int x :: r => some (pc + 1, ml, .int x :: .int x :: r, S)
  | .ref x :: r => some (pc + 1, ml, .ref x :: .ref x :: r, S)
  | _ => none
def m_pop : Option mG := match st with
  | .int _ :: r => some (pc + 1, ml, r, S)
  | .ref _ :: r => some (pc + 1, ml, r, S)
  | _ => none
def m_cI (f : Int32 → Value) : Option mG := match st with
  | .int x :: r => some (pc + 1, ml, f x :: r, S)
  | _ => none
def m_cL (f : Int64 → Value) : Option mG := match st with
  | .long x :: r => some (pc + 1, ml, f x :: r, S)
  | _ => none
def m_lsh (f : Int64 → Int32 → Int64) : Option mG := match st with
  | .int y :: .long x :: r => some (pc + 1, ml, .long (f x y) :: r, S)
  | _ => none
def m_div2 (f : Int32 → Int32 → Int32) : Option mG := match st with
  | .int y :: .int x :: r => if y = 0 then none else some (pc + 1, ml, .int (f x y) :: r, S)
  | _ => none
def m_divL2 (f : Int64 → Int64 → Int64) : Option mG := match st with
  | .long y :: .long x :: r => if y = 0 then none else some (pc + 1, ml, .long (f x y) :: r, S)
  | _ => none
def m_lcmp : Option mG := match st with
  | .long y :: .long x :: r => some (pc + 1, ml, .int (lg_cmp x y) :: r, S)
  | _ => none
/-- a place in an array -/
def m_ix (j : Int32) (vs : List Value) : Option Value := if j < 0 then none else vs[j.toNatClampNeg]?
def m_get (a b : Nat) : Option mG := match st with
  | .ref r :: rest => match S.1[r]? with
    | some (t, fs) => if t = a then (match fs[b]? with
      | some v => some (pc + 3, ml, v :: rest, S)
      | none => none) else none
    | none => none
  | _ => none
/-- may such a value come to a field of that kind (0 int, 1 boolean, 2 a reference, 3 long)? -/
def m_fit (k : Nat) (v : Value) : Bool := match v with
  | .int x => k == 0 || (k == 1 && (x == 0 || x == 1))
  | .ref _ => k == 2
  | .long _ => k == 3
  | _ => false
def m_put (nE a b k : Nat) : Option mG := match st with
  | v :: .ref r :: rest => match S.1[r]? with
    | some (t, fs) => if t = a ∧ nE ≤ r ∧ b < fs.length ∧ m_fit k v = true then some (pc + 3, ml, rest, S.1.set r (t, fs.set b v), S.2) else none
    | none => none
  | _ => none
/-- an element is read from an array of kind k -/
def m_ald (k : Nat) : Option mG := match st with
  | .int j :: .ref r :: rest => match S.1[r]? with
    | some (t, vs) => if t = k then (match m_ix j vs with
      | some v => some (pc + 1, ml, v :: rest, S)
      | none => none) else none
    | none => none
  | _ => none
def m_ast (nE k : Nat) (f : Int32 → Int32) : Option mG := match st with
  | .int x :: .int j :: .ref r :: rest => match S.1[r]? with
    | some (t, vs) => if t = k ∧ nE ≤ r ∧ ¬ j < 0 ∧ j.toNatClampNeg < vs.length then some (pc + 1, ml, rest, S.1.set r (t, vs.set j.toNatClampNeg (.int (f x))), S.2) else none
    | none => none
  | _ => none
def m_lst (nE : Nat) : Option mG := match st with
  | .long x :: .int j :: .ref r :: rest => match S.1[r]? with
    | some (t, vs) => if t = 1002 ∧ nE ≤ r ∧ ¬ j < 0 ∧ j.toNatClampNeg < vs.length then some (pc + 1, ml, rest, S.1.set r (t, vs.set j.toNatClampNeg (.long x)), S.2) else none
    | none => none
  | _ => none
/-- a reference to an object of kind b into an array of such (kind a) -/
def m_rst (nE a b : Nat) : Option mG := match st with
  | .ref x :: .int j :: .ref r :: rest => match S.1[r]?, S.1[x]? with
    | some (t, vs), some (t2, _) => if t = a ∧ t2 = b ∧ nE ≤ r ∧ ¬ j < 0 ∧ j.toNatClampNeg < vs.length then some (pc + 1, ml, rest, S.1.set r (t, vs.set j.toNatClampNeg (.ref x)), S.2) else none
    | _, _ => none
  | _ => none
def m_aln : Option mG := match st with
  | .ref r :: rest => match S.1[r]? with
    | some (t, vs) => if 1000 ≤ t then some (pc + 1, ml, .int (Int32.ofNat vs.length) :: rest, S) else none
    | none => none
  | _ => none
/-- a new cell of n slots -/
def m_mk (S : mS) (c : mC) (n : Nat) : Option (Nat × mS) := if 1 ≤ S.2.1 ∧ n ≤ S.2.2 then some (S.1.length, S.1 ++ [c], S.2.1 - 1, S.2.2 - n) else none
def m_new (a n : Nat) (fs : List Value) : Option mG := match m_mk S (a, fs) n with
  | some (r, S') => some (pc + 3, ml, .ref r :: st, S')
  | none => none
def m_nwa (k n : Nat) (v : Value) : Option mG := match st with
  | .int j :: rest => if ¬ j < 0 ∧ j.toNatClampNeg ≤ 1000000 then (match m_mk S (k, List.replicate j.toNatClampNeg v) j.toNatClampNeg with
    | some (r, S') => some (pc + n, ml, .ref r :: rest, S')
    | none => none) else none
  | _ => none
/-- rows of ints: 'new int[i][j]' -/
def m_mul : Option mG := match st with
  | .int j :: .int i :: rest => if i = 8 ∧ j = 9000 ∧ 9 ≤ S.2.1 ∧ 72008 ≤ S.2.2 then
      some (pc + 4, ml, .ref S.1.length :: rest, S.1 ++ (1004, (List.range 8).map (fun k => Value.ref (S.1.length + 1 + k))) :: List.replicate 8 (1001, List.replicate 9000 (Value.int 0)), S.2.1 - 9, S.2.2 - 72008) else none
  | _ => none
/-- System.arraycopy of bytes -/
def m_cpy (nE : Nat) : Option mG := match st with
  | .int n :: .int dp :: .ref b :: .int sp :: .ref a :: rest => match S.1[a]?, S.1[b]? with
    | some (t, vs), some (t2, ws) => if t = 1000 ∧ t2 = 1000 ∧ nE ≤ b ∧ ¬ sp < 0 ∧ ¬ dp < 0 ∧ ¬ n < 0 ∧ sp.toNatClampNeg + n.toNatClampNeg ≤ vs.length ∧ dp.toNatClampNeg + n.toNatClampNeg ≤ ws.length then
        some (pc + 3, ml, rest, S.1.set b (t2, ws.take dp.toNatClampNeg ++ (vs.drop sp.toNatClampNeg).take n.toNatClampNeg ++ ws.drop (dp.toNatClampNeg + n.toNatClampNeg)), S.2) else none
    | _, _ => none
  | _ => none
def m_sw (f : Int32 → Nat) : Option mG := match st with
  | .int x :: r => some (f x, ml, r, S)
  | _ => none
end Steps
def m_tsw (pc : Nat) (dflt lo hi : Int) (offs : Array Int) (x : Int32) : Nat :=
  if x.toInt < lo ∨ hi < x.toInt then ((pc : Int) + dflt).toNat else ((pc : Int) + (offs[(x.toInt - lo).toNat]?).getD 0).toNat
def m_lsw (pc : Nat) (dflt : Int) (ps : Array (Int × Int)) (x : Int32) : Nat := ((pc : Int) + Op.lookupswitch.offset ps.toList dflt x.toInt).toNat
/-- one instruction that is no call, no answer and no throw -/
def m_one (nE : Nat) (i : ClassFile.Instr) (a b k : Nat) (pc : Nat) (ml : mL) (st : List Value) (S : mS) : Option mG := match i with
  | .iconst n => some (pc + 1, ml, .int (Int32.ofInt n) :: st, S)
  | .bipush n => some (pc + 2, ml, .int (Int8.ofInt n).toInt32 :: st, S)
  | .sipush n => some (pc + 3, ml, .int (Int16.ofInt n).toInt32 :: st, S)
  | .lconst n => some (pc + 1, ml, .long (Int64.ofNat (n : Nat)) :: st, S)
  | .ldc _ => some (pc + 2, ml, .ref a :: st, S)
  | .ldc2_w _ => some (pc + 3, ml, .long (Int64.ofNat a) :: st, S)
  | .iload j => m_ldI pc ml st S j 2
  | .iload_n j => m_ldI pc ml st S j 1
  | .lload j => m_ldL pc ml st S j 2
  | .lload_n j => m_ldL pc ml st S j 1
  | .aload j => m_ldA pc ml st S j 2
  | .aload_n j => m_ldA pc ml st S j 1
  | .istore j => m_stI pc ml st S j 2
  | .istore_n j => m_stI pc ml st S j 1
  | .lstore j => m_stL pc ml st S j 2
  | .lstore_n j => m_stL pc ml st S j 1
  | .astore j => m_stA pc ml st S j 2
  | .astore_n j => m_stA pc ml st S j 1
  | .iinc j n => m_inc pc ml st S j n
  | .iadd => m_i2 pc ml st S (fun x y => x + y)
  | .isub => m_i2 pc ml st S (fun x y => x - y)
  | .imul => m_i2 pc ml st S (fun x y => x * y)
  | .iand => m_i2 pc ml st S (fun x y => x &&& y)
  | .ior => m_i2 pc ml st S (fun x y => x ||| y)
  | .ishr => m_i2 pc ml st S (fun x y => x >>> (y &&& 31))
  | .ishl => m_i2 pc ml st S (fun x y => x <<< (y &&& 31))
  | .iushr => m_i2 pc ml st S (fun x y => (x.toUInt32 >>> (y.toUInt32 &&& Int32.toUInt32 31)).toInt32)
  | .idiv => m_div2 pc ml st S (fun x y => x / y)
  | .irem => m_div2 pc ml st S (fun x y => x - x / y * y)
  | .ineg => m_cI pc ml st S (fun x => .int (-x))
  | .ladd => m_l2 pc ml st S (fun x y => x + y)
  | .lsub => m_l2 pc ml st S (fun x y => x - y)
  | .lmul => m_l2 pc ml st S (fun x y => x * y)
  | .land => m_l2 pc ml st S (fun x y => x &&& y)
  | .lor => m_l2 pc ml st S (fun x y => x ||| y)
  | .ldiv => m_divL2 pc ml st S (fun x y => x / y)
  | .lrem => m_divL2 pc ml st S (fun x y => x - x / y * y)
  | .lneg => m_cL pc ml st S (fun x => .long (-x))
  | .lshl => m_lsh pc ml st S (fun x y => x <<< (y.toInt64 &&& 63))
  | .lshr => m_lsh pc ml st S (fun x y => x >>> (y.toInt64 &&& 63))
  | .lcmp => m_lcmp pc ml st S
  | .i2l => m_cI pc ml st S (fun x => .long x.toInt64)
  | .l2i => m_cL pc ml st S (fun x => .int x.toInt32)
  | .i2b => m_cI pc ml st S (fun x => .int x.toInt8.toInt32)
  | .i2c => m_cI pc ml st S (fun x => .int (x.toUInt32 % 65536).toInt32)
  | .dup => m_dup pc ml st S
  | .pop => m_pop pc ml st S
  | .goto _ => some (a, ml, st, S)
  | .ifCond c _ => m_if pc ml st S c a
  | .if_icmp c _ => m_icmp pc ml st S c a
  | .tableswitch d lo hi offs => m_sw ml st S (m_tsw pc d lo hi offs)
  | .lookupswitch d ps => m_sw ml st S (m_lsw pc d ps)
  | .getfield _ => m_get pc ml st S a b
  | .putfield _ => m_put pc ml st S nE a b k
  | .getstatic _ => some (pc + 3, ml, (if k = 0 then .int (Int32.ofNat a) else if k = 1 then .ref a else .retAddr 0) :: st, S)
  | .iaload => m_ald pc ml st S 1001
  | .baload => m_ald pc ml st S 1000
  | .laload => m_ald pc ml st S 1002
  | .aaload => m_ald pc ml st S a
  | .iastore => m_ast pc ml st S nE 1001 (fun x => x)
  | .bastore => m_ast pc ml st S nE 1000 (fun x => x.toInt8.toInt32)
  | .lastore => m_lst pc ml st S nE
  | .aastore => m_rst pc ml st S nE a b
  | .arraylength => m_aln pc ml st S
  | .newarray .byte => m_nwa pc ml st S 1000 2 (.int 0)
  | .newarray .int => m_nwa pc ml st S 1001 2 (.int 0)
  | .newarray .long => m_nwa pc ml st S 1002 2 (.long 0)
  | .anewarray _ => m_nwa pc ml st S a 3 .null
  | .multianewarray _ _ => m_mul pc ml st S
  | _ => none
/-- the handler for a thing of kind t that is thrown at pc (an entry's last number: the kind, and 1000 times the catch type's place in the pool) -/
def m_hnd : List (Nat × Nat × Nat × Nat) → Nat → Nat → Option Nat
  | [], _, _ => none
  | (x, y, z, k) :: r, pc, t => if x ≤ pc ∧ pc < y ∧ k % 1000 = t then some z else m_hnd r pc t
abbrev mR : Type := Option (Outcome × mS)
/-- what a run of a frame goes on with: the depth that is left, the method, the frame -/
abbrev mT : Type := Nat → mM → mG → mR
/-- behind a call (kinds 0 to 3: what is thrown) -/
def m_back (ih : mT) (d : Nat) (M : mM) (pc : Nat) (ml : mL) (rest : List Value) (r : mR) : mR := match r with
  | some (.returned v, S) => ih d M (pc + 3, ml, v.toList ++ rest, S)
  | some (.threw x, S) => match S.1[x]? with
    | some (t, _) => if M.2.2.2.2.1.isEmpty then some (.threw x, S) else if t < 4 then (match m_hnd M.2.2.2.2.1 pc t with
      | some h => ih d M (h, ml, [.ref x], S)
      | none => none) else none
    | none => none
  | none => none
/-- is the first argument an object of kind k - 1 (k not 0)? -/
def m_rcv (k : Nat) (vs : List Value) (h : mH) : Bool := match k with
  | 0 => true
  | k' + 1 => match vs with
    | .ref r :: _ => (match h[r]? with
      | some (t, _) => t == k'
      | none => false)
    | _ => false
/-- a call of method number a with n arguments (the receiver among them, of kind k - 1 if k is not 0) -/
def m_call (PG : List mM) (ih : mT) (d : Nat) (M : mM) (a n k : Nat) (pc : Nat) (ml : mL) (st : List Value) (S : mS) : mR := match d with
  | 0 => none
  | d' + 1 => match PG[a]? with
    | some M' => if n ≤ st.length ∧ ((st.drop n).map fun v => v.category).sum ≤ 8 ∧ (m_sl (st.take n).reverse).length ≤ M'.2.2.1 ∧ m_rcv k (st.take n).reverse S.1 = true then
        m_back ih (d' + 1) M pc ml (st.drop n) (ih d' M' (0, m_ent (st.take n).reverse M'.2.2.1, [], S))
      else none
    | none => none
/-- one turn -/
def m_turn (nE : Nat) (FL : Nat → List Value) (PG : List mM) (ih : mT) (d : Nat) (M : mM) (g : mG) : mR := match g with
  | (pc, ml, st, S) => match M.2.2.2.2.2[pc]? with
    | some (some (i, _, a, b, k)) => match i with
      | .invokevirtual _ => m_call PG ih d M a b k pc ml st S
      | .invokespecial _ => if a = 999999 then (match d, st with
          | _ + 1, .ref _ :: rest => if (rest.map fun v => v.category).sum ≤ 8 then ih d M (pc + 3, ml, rest, S) else none
          | _, _ => none) else m_call PG ih d M a b k pc ml st S
      | .invokestatic _ => if a = 999998 then (match d, m_cpy pc ml st S nE with
          | _ + 1, some g' => if (g'.2.2.1.map fun v => v.category).sum ≤ 8 then ih d M g' else none
          | _, _ => none) else m_call PG ih d M a b k pc ml st S
      | .ireturn => match st, M.2.2.2.1 with
        | [.int x], some ty => some (.returned (some (narrow ty (.int x))), S)
        | _, _ => none
      | .lreturn => match st, M.2.2.2.1 with
        | [.long x], some .long => some (.returned (some (.long x)), S)
        | _, _ => none
      | .return_ => match st, M.2.2.2.1 with
        | [], none => some (.returned none, S)
        | _, _ => none
      | .new _ => if k = 0 then (match m_new pc ml st S a b (FL a) with
          | some g' => ih d M g'
          | none => none) else (match M.2.2.2.2.1, m_mk S (a, []) b with
          | [], some (r, S') => if 8 ≤ d ∧ (st.map fun v => v.category).sum ≤ 8 then some (.threw r, S') else none
          | _, _ => none)
      | _ => match m_one nE i a b k pc ml st S with
        | some g' => ih d M g'
        | none => none
    | _ => none
/-- the run of a frame, by fuel -/
noncomputable def m_run (nE : Nat) (FL : Nat → List Value) (PG : List mM) (n : Nat) : mT := Nat.rec (motive := fun _ => mT) (fun _ _ _ => none) (fun _ ih => m_turn nE FL PG ih) n
