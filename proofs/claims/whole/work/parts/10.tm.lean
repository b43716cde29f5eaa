/-! The small machine: ints and longs are integers, references are places in a list of cells; what it runs, the model runs (part 12). -/
abbrev tm_V : Type := Int ⊕ Int ⊕ Option Nat
abbrev tm_C : Type := (Nat × Nat × (Nat → Int)) ⊕ (Nat × List tm_V)
abbrev tm_H : Type := List tm_C
abbrev tm_L : Type := List (Nat × tm_V)
abbrev tm_J : Type := Jvm.ClassFile.Instr
/-- an instruction with what its operands stand for -/
abbrev tm_I : Type := tm_J × List Nat × Int
def tm_cat (v : tm_V) : Nat := match v with
  | .inr (.inl _) => 2
  | _ => 1
def tm_i2 (f : Int32 → Int32 → Int32) (x y : Int) : Int := (f (Int32.ofInt x) (Int32.ofInt y)).toInt
def tm_l2 (f : Int64 → Int64 → Int64) (x y : Int) : Int := (f (Int64.ofInt x) (Int64.ofInt y)).toInt
def tm_len (i : tm_J) : Nat := match i with
  | .bipush _ => 2
  | .sipush _ => 3
  | .iload _ => 2
  | .lload _ => 2
  | .aload _ => 2
  | .istore _ => 2
  | .lstore _ => 2
  | .astore _ => 2
  | .iinc _ _ => 3
  | .ifCond _ _ => 3
  | .if_icmp _ _ => 3
  | .goto _ => 3
  | .getfield _ => 3
  | .putfield _ => 3
  | .new _ => 3
  | .newarray _ => 2
  | .invokevirtual _ => 3
  | .invokespecial _ => 3
  | .invokestatic _ => 3
  | .ldc _ => 2
  | .ldc_w _ => 3
  | .ldc2_w _ => 3
  | _ => 1
def tm_bi (f : Int → Int → Option tm_V) (st : List tm_V) : Option (List tm_V) := match st with
  | .inl y :: .inl x :: r => (f x y).map (fun v => v :: r)
  | _ => none
def tm_bl (f : Int → Int → Option tm_V) (st : List tm_V) : Option (List tm_V) := match st with
  | .inr (.inl y) :: .inr (.inl x) :: r => (f x y).map (fun v => v :: r)
  | _ => none
def tm_bs (f : Int → Int → Option tm_V) (st : List tm_V) : Option (List tm_V) := match st with
  | .inl y :: .inr (.inl x) :: r => (f x y).map (fun v => v :: r)
  | _ => none
def tm_ii (f : Int32 → Int32 → Int32) (st : List tm_V) : Option (List tm_V) := tm_bi (fun x y => some (.inl (tm_i2 f x y))) st
def tm_ll (f : Int64 → Int64 → Int64) (st : List tm_V) : Option (List tm_V) := tm_bl (fun x y => some (.inr (.inl (tm_l2 f x y)))) st
/-- instructions of the stack alone -/
def tm_pu (i : tm_J) (st : List tm_V) : Option (List tm_V) := match i with
  | .iconst n => if -128 ≤ n ∧ n < 128 then some (.inl n :: st) else none
  | .bipush n => if -128 ≤ n ∧ n < 128 then some (.inl n :: st) else none
  | .sipush n => if -32768 ≤ n ∧ n < 32768 then some (.inl n :: st) else none
  | .lconst n => some (.inr (.inl ((n : Nat) : Int)) :: st)
  | .iadd => tm_ii (fun a b => a + b) st
  | .isub => tm_ii (fun a b => a - b) st
  | .imul => tm_ii (fun a b => a * b) st
  | .iand => tm_ii (fun a b => a &&& b) st
  | .ior => tm_ii (fun a b => a ||| b) st
  | .ixor => tm_ii (fun a b => a ^^^ b) st
  | .ishl => tm_ii (fun a b => a <<< (b &&& 31)) st
  | .ishr => tm_ii (fun a b => a >>> (b &&& 31)) st
  | .idiv => tm_bi (fun x y => if y = 0 then none else some (.inl (tm_i2 (fun a b => a / b) x y))) st
  | .irem => tm_bi (fun x y => if y = 0 then none else some (.inl (tm_i2 (fun a b => a - a / b * b) x y))) st
  | .ladd => tm_ll (fun a b => a + b) st
  | .lsub => tm_ll (fun a b => a - b) st
  | .lmul => tm_ll (fun a b => a * b) st
  | .land => tm_ll (fun a b => a &&& b) st
  | .lor => tm_ll (fun a b => a ||| b) st
  | .lxor => tm_ll (fun a b => a ^^^ b) st
  | .ldiv => tm_bl (fun x y => if y = 0 then none else some (.inr (.inl (tm_l2 (fun a b => a / b) x y)))) st
  | .lrem => tm_bl (fun x y => if y = 0 then none else some (.inr (.inl (tm_l2 (fun a b => a - a / b * b) x y)))) st
  | .lshl => tm_bs (fun x y => some (.inr (.inl ((Int64.ofInt x <<< ((Int32.ofInt y).toInt64 &&& 63)).toInt)))) st
  | .lshr => tm_bs (fun x y => some (.inr (.inl ((Int64.ofInt x >>> ((Int32.ofInt y).toInt64 &&& 63)).toInt)))) st
  | .lushr => tm_bs (fun x y => some (.inr (.inl (((Int64.ofInt x).toUInt64 >>> ((Int32.ofInt y).toInt64.toUInt64 &&& Int64.toUInt64 63)).toInt64.toInt)))) st
  | .lcmp => tm_bl (fun x y => some (.inl (if y < x then 1 else if x = y then 0 else -1))) st
  | .i2l => (match st with
    | .inl x :: r => some (.inr (.inl x) :: r)
    | _ => none)
  | .l2i => (match st with
    | .inr (.inl x) :: r => some (.inl (Int64.ofInt x).toInt32.toInt :: r)
    | _ => none)
  | .dup => (match st with
    | v :: r => if tm_cat v = 1 then some (v :: v :: r) else none
    | _ => none)
  | .pop => (match st with
    | v :: r => if tm_cat v = 1 then some r else none
    | _ => none)
  | .dup_x1 => (match st with
    | v :: w :: r => if tm_cat v = 1 ∧ tm_cat w = 1 then some (v :: w :: v :: r) else none
    | _ => none)
  | .dup_x2 => (match st with
    | v :: w :: u :: r => if tm_cat v = 1 ∧ tm_cat w = 1 ∧ tm_cat u = 1 then some (v :: w :: u :: v :: r) else none
    | _ => none)
  | .dup2 => (match st with
    | v :: w :: r => if tm_cat v = 1 ∧ tm_cat w = 1 then some (v :: w :: v :: w :: r) else none
    | _ => none)
  | _ => none
def tm_set1 (lo : tm_L) (i : Nat) (v : tm_V) : tm_L := (i, v) :: lo.filter (fun q => !(q.1 == i) && !(q.1 + 1 == i && tm_cat q.2 == 2))
def tm_set2 (lo : tm_L) (i : Nat) (v : tm_V) : tm_L := (i, v) :: lo.filter (fun q => !(q.1 == i) && (!(q.1 == i + 1) && !(q.1 + 1 == i && tm_cat q.2 == 2)))
def tm_ldi (lo : tm_L) (st : List tm_V) (i : Nat) : Option (tm_L × List tm_V) := match lo.lookup i with
  | some (.inl x) => some (lo, .inl x :: st)
  | _ => none
def tm_ldl (lo : tm_L) (st : List tm_V) (i : Nat) : Option (tm_L × List tm_V) := match lo.lookup i with
  | some (.inr (.inl x)) => some (lo, .inr (.inl x) :: st)
  | _ => none
def tm_lda (lo : tm_L) (st : List tm_V) (i : Nat) : Option (tm_L × List tm_V) := match lo.lookup i with
  | some (.inr (.inr (some x))) => some (lo, .inr (.inr (some x)) :: st)
  | _ => none
def tm_sti (nL : Nat) (lo : tm_L) (st : List tm_V) (i : Nat) : Option (tm_L × List tm_V) := match st with
  | .inl x :: r => if i < nL then some (tm_set1 lo i (.inl x), r) else none
  | _ => none
def tm_stl (nL : Nat) (lo : tm_L) (st : List tm_V) (i : Nat) : Option (tm_L × List tm_V) := match st with
  | .inr (.inl x) :: r => if i + 1 < nL then some (tm_set2 lo i (.inr (.inl x)), r) else none
  | _ => none
def tm_sta (nL : Nat) (lo : tm_L) (st : List tm_V) (i : Nat) : Option (tm_L × List tm_V) := match st with
  | .inr (.inr (some x)) :: r => if i < nL then some (tm_set1 lo i (.inr (.inr (some x))), r) else none
  | _ => none
/-- instructions of stack and locals -/
def tm_lo (nL : Nat) (i : tm_J) (lo : tm_L) (st : List tm_V) : Option (tm_L × List tm_V) := match i with
  | .iload_n k => tm_ldi lo st k
  | .iload k => tm_ldi lo st k
  | .lload_n k => tm_ldl lo st k
  | .lload k => tm_ldl lo st k
  | .aload_n k => tm_lda lo st k
  | .aload k => tm_lda lo st k
  | .istore_n k => tm_sti nL lo st k
  | .istore k => tm_sti nL lo st k
  | .lstore_n k => tm_stl nL lo st k
  | .lstore k => tm_stl nL lo st k
  | .astore_n k => tm_sta nL lo st k
  | .astore k => tm_sta nL lo st k
  | .iinc k n => (match lo.lookup k with
    | some (.inl x) => if k < nL then some (tm_set1 lo k (.inl (tm_i2 (fun a b => a + b) x n)), st) else none
    | _ => none)
  | _ => none
def tm_cd (c : Jvm.ClassFile.Cond) (x y : Int) : Bool := match c with
  | .eq => decide (x = y)
  | .ne => decide (¬ x = y)
  | .lt => decide (x < y)
  | .ge => decide (y ≤ x)
  | .gt => decide (y < x)
  | .le => decide (x ≤ y)
def tm_go (pc : Nat) (off : Int) : Nat := ((pc : Int) + off).toNat
/-- branches -/
def tm_br (i : tm_J) (pc : Nat) (st : List tm_V) : Option (Nat × List tm_V) := match i with
  | .ifCond c off => (match st with
    | .inl x :: r => if 0 ≤ (pc : Int) + off then some (if tm_cd c x 0 then tm_go pc off else pc + 3, r) else none
    | _ => none)
  | .if_icmp c off => (match st with
    | .inl y :: .inl x :: r => if 0 ≤ (pc : Int) + off then some (if tm_cd c x y then tm_go pc off else pc + 3, r) else none
    | _ => none)
  | .goto off => if 0 ≤ (pc : Int) + off then some (tm_go pc off, st) else none
  | _ => none
def tm_up (f : Nat → Int) (k : Nat) (x : Int) : Nat → Int := fun j => if j = k then x else f j
/-- an array by its place on the stack, of the kind t -/
def tm_ar (h : tm_H) (a t : Nat) : Option (Nat × (Nat → Int)) := match h[a]? with
  | some (.inl (t', n, f)) => if t' = t then some (n, f) else none
  | _ => none
def tm_ald (t : Nat) (w : Int → tm_V) (st : List tm_V) (h : tm_H) : Option (List tm_V × tm_H) := match st with
  | .inl i :: .inr (.inr (some a)) :: r => (match tm_ar h a t with
    | some (n, f) => if 0 ≤ i ∧ i < n then some (w (f i.toNat) :: r, h) else none
    | none => none)
  | _ => none
def tm_fit (ty : Nat) (v : tm_V) : Bool := match v with
  | .inl x => ty == 0 || (ty == 2 && (x == 0 || x == 1))
  | .inr (.inl _) => ty == 1
  | .inr (.inr (some _)) => ty == 3
  | .inr (.inr none) => false
/-- instructions of the heap: xs says which field (class, slot, kind of value), which kind of array -/
def tm_hp (i : tm_J) (xs : List Nat) (st : List tm_V) (h : tm_H) : Option (List tm_V × tm_H) := match i with
  | .getfield _ => (match st, xs with
    | .inr (.inr (some a)) :: r, ci :: sl :: _ => (match h[a]? with
      | some (.inr (cj, fs)) => if cj = ci then (match fs[sl]? with
        | some v => some (v :: r, h)
        | none => none) else none
      | _ => none)
    | _, _ => none)
  | .putfield _ => (match st, xs with
    | v :: .inr (.inr (some a)) :: r, ci :: sl :: ty :: _ => (match h[a]? with
      | some (.inr (cj, fs)) => if cj = ci ∧ sl < fs.length ∧ tm_fit ty v = true then some (r, h.set a (.inr (cj, fs.set sl v))) else none
      | _ => none)
    | _, _ => none)
  | .iaload => tm_ald 0 (fun x => .inl x) st h
  | .laload => tm_ald 1 (fun x => .inr (.inl x)) st h
  | .baload => tm_ald 2 (fun x => .inl x) st h
  | .iastore => (match st with
    | .inl x :: .inl i :: .inr (.inr (some a)) :: r => (match tm_ar h a 0 with
      | some (n, f) => if 0 ≤ i ∧ i < n then some (r, h.set a (.inl (0, n, tm_up f i.toNat x))) else none
      | none => none)
    | _ => none)
  | .lastore => (match st with
    | .inr (.inl x) :: .inl i :: .inr (.inr (some a)) :: r => (match tm_ar h a 1 with
      | some (n, f) => if 0 ≤ i ∧ i < n then some (r, h.set a (.inl (1, n, tm_up f i.toNat x))) else none
      | none => none)
    | _ => none)
  | .bastore => (match st with
    | .inl x :: .inl i :: .inr (.inr (some a)) :: r => (match tm_ar h a 2 with
      | some (n, f) => if (0 ≤ i ∧ i < n) ∧ (x = 0 ∨ x = 1) then some (r, h.set a (.inl (2, n, tm_up f i.toNat x))) else none
      | none => none)
    | _ => none)
  | .arraylength => (match st with
    | .inr (.inr (some a)) :: r => (match h[a]? with
      | some (.inl (t, n, _)) => if n < 2147483648 ∧ t < 3 then some (.inl (n : Int) :: r, h) else none
      | _ => none)
    | _ => none)
  | _ => none
def tm_args : Nat → List tm_V → tm_L
  | _, [] => []
  | i, v :: vs => (i, v) :: tm_args (if tm_cat v = 2 then i + 2 else i + 1) vs
def tm_sum (st : List tm_V) : Nat := (st.map tm_cat).sum
/-- new cells: an object of class ci with these first values, an array of kind t -/
def tm_nw (df : Nat → List tm_V) (i : tm_J) (xs : List Nat) (st : List tm_V) : Option (List tm_V × tm_C × Nat) := match i with
  | .new _ => (match xs with
    | ci :: _ => some (st, .inr (ci, df ci), (df ci).length)
    | _ => none)
  | .newarray _ => (match st, xs with
    | .inl n :: r, t :: _ => if 0 ≤ n ∧ n < 65536 then some (r, .inl (t, n.toNat, fun _ => 0), n.toNat) else none
    | _, _ => none)
  | _ => none
/-- a constant of the pool -/
def tm_kc (i : tm_J) (xs : List Nat) (c : Int) (st : List tm_V) : Option (List tm_V) := match i with
  | .ldc _ => if -2147483648 ≤ c ∧ c < 2147483648 then some (.inl c :: st) else none
  | .ldc2_w _ => if -9223372036854775808 ≤ c ∧ c < 9223372036854775808 then some (.inr (.inl c) :: st) else none
  | _ => none
/-- what kind of instruction: 0 stack, 1 locals, 2 branch, 3 heap, 4 new, 5 constant, 6 return, 7 call, 8 Object's constructor -/
def tm_kd (i : tm_J) (xs : List Nat) : Nat := match i with
  | .iload_n _ => 1
  | .iload _ => 1
  | .lload_n _ => 1
  | .lload _ => 1
  | .aload_n _ => 1
  | .aload _ => 1
  | .istore_n _ => 1
  | .istore _ => 1
  | .lstore_n _ => 1
  | .lstore _ => 1
  | .astore_n _ => 1
  | .astore _ => 1
  | .iinc _ _ => 1
  | .ifCond _ _ => 2
  | .if_icmp _ _ => 2
  | .goto _ => 2
  | .getfield _ => 3
  | .putfield _ => 3
  | .iaload => 3
  | .laload => 3
  | .baload => 3
  | .iastore => 3
  | .lastore => 3
  | .bastore => 3
  | .arraylength => 3
  | .new _ => 4
  | .newarray _ => 4
  | .ldc _ => 5
  | .ldc2_w _ => 5
  | .ireturn => 6
  | .lreturn => 6
  | .return_ => 6
  | .invokevirtual _ => 7
  | .invokestatic _ => 7
  | .invokespecial _ => (match xs with
    | [_, _, _] => 8
    | _ => 7)
  | _ => 0
/-- a method's end: rt says what it returns: 0 int, 1 long, 2 boolean, 4 nothing -/
def tm_rt (i : tm_J) (rt : Nat) (st : List tm_V) : Option (Option tm_V) := match i, st with
  | .ireturn, [.inl x] => if rt = 0 ∨ (rt = 2 ∧ (x = 0 ∨ x = 1)) then some (some (.inl x)) else none
  | .lreturn, [.inr (.inl x)] => if rt = 1 then some (some (.inr (.inl x))) else none
  | .return_, [] => if rt = 4 then some none else none
  | _, _ => none
/-- the one who is called is there -/
def tm_rc (i : tm_J) (xs : List Nat) (as : List tm_V) (h : tm_H) : Bool := match i with
  | .invokevirtual _ => (match as, xs with
    | .inr (.inr (some a)) :: _, _ :: _ :: ci :: _ => (match h[a]? with
      | some (.inr (cj, _)) => cj == ci
      | _ => false)
    | _, _ => false)
  | .invokespecial _ => (match as with
    | .inr (.inr (some _)) :: _ => true
    | _ => false)
  | .invokestatic _ => true
  | _ => false
/-- the run of method k from pc on: nL its locals, rt its answer's kind; bc, bs: cells and slots that it may still make -/
def tm_run (tb : Nat → Nat → Option tm_I) (mi : Nat → Nat × Nat × Nat × Nat) (df : Nat → List tm_V) : Nat → Nat → Nat → tm_L → List tm_V → tm_H → Nat → Nat → Option (Option tm_V × tm_H)
  | 0, _, _, _, _, _, _, _ => none
  | n + 1, k, pc, lo, st, h, bc, bs => match tb k pc with
    | none => none
    | some (i, xs, c) => match tm_kd i xs with
      | 0 => (match tm_pu i st with
        | some st' => tm_run tb mi df n k (pc + tm_len i) lo st' h bc bs
        | none => none)
      | 1 => (match tm_lo (mi k).1 i lo st with
        | some (lo', st') => tm_run tb mi df n k (pc + tm_len i) lo' st' h bc bs
        | none => none)
      | 2 => (match tm_br i pc st with
        | some (pc', st') => tm_run tb mi df n k pc' lo st' h bc bs
        | none => none)
      | 3 => (match tm_hp i xs st h with
        | some (st', h') => tm_run tb mi df n k (pc + tm_len i) lo st' h' bc bs
        | none => none)
      | 4 => (match tm_nw df i xs st with
        | some (st', qc, z) => if 1 ≤ bc ∧ z ≤ bs then tm_run tb mi df n k (pc + tm_len i) lo (.inr (.inr (some h.length)) :: st') (h ++ [qc]) (bc - 1) (bs - z) else none
        | none => none)
      | 5 => (match tm_kc i xs c st with
        | some st' => tm_run tb mi df n k (pc + tm_len i) lo st' h bc bs
        | none => none)
      | 6 => (match tm_rt i (mi k).2.1 st with
        | some v => some (v, h)
        | none => none)
      | 7 => (match xs with
        | y :: na :: _ => if na ≤ st.length ∧ tm_sum (st.drop na) ≤ 8 ∧ (mi y).2.2.1 ≤ bc ∧ (mi y).2.2.2 ≤ bs ∧ tm_sum (st.take na) ≤ (mi y).1 ∧ tm_rc i xs (st.take na).reverse h = true then
            (match tm_run tb mi df n y 0 (tm_args 0 (st.take na).reverse) [] h (mi y).2.2.1 (mi y).2.2.2 with
            | some (v, h') => tm_run tb mi df n k (pc + 3) lo (v.toList ++ st.drop na) h' (bc - (mi y).2.2.1) (bs - (mi y).2.2.2)
            | none => none) else none
        | _ => none)
      | 8 => (match st with
        | .inr (.inr (some _)) :: r => if tm_sum r ≤ 8 then tm_run tb mi df n k (pc + 3) lo r h bc bs else none
        | _ => none)
      | _ => none
