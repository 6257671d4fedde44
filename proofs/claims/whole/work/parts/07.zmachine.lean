/-! THE SMALL MACHINE. Values: an int, a long (both as whole numbers), a reference (the number of a cell since the law's start; none: null), a text constant (its number). -/
abbrev kV : Type := Int ⊕ Int ⊕ Option Nat ⊕ Nat
/-- a cell: an array of numbers (kind, length, contents; kinds 0 int, 1 byte, 2 short, 3 long, 4 boolean), an array of references (the class of its parts, length, contents), an object (its class, its fields) -/
abbrev kE : Type := (Nat × Nat × (Nat → Int)) ⊕ (Nat × Nat × (Nat → Option Nat)) ⊕ (Nat × List kV)
/-- a heap: how many cells, how many places in them, the cells -/
abbrev kH : Type := Nat × Nat × (Nat → Option kE)
/-- a number as 32 bits keep it, as 64 bits keep it -/
def wI (x : Int) : Int := x.bmod 4294967296
def wL (x : Int) : Int := x.bmod 18446744073709551616
def kput (h : kH) (k : Nat) (e : kE) : kH := (h.1, h.2.1, fun j => if j = k then some e else h.2.2 j)
def kadd (h : kH) (z : Nat) (e : kE) : kH := (h.1 + 1, h.2.1 + z, fun j => if j = h.1 then some e else h.2.2 j)
def kup {α : Type} (f : Nat → α) (k : Nat) (x : α) : Nat → α := fun j => if j = k then x else f j
/-- bit by bit, and what else has no plain word over whole numbers -/
def kand (a b : Int) : Int := (Int32.ofInt a &&& Int32.ofInt b).toInt
def kor (a b : Int) : Int := (Int32.ofInt a ||| Int32.ofInt b).toInt
def kxor (a b : Int) : Int := (Int32.ofInt a ^^^ Int32.ofInt b).toInt
def kdiv (a b : Int) : Int := (Int32.ofInt a / Int32.ofInt b).toInt
def krem (a b : Int) : Int := (Int32.ofInt a - Int32.ofInt a / Int32.ofInt b * Int32.ofInt b).toInt
def kshl (a b : Int) : Int := (Int32.ofInt a <<< (Int32.ofInt b &&& 31)).toInt
def kshr (a b : Int) : Int := (Int32.ofInt a >>> (Int32.ofInt b &&& 31)).toInt
def kushr (a b : Int) : Int := ((Int32.ofInt a).toUInt32 >>> ((Int32.ofInt b).toUInt32 &&& Int32.toUInt32 31)).toInt32.toInt
def klnd (a b : Int) : Int := (Int64.ofInt a &&& Int64.ofInt b).toInt
def klor (a b : Int) : Int := (Int64.ofInt a ||| Int64.ofInt b).toInt
def klxor (a b : Int) : Int := (Int64.ofInt a ^^^ Int64.ofInt b).toInt
def kldiv (a b : Int) : Int := (Int64.ofInt a / Int64.ofInt b).toInt
def klrem (a b : Int) : Int := (Int64.ofInt a - Int64.ofInt a / Int64.ofInt b * Int64.ofInt b).toInt
def klshl (a b : Int) : Int := (Int64.ofInt a <<< ((Int32.ofInt b).toInt64 &&& 63)).toInt
def klshr (a b : Int) : Int := (Int64.ofInt a >>> ((Int32.ofInt b).toInt64 &&& 63)).toInt
def klushr (a b : Int) : Int := ((Int64.ofInt a).toUInt64 >>> ((Int32.ofInt b).toInt64.toUInt64 &&& Int64.toUInt64 63)).toInt64.toInt
def ki2b (a : Int) : Int := (Int32.ofInt a).toInt8.toInt32.toInt
def ki2s (a : Int) : Int := (Int32.ofInt a).toInt16.toInt32.toInt
def klcmp (a b : Int) : Int := if b < a then 1 else if a = b then 0 else -1
/-- a condition of a branch -/
def kcnd (c : Jvm.ClassFile.Cond) (a b : Int) : Bool := match c with
  | .eq => decide (a = b)
  | .ne => !decide (a = b)
  | .lt => decide (a < b)
  | .ge => decide (b ≤ a)
  | .gt => decide (b < a)
  | .le => decide (a ≤ b)
/-- the locals: each a value, or nothing known. A long takes two. -/
abbrev kLs : Type := List (Option kV)
def kislong (v : kV) : Bool := match v with
  | .inr (.inl _) => true
  | _ => false
/-- a store at i makes an end of a long that stood just ahead -/
def kclr (L : kLs) (i : Nat) : kLs := match i with
  | 0 => L
  | j + 1 => match L[j]? with
    | some (some (.inr (.inl _))) => L.set j none
    | _ => L
def kst1 (L : kLs) (i : Nat) (v : kV) : kLs := (kclr L i).set i (some v)
def kst2 (L : kLs) (i : Nat) (v : kV) : kLs := ((kclr L i).set i (some v)).set (i + 1) none
/-- the locals at a method's entry -/
def kargs : List kV → kLs
  | [] => []
  | v :: r => if kislong v = true then some v :: none :: kargs r else some v :: kargs r
def kent (vs : List kV) (n : Nat) : kLs := kargs vs ++ List.replicate (n - (kargs vs).length) none
/-- how much room what is left on the stack takes -/
def kwt (v : kV) : Nat := if kislong v = true then 2 else 1
def kwts (st : List kV) : Nat := (st.map kwt).sum
/-- does a value fit a field of a kind: 0 int, 3 long, 4 boolean, 5 reference -/
def kfit (t : Nat) (v : kV) : Bool := match t, v with
  | 0, .inl _ => true
  | 3, .inr (.inl _) => true
  | 4, .inl x => decide (x = 0 ∨ x = 1)
  | 5, .inr (.inr (.inl _)) => true
  | _, _ => false
def kdef0 (t : Nat) : kV := match t with
  | 0 => .inl 0
  | 4 => .inl 0
  | 3 => .inr (.inl 0)
  | _ => .inr (.inr (.inl none))
def kkind (t : ArrayType) : Option Nat := match t with
  | .int => some 0
  | .byte => some 1
  | .short => some 2
  | .long => some 3
  | .boolean => some 4
  | _ => none
def kcpy (f g : Nat → Int) (sp dp n : Nat) : Nat → Int := fun k => if dp ≤ k ∧ k < dp + n then f (sp + (k - dp)) else g k
section KST
-- fk ci: the kinds of a class's fields; sx: the bytes of the text constants
variable (fk : Nat → List Nat) (sx : Nat → List Int)
/-- what an instruction does that is no call and no return. Operands are resolved: a place of a jump is the number of an instruction; a field is 100 * class + number; sipush: a long constant; ldc: a text; fneg: Object.<init>; fadd: System.arraycopy; fsub: String.length; fmul: String.charAt. The text 99 is the script: iaload, arraylength -/
def kst (ins : Instr) (pc : Nat) (L : kLs) (st : List kV) (h : kH) : Option (Nat × kLs × List kV × kH) :=
  match ins with
  | .iconst x => some (pc + 1, L, .inl x :: st, h)
  | .sipush x => some (pc + 1, L, .inr (.inl x) :: st, h)
  | .ldc j => some (pc + 1, L, .inr (.inr (.inr j)) :: st, h)
  | .aconst_null => some (pc + 1, L, .inr (.inr (.inl none)) :: st, h)
  | .iload i => match L[i]? with
    | some (some (.inl x)) => some (pc + 1, L, .inl x :: st, h)
    | _ => none
  | .lload i => match L[i]? with
    | some (some (.inr (.inl x))) => some (pc + 1, L, .inr (.inl x) :: st, h)
    | _ => none
  | .aload i => match L[i]? with
    | some (some (.inr (.inr x))) => some (pc + 1, L, .inr (.inr x) :: st, h)
    | _ => none
  | .istore i => match st with
    | .inl x :: st => if i < L.length then some (pc + 1, kst1 L i (.inl x), st, h) else none
    | _ => none
  | .lstore i => match st with
    | .inr (.inl x) :: st => if i + 1 < L.length then some (pc + 1, kst2 L i (.inr (.inl x)), st, h) else none
    | _ => none
  | .astore i => match st with
    | .inr (.inr x) :: st => if i < L.length then some (pc + 1, kst1 L i (.inr (.inr x)), st, h) else none
    | _ => none
  | .iinc i k => match L[i]? with
    | some (some (.inl x)) => some (pc + 1, kst1 L i (.inl (wI (x + k))), st, h)
    | _ => none
  | .iadd => match st with
    | .inl b :: .inl a :: st => some (pc + 1, L, .inl (wI (a + b)) :: st, h)
    | _ => none
  | .isub => match st with
    | .inl b :: .inl a :: st => some (pc + 1, L, .inl (wI (a - b)) :: st, h)
    | _ => none
  | .imul => match st with
    | .inl b :: .inl a :: st => some (pc + 1, L, .inl (wI (a * b)) :: st, h)
    | _ => none
  | .iand => match st with
    | .inl b :: .inl a :: st => some (pc + 1, L, .inl (kand a b) :: st, h)
    | _ => none
  | .ior => match st with
    | .inl b :: .inl a :: st => some (pc + 1, L, .inl (kor a b) :: st, h)
    | _ => none
  | .ixor => match st with
    | .inl b :: .inl a :: st => some (pc + 1, L, .inl (kxor a b) :: st, h)
    | _ => none
  | .idiv => match st with
    | .inl b :: .inl a :: st => if b = 0 then none else some (pc + 1, L, .inl (kdiv a b) :: st, h)
    | _ => none
  | .irem => match st with
    | .inl b :: .inl a :: st => if b = 0 then none else some (pc + 1, L, .inl (krem a b) :: st, h)
    | _ => none
  | .ineg => match st with
    | .inl a :: st => some (pc + 1, L, .inl (wI (-a)) :: st, h)
    | _ => none
  | .ishl => match st with
    | .inl b :: .inl a :: st => some (pc + 1, L, .inl (kshl a b) :: st, h)
    | _ => none
  | .ishr => match st with
    | .inl b :: .inl a :: st => some (pc + 1, L, .inl (kshr a b) :: st, h)
    | _ => none
  | .iushr => match st with
    | .inl b :: .inl a :: st => some (pc + 1, L, .inl (kushr a b) :: st, h)
    | _ => none
  | .ladd => match st with
    | .inr (.inl b) :: .inr (.inl a) :: st => some (pc + 1, L, .inr (.inl (wL (a + b))) :: st, h)
    | _ => none
  | .lsub => match st with
    | .inr (.inl b) :: .inr (.inl a) :: st => some (pc + 1, L, .inr (.inl (wL (a - b))) :: st, h)
    | _ => none
  | .lmul => match st with
    | .inr (.inl b) :: .inr (.inl a) :: st => some (pc + 1, L, .inr (.inl (wL (a * b))) :: st, h)
    | _ => none
  | .land => match st with
    | .inr (.inl b) :: .inr (.inl a) :: st => some (pc + 1, L, .inr (.inl (klnd a b)) :: st, h)
    | _ => none
  | .lor => match st with
    | .inr (.inl b) :: .inr (.inl a) :: st => some (pc + 1, L, .inr (.inl (klor a b)) :: st, h)
    | _ => none
  | .lxor => match st with
    | .inr (.inl b) :: .inr (.inl a) :: st => some (pc + 1, L, .inr (.inl (klxor a b)) :: st, h)
    | _ => none
  | .ldiv => match st with
    | .inr (.inl b) :: .inr (.inl a) :: st => if b = 0 then none else some (pc + 1, L, .inr (.inl (kldiv a b)) :: st, h)
    | _ => none
  | .lrem => match st with
    | .inr (.inl b) :: .inr (.inl a) :: st => if b = 0 then none else some (pc + 1, L, .inr (.inl (klrem a b)) :: st, h)
    | _ => none
  | .lneg => match st with
    | .inr (.inl a) :: st => some (pc + 1, L, .inr (.inl (wL (-a))) :: st, h)
    | _ => none
  | .lshl => match st with
    | .inl b :: .inr (.inl a) :: st => some (pc + 1, L, .inr (.inl (klshl a b)) :: st, h)
    | _ => none
  | .lshr => match st with
    | .inl b :: .inr (.inl a) :: st => some (pc + 1, L, .inr (.inl (klshr a b)) :: st, h)
    | _ => none
  | .lushr => match st with
    | .inl b :: .inr (.inl a) :: st => some (pc + 1, L, .inr (.inl (klushr a b)) :: st, h)
    | _ => none
  | .i2l => match st with
    | .inl a :: st => some (pc + 1, L, .inr (.inl a) :: st, h)
    | _ => none
  | .l2i => match st with
    | .inr (.inl a) :: st => some (pc + 1, L, .inl (wI a) :: st, h)
    | _ => none
  | .i2b => match st with
    | .inl a :: st => some (pc + 1, L, .inl (ki2b a) :: st, h)
    | _ => none
  | .i2s => match st with
    | .inl a :: st => some (pc + 1, L, .inl (ki2s a) :: st, h)
    | _ => none
  | .lcmp => match st with
    | .inr (.inl b) :: .inr (.inl a) :: st => some (pc + 1, L, .inl (klcmp a b) :: st, h)
    | _ => none
  | .dup => match st with
    | v :: st => if kislong v = true then none else some (pc + 1, L, v :: v :: st, h)
    | _ => none
  | .pop => match st with
    | v :: st => if kislong v = true then none else some (pc + 1, L, st, h)
    | _ => none
  | .dup2 => match st with
    | v :: w :: st => if kislong v = true ∨ kislong w = true then none else some (pc + 1, L, v :: w :: v :: w :: st, h)
    | _ => none
  | .ifCond c t => match st with
    | .inl a :: st => some (if kcnd c a 0 = true then t.toNat else pc + 1, L, st, h)
    | _ => none
  | .if_icmp c t => match st with
    | .inl b :: .inl a :: st => some (if kcnd c a b = true then t.toNat else pc + 1, L, st, h)
    | _ => none
  | .ifnull t => match st with
    | .inr (.inr (.inl r)) :: st => some (if r = none then t.toNat else pc + 1, L, st, h)
    | _ => none
  | .ifnonnull t => match st with
    | .inr (.inr (.inl r)) :: st => some (if r = none then pc + 1 else t.toNat, L, st, h)
    | _ => none
  | .goto t => some (t.toNat, L, st, h)
  | .tableswitch d lo hi os => match st with
    | .inl a :: st => (if a < lo ∨ hi < a then some (d.toNat, L, st, h) else match os[(a - lo).toNat]? with
      | some t => some (t.toNat, L, st, h)
      | none => none)
    | _ => none
  | .lookupswitch d ps => match st with
    | .inl a :: st => some ((Op.lookupswitch.offset ps.toList d a).toNat, L, st, h)
    | _ => none
  | .getfield q => match st with
    | .inr (.inr (.inl (some a))) :: st => (match h.2.2 a with
      | some (.inr (.inr (ci, fs))) => if ci = q / 100 then match fs[q % 100]? with
          | some v => some (pc + 1, L, v :: st, h)
          | none => none
        else none
      | _ => none)
    | _ => none
  | .putfield q => match st with
    | v :: .inr (.inr (.inl (some a))) :: st => (match h.2.2 a with
      | some (.inr (.inr (ci, fs))) => if ci = q / 100 ∧ q % 100 < fs.length ∧ kfit ((fk (q / 100)).getD (q % 100) 9) v = true then some (pc + 1, L, st, kput h a (.inr (.inr (ci, fs.set (q % 100) v)))) else none
      | _ => none)
    | _ => none
  | .iaload => match st with
    | .inl i :: .inr (.inr (.inl (some a))) :: st => (match h.2.2 a with
      | some (.inl (0, n, f)) => if 0 ≤ i ∧ i < n then some (pc + 1, L, .inl (f i.toNat) :: st, h) else none
      | _ => none)
    | .inl i :: .inr (.inr (.inr j)) :: st => if j = 99 ∧ 0 ≤ i ∧ i < (sx 99).length then some (pc + 1, L, .inl ((sx 99).getD i.toNat 0) :: st, h) else none
    | _ => none
  | .baload => match st with
    | .inl i :: .inr (.inr (.inl (some a))) :: st => (match h.2.2 a with
      | some (.inl (1, n, f)) => if 0 ≤ i ∧ i < n then some (pc + 1, L, .inl (f i.toNat) :: st, h) else none
      | some (.inl (4, n, f)) => if 0 ≤ i ∧ i < n then some (pc + 1, L, .inl (f i.toNat) :: st, h) else none
      | _ => none)
    | _ => none
  | .saload => match st with
    | .inl i :: .inr (.inr (.inl (some a))) :: st => (match h.2.2 a with
      | some (.inl (2, n, f)) => if 0 ≤ i ∧ i < n then some (pc + 1, L, .inl (f i.toNat) :: st, h) else none
      | _ => none)
    | _ => none
  | .laload => match st with
    | .inl i :: .inr (.inr (.inl (some a))) :: st => (match h.2.2 a with
      | some (.inl (3, n, f)) => if 0 ≤ i ∧ i < n then some (pc + 1, L, .inr (.inl (f i.toNat)) :: st, h) else none
      | _ => none)
    | _ => none
  | .aaload => match st with
    | .inl i :: .inr (.inr (.inl (some a))) :: st => (match h.2.2 a with
      | some (.inr (.inl (t, n, f))) => if 0 ≤ i ∧ i < n ∧ (t = 4 ∨ t = 7) then some (pc + 1, L, .inr (.inr (.inl (f i.toNat))) :: st, h) else none
      | _ => none)
    | _ => none
  | .iastore => match st with
    | .inl x :: .inl i :: .inr (.inr (.inl (some a))) :: st => (match h.2.2 a with
      | some (.inl (0, n, f)) => if 0 ≤ i ∧ i < n then some (pc + 1, L, st, kput h a (.inl (0, n, kup f i.toNat x))) else none
      | _ => none)
    | _ => none
  | .bastore => match st with
    | .inl x :: .inl i :: .inr (.inr (.inl (some a))) :: st => (match h.2.2 a with
      | some (.inl (1, n, f)) => if 0 ≤ i ∧ i < n then some (pc + 1, L, st, kput h a (.inl (1, n, kup f i.toNat (ki2b x)))) else none
      | some (.inl (4, n, f)) => if 0 ≤ i ∧ i < n ∧ (x = 0 ∨ x = 1) then some (pc + 1, L, st, kput h a (.inl (4, n, kup f i.toNat x))) else none
      | _ => none)
    | _ => none
  | .sastore => match st with
    | .inl x :: .inl i :: .inr (.inr (.inl (some a))) :: st => (match h.2.2 a with
      | some (.inl (2, n, f)) => if 0 ≤ i ∧ i < n then some (pc + 1, L, st, kput h a (.inl (2, n, kup f i.toNat (ki2s x)))) else none
      | _ => none)
    | _ => none
  | .lastore => match st with
    | .inr (.inl x) :: .inl i :: .inr (.inr (.inl (some a))) :: st => (match h.2.2 a with
      | some (.inl (3, n, f)) => if 0 ≤ i ∧ i < n then some (pc + 1, L, st, kput h a (.inl (3, n, kup f i.toNat x))) else none
      | _ => none)
    | _ => none
  | .aastore => match st with
    | .inr (.inr (.inl (some b))) :: .inl i :: .inr (.inr (.inl (some a))) :: st => (match h.2.2 a, h.2.2 b with
      | some (.inr (.inl (t, n, f))), some (.inr (.inr (ci, _))) => if 0 ≤ i ∧ i < n ∧ ci = t ∧ (t = 4 ∨ t = 7) then some (pc + 1, L, st, kput h a (.inr (.inl (t, n, kup f i.toNat (some b))))) else none
      | _, _ => none)
    | _ => none
  | .arraylength => match st with
    | .inr (.inr (.inl (some a))) :: st => (match h.2.2 a with
      | some (.inl (t, n, _)) => if t ≤ 4 then some (pc + 1, L, .inl n :: st, h) else none
      | _ => none)
    | .inr (.inr (.inr j)) :: st => if j = 99 then some (pc + 1, L, .inl (sx 99).length :: st, h) else none
    | _ => none
  | .newarray ty => match st with
    | .inl n :: st => (match kkind ty with
      | some t => if 0 ≤ n ∧ n ≤ 1000000 then some (pc + 1, L, .inr (.inr (.inl (some h.1))) :: st, kadd h n.toNat (.inl (t, n.toNat, fun _ => 0))) else none
      | none => none)
    | _ => none
  | .anewarray t => match st with
    | .inl n :: st => if 0 ≤ n ∧ n ≤ 1000000 ∧ (t = 4 ∨ t = 7) then some (pc + 1, L, .inr (.inr (.inl (some h.1))) :: st, kadd h n.toNat (.inr (.inl (t, n.toNat, fun _ => none)))) else none
    | _ => none
  | .new ci => some (pc + 1, L, .inr (.inr (.inl (some h.1))) :: st, kadd h (fk ci).length (.inr (.inr (ci, (fk ci).map kdef0))))
  | .fneg => match st with
    | .inr (.inr (.inl (some _))) :: st => if kwts st ≤ 8 then some (pc + 1, L, st, h) else none
    | _ => none
  | .fadd => match st with
    | .inl n :: .inl dp :: .inr (.inr (.inl (some a))) :: .inl sp :: .inr (.inr (.inl (some b))) :: st => (match h.2.2 b, h.2.2 a with
      | some (.inl (0, nb, f)), some (.inl (0, na, g)) => if 0 ≤ n ∧ 0 ≤ dp ∧ 0 ≤ sp ∧ sp + n ≤ nb ∧ dp + n ≤ na ∧ kwts st ≤ 8 then some (pc + 1, L, st, kput h a (.inl (0, na, kcpy f g sp.toNat dp.toNat n.toNat))) else none
      | _, _ => none)
    | _ => none
  | .fsub => match st with
    | .inr (.inr (.inr j)) :: st => if j < 30 ∧ kwts st ≤ 8 then some (pc + 1, L, .inl (sx j).length :: st, h) else none
    | _ => none
  | .fmul => match st with
    | .inl i :: .inr (.inr (.inr j)) :: st => if j < 30 ∧ 0 ≤ i ∧ i < (sx j).length ∧ kwts st ≤ 8 then some (pc + 1, L, .inl ((sx j).getD i.toNat 0) :: st, h) else none
    | _ => none
  | _ => none
/-- a method's end: rk its kind of answer: 0 none, 1 int, 2 boolean, 3 long, 4 a reference -/
def kret (rk : Nat) (ins : Instr) (st : List kV) : Option (Option kV) :=
  match ins, rk, st with
  | .return_, 0, [] => some none
  | .ireturn, 1, [.inl x] => some (some (.inl x))
  | .ireturn, 2, [.inl x] => if x = 0 ∨ x = 1 then some (some (.inl x)) else none
  | .lreturn, 3, [.inr (.inl x)] => some (some (.inr (.inl x)))
  | .areturn, 4, [.inr (.inr x)] => some (some (.inr (.inr x)))
  | _, _, _ => none
-- ms: the methods: code, locals, how many arguments (this among them), kind of answer, class (1000: static)
variable (ms : Nat → Option (List Instr × Nat × Nat × Nat × Nat))
def krcv (h : kH) (ci : Nat) (v : Option kV) : Bool := match v with
  | some (.inr (.inr (.inl (some a)))) => match h.2.2 a with
    | some (.inr (.inr (ci', _))) => decide (ci' = ci)
    | _ => false
  | _ => false
def kcallee (ins : Instr) : Option (Nat × Nat) := match ins with
  | .invokestatic c => some (0, c)
  | .invokespecial c => some (1, c)
  | .invokevirtual c => some (2, c)
  | _ => none
def kcall (ins : Instr) (st : List kV) (h : kH) : Option (Nat × List Instr × Nat × kLs × List kV) :=
  match kcallee ins with
  | none => none
  | some (kd, c) => match ms c with
    | none => none
    | some (cd, ml, na, rk, ci) =>
      if na ≤ st.length ∧ (kargs (st.take na).reverse).length ≤ ml ∧ kwts (st.drop na) ≤ 8 ∧ (kd = 0 → ci = 1000) ∧ (kd ≠ 0 → ci ≠ 1000 ∧ krcv h ci (st.take na).reverse.head? = true) ∧ (kd = 1 → rk = 0) then
        some (c, cd, rk, kent (st.take na).reverse ml, st.drop na)
      else none
/-- the machine: n steps at most (in a callee too), d calls deep at most -/
def kx : Nat → Nat → List Instr → Nat → Nat → kLs → List kV → kH → Option (Option kV × kH)
  | 0, _, _, _, _, _, _, _ => none
  | n + 1, d, cd, rk, pc, L, st, h => match cd[pc]? with
    | none => none
    | some ins => match kcallee ins with
      | some _ => match d, kcall ms ins st h with
        | d' + 1, some (_, cd', rk', L', rest) => match kx n d' cd' rk' 0 L' [] h with
          | some (rv, h') => kx n d cd rk (pc + 1) L (rv.toList ++ rest) h'
          | none => none
        | _, _ => none
      | none => match kret rk ins st with
        | some rv => some (rv, h)
        | none => match kst fk sx ins pc L st h with
          | some (pc', L', st', h') => kx n d cd rk pc' L' st' h'
          | none => none
end KST
