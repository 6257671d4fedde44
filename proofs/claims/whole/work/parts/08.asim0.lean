/-! THE SIMULATION. A value, a cell of the small machine, as the real machine has them. -/
def kc (base : Nat) (ad : Nat → Nat) (v : kV) : Value := match v with
  | .inl x => .int (Int32.ofInt x)
  | .inr (.inl x) => .long (Int64.ofInt x)
  | .inr (.inr (.inl none)) => .null
  | .inr (.inr (.inl (some k))) => .ref (base + k)
  | .inr (.inr (.inr j)) => .ref (ad j)
def kR32 (x : Int) : Prop := -2147483648 ≤ x ∧ x ≤ 2147483647
def kR64 (x : Int) : Prop := -9223372036854775808 ≤ x ∧ x ≤ 9223372036854775807
def kOK (v : kV) : Prop := match v with
  | .inl x => kR32 x
  | .inr (.inl x) => kR64 x
  | _ => True
def kce (base : Nat) (ad : Nat → Nat) (cT : Nat → ClassId) (e : kE) : va_E := match e with
  | .inl (3, n, f) => .inl (cT 3, n, .inr (.inl (fun j => Int64.ofInt (f j))))
  | .inl (t, n, f) => .inl (cT t, n, .inl (fun j => Int32.ofInt (f j)))
  | .inr (.inl (ci, n, f)) => .inl (cT (10 + ci), n, .inr (.inr (.inr (.inr (fun j => (f j).map (fun k => base + k))))))
  | .inr (.inr (ci, fs)) => .inr (ci, fs.map (kc base ad))
def kEOK (e : kE) : Prop := match e with
  | .inl (3, n, f) => n ≤ 1000000 ∧ ∀ j, kR64 (f j)
  | .inl (_, n, f) => n ≤ 1000000 ∧ ∀ j, kR32 (f j)
  | .inr (.inl (_, n, _)) => n ≤ 1000000
  | .inr (.inr (_, fs)) => ∀ v ∈ fs, kOK v
/-- the heap, from the cell 'base' on, is the small machine's -/
def kHR (base : Nat) (ad : Nat → Nat) (cT : Nat → ClassId) (D : va_G) (h : kH) (H : Heap) : Prop := H.size = base + h.1 ∧ ∀ (k : Nat) (e : kE), h.2.2 k = some e → k < h.1 ∧ kEOK e ∧ va_at D kCl (base + k, kce base ad cT e) H
def kLR (base : Nat) (ad : Nat → Nat) (L : kLs) (ls : Array Slot) (n : Nat) : Prop := L.length = n ∧ (∀ (i : Nat) (v : kV), L[i]? = some (some v) → kOK v) ∧ ls.size = n ∧ lv_wf ls ∧ ∀ (i : Nat) (v : kV), L[i]? = some (some v) → ls[i]? = some (.val (kc base ad v))
def ktys (cT : Nat → ClassId) : List (ClassId × FieldType) := [(cT 0, .int), (cT 1, .byte), (cT 2, .short), (cT 3, .long), (cT 4, .boolean), (cT 14, .object "KnotTown$Rule"), (cT 17, .object "KnotTown$Stand")]
def kA (base : Nat) : Nat → Prop := fun q => base ≤ q
/-- the text constants' own words: where the pools' entries point, what the cells there hold -/
def kStr (base : Nat) (ad : Nat → Nat) (s : State) (H : Heap) : Prop :=
  (∀ q ∈ kKS, vk_R (kon q.1) q.2.1 (kstx.getD q.2.2 "") (ad q.2.2) s) ∧ (va_Z "java/lang/String" "COMPACT_STRINGS" "Z" (.int 1) (kA base) s H ∧ va_Zq "jdk/internal/util/Preconditions" "SIOOBE_FORMATTER" "Ljava/util/function/BiFunction;" (kA base) s H) ∧
  (∃ adV : Nat → Nat, ∀ j : Nat, j < 30 → va_O "java/lang/String" (ad j) (kA base) s H ∧ va_OF "java/lang/String" "coder" "B" (.int 0) (ad j) (kA base) s H ∧ va_OF "java/lang/String" "value" "[B" (.ref (adV j)) (ad j) (kA base) s H ∧ va_T .byte (adV j) (kstrs.getD j []).length (fun i => .int (Int32.ofInt ((kstrs.getD j []).getD i 0))) (kA base) s H)
/-- the script -/
def kScr (base : Nat) (ad : Nat → Nat) (sc : List Int) (s : State) (H : Heap) : Prop :=
  va_X (ad 99) sc.length (fun j => Int32.ofInt (sc.getD j 0)) s H ∧ ad 99 < base ∧ sc.length ≤ 3072 ∧ ∀ x ∈ sc, kR32 x
def kSt (base : Nat) (ad : Nat → Nat) (cT : Nat → ClassId) (D : va_G) (sc : List Int) (s : State) : Prop :=
  va_K D kCl (ktys cT) s ∧ (∀ q ∈ kMN, va_Nw (.methodLinkNest (kon q.1) q.2.1 (kyn q.2.2) "KnotTown") s) ∧ va_AO "KnotTown$Rule" s ∧ va_AO "KnotTown$Stand" s ∧ kStr base ad s s.heap ∧ kScr base ad sc s s.heap ∧ base ≤ s.heap.size
def kaD : MethodName × ByteArray × Nat × Option FieldType × Nat := (⟨"", "", ""⟩, code, 0, none, 0)
def kaq (c : Nat) : MethodName × ByteArray × Nat × Option FieldType × Nat := kAll.getD c kaD
def kmq (c : Nat) : List Instr × Nat × Nat × Nat × Nat := kMl.getD c ([], 0, 0, 0, 0)
/-- where the instruction number i of a method stands -/
def kds (c : Nat) : List (Nat × Instr × Nat) := kdecl (kaq c).2.1.size (kaq c).2.1 0
def kofs (c i : Nat) : Nat := match (kds c)[i]? with
  | some q => q.1
  | none => match (kds c)[i - 1]? with
    | some q => q.1 + q.2.2
    | none => 0
def kCx (p : Program) (s : State) (mid : MethodId) (args : Array Value) (meth : Method) (cc : Code) (c base : Nat) (ad : Nat → Nat) (cT : Nat → ClassId) (D : va_G) (sc : List Int) : Prop :=
  p.tables.exec = Jvm.exec ∧ cc.code = (kaq c).2.1 ∧ cc.maxLocals = (kaq c).2.2.1 ∧ meth.sig.returnType = (kaq c).2.2.2.1 ∧ meth.locks = false ∧ s.vm.findClass (kon (kaq c).2.2.2.2) = some mid.cls ∧ (∀ w ∈ kG, w.before args s = true) ∧ meth.name = (kaq c).1.name ∧ kSt base ad cT D sc s
/-- the real machine goes on from here to Q -/
def kZ (p : Program) (l : Launch) (e : Env) (R : Room) (s : State) (mid : MethodId) (args : Array Value) (below : List Frame) (meth : Method) (cc : Code) (c base : Nat) (ad : Nat → Nat) (cT : Nat → ClassId) (D : va_G) (n0 m0 : Nat) (Q : State → Prop) (pc : Nat) (L : kLs) (st : List kV) (h : kH) : Prop :=
  ∀ (H : Heap) (ls : Array Slot) (locs : List Loc), kHR base ad cT D h H → kLR base ad L ls (kaq c).2.2.1 → (∀ v ∈ st, kOK v) → va_S (kA base) s.heap H locs → n0 ≤ h.1 → m0 ≤ h.2.1 → W p l e R s mid args below meth cc H locs (h.1 - n0) (h.2.1 - m0) Q (F0 mid (kofs c pc) ls (st.map (kc base ad)))
