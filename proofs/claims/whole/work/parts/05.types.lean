/-! THE ABSTRACT MACHINE: ints are Int (what an int of the machine is: Int32.ofInt of it), references are places of a list of cells, 0 the script -/
abbrev gV : Type := Int ⊕ Int64 ⊕ Option Nat
abbrev gC : Type := (Nat → Int) ⊕ (Nat → Int64) ⊕ (Nat → Option Nat)
abbrev gE : Type := (Nat × Nat × gC) ⊕ (Nat × List gV)
abbrev gH : Type := Nat → Option gE
/-- launch, the address ahead of the first cell, the script's address, length, ints, the tables' numbers of classes and slots, of array classes, the addresses of the texts -/
abbrev gG : Type := Launch × Nat × Nat × Nat × (Nat → Int32) × va_G × (Nat → ClassId) × (Nat → Nat)
/-- pc, instruction, the next pc, a number, two places -/
abbrev gI : Type := Nat × Instr × Nat × Int × Nat × Nat
/-- name, bytes, locals, what is returned, frames, words of locals, handlers, instructions -/
abbrev gM : Type := MethodName × ByteArray × Nat × Option FieldType × Nat × Nat × List (Nat × Nat × Nat × Nat) × List gI
abbrev gK : Type := Program × Env × Room × State × MethodId × Array Value × List Frame × Method × Code
abbrev vI (z : Int) : gV := .inl z
abbrev vL (x : Int64) : gV := .inr (.inl x)
abbrev vR (i : Nat) : gV := .inr (.inr (some i))
abbrev vN : gV := .inr (.inr none)
abbrev gl (G : gG) : Launch := G.1
abbrev gZ (G : gG) : Nat := G.2.1
abbrev gb (G : gG) : Nat := G.2.2.1
abbrev gL (G : gG) : Nat := G.2.2.2.1
abbrev gxs (G : gG) : Nat → Int32 := G.2.2.2.2.1
abbrev gD (G : gG) : va_G := G.2.2.2.2.2.1
abbrev gdA (G : gG) : Nat → ClassId := G.2.2.2.2.2.2.1
abbrev gsa (G : gG) : Nat → Nat := G.2.2.2.2.2.2.2
abbrev mN (M : gM) : MethodName := M.1
abbrev mB (M : gM) : ByteArray := M.2.1
abbrev mL (M : gM) : Nat := M.2.2.1
abbrev mR (M : gM) : Option FieldType := M.2.2.2.1
abbrev mF (M : gM) : Nat := M.2.2.2.2.1
abbrev mO (M : gM) : Nat := M.2.2.2.2.2.1
abbrev mH (M : gM) : List (Nat × Nat × Nat × Nat) := M.2.2.2.2.2.2.1
abbrev mT (M : gM) : List gI := M.2.2.2.2.2.2.2
/-- the machine's side of a place, a value, a cell -/
def ga (G : gG) (i : Nat) : Nat := if i = 0 then gb G else gZ G + i
def gz (G : gG) : gV → Value
  | .inl z => .int (Int32.ofInt z)
  | .inr (.inl x) => .long x
  | .inr (.inr none) => .null
  | .inr (.inr (some i)) => .ref (ga G i)
def gzC (G : gG) : gC → ((Nat → Int32) ⊕ (Nat → Int64) ⊕ (Nat → UInt32) ⊕ (Nat → UInt64) ⊕ (Nat → Option Nat))
  | .inl f => .inl (fun i => Int32.ofInt (f i))
  | .inr (.inl f) => .inr (.inl f)
  | .inr (.inr f) => .inr (.inr (.inr (.inr (fun i => (f i).map (ga G)))))
def gzE (G : gG) : gE → va_E
  | .inl (k, n, a) => .inl (gdA G k, (n, gzC G a))
  | .inr (ci, fs) => .inr (ci, fs.map (gz G))
def gU (h : gH) (i : Nat) (e : gE) : gH := fun j => if j = i then some e else h j
/-- lookups that compute -/
def gAt : List gI → Nat → Option gI
  | [], _ => none
  | q :: t, pc => bif Nat.beq q.1 pc then some q else gAt t pc
def gGet : List (Option gV) → Nat → Option gV
  | [], _ => none
  | x :: _, 0 => x
  | _ :: t, i + 1 => gGet t i
def gSet : List (Option gV) → Nat → Option gV → Option (List (Option gV))
  | [], _, _ => none
  | _ :: t, 0, v => some (v :: t)
  | x :: t, i + 1, v => match gSet t i v with
    | some t' => some (x :: t')
    | none => none
def gSetF : List gV → Nat → gV → Option (List gV)
  | [], _, _ => none
  | _ :: t, 0, v => some (v :: t)
  | x :: t, i + 1, v => match gSetF t i v with
    | some t' => some (x :: t')
    | none => none
/-- n values off the stack, the last one first, in the order of the call -/
def gPop : Nat → List gV → List gV → Option (List gV × List gV)
  | 0, acc, st => some (acc, st)
  | _ + 1, _, [] => none
  | n + 1, acc, v :: st => gPop n (v :: acc) st
def gPsh (v : Option gV) (st : List gV) : List gV := match v with
  | some x => x :: st
  | none => st
/-- the locals with which a method begins; no longs among them -/
def gEnt : Nat → List gV → List (Option gV)
  | n, [] => List.replicate n none
  | 0, _ :: _ => []
  | n + 1, v :: vs => some v :: gEnt n vs
def gLen : Instr → Nat
  | .bipush _ => 2 | .sipush _ => 3 | .ldc _ => 2
  | .iload _ => 2 | .aload _ => 2 | .istore _ => 2 | .astore _ => 2 | .iinc _ _ => 3
  | .ifCond _ _ => 3 | .if_icmp _ _ => 3 | .goto _ => 3 | .getfield _ => 3 | .putfield _ => 3
  | .invokevirtual _ => 3 | .invokestatic _ => 3 | .invokespecial _ => 3 | .new _ => 3 | .newarray _ => 2 | .anewarray _ => 3
  | .tableswitch .. => 0 | .lookupswitch .. => 0
  | _ => 1
