/-! THE SMALL MACHINE: objects and arrays by numbers (addresses from the law's start), the text of the methods by the printed bytes -/
abbrev qMC : Type := (Nat × List Value) ⊕ (Nat × vp_A)
abbrev qHp : Type := Nat → qMC
abbrev qSt : Type := Nat × Nat × Nat × qHp
abbrev qLo : Type := List (Option Value)
/-- a method: class number, name, bytes, locals, return type, handlers -/
abbrev qM : Type := Nat × MethodName × ByteArray × Nat × Option FieldType × List (Nat × Nat × Nat × Nat)
def qup (h : qHp) (i : Nat) (c : qMC) : qHp := fun j => if j = i then c else h j
def qput (s : qSt) (i : Nat) (c : qMC) : qSt := (s.1, s.2.1, s.2.2.1, qup s.2.2.2 i c)
def qnew (s : qSt) (c : qMC) (n : Nat) : qSt := (s.1 + 1, s.2.1, s.2.2.1 + n, qup s.2.2.2 s.1 c)
def qthr (s : qSt) : qSt := (s.1, s.2.1 + 1, s.2.2.1 + 6, s.2.2.2)
def qld (L : qLo) (i : Nat) : Option Value := match L[i]? with
  | some (some v) => some v
  | _ => none
def qkl (L : qLo) (i : Nat) : qLo := match i with
  | 0 => L
  | k + 1 => match L[k]? with
    | some (some (.long _)) => L.set k none
    | some (some (.double _)) => L.set k none
    | _ => L
def qs1 (L : qLo) (i : Nat) (v : Value) : Option qLo := if i < L.length then some ((qkl L i).set i (some v)) else none
def qs2 (L : qLo) (i : Nat) (v : Value) : Option qLo := if i + 1 < L.length then some (((qkl L i).set i (some v)).set (i + 1) none) else none
def qen (n : Nat) (vs : List Value) : qLo := vs.map some ++ List.replicate (n - vs.length) none
abbrev qO : Type := (Option Value) ⊕ Nat
/-- what an instruction does: goes on; ends the method; calls -/
abbrev qR : Type := (Nat × qLo × List Value × qSt) ⊕ (qO × qSt) ⊕ (Nat × qM × List Value × List Value)
def qgo (pc : Nat) (L : qLo) (st : List Value) (s : qSt) : Option qR := some (.inl (pc, L, st, s))
def qbr (pc : Nat) (off : Int) (len : Nat) (c : Prop) [Decidable c] (L : qLo) (st : List Value) (s : qSt) : Option qR := if 0 ≤ (pc : Int) + off then (if c then qgo ((pc : Int) + off).toNat L st s else qgo (pc + len) L st s) else none
def qif (op : ClassFile.Cond) (x y : Int32) : Bool := match op with
  | .eq => decide (x = y)
  | .ne => decide (x ≠ y)
  | .lt => decide (x < y)
  | .ge => decide (y ≤ x)
  | .gt => decide (y < x)
  | .le => decide (x ≤ y)
