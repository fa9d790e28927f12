/-! THE SMALL MACHINE: objects and arrays by numbers (addresses from the law's start), the text of the methods by the printed bytes -/
abbrev qMC : Type := (Nat × List Value) ⊕ (Nat × vp_A)
abbrev qHp : Type := Nat → qMC
abbrev qSt : Type := Nat × Nat × Nat × qHp
abbrev qLo : Type := List (Option Value)
/-- a method: class number, name, bytes, locals, return type, handlers -/
abbrev qM : Type := Nat × MethodName × ByteArray × Nat × Option FieldType × List (Nat × Nat × Nat × Nat)
/-- the addresses of the small machine and the order of making: the law's nine cells stand behind the class's 78 -/
def qPm (a : Nat) : Nat := if a < 78 then a + 9 else if a < 87 then a - 78 else a
def qPi (k : Nat) : Nat := if k < 9 then k + 78 else if k < 87 then k - 9 else k
theorem qPm_Pi (k : Nat) : qPm (qPi k) = k := by
  unfold qPm qPi
  split <;> (try split) <;> (try split) <;> omega
theorem qPi_Pm (a : Nat) : qPi (qPm a) = a := by
  unfold qPm qPi
  split <;> (try split) <;> (try split) <;> omega
theorem qPm_inj {a b : Nat} (h : qPm a = qPm b) : a = b := by rw [← qPi_Pm a, h, qPi_Pm]
theorem qPi_inj {a b : Nat} (h : qPi a = qPi b) : a = b := by rw [← qPm_Pi a, h, qPm_Pi]
theorem qPm_hi {a : Nat} (h : 87 ≤ a) : qPm a = a := by
  unfold qPm
  rw [if_neg (by omega), if_neg (by omega)]
theorem qPi_hi {a : Nat} (h : 87 ≤ a) : qPi a = a := by
  unfold qPi
  rw [if_neg (by omega), if_neg (by omega)]
theorem qPm_lo {a : Nat} (h : a < 87) : qPm a < 87 := by
  unfold qPm
  split <;> (try split) <;> omega
theorem qPm_le {a n : Nat} (h : qPm a < n) : a < 87 ∨ a < n := by
  unfold qPm at h
  split at h <;> (try split at h) <;> omega
def qup (h : qHp) (i : Nat) (c : qMC) : qHp := fun j => if j = i then c else h j
def qput (s : qSt) (i : Nat) (c : qMC) : qSt := (s.1, s.2.1, s.2.2.1, qup s.2.2.2 i c)
def qnew (s : qSt) (c : qMC) (n : Nat) : qSt := (s.1 + 1, s.2.1, s.2.2.1 + n, qup s.2.2.2 (qPi s.1) c)
def qthr (s : qSt) : qSt := (s.1, s.2.1 + 1, s.2.2.1 + 6, s.2.2.2)
def qld (L : qLo) (i : Nat) : Option Value := match L[i]? with
  | some (some v) => some v
  | _ => none
def qkl (L : qLo) (i : Nat) : qLo := match i with
  | 0 => L
  | k + 1 => match L[k]? with
    | some (some (.long _)) => L.set k none
    | some (some (.double _)) => L.set k none
    | _ => L
def qs1 (L : qLo) (i : Nat) (v : Value) : Option qLo := if i < L.length then some ((qkl L i).set i (some v)) else none
def qs2 (L : qLo) (i : Nat) (v : Value) : Option qLo := if i + 1 < L.length then some (((qkl L i).set i (some v)).set (i + 1) none) else none
def qen (n : Nat) (vs : List Value) : qLo := vs.map some ++ List.replicate (n - vs.length) none
abbrev qO : Type := (Option Value) ⊕ Nat
/-- what an instruction does: goes on; ends the method; calls -/
abbrev qR : Type := (Nat × qLo × List Value × qSt) ⊕ (qO × qSt) ⊕ (Nat × qM × List Value × List Value)
def qgo (pc : Nat) (L : qLo) (st : List Value) (s : qSt) : Option qR := some (.inl (pc, L, st, s))
def qbr (pc : Nat) (off : Int) (len : Nat) (c : Prop) [Decidable c] (L : qLo) (st : List Value) (s : qSt) : Option qR := if 0 ≤ (pc : Int) + off then (if c then qgo ((pc : Int) + off).toNat L st s else qgo (pc + len) L st s) else none
def qif (op : ClassFile.Cond) (x y : Int32) : Bool := match op with
  | .eq => decide (x = y)
  | .ne => decide (x ≠ y)
  | .lt => decide (x < y)
  | .ge => decide (y ≤ x)
  | .gt => decide (y < x)
  | .le => decide (x ≤ y)
