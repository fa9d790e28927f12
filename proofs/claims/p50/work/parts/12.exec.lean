def qai (s : qSt) (a : Nat) (t : Nat) : Option (Nat × (Nat → Int32)) := match s.2.2.2 a with
  | .inr (t', n, .inl f) => if t' = t ∧ (qPm a < s.1 ∨ a = 1001000) then some (n, f) else none
  | _ => none
def qaq (s : qSt) (a t : Nat) : Option (Nat × (Nat → Option Nat)) := match s.2.2.2 a with
  | .inr (t', n, .inr (.inr (.inr (.inr f)))) => if t' = t ∧ qPm a < s.1 then some (n, f) else none
  | _ => none
def qob (s : qSt) (a : Nat) (ci : Nat) : Option (List Value) := match s.2.2.2 a with
  | .inl (c', fs) => if c' = ci ∧ qPm a < s.1 then some fs else none
  | _ => none
/-- the number of fields of each kind, and their defaults -/
def qdef (ci : Nat) : List Value := match ci with
  | 0 => (List.range 3).map (fun k => defaultValue (tyX1 k))
  | 1 => (List.range 5).map (fun k => defaultValue (tyX2 k))
  | 2 => (List.range 2).map (fun k => defaultValue (tyX3 k))
  | 3 => (List.range 3).map (fun k => defaultValue (tyX4 k))
  | 4 => (List.range 13).map (fun k => defaultValue (tyX5 k))
  | 5 => (List.range 5).map (fun k => defaultValue (tyX6 k))
  | 6 => (List.range 2).map (fun k => defaultValue (tyX7 k))
  | 7 => (List.range 3).map (fun k => defaultValue (tyX8 k))
  | 8 => (List.range 12).map (fun k => defaultValue (tyX9 k))
  | 9 => (List.range 5).map (fun k => defaultValue (tyL k))
  | 10 => (List.range 4).map (fun k => defaultValue (tyJ0 k))
  | _ => (List.range 4).map (fun k => defaultValue (tyJ4 k))
def qty (ci k : Nat) : FieldType := match ci with
  | 0 => tyX1 k
  | 1 => tyX2 k
  | 2 => tyX3 k
  | 3 => tyX4 k
  | 4 => tyX5 k
  | 5 => tyX6 k
  | 6 => tyX7 k
  | 7 => tyX8 k
  | 8 => tyX9 k
  | 9 => tyL k
  | 10 => tyJ0 k
  | _ => tyJ4 k
/-- may the field be written here: not final, or in its class's constructor -/
def qwr (M : qM) (ci k : Nat) : Bool := ((qKs.getD ci (RX1, TX1, 3)).2.1 k).2.2.2 == false || (M.2.1.name == "<init>" && ((qKs.getD ci (RX1, TX1, 3)).2.1 k).1 == qNm M.1)
def qatype (t : ArrayType) : Option Nat := match t with
  | .int => some 0
  | .byte => some 1
  | .char => some 2
  | _ => none
def qzero (n : Nat) : vp_A := (n, .inl (fun _ => 0))
def qStr (j : Nat) : List Int := qTxB.getD j []
/-- the arguments of a call: n of them off the stack -/
def qargs (n : Nat) (st : List Value) : Option (List Value × List Value) := if n ≤ st.length then some ((st.take n).reverse, st.drop n) else none
def qcat (st : List Value) : Bool := decide ((st.map fun v => v.category).sum ≤ 8)
def qcls (s : qSt) (a : Nat) : Option Nat := match s.2.2.2 a with
  | .inl (c', _) => if qPm a < s.1 then some c' else none
  | _ => none
/-- arrays of bytes that were there before: those of the ten strings, the table of digits -/
def qxl (j : Nat) : Nat := (qStr j).length
def qxt (j k : Nat) : Int32 := Int32.ofInt ((qStr j).getD k 0)
def qxb (a : Nat) : Option (Nat × (Nat → Int32)) := if a = 1000300 then some (100, fun k => Int32.ofNat (48 + k % 10)) else if 1000100 ≤ a ∧ a < 1000110 then some (qxl (a - 1000100), qxt (a - 1000100)) else none
def qby (s : qSt) (a : Nat) : Option (Nat × (Nat → Int32)) := match qai s a 1 with
  | some q => some q
  | none => qxb a
def qistr (a : Nat) : Bool := decide (1000000 ≤ a) && decide (a < 1000010)
def qclx (s : qSt) (a : Nat) : Option Nat := match qcls s a with
  | some c => some c
  | none => if qistr a = true then some 10 else none
/-- the law's rows: an array of six arrays of six numbers -/
def qrow (s : qSt) : qSt := qnew s (.inr (0, 6, .inl (fun _ => 0))) 6
def qman (s : qSt) : qSt := qrow (qrow (qrow (qrow (qrow (qrow (qnew s (.inr (4, 6, .inr (.inr (.inr (.inr (fun i => if i < 6 then some (qPi (s.1 + 1 + i)) else none)))))) 6))))))
def qStep (M : qM) (pc : Nat) (ins : Instr) (len : Nat) (L : qLo) (st : List Value) (s : qSt) : Option qR :=
  match ins with
  | .iload_n k => if len = 1 then (match qld L k with | some (.int x) => qgo (pc + 1) L (.int x :: st) s | _ => none) else none
  | .iload i => if len = 2 then (match qld L i with | some (.int x) => qgo (pc + 2) L (.int x :: st) s | _ => none) else none
  | .aload_n k => if len = 1 then (match qld L k with | some (.ref x) => qgo (pc + 1) L (.ref x :: st) s | _ => none) else none
  | .aload i => if len = 2 then (match qld L i with | some (.ref x) => qgo (pc + 2) L (.ref x :: st) s | _ => none) else none
  | .dload_n k => if len = 1 then (match qld L k with | some (.double x) => qgo (pc + 1) L (.double x :: st) s | _ => none) else none
  | .dload i => if len = 2 then (match qld L i with | some (.double x) => qgo (pc + 2) L (.double x :: st) s | _ => none) else none
  | .istore_n k => if len = 1 then (match st with
      | .int x :: st => (qs1 L k (.int x)).bind fun L' => qgo (pc + 1) L' st s
      | _ => none) else none
  | .istore i => if len = 2 then (match st with
      | .int x :: st => (qs1 L i (.int x)).bind fun L' => qgo (pc + 2) L' st s
      | _ => none) else none
  | .astore_n k => if len = 1 then (match st with
      | .ref x :: st => (qs1 L k (.ref x)).bind fun L' => qgo (pc + 1) L' st s
      | _ => none) else none
  | .astore i => if len = 2 then (match st with
      | .ref x :: st => (qs1 L i (.ref x)).bind fun L' => qgo (pc + 2) L' st s
      | _ => none) else none
  | .dstore_n k => if len = 1 then (match st with
      | .double x :: st => (qs2 L k (.double x)).bind fun L' => qgo (pc + 1) L' st s
      | _ => none) else none
  | .dstore i => if len = 2 then (match st with
      | .double x :: st => (qs2 L i (.double x)).bind fun L' => qgo (pc + 2) L' st s
      | _ => none) else none
  | .iinc i n => if len = 3 then (match qld L i with | some (.int x) => (qs1 L i (.int (x + Int32.ofInt n))).bind fun L' => qgo (pc + 3) L' st s | _ => none) else none
  | .iconst n => if len = 1 then qgo (pc + 1) L (.int (Int32.ofInt n) :: st) s else none
  | .bipush n => if len = 2 then qgo (pc + 2) L (.int (Int8.ofInt n).toInt32 :: st) s else none
  | .sipush n => if len = 3 then qgo (pc + 3) L (.int (Int16.ofInt n).toInt32 :: st) s else none
  | .dconst k => if len = 1 ∧ k = 0 then qgo (pc + 1) L (.double FP.dconst0 :: st) s else none
  | .iadd => if len = 1 then (match st with
      | .int y :: .int x :: st => qgo (pc + 1) L (.int (x + y) :: st) s
      | _ => none) else none
  | .isub => if len = 1 then (match st with
      | .int y :: .int x :: st => qgo (pc + 1) L (.int (x - y) :: st) s
      | _ => none) else none
  | .imul => if len = 1 then (match st with
      | .int y :: .int x :: st => qgo (pc + 1) L (.int (x * y) :: st) s
      | _ => none) else none
  | .iand => if len = 1 then (match st with
      | .int y :: .int x :: st => qgo (pc + 1) L (.int (x &&& y) :: st) s
      | _ => none) else none
  | .ior => if len = 1 then (match st with
      | .int y :: .int x :: st => qgo (pc + 1) L (.int (x ||| y) :: st) s
      | _ => none) else none
  | .ineg => if len = 1 then (match st with
      | .int x :: st => qgo (pc + 1) L (.int (-x) :: st) s
      | _ => none) else none
  | .idiv => if len = 1 then (match st with
      | .int y :: .int x :: st => if y = 0 then none else qgo (pc + 1) L (.int (x / y) :: st) s
      | _ => none) else none
  | .irem => if len = 1 then (match st with
      | .int y :: .int x :: st => if y = 0 then none else qgo (pc + 1) L (.int (x - x / y * y) :: st) s
      | _ => none) else none
  | .ishl => if len = 1 then (match st with
      | .int y :: .int x :: st => qgo (pc + 1) L (.int (x <<< (y &&& 31)) :: st) s
      | _ => none) else none
  | .ishr => if len = 1 then (match st with
      | .int y :: .int x :: st => qgo (pc + 1) L (.int (x >>> (y &&& 31)) :: st) s
      | _ => none) else none
  | .iushr => if len = 1 then (match st with
      | .int y :: .int x :: st => qgo (pc + 1) L (.int ((x.toUInt32 >>> (y.toUInt32 &&& Int32.toUInt32 31)).toInt32) :: st) s
      | _ => none) else none
  | .i2b => if len = 1 then (match st with
      | .int x :: st => qgo (pc + 1) L (.int x.toInt8.toInt32 :: st) s
      | _ => none) else none
  | .i2c => if len = 1 then (match st with
      | .int x :: st => qgo (pc + 1) L (.int ((x.toUInt32 % 65536).toInt32) :: st) s
      | _ => none) else none
  | .i2d => if len = 1 then (match st with
      | .int x :: st => qgo (pc + 1) L (.double (FP.i2d x) :: st) s
      | _ => none) else none
  | .ddiv => if len = 1 then (match st with
      | .double y :: .double x :: st => if (FP.ddiv x y) &&& 0x7fffffffffffffff ≤ 0x7ff0000000000000 then qgo (pc + 1) L (.double (FP.ddiv x y) :: st) s else none
      | _ => none) else none
  | .dcmp op => if len = 1 then (match st with
      | .double y :: .double x :: st => qgo (pc + 1) L (.int (Op.cmpValue (FP.dcmp x y) op) :: st) s
      | _ => none) else none
  | .goto off => if len = 3 then if 0 ≤ (pc : Int) + off then qgo ((pc : Int) + off).toNat L st s else none else none
  | .if_icmp op off => if len = 3 then (match st with
      | .int y :: .int x :: st => qbr pc off 3 (qif op x y = true) L st s
      | _ => none) else none
  | .ifCond op off => if len = 3 then (match st with
      | .int x :: st => qbr pc off 3 (qif op x 0 = true) L st s
      | _ => none) else none
  | .tableswitch d lo hi offs => (match st with
      | .int x :: st => if x.toInt < lo ∨ hi < x.toInt then (if 0 ≤ (pc : Int) + d then qgo ((pc : Int) + d).toNat L st s else none) else (match offs[(x.toInt - lo).toNat]? with | some off => (if 0 ≤ (pc : Int) + off then qgo ((pc : Int) + off).toNat L st s else none) | none => none)
      | _ => none)
  | .dup => if len = 1 then (match st with
      | v :: st => if v.category = 1 then qgo (pc + 1) L (v :: v :: st) s else none
      | _ => none) else none
  | .dup2 => if len = 1 then (match st with
      | v :: w :: st => if v.category = 1 ∧ w.category = 1 then qgo (pc + 1) L (v :: w :: v :: w :: st) s else none
      | _ => none) else none
  | .pop => if len = 1 then (match st with
      | v :: st => if v.category = 1 then qgo (pc + 1) L st s else none
      | _ => none) else none
  | .getfield i => if len = 3 then (match st with
      | .ref a :: st => (match qTf M.1 i with | some (ci, k) => (match qob s a ci with | some fs => (match fs[k]? with | some v => qgo (pc + 3) L (v :: st) s | none => none) | none => (if qistr a = true ∧ ci = 10 ∧ k = 0 then qgo (pc + 3) L (.ref (a + 100) :: st) s else if qistr a = true ∧ ci = 10 ∧ k = 1 then qgo (pc + 3) L (.int 0 :: st) s else none)) | none => none)
      | _ => none) else none
  | .getstatic i => if len = 3 then (match qTg M.1 i with
      | some k => if k = 0 then qgo (pc + 3) L (.int 1 :: st) s else qgo (pc + 3) L (.ref 1000300 :: st) s
      | none => none) else none
  | .aconst_null => if len = 1 then qgo (pc + 1) L (.null :: st) s else none
  | .ifnonnull off => if len = 3 then (match st with
      | .ref _ :: st => if 0 ≤ (pc : Int) + off then qgo ((pc : Int) + off).toNat L st s else none
      | _ => none) else none
  | .checkcast i => if len = 3 then (match st with
      | .ref a :: st => if M.1 = 16 ∧ i = 311 ∧ (qai s a 1).isSome = true ∧ a ≠ 1001000 then qgo (pc + 3) L (.ref a :: st) s else none
      | _ => none) else none
  | .ldc2_w i => if len = 3 ∧ M.1 = 10 ∧ i = 167 then qgo (pc + 3) L (.double 4611686018427387904 :: st) s else none
  | .dmul => if len = 1 then (match st with
      | .double y :: .double x :: st => if (FP.dmul x y) &&& 0x7fffffffffffffff ≤ 0x7ff0000000000000 then qgo (pc + 1) L (.double (FP.dmul x y) :: st) s else none
      | _ => none) else none
  | .putfield i => if len = 3 then (match st with
      | v :: .ref a :: st => (match qTf M.1 i with | some (ci, k) => (match qob s a ci with | some fs => (if narrow (qty ci k) v = v ∧ fits (qty ci k) v = true ∧ k < fs.length ∧ qwr M ci k = true then qgo (pc + 3) L st (qput s a (.inl (ci, fs.set k v))) else none) | none => none) | none => none)
      | _ => none) else none
  | .iaload => if len = 1 then (match st with
      | .int i :: .ref a :: st => (match qai s a 0 with | some (n, f) => (if i < 0 ∨ n ≤ i.toNatClampNeg then none else qgo (pc + 1) L (.int (f i.toNatClampNeg) :: st) s) | none => none)
      | _ => none) else none
  | .baload => if len = 1 then (match st with
      | .int i :: .ref a :: st => (match qby s a with | some (n, f) => (if i < 0 ∨ n ≤ i.toNatClampNeg then none else qgo (pc + 1) L (.int (f i.toNatClampNeg) :: st) s) | none => none)
      | _ => none) else none
  | .caload => if len = 1 then (match st with
      | .int i :: .ref a :: st => (match qai s a 2 with | some (n, f) => (if i < 0 ∨ n ≤ i.toNatClampNeg then none else qgo (pc + 1) L (.int (f i.toNatClampNeg) :: st) s) | none => none)
      | _ => none) else none
  | .aaload => if len = 1 then (match st with
      | .int i :: .ref a :: st => (match qaq s a 5 with | some (n, f) => (if i < 0 ∨ n ≤ i.toNatClampNeg then none else qgo (pc + 1) L (va_rf (f i.toNatClampNeg) :: st) s) | none => (match qaq s a 4 with | some (n, f) => (if i < 0 ∨ n ≤ i.toNatClampNeg then none else qgo (pc + 1) L (va_rf (f i.toNatClampNeg) :: st) s) | none => none))
      | _ => none) else none
  | .iastore => if len = 1 then (match st with
      | .int x :: .int i :: .ref a :: st => (match qai s a 0 with | some (n, f) => (if (i < 0 ∨ n ≤ i.toNatClampNeg) ∨ ¬ qPm a < s.1 then none else qgo (pc + 1) L st (qput s a (.inr (0, n, .inl (upd f i.toNatClampNeg x))))) | none => none)
      | _ => none) else none
  | .bastore => if len = 1 then (match st with
      | .int x :: .int i :: .ref a :: st => (match qai s a 1 with | some (n, f) => (if (i < 0 ∨ n ≤ i.toNatClampNeg) ∨ ¬ qPm a < s.1 then none else qgo (pc + 1) L st (qput s a (.inr (1, n, .inl (upd f i.toNatClampNeg (vp_nar .byte x)))))) | none => none)
      | _ => none) else none
  | .castore => if len = 1 then (match st with
      | .int x :: .int i :: .ref a :: st => (match qai s a 2 with | some (n, f) => (if (i < 0 ∨ n ≤ i.toNatClampNeg) ∨ ¬ qPm a < s.1 then none else qgo (pc + 1) L st (qput s a (.inr (2, n, .inl (upd f i.toNatClampNeg (vp_nar .char x)))))) | none => none)
      | _ => none) else none
  | .aastore => if len = 1 then (match st with
      | .ref v :: .int i :: .ref a :: st => (match qaq s a 5 with | some (n, f) => (if (i < 0 ∨ n ≤ i.toNatClampNeg) ∨ ¬ qcls s v = some 0 then none else qgo (pc + 1) L st (qput s a (.inr (5, n, .inr (.inr (.inr (.inr (va_up f i.toNatClampNeg (some v))))))))) | none => none)
      | _ => none) else none
  | .arraylength => if len = 1 then (match st with
      | .ref a :: st => (match qai s a 0 with | some (n, _) => qgo (pc + 1) L (.int (Int32.ofNat n) :: st) s | none => (match qai s a 2 with | some (n, _) => qgo (pc + 1) L (.int (Int32.ofNat n) :: st) s | none => (match qby s a with | some (n, _) => qgo (pc + 1) L (.int (Int32.ofNat n) :: st) s | none => none)))
      | _ => none) else none
  | .newarray t => if len = 2 then (match st with
      | .int n :: st => (match qatype t with | some k => (if n < 0 ∨ 10000 < n.toNatClampNeg ∨ ¬ s.2.1 = 0 ∨ 1000 ≤ s.1 then none else qgo (pc + 2) L (.ref (qPi s.1) :: st) (qnew s (.inr (k, qzero n.toNatClampNeg)) n.toNatClampNeg)) | none => none)
      | _ => none) else none
  | .anewarray i => if len = 3 then (match st with
      | .int n :: st => if n < 0 ∨ 10000 < n.toNatClampNeg ∨ ¬ s.2.1 = 0 ∨ 1000 ≤ s.1 ∨ ¬ (M.1 = 2 ∧ i = 9) then none else qgo (pc + 3) L (.ref (qPi s.1) :: st) (qnew s (.inr (5, n.toNatClampNeg, .inr (.inr (.inr (.inr (fun _ => none)))))) n.toNatClampNeg)
      | _ => none) else none
  | .multianewarray i d => if len = 4 ∧ M.1 = 10 ∧ i = 13 ∧ d = 2 then (match st with
      | .int y :: .int x :: st => if x = 6 ∧ y = 6 ∧ s.2.1 = 0 ∧ s.1 + 7 ≤ 1000 then qgo (pc + 4) L (.ref (qPi s.1) :: st) (qman s) else none
      | _ => none) else none
  | .ldc i => if len = 2 then (match qTs M.1 i with | some j => qgo (pc + 2) L (.ref (1000000 + j) :: st) s | none => (match qTo M.1 i with | some v => qgo (pc + 2) L (.int (Int32.ofInt v) :: st) s | none => none)) else none
  | .new i => if len = 3 then (match qTn M.1 i with
      | some ci => (if s.2.1 = 0 ∧ s.1 < 1000 then qgo (pc + 3) L (.ref (qPi s.1) :: st) (qnew s (.inl (ci, qdef ci)) (qdef ci).length) else none)
      | none => (match decode M.2.2.1 (pc + 3), decode M.2.2.1 (pc + 4) with
          | .ok (.dup, 1), .ok (.ldc js, 2) => (match decode M.2.2.1 (pc + 6), decode M.2.2.1 (pc + 9) with
              | .ok (.invokespecial jc, 3), .ok (.athrow, 1) => (match qTx M.1 i js jc false with | some E => (if qcat st = true ∧ M.2.2.2.2.2.isEmpty = true then some (.inr (.inl (.inr E, qthr s))) else none) | none => none)
              | _, _ => none)
          | .ok (.dup, 1), .ok (.ldc_w js, 3) => (match decode M.2.2.1 (pc + 7), decode M.2.2.1 (pc + 10) with
              | .ok (.invokespecial jc, 3), .ok (.athrow, 1) => (match qTx M.1 i js jc true with | some E => (if qcat st = true ∧ M.2.2.2.2.2.isEmpty = true then some (.inr (.inl (.inr E, qthr s))) else none) | none => none)
              | _, _ => none)
          | _, _ => none)) else none
  | .ireturn => if len = 1 then (match st with
      | [.int v] => (match M.2.2.2.2.1 with | some rt => (if narrow rt (.int v) = .int v then some (.inr (.inl (.inl (some (.int v)), s))) else none) | none => none)
      | _ => none) else none
  | .dreturn => if len = 1 then (match st with
      | [.double v] => if M.2.2.2.2.1 = some .double then some (.inr (.inl (.inl (some (.double v)), s))) else none
      | _ => none) else none
  | .areturn => if len = 1 then (match st with
      | [.ref v] => (match M.2.2.2.2.1 with | some (.object _) => some (.inr (.inl (.inl (some (.ref v)), s))) | some (.array _) => some (.inr (.inl (.inl (some (.ref v)), s))) | _ => none)
      | _ => none) else none
  | .return_ => if len = 1 then (match st with
      | [] => if M.2.2.2.2.1 = none then some (.inr (.inl (.inl none, s))) else none
      | _ => none) else none
  | .invokestatic i => if len = 3 then (match qTc M.1 i with
      | some (mo, C, n) => (match qargs n st with
          | some (as, rest) => (if qcat rest = true then
              (if mo = 1 ∨ mo = 4 then some (.inr (.inr (i, C, as, rest)))
               else if mo = 5 then (match as with | [.int x, .int y] => qgo (pc + 3) L (.int (if x < y then y else x) :: rest) s | _ => none)
               else if mo = 6 then (match as with | [.int x, .int y] => qgo (pc + 3) L (.int (if y < x then y else x) :: rest) s | _ => none)
               else if mo = 13 then (match as with | [.int k, .int m] => (if ¬ (k < 0 ∨ m ≤ k) then qgo (pc + 3) L rest s else none) | _ => none)
               else if mo = 14 then (match as with | [.ref b, .int sp, .ref a, .int dp, .int w] => (match qby s b, qai s a 1 with | some (nb, f), some (na, g) => (if (sp < 0 ∨ dp < 0 ∨ w < 0 ∨ nb < sp.toNatClampNeg + w.toNatClampNeg ∨ na < dp.toNatClampNeg + w.toNatClampNeg) ∨ a = 1001000 ∨ b = 1001000 ∨ b = a ∨ ¬ (List.range w.toNatClampNeg).all (fun i => fits .byte (.int (f (sp.toNatClampNeg + i)))) = true then none else qgo (pc + 3) L rest (qput s a (.inr (1, na, .inl (va_cpy f g sp.toNatClampNeg dp.toNatClampNeg w.toNatClampNeg))))) | _, _ => none) | _ => none)
               else none) else none)
          | none => none)
      | none => none) else none
  | .invokevirtual i => if len = 3 then (match qTc M.1 i with
      | some (mo, C, n) => (match qargs n st with
          | some (as, .ref a :: rest) => (if qcat rest = true then
              (if mo = 0 ∨ mo = 15 ∨ mo = 16 then (match qclx s a with | some ci => (if ci + 1 = C.1 then some (.inr (.inr (i, C, .ref a :: as, rest))) else none) | none => none)
               else if mo = 8 then (if (1000000 ≤ a ∧ a < 1000010) ∧ as = [] then qgo (pc + 3) L (.int (Int32.ofNat (qStr (a - 1000000)).length) :: rest) s else none)
               else if mo = 9 then (match as with | [.int k] => (if (1000000 ≤ a ∧ a < 1000010) ∧ ¬ (k < 0 ∨ (qStr (a - 1000000)).length ≤ k.toNatClampNeg) then qgo (pc + 3) L (.int (Int32.ofInt ((qStr (a - 1000000)).getD k.toNatClampNeg 0)) :: rest) s else none) | _ => none)
               else if mo = 10 then (match qcls s a with | some ci => (if ci = 11 then some (.inr (.inr (i, C, .ref a :: as, rest))) else none) | none => none)
               else if mo = 17 then (match qai s a 1 with | some (m, f) => (if as = [] ∧ a ≠ 1001000 ∧ s.2.1 = 0 ∧ s.1 < 1000 ∧ (List.range m).all (fun i => fits .byte (.int (f i))) = true then qgo (pc + 3) L (.ref (qPi s.1) :: rest) (qnew s (.inr (1, m, .inl f)) m) else none) | none => none)
               else none) else none)
          | _ => none)
      | none => none) else none
  | .invokespecial i => if len = 3 then (match qTc M.1 i with
      | some (mo, C, n) => (match qargs n st with
          | some (as, .ref a :: rest) => (if qcat rest = true then
              (if mo = 2 ∨ mo = 3 then (match qcls s a with | some ci => (if ci + 1 = C.1 then some (.inr (.inr (i, C, .ref a :: as, rest))) else none) | none => none)
               else if mo = 7 then (if as = [] then qgo (pc + 3) L rest s else none)
               else if mo = 11 ∨ mo = 12 then (match qcls s a with | some ci => (if ci = 11 then some (.inr (.inr (i, C, .ref a :: as, rest))) else none) | none => none)
               else none) else none)
          | _ => none)
      | none => none) else none
  | _ => none
/-- the handler at pc for exception E: its place -/
def qhan (M : qM) (pc E : Nat) : List (Nat × Nat × Nat × Nat) → Option Nat
  | [] => none
  | (a, b, h, ct) :: r => if a ≤ pc ∧ pc < b then (match qTk M.1 ct with | some E' => (if E' = E then some h else qhan M pc E r) | none => none) else qhan M pc E r
/-- the arguments fit the callee's locals, a slot each -/
def qok (C : qM) (as : List Value) : Bool := as.all (fun v => v.category == 1) && decide (as.length ≤ C.2.2.2.1)
def qExec : Nat → Nat → qM → Nat → qLo → List Value → qSt → Option (qO × qSt)
  | 0, _, _, _, _, _, _ => none
  | n + 1, d, M, pc, L, st, s => match decode M.2.2.1 pc with
    | .error _ => none
    | .ok (ins, len) => match qStep M pc ins len L st s with
      | none => none
      | some (.inl (pc', L', st', s')) => qExec n d M pc' L' st' s'
      | some (.inr (.inl (o, s'))) => some (o, s')
      | some (.inr (.inr (_, C, as, rest))) => if qok C as = true then (match d with
        | 0 => none
        | d' + 1 => (match qExec n d' C 0 (qen C.2.2.2.1 as) [] s with
          | none => none
          | some (.inl v, s') => qExec n d M (pc + 3) L (v.toList ++ rest) s'
          | some (.inr E, s') => (match M.2.2.2.2.2 with
            | [] => some (.inr E, s')
            | hd :: tl => (match qhan M pc E (hd :: tl) with
              | none => none
              | some h => (match decode M.2.2.1 h with
                | .ok (.astore_n k, 1) => if (k : Nat) < L.length then qExec n d M (h + 1) ((qkl L k).set k none) [] s' else none
                | .ok (.astore k, 2) => if k < L.length then qExec n d M (h + 2) ((qkl L k).set k none) [] s' else none
                | _ => none))))) else none
