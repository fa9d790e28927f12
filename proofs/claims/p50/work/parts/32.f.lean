def qR80 : List (Option Nat) := [some 81, some 82, some 83, some 84, some 85, some 86]
def qR33 : List (Option Nat) := [some 36, some 40, some 44, some 48, some 52, some 56, some 60, some 64, some 68, some 72]
def qR34 : List (Option Nat) := [some 38, some 42, some 46, some 50, some 54, some 58, some 62, some 66, some 70, some 74]
/-- a number that is a byte -/
def qbt (x : Int) : Option Int := if 0 ≤ x ∧ x < 128 then some x else none
theorem qbt_all : ∀ k : Nat, k < 128 → narrow .byte (iv (k : Int)) = iv (k : Int) := by decide +kernel
theorem qbt_n {x y : Int} (h : qbt x = some y) : y = x ∧ narrow .byte (iv x) = iv x := by
  unfold qbt at h
  split at h
  · rename_i h0
    cases h
    refine ⟨rfl, ?_⟩
    have := qbt_all x.toNat (by omega)
    rw [show ((x.toNat : Nat) : Int) = x by omega] at this
    exact this
  · cases h
/-! THE METHODS AS FUNCTIONS OF NUMBERS, by program out of their bytes -/
def fX5_hasRoom (μ : qMu) : Option (Int) :=
  if 400 < wr ((rd μ 1 5) + 20) then
    some 0
  else
    some 1
def bX5_append_3 (n : Nat) (w1 : Int) (z2 : Int) (μ : qMu) : Option ((Int × qMu) ⊕ (qMu)) :=
  if wr z2 < 0 then
    some (.inr μ)
  else
    if wr (rd μ 1 5) < 400 then
      (qSa μ 2 400 (rd μ 1 5) (qNr .byte (i2b (iush w1 z2)))).bind fun μ3 =>
      (qPf μ3 1 5 ((rd μ3 1 5) + 1)).bind fun μ4 =>
      some (.inl ((z2 + (-8)), μ4))
    else
      some (.inr μ)
def fX5_append (n : Nat) (p0 : Int) (μ : qMu) : Option (qMu) :=
  (lp (fun x : Int × qMu => bX5_append_3 n p0 x.1 x.2) n (24, μ)).bind fun y5 =>
  some y5
def fX5_fedBytes (μ : qMu) : Option (Int) :=
  some (rd μ 1 5)
def fX9_feed (n : Nat) (p0 : Int) (p1 : Int) (p2 : Int) (p3 : Int) (p4 : Int) (μ : qMu) : Option (Int × qMu) :=
  (fX5_hasRoom μ).bind fun y1 =>
  if wr y1 = 0 then
    some ((-2), μ)
  else
    (fX5_append n p0 μ).bind fun y3 =>
    (fX5_append n p1 y3).bind fun y4 =>
    (fX5_append n p2 y4).bind fun y5 =>
    (fX5_append n p3 y5).bind fun y6 =>
    (fX5_append n p4 y6).bind fun y7 =>
    (fX5_fedBytes y7).bind fun y8 =>
    some (y8, y7)
def fX5_byteAt (p0 : Int) (μ : qMu) : Option (Int) :=
  if wr p0 < 0 then
    some 0
  else
    if wr p0 < 400 then
      (qLd μ 2 400 p0).bind fun x3 =>
      some (ian x3 255)
    else
      some 0
def fX5_isBlank (p0 : Int) (μ : qMu) : Option (Int) :=
  if wr p0 = 32 then
    some 1
  else
    if wr p0 = 10 then
      some 1
    else
      some 0
def fX5_isLetter (p0 : Int) (μ : qMu) : Option (Int) :=
  if wr p0 < 97 then
    some 0
  else
    if 122 < wr p0 then
      some 0
    else
      some 1
def bX5_takeWord_0 (n : Nat) (μ : qMu) : Option ((qMu) ⊕ (qMu)) :=
  if wr (rd μ 1 11) < wr (rd μ 1 6) then
    (fX5_byteAt (rd μ 1 11) μ).bind fun y2 =>
    (fX5_isLetter y2 μ).bind fun y3 =>
    if wr y3 = 0 then
      some (.inr μ)
    else
      (qPf μ 1 11 ((rd μ 1 11) + 1)).bind fun μ5 =>
      some (.inl μ5)
  else
    some (.inr μ)
def fX5_takeWord (n : Nat) (μ : qMu) : Option (qMu) :=
  (lp (fun x : qMu => bX5_takeWord_0 n x) n μ).bind fun y6 =>
  (qPf y6 1 9 (if 8 < wr ((rd y6 1 11) - (rd y6 1 10)) then 4 else 1)).bind fun μ10 =>
  some μ10
def fX5_isDigit (p0 : Int) (μ : qMu) : Option (Int) :=
  if wr p0 < 48 then
    some 0
  else
    if 57 < wr p0 then
      some 0
    else
      some 1
def bX5_takeNumber_5 (n : Nat) (μ : qMu) : Option ((qMu) ⊕ (qMu)) :=
  if wr (rd μ 1 11) < wr (rd μ 1 6) then
    (fX5_byteAt (rd μ 1 11) μ).bind fun y3 =>
    (fX5_isDigit y3 μ).bind fun y4 =>
    if wr y4 = 0 then
      some (.inr μ)
    else
      (fX5_byteAt (rd μ 1 11) μ).bind fun y6 =>
      (qPf μ 1 12 ((((rd μ 1 12) * 10) + y6) - 48)).bind fun μ7 =>
      (qPf μ7 1 11 ((rd μ7 1 11) + 1)).bind fun μ8 =>
      some (.inl μ8)
  else
    some (.inr μ)
def fX5_takeNumber (n : Nat) (μ : qMu) : Option (qMu) :=
  (qPf μ 1 12 0).bind fun μ1 =>
  (lp (fun x : qMu => bX5_takeNumber_5 n x) n μ1).bind fun y9 =>
  (qPf y9 1 9 (if 2 < wr ((rd y9 1 11) - (rd y9 1 10)) then 4 else 2)).bind fun μ13 =>
  some μ13
def bX5_advance_0 (n : Nat) (μ : qMu) : Option ((qMu) ⊕ (qMu)) :=
  if wr (rd μ 1 11) < wr (rd μ 1 6) then
    (fX5_byteAt (rd μ 1 11) μ).bind fun y2 =>
    (fX5_isBlank y2 μ).bind fun y3 =>
    if wr y3 = 0 then
      some (.inr μ)
    else
      (qPf μ 1 11 ((rd μ 1 11) + 1)).bind fun μ5 =>
      some (.inl μ5)
  else
    some (.inr μ)
def fX5_advance (n : Nat) (μ : qMu) : Option (qMu) :=
  (lp (fun x : qMu => bX5_advance_0 n x) n μ).bind fun y6 =>
  (qPf y6 1 10 (rd y6 1 11)).bind fun μ7 =>
  if wr (rd μ7 1 10) < wr (rd μ7 1 6) then
    (fX5_byteAt (rd μ7 1 10) μ7).bind fun y9 =>
    (fX5_isLetter y9 μ7).bind fun y10 =>
    if wr y10 = 0 then
      (fX5_byteAt (rd μ7 1 10) μ7).bind fun y12 =>
      (fX5_isDigit y12 μ7).bind fun y13 =>
      if wr y13 = 0 then
        (fX5_byteAt (rd μ7 1 10) μ7).bind fun y15 =>
        (qPf μ7 1 9 (if wr y15 = 59 then 3 else 4)).bind fun μ19 =>
        (qPf μ19 1 11 ((rd μ19 1 11) + 1)).bind fun μ20 =>
        some μ20
      else
        (fX5_takeNumber n μ7).bind fun y21 =>
        some y21
    else
      (fX5_takeWord n μ7).bind fun y22 =>
      some y22
  else
    (qPf μ7 1 9 0).bind fun μ23 =>
    some μ23
def bX1_clear_2 (n : Nat) (w0 : Nat) (w1 : Int) (z2 : Int) (μ : qMu) : Option ((Int × qMu) ⊕ (qMu)) :=
  if wr z2 < 64 then
    (qSa μ (w0 + 1) 64 z2 0).bind fun μ2 =>
    some (.inl ((z2 + 1), μ2))
  else
    some (.inr μ)
def fX1_clear (n : Nat) (g : Nat) (p0 : Int) (μ : qMu) : Option (qMu) :=
  (lp (fun x : Int × qMu => bX1_clear_2 n g p0 x.1 x.2) n (0, μ)).bind fun y3 =>
  (qPf y3 g 1 p0).bind fun μ4 =>
  (qPf μ4 g 2 0).bind fun μ5 =>
  some μ5
def fX5_begin (n : Nat) (p0 : Int) (μ : qMu) : Option (qMu) :=
  (fX1_clear n 3 p0 μ).bind fun y1 =>
  (fX1_clear n 5 p0 y1).bind fun y2 =>
  some y2
def bX5_isWord_28 (n : Nat) (w1 : Nat) (z2 : Int) (μ : qMu) : Option ((Int) ⊕ ((Unit) ⊕ (Int))) :=
  if wr z2 < wr (qsl w1) then
    (fX5_byteAt ((rd μ 1 10) + z2) μ).bind fun y4 =>
    (qsc w1 z2).bind fun x5 =>
    if wr y4 = wr x5 then
      some (.inl (z2 + 1))
    else
      some (.inr (.inr 0))
  else
    some (.inr (.inl ()))
def fX5_isWord (n : Nat) (p0 : Nat) (μ : qMu) : Option (Int) :=
  if wr (rd μ 1 9) = 1 then
    if wr ((rd μ 1 11) - (rd μ 1 10)) = wr (qsl p0) then
      (lp (fun x : Int => bX5_isWord_28 n p0 x μ) n 0).bind fun y7 =>
      Sum.elim (fun b8 =>
        some 1)
        (fun r9 => some r9) y7
    else
      some 0
  else
    some 0
def fX5_fail (p0 : Int) (μ : qMu) : Option (Int × qMu) :=
  (qPf μ 1 7 (if wr (rd μ 1 9) = 4 then 1 else p0)).bind fun μ4 =>
  (qPf μ4 1 8 (rd μ4 1 10)).bind fun μ5 =>
  some (0, μ5)
def fX5_expectNumber (p0 : Int) (p1 : Int) (μ : qMu) : Option (Int × qMu) :=
  if wr (rd μ 1 9) = 2 then
    if wr (rd μ 1 12) < wr p0 then
      (fX5_fail 3 μ).bind fun y3 =>
      if wr y3.1 = 0 then
        some (0, y3.2)
      else
        some (1, y3.2)
    else
      if wr p1 < wr (rd μ 1 12) then
        (fX5_fail 3 μ).bind fun y6 =>
        if wr y6.1 = 0 then
          some (0, y6.2)
        else
          some (1, y6.2)
      else
        some (1, μ)
  else
    (fX5_fail 2 μ).bind fun y8 =>
    (qbl y8.1).bind fun x9 =>
    some (x9, y8.2)
def fX5_expectSemicolon (μ : qMu) : Option (Int × qMu) :=
  if wr (rd μ 1 9) = 3 then
    some (1, μ)
  else
    (fX5_fail 2 μ).bind fun y2 =>
    if wr y2.1 = 0 then
      some (0, y2.2)
    else
      some (1, y2.2)
def fX5_readVertices (n : Nat) (μ : qMu) : Option (Int × qMu) :=
  (fX5_advance n μ).bind fun y1 =>
  (fX5_expectNumber 1 8 y1).bind fun y2 =>
  if wr y2.1 = 0 then
    some (0, y2.2)
  else
    (fX5_begin n (rd y2.2 1 12) y2.2).bind fun y4 =>
    (fX5_advance n y4).bind fun y5 =>
    (fX5_expectSemicolon y5).bind fun y6 =>
    (qbl y6.1).bind fun x7 =>
    some (x7, y6.2)
def fX6_clear (q : Nat) (μ : qMu) : Option (qMu) :=
  (qPf μ q 3 0).bind fun μ1 =>
  (qPf μ1 q 4 0).bind fun μ2 =>
  some μ2
def fX6_isFull (q : Nat) (μ : qMu) : Option (Int) :=
  if wr (rd μ q 3) < 8 then
    some 0
  else
    some 1
def bX6_insertFalling_5 (n : Nat) (w0 : Nat) (w1 : Int) (z2 : Int) (μ : qMu) : Option ((Int × qMu) ⊕ (Int × qMu)) :=
  if 0 < wr z2 then
    (qLd μ (w0 + 2) 8 (z2 - 1)).bind fun x2 =>
    if wr x2 < wr w1 then
      (qLd μ (w0 + 2) 8 (z2 - 1)).bind fun x4 =>
      (qSa μ (w0 + 2) 8 z2 x4).bind fun μ5 =>
      some (.inl ((z2 + (-1)), μ5))
    else
      some (.inr (z2, μ))
  else
    some (.inr (z2, μ))
def fX6_insertFalling (n : Nat) (q : Nat) (p0 : Int) (μ : qMu) : Option (qMu) :=
  (lp (fun x : Int × qMu => bX6_insertFalling_5 n q p0 x.1 x.2) n ((rd μ q 3), μ)).bind fun y6 =>
  (qSa y6.2 (q + 2) 8 y6.1 p0).bind fun μ7 =>
  some μ7
def fX6_append (n : Nat) (q : Nat) (p0 : Int) (μ : qMu) : Option (qMu) :=
  (fX6_isFull q μ).bind fun y1 =>
  if wr y1 = 0 then
    (qSa μ (q + 1) 8 (rd μ q 3) p0).bind fun μ3 =>
    (fX6_insertFalling n q p0 μ3).bind fun y4 =>
    (qPf y4 q 3 ((rd y4 q 3) + 1)).bind fun μ5 =>
    (qPf μ5 q 4 ((rd μ5 q 4) + p0)).bind fun μ6 =>
    some μ6
  else
    some μ
def fX6_total (q : Nat) (μ : qMu) : Option (Int) :=
  some (rd μ q 4)
def fX6_length (q : Nat) (μ : qMu) : Option (Int) :=
  some (rd μ q 3)
def fX1_put (g : Nat) (p0 : Int) (p1 : Int) (p2 : Int) (μ : qMu) : Option (qMu) :=
  (qLd μ (g + 1) 64 ((p0 * 8) + p1)).bind fun x1 =>
  (qSa μ (g + 1) 64 ((p0 * 8) + p1) (x1 + p2)).bind fun μ2 =>
  (if wr p0 = wr p1 then
    some μ2
  else
    (qLd μ2 (g + 1) 64 ((p1 * 8) + p0)).bind fun x5 =>
    (qSa μ2 (g + 1) 64 ((p1 * 8) + p0) (x5 + p2)).bind fun μ6 =>
    some μ6 : Option (qMu)).bind fun y4 =>
  (qPf y4 g 2 ((rd y4 g 2) + p2)).bind fun μ7 =>
  some μ7
def bX6_buildWithLoops_4 (n : Nat) (w0 : Nat) (w1 : Nat) (z2 : Int) (z3 : Int) (μ : qMu) : Option ((Int × Int × qMu) ⊕ (qMu)) :=
  if wr z3 < wr (rd μ w0 3) then
    (qLd μ (w0 + 3) 8 z3).bind fun x2 =>
    (fX1_put w1 z3 z3 (idv x2 2) μ).bind fun y3 =>
    (qLd y3 (w0 + 3) 8 z3).bind fun x4 =>
    (if wr (irm x4 2) = 0 then
      (qLd y3 (w0 + 3) 8 z3).bind fun x7 =>
      if wr (irm x7 2) = 0 then
        some (z2, y3)
      else
        (fX1_put w1 z2 z3 1 y3).bind fun y9 =>
        some ((-1), y9)
    else
      if wr z2 = (-1) then
        some (z3, y3)
      else
        (qLd y3 (w0 + 3) 8 z3).bind fun x11 =>
        if wr (irm x11 2) = 0 then
          some (z2, y3)
        else
          (fX1_put w1 z2 z3 1 y3).bind fun y13 =>
          some ((-1), y13) : Option (Int × qMu)).bind fun y6 =>
    some (.inl (y6.1, (z3 + 1), y6.2))
  else
    some (.inr μ)
def fX6_buildWithLoops (n : Nat) (q : Nat) (p0 : Nat) (μ : qMu) : Option (qMu) :=
  (lp (fun x : Int × Int × qMu => bX6_buildWithLoops_4 n q p0 x.1 x.2.1 x.2.2) n ((-1), 0, μ)).bind fun y14 =>
  some y14
def bX6_neediestBut_7 (n : Nat) (w0 : Nat) (w1 : Int) (z2 : Int) (z3 : Int) (z4 : Int) (μ : qMu) : Option ((Int × Int × Int) ⊕ (Int)) :=
  if wr z4 < wr (rd μ w0 3) then
    (qLd μ (w0 + 3) 8 z4).bind fun x2 =>
    (if wr z3 < wr x2 then
      if wr (ian (ishr w1 z4) 1) = 0 then
        (qLd μ (w0 + 3) 8 z4).bind fun x6 =>
        some (z4, x6)
      else
        some (z2, z3)
    else
      some (z2, z3) : Option (Int × Int)).bind fun y4 =>
    some (.inl (y4.1, y4.2, (z4 + 1)))
  else
    some (.inr z2)
def fX6_neediestBut (n : Nat) (q : Nat) (p0 : Int) (μ : qMu) : Option (Int) :=
  (lp (fun x : Int × Int × Int => bX6_neediestBut_7 n q p0 x.1 x.2.1 x.2.2 μ) n ((-1), 0, 0)).bind fun y7 =>
  some y7
def fX6_join (q : Nat) (p0 : Nat) (p1 : Int) (p2 : Int) (μ : qMu) : Option (qMu) :=
  if wr p2 = (-1) then
    some μ
  else
    (fX1_put p0 p1 p2 1 μ).bind fun y2 =>
    (qLd y2 (q + 3) 8 p1).bind fun x3 =>
    (qSa y2 (q + 3) 8 p1 (x3 - 1)).bind fun μ4 =>
    (qLd μ4 (q + 3) 8 p2).bind fun x5 =>
    (qSa μ4 (q + 3) 8 p2 (x5 - 1)).bind fun μ6 =>
    some μ6
def bX6_buildWithoutLoops_2 (n : Nat) (w0 : Nat) (w1 : Nat) (z2 : Int) (μ : qMu) : Option ((Int × qMu) ⊕ ((qMu) ⊕ (qMu))) :=
  if wr z2 < 16 then
    (fX6_neediestBut n w0 0 μ).bind fun y2 =>
    if wr y2 = (-1) then
      some (.inr (.inr μ))
    else
      (fX6_neediestBut n w0 (ishl 1 y2) μ).bind fun y4 =>
      (fX6_join w0 w1 y2 y4 μ).bind fun y5 =>
      some (.inl ((z2 + 1), y5))
  else
    some (.inr (.inl μ))
def fX6_buildWithoutLoops (n : Nat) (q : Nat) (p0 : Nat) (μ : qMu) : Option (qMu) :=
  (lp (fun x : Int × qMu => bX6_buildWithoutLoops_2 n q p0 x.1 x.2) n (0, μ)).bind fun y6 =>
  Sum.elim (fun b7 =>
    some b7)
    (fun r8 => some r8) y6
def bX6_buildSimple_40 (n : Nat) (w0 : Nat) (w1 : Nat) (w2 : Int) (w3 : Int) (z4 : Int) (z5 : Int) (μ : qMu) : Option ((Int × Int × qMu) ⊕ (qMu)) :=
  if 0 < wr z5 then
    (fX6_neediestBut n w0 z4 μ).bind fun y6 =>
    (fX6_join w0 w1 w3 y6 μ).bind fun y7 =>
    some (.inl ((io z4 (if wr y6 = (-1) then 0 else (ishl 1 y6))), (z5 + (-1)), y7))
  else
    some (.inr μ)
def bX6_buildSimple_2 (n : Nat) (w0 : Nat) (w1 : Nat) (z2 : Int) (μ : qMu) : Option ((Int × qMu) ⊕ ((qMu) ⊕ (qMu))) :=
  if wr z2 < 8 then
    (fX6_neediestBut n w0 0 μ).bind fun y2 =>
    if wr y2 = (-1) then
      some (.inr (.inr μ))
    else
      (qLd μ (w0 + 3) 8 y2).bind fun x4 =>
      (lp (fun x : Int × Int × qMu => bX6_buildSimple_40 n w0 w1 z2 y2 x.1 x.2.1 x.2.2) n ((ishl 1 y2), (mn x4 (rd μ w0 3)), μ)).bind fun y11 =>
      some (.inl ((z2 + 1), y11))
  else
    some (.inr (.inl μ))
def fX6_buildSimple (n : Nat) (q : Nat) (p0 : Nat) (μ : qMu) : Option (qMu) :=
  (lp (fun x : Int × qMu => bX6_buildSimple_2 n q p0 x.1 x.2) n (0, μ)).bind fun y12 =>
  Sum.elim (fun b13 =>
    some b13)
    (fun r14 => some r14) y12
def bX6_build_10 (n : Nat) (w0 : Nat) (w1 : Nat) (w2 : Int) (z3 : Int) (μ : qMu) : Option ((Int × qMu) ⊕ (qMu)) :=
  if wr z3 < wr (rd μ w0 3) then
    (qLd μ (w0 + 1) 8 z3).bind fun x3 =>
    (qSa μ (w0 + 3) 8 z3 x3).bind fun μ4 =>
    some (.inl ((z3 + 1), μ4))
  else
    some (.inr μ)
def fX6_build (n : Nat) (q : Nat) (p0 : Nat) (p1 : Int) (μ : qMu) : Option (qMu) :=
  (fX1_clear n p0 (rd μ q 3) μ).bind fun y1 =>
  (lp (fun x : Int × qMu => bX6_build_10 n q p0 p1 x.1 x.2) n (0, y1)).bind fun y5 =>
  if wr p1 = 0 then
    (fX6_buildWithLoops n q p0 y5).bind fun y7 =>
    some y7
  else
    if wr p1 = 1 then
      (fX6_buildWithoutLoops n q p0 y5).bind fun y9 =>
      some y9
    else
      (fX6_buildSimple n q p0 y5).bind fun y10 =>
      some y10
def bX5_readDegrees_13 (n : Nat) (z1 : Int) (μ : qMu) : Option ((Int × qMu) ⊕ ((qMu) ⊕ (Int × qMu))) :=
  if 8 < wr z1 then
    some (.inr (.inl μ))
  else
    if wr z1 = 0 then
      (fX5_expectNumber 0 32 μ).bind fun y5 =>
      if wr y5.1 = 0 then
        some (.inr (.inr (0, y5.2)))
      else
        (fX6_isFull 7 y5.2).bind fun y7 =>
        if wr y7 = 0 then
          (fX6_append n 7 (rd y5.2 1 12) y5.2).bind fun y9 =>
          (fX5_advance n y9).bind fun y10 =>
          some (.inl ((z1 + 1), y10))
        else
          (fX5_fail 5 y5.2).bind fun y11 =>
          (qbl y11.1).bind fun x12 =>
          some (.inr (.inr (x12, y11.2)))
    else
      if wr (rd μ 1 9) = 2 then
        (fX5_expectNumber 0 32 μ).bind fun y14 =>
        if wr y14.1 = 0 then
          some (.inr (.inr (0, y14.2)))
        else
          (fX6_isFull 7 y14.2).bind fun y16 =>
          if wr y16 = 0 then
            (fX6_append n 7 (rd y14.2 1 12) y14.2).bind fun y18 =>
            (fX5_advance n y18).bind fun y19 =>
            some (.inl ((z1 + 1), y19))
          else
            (fX5_fail 5 y14.2).bind fun y20 =>
            (qbl y20.1).bind fun x21 =>
            some (.inr (.inr (x21, y20.2)))
      else
        some (.inr (.inl μ))
def fX5_readDegrees (n : Nat) (μ : qMu) : Option (Int × qMu) :=
  (fX5_advance n μ).bind fun y1 =>
  (fX6_clear 7 y1).bind fun y2 =>
  (lp (fun x : Int × qMu => bX5_readDegrees_13 n x.1 x.2) n (0, y2)).bind fun y22 =>
  Sum.elim (fun b23 =>
    (fX5_expectSemicolon b23).bind fun y24 =>
    if wr y24.1 = 0 then
      some (0, y24.2)
    else
      (fX6_total 7 y24.2).bind fun y26 =>
      if wr (irm y26 2) = 0 then
        (fX6_total 7 y24.2).bind fun y28 =>
        if 32 < wr y28 then
          (fX5_fail 4 y24.2).bind fun y30 =>
          (qbl y30.1).bind fun x31 =>
          some (x31, y30.2)
        else
          (fX6_length 7 y24.2).bind fun y32 =>
          (fX5_begin n y32 y24.2).bind fun y33 =>
          (fX6_build n 7 3 0 y33).bind fun y34 =>
          some (1, y34)
      else
        (fX5_fail 4 y24.2).bind fun y35 =>
        (qbl y35.1).bind fun x36 =>
        some (x36, y35.2))
    (fun r37 => some r37) y22
def fX5_readFirst (n : Nat) (μ : qMu) : Option (Int × qMu) :=
  if wr (rd μ 1 9) = 0 then
    (fX5_begin n 1 μ).bind fun y2 =>
    some (1, y2)
  else
    (fX5_isWord n 1000000 μ).bind fun y3 =>
    if wr y3 = 0 then
      (fX5_isWord n 1000001 μ).bind fun y5 =>
      if wr y5 = 0 then
        (fX5_fail 2 μ).bind fun y7 =>
        (qbl y7.1).bind fun x8 =>
        some (x8, y7.2)
      else
        (fX5_readDegrees n μ).bind fun y9 =>
        (qbl y9.1).bind fun x10 =>
        some (x10, y9.2)
    else
      (fX5_readVertices n μ).bind fun y11 =>
      (qbl y11.1).bind fun x12 =>
      some (x12, y11.2)
def fX1_vertexCount (g : Nat) (μ : qMu) : Option (Int) :=
  some (rd μ g 1)
def fX1_edgeCount (g : Nat) (μ : qMu) : Option (Int) :=
  some (rd μ g 2)
def fX5_readEdge (n : Nat) (p0 : Nat) (μ : qMu) : Option (Int × qMu) :=
  (fX5_advance n μ).bind fun y1 =>
  (fX1_vertexCount 3 y1).bind fun y2 =>
  (fX5_expectNumber 0 (y2 - 1) y1).bind fun y3 =>
  if wr y3.1 = 0 then
    some (0, y3.2)
  else
    (fX5_advance n y3.2).bind fun y5 =>
    (fX1_vertexCount 3 y5).bind fun y6 =>
    (fX5_expectNumber 0 (y6 - 1) y5).bind fun y7 =>
    if wr y7.1 = 0 then
      some (0, y7.2)
    else
      (fX5_advance n y7.2).bind fun y9 =>
      if wr (if wr (rd y9 1 9) = 2 then 1 else 0) = 0 then
        (fX5_expectSemicolon y9).bind fun y14 =>
        if wr y14.1 = 0 then
          some (0, y14.2)
        else
          (fX1_edgeCount p0 y14.2).bind fun y19 =>
          if 16 < wr (y19 + (if wr (if wr (rd y9 1 9) = 2 then 1 else 0) = 0 then 1 else (rd y14.2 1 12))) then
            (fX5_fail 5 y14.2).bind fun y21 =>
            (qbl y21.1).bind fun x22 =>
            some (x22, y21.2)
          else
            (fX1_put p0 (rd y3.2 1 12) (rd y7.2 1 12) (if wr (if wr (rd y9 1 9) = 2 then 1 else 0) = 0 then 1 else (rd y14.2 1 12)) y14.2).bind fun y23 =>
            (if wr (if wr (rd y9 1 9) = 2 then 1 else 0) = 0 then
              some y23
            else
              (fX5_advance n y23).bind fun y26 =>
              some y26 : Option (qMu)).bind fun y25 =>
            (fX5_expectSemicolon y25).bind fun y27 =>
            (qbl y27.1).bind fun x28 =>
            some (x28, y27.2)
      else
        (fX5_expectNumber 1 9 y9).bind fun y29 =>
        if wr y29.1 = 0 then
          some (0, y29.2)
        else
          (fX1_edgeCount p0 y29.2).bind fun y34 =>
          if 16 < wr (y34 + (if wr (if wr (rd y9 1 9) = 2 then 1 else 0) = 0 then 1 else (rd y29.2 1 12))) then
            (fX5_fail 5 y29.2).bind fun y36 =>
            (qbl y36.1).bind fun x37 =>
            some (x37, y36.2)
          else
            (fX1_put p0 (rd y3.2 1 12) (rd y7.2 1 12) (if wr (if wr (rd y9 1 9) = 2 then 1 else 0) = 0 then 1 else (rd y29.2 1 12)) y29.2).bind fun y38 =>
            (if wr (if wr (rd y9 1 9) = 2 then 1 else 0) = 0 then
              some y38
            else
              (fX5_advance n y38).bind fun y41 =>
              some y41 : Option (qMu)).bind fun y40 =>
            (fX5_expectSemicolon y40).bind fun y42 =>
            (qbl y42.1).bind fun x43 =>
            some (x43, y42.2)
def fX5_readModeNumber (n : Nat) (μ : qMu) : Option (Int × qMu) :=
  (fX5_advance n μ).bind fun y1 =>
  (fX5_expectNumber 0 2 y1).bind fun y2 =>
  if wr y2.1 = 0 then
    some (0, y2.2)
  else
    (qPf y2.2 1 4 (rd y2.2 1 12)).bind fun μ4 =>
    (fX5_advance n μ4).bind fun y5 =>
    (fX5_expectSemicolon y5).bind fun y6 =>
    (qbl y6.1).bind fun x7 =>
    some (x7, y6.2)
def fX5_readOther (n : Nat) (μ : qMu) : Option (Int × qMu) :=
  (fX5_isWord n 1000002 μ).bind fun y1 =>
  if wr y1 = 0 then
    (fX5_isWord n 1000003 μ).bind fun y3 =>
    if wr y3 = 0 then
      (fX5_isWord n 1000004 μ).bind fun y5 =>
      if wr y5 = 0 then
        (fX5_fail 2 μ).bind fun y7 =>
        (qbl y7.1).bind fun x8 =>
        some (x8, y7.2)
      else
        (fX5_readModeNumber n μ).bind fun y9 =>
        (qbl y9.1).bind fun x10 =>
        some (x10, y9.2)
    else
      (fX5_readEdge n 5 μ).bind fun y11 =>
      (qbl y11.1).bind fun x12 =>
      some (x12, y11.2)
  else
    (fX5_readEdge n 3 μ).bind fun y13 =>
    (qbl y13.1).bind fun x14 =>
    some (x14, y13.2)
def bX5_readText_48 (n : Nat) (z2 : Int) (z3 : Int) (μ : qMu) : Option ((Int × Int × qMu) ⊕ (Int × qMu)) :=
  if wr z3 < 400 then
    if wr z2 = 0 then
      some (.inr (z2, μ))
    else
      if wr (rd μ 1 9) = 0 then
        some (.inr (z2, μ))
      else
        (fX5_advance n μ).bind fun y12 =>
        (if wr (rd y12 1 9) = 0 then
          some (1, y12)
        else
          (fX5_readOther n y12).bind fun y15 =>
          if wr y15.1 = 0 then
            some (0, y15.2)
          else
            some (1, y15.2) : Option (Int × qMu)).bind fun y14 =>
        some (.inl (y14.1, (z3 + 1), y14.2))
  else
    some (.inr (z2, μ))
def fX5_readText (n : Nat) (p0 : Int) (μ : qMu) : Option (Int × qMu) :=
  (qPf μ 1 6 (mn p0 (rd μ 1 5))).bind fun μ1 =>
  (qPf μ1 1 5 0).bind fun μ2 =>
  (qPf μ2 1 11 0).bind fun μ3 =>
  (qPf μ3 1 4 0).bind fun μ4 =>
  (qPf μ4 1 7 0).bind fun μ5 =>
  (qPf μ5 1 8 (-1)).bind fun μ6 =>
  (fX5_advance n μ6).bind fun y7 =>
  (fX5_readFirst n y7).bind fun y8 =>
  (lp (fun x : Int × Int × qMu => bX5_readText_48 n x.1 x.2.1 x.2.2) n (y8.1, 0, y8.2)).bind fun y17 =>
  (qbl y17.1).bind fun x18 =>
  some (x18, y17.2)
def fX5_readGraph (μ : qMu) : Option (Nat) :=
  some 3
def bX1_become_2 (n : Nat) (w0 : Nat) (w1 : Nat) (z2 : Int) (μ : qMu) : Option ((Int × qMu) ⊕ (qMu)) :=
  if wr z2 < 64 then
    (qLd μ (w1 + 1) 64 z2).bind fun x2 =>
    (qSa μ (w0 + 1) 64 z2 x2).bind fun μ3 =>
    some (.inl ((z2 + 1), μ3))
  else
    some (.inr μ)
def fX1_become (n : Nat) (g : Nat) (p0 : Nat) (μ : qMu) : Option (qMu) :=
  (lp (fun x : Int × qMu => bX1_become_2 n g p0 x.1 x.2) n (0, μ)).bind fun y4 =>
  (qPf y4 g 1 (rd y4 p0 1)).bind fun μ5 =>
  (qPf μ5 g 2 (rd μ5 p0 2)).bind fun μ6 =>
  some μ6
def fX5_readTarget (μ : qMu) : Option (Nat) :=
  some 5
def fX5_readMode (μ : qMu) : Option (Int) :=
  some (rd μ 1 4)
def fX2_forget (μ : qMu) : Option (qMu) :=
  (qPf μ 32 3 0).bind fun μ1 =>
  (qPf μ1 32 4 0).bind fun μ2 =>
  some μ2
def fX9_load (n : Nat) (p0 : Int) (μ : qMu) : Option ((Int ⊕ Nat) × qMu) :=
  if wr p0 < 0 then
    some (.inr 1, μ)
  else
    (fX5_fedBytes μ).bind fun y2 =>
    if wr y2 < wr p0 then
      some (.inr 1, μ)
    else
      (fX5_readText n p0 μ).bind fun y4 =>
      if wr y4.1 = 0 then
        some (.inl (-3), y4.2)
      else
        (fX5_readGraph y4.2).bind fun y6 =>
        (fX1_become n 11 y6 y4.2).bind fun y7 =>
        (fX5_readTarget y7).bind fun y8 =>
        (fX1_become n 13 y8 y7).bind fun y9 =>
        (fX5_readMode y9).bind fun y10 =>
        (qPf y9 0 11 y10).bind fun μ11 =>
        (fX2_forget μ11).bind fun y12 =>
        (fX1_edgeCount 11 y12).bind fun y13 =>
        some (.inl y13, y12)
def fX5_kindOfError (μ : qMu) : Option (Int) :=
  some (rd μ 1 7)
def fX9_errorKind (μ : qMu) : Option (Int) :=
  (fX5_kindOfError μ).bind fun y1 =>
  some y1
def fX9_vertices (μ : qMu) : Option (Int) :=
  (fX1_vertexCount 11 μ).bind fun y1 =>
  some y1
def fX9_checkVertex (p0 : Int) (μ : qMu) : Option ((Int ⊕ Nat)) :=
  if wr p0 < 0 then
    some (.inr 0)
  else
    (fX1_vertexCount 11 μ).bind fun y2 =>
    if wr p0 < wr y2 then
      some (.inl 0)
    else
      some (.inr 0)
def fX9_choose (p0 : Int) (μ : qMu) : Option (Nat) :=
  some (if wr p0 = 0 then 11 else 13)
def fX1_between (g : Nat) (p0 : Int) (p1 : Int) (μ : qMu) : Option (Int) :=
  (qLd μ (g + 1) 64 ((p0 * 8) + p1)).bind fun x1 =>
  some x1
def fX9_times (p0 : Int) (p1 : Int) (p2 : Int) (μ : qMu) : Option ((Int ⊕ Nat)) :=
  (fX9_checkVertex p0 μ).bind fun y1 =>
  Sum.elim (fun v3 =>
    (fX9_checkVertex p1 μ).bind fun y5 =>
    Sum.elim (fun v7 =>
      (fX9_choose p2 μ).bind fun y9 =>
      (fX1_between y9 p0 p1 μ).bind fun y10 =>
      some (.inl y10))
      (fun E8 =>
      some (.inr E8)) y5)
    (fun E4 =>
    some (.inr E4)) y1
def bX1_degreeOf_9 (n : Nat) (w0 : Nat) (w1 : Int) (z2 : Int) (z3 : Int) (μ : qMu) : Option ((Int × Int) ⊕ (Int)) :=
  if wr z3 < wr (rd μ w0 1) then
    (fX1_between w0 w1 z3 μ).bind fun y3 =>
    some (.inl ((z2 + y3), (z3 + 1)))
  else
    some (.inr z2)
def fX1_degreeOf (n : Nat) (g : Nat) (p0 : Int) (μ : qMu) : Option (Int) :=
  (fX1_between g p0 p0 μ).bind fun y1 =>
  (lp (fun x : Int × Int => bX1_degreeOf_9 n g p0 x.1 x.2 μ) n (y1, 0)).bind fun y4 =>
  some y4
def fX9_degree (n : Nat) (p0 : Int) (p1 : Int) (μ : qMu) : Option ((Int ⊕ Nat)) :=
  (fX9_checkVertex p0 μ).bind fun y1 =>
  Sum.elim (fun v3 =>
    (fX9_choose p1 μ).bind fun y5 =>
    (fX1_degreeOf n y5 p0 μ).bind fun y6 =>
    some (.inl y6))
    (fun E4 =>
    some (.inr E4)) y1
def bX1_loopCount_4 (n : Nat) (w0 : Nat) (z1 : Int) (z2 : Int) (μ : qMu) : Option ((Int × Int) ⊕ (Int)) :=
  if wr z2 < wr (rd μ w0 1) then
    (fX1_between w0 z2 z2 μ).bind fun y2 =>
    some (.inl ((z1 + y2), (z2 + 1)))
  else
    some (.inr z1)
def fX1_loopCount (n : Nat) (g : Nat) (μ : qMu) : Option (Int) :=
  (lp (fun x : Int × Int => bX1_loopCount_4 n g x.1 x.2 μ) n (0, 0)).bind fun y3 =>
  some y3
def fX9_loops (n : Nat) (μ : qMu) : Option (Int) :=
  (fX1_loopCount n 11 μ).bind fun y1 =>
  some y1
def bX1_defectCount_19 (n : Nat) (w0 : Nat) (w2 : Int) (z1 : Int) (z3 : Int) (μ : qMu) : Option ((Int × Int) ⊕ (Int)) :=
  if wr z3 < wr (rd μ w0 1) then
    (fX1_between w0 w2 z3 μ).bind fun y4 =>
    some (.inl ((z1 + (mx 0 (y4 - 1))), (z3 + 1)))
  else
    some (.inr z1)
def bX1_defectCount_7 (n : Nat) (w0 : Nat) (z1 : Int) (z2 : Int) (μ : qMu) : Option ((Int × Int) ⊕ (Int)) :=
  if wr z2 < wr (rd μ w0 1) then
    (lp (fun x : Int × Int => bX1_defectCount_19 n w0 z2 x.1 x.2 μ) n (z1, (z2 + 1))).bind fun y5 =>
    some (.inl (y5, (z2 + 1)))
  else
    some (.inr z1)
def fX1_defectCount (n : Nat) (g : Nat) (μ : qMu) : Option (Int) :=
  (fX1_loopCount n g μ).bind fun y1 =>
  (lp (fun x : Int × Int => bX1_defectCount_7 n g x.1 x.2 μ) n (y1, 0)).bind fun y6 =>
  some y6
def fX9_defects (n : Nat) (μ : qMu) : Option (Int) :=
  (fX1_defectCount n 11 μ).bind fun y1 =>
  some y1
def fX9_isSimple (n : Nat) (μ : qMu) : Option (Int) :=
  (fX1_defectCount n 11 μ).bind fun y1 =>
  if wr y1 = 0 then
    some 1
  else
    some 0
def bX1_commonNeighboursBehind_7 (n : Nat) (w0 : Nat) (w1 : Int) (w2 : Int) (z3 : Int) (z4 : Int) (μ : qMu) : Option ((Int × Int) ⊕ (Int)) :=
  if wr z4 < wr (rd μ w0 1) then
    (fX1_between w0 w1 z4 μ).bind fun y2 =>
    (if 0 < wr y2 then
      (fX1_between w0 w2 z4 μ).bind fun y5 =>
      if 0 < wr y5 then
        some (z3 + 1)
      else
        some z3
    else
      some z3 : Option (Int)).bind fun y4 =>
    some (.inl (y4, (z4 + 1)))
  else
    some (.inr z3)
def fX1_commonNeighboursBehind (n : Nat) (g : Nat) (p0 : Int) (p1 : Int) (μ : qMu) : Option (Int) :=
  (lp (fun x : Int × Int => bX1_commonNeighboursBehind_7 n g p0 p1 x.1 x.2 μ) n (0, (p1 + 1))).bind fun y7 =>
  some y7
def bX1_triangleCount_16 (n : Nat) (w0 : Nat) (w2 : Int) (z1 : Int) (z3 : Int) (μ : qMu) : Option ((Int × Int) ⊕ (Int)) :=
  if wr z3 < wr (rd μ w0 1) then
    (fX1_between w0 w2 z3 μ).bind fun y3 =>
    (if 0 < wr y3 then
      (fX1_commonNeighboursBehind n w0 w2 z3 μ).bind fun y6 =>
      some (z1 + y6)
    else
      some z1 : Option (Int)).bind fun y5 =>
    some (.inl (y5, (z3 + 1)))
  else
    some (.inr z1)
def bX1_triangleCount_4 (n : Nat) (w0 : Nat) (z1 : Int) (z2 : Int) (μ : qMu) : Option ((Int × Int) ⊕ (Int)) :=
  if wr z2 < wr (rd μ w0 1) then
    (lp (fun x : Int × Int => bX1_triangleCount_16 n w0 z2 x.1 x.2 μ) n (z1, (z2 + 1))).bind fun y7 =>
    some (.inl (y7, (z2 + 1)))
  else
    some (.inr z1)
def fX1_triangleCount (n : Nat) (g : Nat) (μ : qMu) : Option (Int) :=
  (lp (fun x : Int × Int => bX1_triangleCount_4 n g x.1 x.2 μ) n (0, 0)).bind fun y8 =>
  some y8
def fX9_triangles (n : Nat) (μ : qMu) : Option (Int) :=
  (fX1_triangleCount n 11 μ).bind fun y1 =>
  some y1
def bX4_merge_16 (n : Nat) (w3 : Int) (w4 : Int) (z5 : Int) (μ : qMu) : Option ((Int × qMu) ⊕ (qMu)) :=
  if wr z5 < wr (rd μ 19 2) then
    if wr w3 = wr w4 then
      some (.inr μ)
    else
      (qLd μ 20 8 z5).bind fun x3 =>
      (if wr x3 = wr w3 then
        (qSa μ 20 8 z5 w4).bind fun μ6 =>
        some μ6
      else
        some μ : Option (qMu)).bind fun y5 =>
      some (.inl ((z5 + 1), y5))
  else
    some (.inr μ)
def fX4_merge (n : Nat) (p0 : Int) (p1 : Int) (μ : qMu) : Option (qMu) :=
  (lp (fun x : Int × qMu => bX4_merge_16 n (mx p0 p1) (mn p0 p1) x.1 x.2) n ((mx p0 p1), μ)).bind fun y7 =>
  some y7
def bX4_find_10 (n : Nat) (w1 : Nat) (z2 : Int) (μ : qMu) : Option ((Int × qMu) ⊕ (qMu)) :=
  if wr z2 < wr (rd μ 19 2) then
    (qSa μ 20 8 z2 z2).bind fun μ4 =>
    some (.inl ((z2 + 1), μ4))
  else
    some (.inr μ)
def bX4_find_45 (n : Nat) (w1 : Nat) (w2 : Int) (z3 : Int) (μ : qMu) : Option ((Int × qMu) ⊕ (qMu)) :=
  if wr z3 < wr (rd μ 19 2) then
    (fX1_between w1 w2 z3 μ).bind fun y8 =>
    (if 0 < wr y8 then
      (qLd μ 20 8 w2).bind fun x11 =>
      (qLd μ 20 8 z3).bind fun x12 =>
      (fX4_merge n x11 x12 μ).bind fun y13 =>
      some y13
    else
      some μ : Option (qMu)).bind fun y10 =>
    some (.inl ((z3 + 1), y10))
  else
    some (.inr μ)
def bX4_find_33 (n : Nat) (w1 : Nat) (z2 : Int) (μ : qMu) : Option ((Int × qMu) ⊕ (qMu)) :=
  if wr z2 < wr (rd μ 19 2) then
    (lp (fun x : Int × qMu => bX4_find_45 n w1 z2 x.1 x.2) n ((z2 + 1), μ)).bind fun y14 =>
    some (.inl ((z2 + 1), y14))
  else
    some (.inr μ)
def fX4_find (n : Nat) (p0 : Nat) (μ : qMu) : Option (qMu) :=
  (fX1_vertexCount p0 μ).bind fun y1 =>
  (qPf μ 19 2 y1).bind fun μ2 =>
  (lp (fun x : Int × qMu => bX4_find_10 n p0 x.1 x.2) n (0, μ2)).bind fun y5 =>
  (lp (fun x : Int × qMu => bX4_find_33 n p0 x.1 x.2) n (0, y5)).bind fun y15 =>
  some y15
def bX4_countBefore_4 (n : Nat) (w1 : Int) (z2 : Int) (z3 : Int) (μ : qMu) : Option ((Int × Int) ⊕ (Int)) :=
  if wr z3 < wr w1 then
    if wr z3 < wr (rd μ 19 2) then
      (qLd μ 20 8 z3).bind fun x3 =>
      some (.inl ((if wr x3 = wr z3 then (z2 + 1) else z2), (z3 + 1)))
    else
      some (.inr z2)
  else
    some (.inr z2)
def fX4_countBefore (n : Nat) (p0 : Int) (μ : qMu) : Option (Int) :=
  (lp (fun x : Int × Int => bX4_countBefore_4 n p0 x.1 x.2 μ) n (0, 0)).bind fun y7 =>
  some y7
def fX4_count (n : Nat) (μ : qMu) : Option (Int) :=
  (fX4_countBefore n (rd μ 19 2) μ).bind fun y1 =>
  some y1
def fX9_components (n : Nat) (μ : qMu) : Option (Int × qMu) :=
  (fX4_find n 11 μ).bind fun y1 =>
  (fX4_count n y1).bind fun y2 =>
  some (y2, y1)
def bX6_take_6 (n : Nat) (w0 : Nat) (w1 : Nat) (z2 : Int) (μ : qMu) : Option ((Int × qMu) ⊕ (qMu)) :=
  (fX1_vertexCount w1 μ).bind fun y2 =>
  if wr z2 < wr y2 then
    (fX1_degreeOf n w1 z2 μ).bind fun y4 =>
    (fX6_append n w0 y4 μ).bind fun y5 =>
    some (.inl ((z2 + 1), y5))
  else
    some (.inr μ)
def fX6_take (n : Nat) (q : Nat) (p0 : Nat) (μ : qMu) : Option (qMu) :=
  (fX6_clear q μ).bind fun y1 =>
  (lp (fun x : Int × qMu => bX6_take_6 n q p0 x.1 x.2) n (0, y1)).bind fun y6 =>
  some y6
def fX6_greatest (q : Nat) (p0 : Int) (μ : qMu) : Option (Int) :=
  (qLd μ (q + 2) 8 p0).bind fun x1 =>
  some x1
def fX9_sorted (n : Nat) (p0 : Int) (μ : qMu) : Option ((Int ⊕ Nat) × qMu) :=
  (fX9_checkVertex p0 μ).bind fun y1 =>
  Sum.elim (fun v3 =>
    (fX6_take n 22 11 μ).bind fun y5 =>
    (fX6_greatest 22 p0 y5).bind fun y6 =>
    some (.inl y6, y5))
    (fun E4 =>
    some (.inr E4, μ)) y1
def bX6_slackOf_8 (n : Nat) (w0 : Nat) (w1 : Int) (z2 : Int) (z3 : Int) (μ : qMu) : Option ((Int × Int) ⊕ (Int)) :=
  if wr z3 < wr (rd μ w0 3) then
    (if wr z3 < wr w1 then
      (qLd μ (w0 + 2) 8 z3).bind fun x4 =>
      some (-x4)
    else
      (qLd μ (w0 + 2) 8 z3).bind fun x5 =>
      some (mn w1 x5) : Option (Int)).bind fun y3 =>
    some (.inl ((z2 + y3), (z3 + 1)))
  else
    some (.inr z2)
def fX6_slackOf (n : Nat) (q : Nat) (p0 : Int) (μ : qMu) : Option (Int) :=
  (lp (fun x : Int × Int => bX6_slackOf_8 n q p0 x.1 x.2 μ) n ((p0 * (p0 - 1)), 0)).bind fun y6 =>
  some y6
def fX9_slack (n : Nat) (p0 : Int) (μ : qMu) : Option ((Int ⊕ Nat) × qMu) :=
  if wr p0 < 1 then
    some (.inr 0, μ)
  else
    (fX1_vertexCount 11 μ).bind fun y2 =>
    if wr y2 < wr p0 then
      some (.inr 0, μ)
    else
      (fX6_take n 22 11 μ).bind fun y4 =>
      (fX6_slackOf n 22 p0 y4).bind fun y5 =>
      some (.inl y5, y4)
def fX9_checkMode (p0 : Int) (μ : qMu) : Option ((Int ⊕ Nat)) :=
  if wr p0 < 0 then
    some (.inr 1)
  else
    if 2 < wr p0 then
      some (.inr 1)
    else
      some (.inl 0)
def bX6_hasNoNegativeSlack_2 (n : Nat) (w0 : Nat) (z1 : Int) (μ : qMu) : Option ((Int) ⊕ ((Unit) ⊕ (Int))) :=
  if wr (rd μ w0 3) < wr z1 then
    some (.inr (.inl ()))
  else
    (fX6_slackOf n w0 z1 μ).bind fun y2 =>
    if wr y2 < 0 then
      some (.inr (.inr 0))
    else
      some (.inl (z1 + 1))
def fX6_hasNoNegativeSlack (n : Nat) (q : Nat) (μ : qMu) : Option (Int) :=
  (lp (fun x : Int => bX6_hasNoNegativeSlack_2 n q x μ) n 1).bind fun y4 =>
  Sum.elim (fun b5 =>
    some 1)
    (fun r6 => some r6) y4
def fX6_allows (n : Nat) (q : Nat) (p0 : Int) (μ : qMu) : Option (Int) :=
  if wr (irm (rd μ q 4) 2) = 0 then
    if wr p0 = 1 then
      if wr (rd μ q 3) = 0 then
        some 1
      else
        (qLd μ (q + 2) 8 0).bind fun x4 =>
        (qLd μ (q + 2) 8 0).bind fun x5 =>
        if wr ((rd μ q 4) - x5) < wr x4 then
          some 0
        else
          some 1
    else
      if wr p0 = 2 then
        (fX6_hasNoNegativeSlack n q μ).bind fun y8 =>
        if wr y8 = 0 then
          some 0
        else
          some 1
      else
        some 1
  else
    some 0
def fX9_isPossible (n : Nat) (p0 : Int) (μ : qMu) : Option ((Int ⊕ Nat) × qMu) :=
  (fX9_checkMode p0 μ).bind fun y1 =>
  Sum.elim (fun v3 =>
    (fX6_take n 22 11 μ).bind fun y5 =>
    (fX6_allows n 22 p0 y5).bind fun y6 =>
    (qbl y6).bind fun x7 =>
    some (.inl x7, y5))
    (fun E4 =>
    some (.inr E4, μ)) y1
def fX9_meanDegree (μ : qMu) : Option (UInt64) :=
  (fX1_vertexCount 11 μ).bind fun y1 =>
  (if 0 < wr y1 then
    (fX1_edgeCount 11 μ).bind fun y4 =>
    (ddv (i2d (2 * y4)) (i2d y1)).bind fun x5 =>
    some x5
  else
    some FP.dconst0 : Option (UInt64)).bind fun y3 =>
  some y3
def fX9_checkVertices (p0 : Int) (p1 : Int) (p2 : Int) (p3 : Int) (μ : qMu) : Option ((Int ⊕ Nat)) :=
  (fX9_checkVertex p0 μ).bind fun y1 =>
  Sum.elim (fun v3 =>
    (fX9_checkVertex p1 μ).bind fun y5 =>
    Sum.elim (fun v7 =>
      (fX9_checkVertex p2 μ).bind fun y9 =>
      Sum.elim (fun v11 =>
        (fX9_checkVertex p3 μ).bind fun y13 =>
        Sum.elim (fun v15 =>
          some (.inl 0))
          (fun E16 =>
          some (.inr E16)) y13)
        (fun E12 =>
        some (.inr E12)) y9)
      (fun E8 =>
      some (.inr E8)) y5)
    (fun E4 =>
    some (.inr E4)) y1
def fX1_reasonAgainst (g : Nat) (p0 : Int) (p1 : Int) (p2 : Int) (p3 : Int) (p4 : Int) (μ : qMu) : Option (Int) :=
  (fX1_between g p1 p2 μ).bind fun y1 =>
  if wr y1 = 0 then
    some 1
  else
    (fX1_between g p3 p4 μ).bind fun y6 =>
    if wr y6 < wr (if wr (if wr p1 = wr p3 then if wr p2 = wr p4 then 1 else if wr p1 = wr p4 then if wr p2 = wr p3 then 1 else 0 else 0 else if wr p1 = wr p4 then if wr p2 = wr p3 then 1 else 0 else 0) = 0 then 1 else 2) then
      some 2
    else
      if wr p1 = wr p4 then
        some 3
      else
        if wr p2 = wr p3 then
          some 3
        else
          if wr p0 = 0 then
            (fX1_between g p1 p3 μ).bind fun y14 =>
            (if 0 < wr y14 then
              some 1
            else
              (fX1_between g p2 p4 μ).bind fun y17 =>
              if 0 < wr y17 then
                some 1
              else
                some 0 : Option (Int)).bind fun y16 =>
            if wr p0 = 2 then
              if wr y16 = 0 then
                if wr (if wr p1 = wr p2 then if wr p3 = wr p4 then 1 else 0 else 0) = 0 then
                  some 0
                else
                  some 5
              else
                some 5
            else
              some 0
          else
            if wr p1 = wr p3 then
              some 4
            else
              if wr p2 = wr p4 then
                some 4
              else
                (fX1_between g p1 p3 μ).bind fun y28 =>
                (if 0 < wr y28 then
                  some 1
                else
                  (fX1_between g p2 p4 μ).bind fun y31 =>
                  if 0 < wr y31 then
                    some 1
                  else
                    some 0 : Option (Int)).bind fun y30 =>
                if wr p0 = 2 then
                  if wr y30 = 0 then
                    if wr (if wr p1 = wr p2 then if wr p3 = wr p4 then 1 else 0 else 0) = 0 then
                      some 0
                    else
                      some 5
                  else
                    some 5
                else
                  some 0
def fX9_reason (p0 : Int) (p1 : Int) (p2 : Int) (p3 : Int) (μ : qMu) : Option ((Int ⊕ Nat)) :=
  (fX9_checkVertices p0 p1 p2 p3 μ).bind fun y1 =>
  Sum.elim (fun v3 =>
    (fX1_reasonAgainst 11 (rd μ 0 11) p0 p1 p2 p3 μ).bind fun y5 =>
    some (.inl y5))
    (fun E4 =>
    some (.inr E4)) y1
def fX9_checkEdge (p0 : Int) (p1 : Int) (μ : qMu) : Option ((Int ⊕ Nat)) :=
  (fX1_between 11 p0 p1 μ).bind fun y1 =>
  if wr y1 = 0 then
    some (.inr 2)
  else
    some (.inl 0)
def fX2_remember (n : Nat) (p0 : Nat) (p1 : Nat) (p2 : Int) (μ : qMu) : Option (qMu) :=
  (qLa qR33 (rd μ 32 4)).bind fun x1 =>
  (fX1_become n x1 p0 μ).bind fun y2 =>
  (qLa qR34 (rd y2 32 4)).bind fun x3 =>
  (fX1_become n x3 p1 y2).bind fun y4 =>
  (qSa y4 35 10 (rd y4 32 4) p2).bind fun μ5 =>
  (qPf μ5 32 4 (if wr ((rd μ5 32 4) + 1) < 10 then ((rd μ5 32 4) + 1) else 0)).bind fun μ9 =>
  (qPf μ9 32 3 (mn ((rd μ9 32 3) + 1) 10)).bind fun μ10 =>
  some μ10
def fX9_remember (n : Nat) (μ : qMu) : Option (qMu) :=
  (fX2_remember n 11 13 (rd μ 0 11) μ).bind fun y1 =>
  some y1
def fX9_removeEdge (n : Nat) (p0 : Int) (p1 : Int) (μ : qMu) : Option ((Int ⊕ Nat) × qMu) :=
  (fX9_checkVertex p0 μ).bind fun y1 =>
  Sum.elim (fun v3 =>
    (fX9_checkVertex p1 μ).bind fun y5 =>
    Sum.elim (fun v7 =>
      (fX9_checkEdge p0 p1 μ).bind fun y9 =>
      Sum.elim (fun v11 =>
        (fX9_remember n μ).bind fun y13 =>
        (fX1_put 11 p0 p1 (-1) y13).bind fun y14 =>
        (fX1_between 11 p0 p1 y14).bind fun y15 =>
        some (.inl y15, y14))
        (fun E12 =>
        some (.inr E12, μ)) y9)
      (fun E8 =>
      some (.inr E8, μ)) y5)
    (fun E4 =>
    some (.inr E4, μ)) y1
def fX9_setMode (n : Nat) (p0 : Int) (μ : qMu) : Option ((Int ⊕ Nat) × qMu) :=
  (fX9_checkMode p0 μ).bind fun y1 =>
  Sum.elim (fun v3 =>
    (fX9_remember n μ).bind fun y5 =>
    (qPf y5 0 11 p0).bind fun μ6 =>
    some (.inl (rd y5 0 11), μ6))
    (fun E4 =>
    some (.inr E4, μ)) y1
def fL_among (p0 : Int) (p1 : Int) (μ : qMu) : Option (Int) :=
  (qnz p1).bind fun u1 =>
  if wr (irm p0 p1) < 0 then
    some ((irm p0 p1) + p1)
  else
    some (irm p0 p1)
def fL_cell (Ls : Nat) (p1 : Int) (μ : qMu) : Option (Int) :=
  if wr p1 < wr (Ls : Int) then
    (qLd μ 1001000 Ls p1).bind fun x2 =>
    some x2
  else
    some ((7919 * (irm p1 1000)) + 5)
def fJ0_coder_7d493 (o : Nat) (μ : qMu) : Option (Int) :=
  (qGi μ o 10 1).bind fun x2 =>
  (qbt x2).bind fun x3 =>
  some x3
def fJ0_length_8abf5 (o : Nat) (μ : qMu) : Option (Int) :=
  (qGr μ o 10).bind fun x1 =>
  (qAn μ x1).bind fun x2 =>
  (qCk μ o 10).bind fun u3 =>
  (fJ0_coder_7d493 o μ).bind fun y4 =>
  some (ishr x2 y4)
def fJ0_isLatin1_aae02 (o : Nat) (μ : qMu) : Option (Int) :=
  (qGi μ o 10 1).bind fun x2 =>
  if wr x2 = 0 then
    some 1
  else
    some 0
def fJ1_charAt_3b067 (p0 : Nat) (p1 : Int) (μ : qMu) : Option (Int) :=
  (qAn μ p0).bind fun x1 =>
  (qIx p1 x1).bind fun u2 =>
  (qLb μ p0 p1).bind fun x3 =>
  (qch (i2c (ian x3 255))).bind fun x4 =>
  some x4
def fJ0_charAt_5068e (o : Nat) (p0 : Int) (μ : qMu) : Option (Int) :=
  (qCk μ o 10).bind fun u1 =>
  (fJ0_isLatin1_aae02 o μ).bind fun y2 =>
  if wr y2 = 0 then
    (qGr μ o 10).bind fun x4 =>
    none
  else
    (qGr μ o 10).bind fun x5 =>
    (fJ1_charAt_3b067 x5 p0 μ).bind fun y6 =>
    (qch y6).bind fun x7 =>
    some x7
def bL_four_4 (n : Nat) (w0 : Nat) (w1 : Int) (z2 : Int) (z3 : Int) (μ : qMu) : Option ((Int × Int) ⊕ (Int)) :=
  if wr z3 < wr (w1 + 4) then
    (qCk μ w0 10).bind fun u2 =>
    (fJ0_length_8abf5 w0 μ).bind fun y3 =>
    (if wr z3 < wr y3 then
      (qCk μ w0 10).bind fun u6 =>
      (fJ0_charAt_5068e w0 z3 μ).bind fun y7 =>
      some y7
    else
      some 32 : Option (Int)).bind fun y5 =>
    some (.inl ((io (ishl z2 8) y5), (z3 + 1)))
  else
    some (.inr z2)
def fL_four (n : Nat) (p0 : Nat) (p1 : Int) (μ : qMu) : Option (Int) :=
  (lp (fun x : Int × Int => bL_four_4 n p0 p1 x.1 x.2 μ) n (0, p1)).bind fun y8 =>
  some y8
def bL_load_2 (n : Nat) (w1 : Nat) (z2 : Int) (μ : qMu) : Option ((Int × qMu) ⊕ (qMu)) :=
  (qCk μ w1 10).bind fun u1 =>
  (fJ0_length_8abf5 w1 μ).bind fun y2 =>
  if wr z2 < wr y2 then
    (fL_four n w1 z2 μ).bind fun y4 =>
    (fL_four n w1 (z2 + 4) μ).bind fun y5 =>
    (fL_four n w1 (z2 + 8) μ).bind fun y6 =>
    (fL_four n w1 (z2 + 12) μ).bind fun y7 =>
    (fL_four n w1 (z2 + 16) μ).bind fun y8 =>
    (fX9_feed n y4 y5 y6 y7 y8 μ).bind fun y9 =>
    some (.inl ((z2 + 20), y9.2))
  else
    some (.inr μ)
def fL_load (n : Nat) (p1 : Nat) (μ : qMu) : Option ((Int ⊕ Nat) × qMu) :=
  (lp (fun x : Int × qMu => bL_load_2 n p1 x.1 x.2) n (0, μ)).bind fun y10 =>
  (qCk y10 p1 10).bind fun u11 =>
  (fJ0_length_8abf5 p1 y10).bind fun y12 =>
  (fX9_load n y12 y10).bind fun y13 =>
  Sum.elim (fun v15 =>
    some (.inl v15, y13.2))
    (fun E16 =>
    some (.inr E16, y13.2)) y13.1
def fL_chosen (Ls : Nat) (p0 : Int) (μ : qMu) : Option (Int × qMu) :=
  (fL_cell Ls (rd μ 78 1) μ).bind fun y1 =>
  (fL_among y1 p0 μ).bind fun y2 =>
  (qPf μ 78 1 ((rd μ 78 1) + 1)).bind fun μ3 =>
  some (y2, μ3)
def fL_from (Ls : Nat) (p0 : Int) (p1 : Int) (μ : qMu) : Option (Int × qMu) :=
  (fL_chosen Ls ((p1 - p0) + 1) μ).bind fun y1 =>
  some ((p0 + y1.1), y1.2)
def fJ5_init_d00df (o : Nat) (p0 : Int) (μ : qMu) : Option (qMu) :=
  (qNw μ 1 p0).bind fun y2 =>
  (qPr y2.2 o 11 y2.1).bind fun μ3 =>
  (qPj μ3 o 11 1 0).bind fun μ4 =>
  some μ4
def fJ4_init_da8c8 (o : Nat) (μ : qMu) : Option (qMu) :=
  (qCn μ o 11).bind fun u1 =>
  (fJ5_init_d00df o 16 μ).bind fun y2 =>
  some y2
def fJ8_newLength_cabcc (p0 : Int) (p1 : Int) (p2 : Int) (μ : qMu) : Option (Int) :=
  if 0 < wr (p0 + (mx p1 p2)) then
    if 2147483639 < wr (p0 + (mx p1 p2)) then
      none
    else
      some (p0 + (mx p1 p2))
  else
    none
def fJ5_newCapacity_0f7a4 (o : Nat) (p0 : Int) (μ : qMu) : Option (Int) :=
  (qGr μ o 11).bind fun x1 =>
  (qAn μ x1).bind fun x2 =>
  (qGi μ o 11 1).bind fun x3 =>
  (qGi μ o 11 1).bind fun x4 =>
  (fJ8_newLength_cabcc x2 ((ishl p0 x3) - x2) (x2 + (ishl 2 x4)) μ).bind fun y5 =>
  if wr y5 = 2147483647 then
    none
  else
    (qGi μ o 11 1).bind fun x7 =>
    some (ishr y5 x7)
def fJ7_copyOf_9075b (p0 : Nat) (p1 : Int) (μ : qMu) : Option (Nat × qMu) :=
  (qAn μ p0).bind fun x1 =>
  if wr p1 = wr x1 then
    (qCo μ p0).bind fun y3 =>
    (qCb y3.2 y3.1).bind fun u4 =>
    some (y3.1, y3.2)
  else
    (qNw μ 1 p1).bind fun y5 =>
    (qAn y5.2 p0).bind fun x6 =>
    (qCp y5.2 p0 0 y5.1 0 (mn x6 p1)).bind fun μ7 =>
    some (y5.1, μ7)
def fJ5_ensureCapacityInternal_d00df (o : Nat) (p0 : Int) (μ : qMu) : Option (qMu) :=
  (qGr μ o 11).bind fun x1 =>
  (qAn μ x1).bind fun x2 =>
  (qGi μ o 11 1).bind fun x3 =>
  if 0 < wr (p0 - (ishr x2 x3)) then
    (qGr μ o 11).bind fun x5 =>
    (qCn μ o 11).bind fun u6 =>
    (fJ5_newCapacity_0f7a4 o p0 μ).bind fun y7 =>
    (qGi μ o 11 1).bind fun x8 =>
    (fJ7_copyOf_9075b x5 (ishl y7 x8) μ).bind fun y9 =>
    (qPr y9.2 o 11 y9.1).bind fun μ10 =>
    some μ10
  else
    some μ
def fJ5_inflateIfNeededFor_a7421 (o : Nat) (p0 : Nat) (μ : qMu) : Option (Unit) :=
  (qGi μ o 11 1).bind fun x2 =>
  (qCk μ p0 10).bind fun u3 =>
  (fJ0_coder_7d493 p0 μ).bind fun y4 =>
  if wr x2 = wr y4 then
    some ()
  else
    none
def fJ0_getBytes_840e7 (o : Nat) (p0 : Nat) (p1 : Int) (p2 : Int) (μ : qMu) : Option (qMu) :=
  (qCk μ o 10).bind fun u1 =>
  (fJ0_coder_7d493 o μ).bind fun y2 =>
  if wr y2 = wr p2 then
    (qGr μ o 10).bind fun x4 =>
    (qGr μ o 10).bind fun x5 =>
    (qAn μ x5).bind fun x6 =>
    (qCp μ x4 0 p0 (ishl p1 p2) x6).bind fun μ7 =>
    some μ7
  else
    (qGr μ o 10).bind fun x8 =>
    (qGr μ o 10).bind fun x9 =>
    (qAn μ x9).bind fun x10 =>
    none
def fJ5_putStringAt_47b60 (o : Nat) (p0 : Int) (p1 : Nat) (μ : qMu) : Option (qMu) :=
  (qCn μ o 11).bind fun u1 =>
  (fJ5_inflateIfNeededFor_a7421 o p1 μ).bind fun y2 =>
  (qGr μ o 11).bind fun x3 =>
  (qGi μ o 11 1).bind fun x4 =>
  (qCk μ p1 10).bind fun u5 =>
  (fJ0_getBytes_840e7 p1 x3 p0 x4 μ).bind fun y6 =>
  some y6
def fJ5_append_cf1ce (o : Nat) (p0 : Nat) (μ : qMu) : Option (Nat × qMu) :=
  (qCk μ p0 10).bind fun u1 =>
  (fJ0_length_8abf5 p0 μ).bind fun y2 =>
  (qGi μ o 11 3).bind fun x3 =>
  (qCn μ o 11).bind fun u4 =>
  (fJ5_ensureCapacityInternal_d00df o (x3 + y2) μ).bind fun y5 =>
  (qGi y5 o 11 3).bind fun x6 =>
  (qCn y5 o 11).bind fun u7 =>
  (fJ5_putStringAt_47b60 o x6 p0 y5).bind fun y8 =>
  (qGi y8 o 11 3).bind fun x9 =>
  (qPj y8 o 11 3 (x9 + y2)).bind fun μ10 =>
  some (o, μ10)
def fJ4_append_15ec4 (o : Nat) (p0 : Nat) (μ : qMu) : Option (Nat × qMu) :=
  (qCn μ o 11).bind fun u1 =>
  (fJ5_append_cf1ce o p0 μ).bind fun y2 =>
  some (o, y2.2)
def bJ6_stringSize_0f7a4_16 (n : Nat) (w0 : Int) (w1 : Int) (z2 : Int) (z3 : Int) (μ : qMu) : Option ((Int × Int) ⊕ ((Unit) ⊕ (Int))) :=
  if wr z3 < 10 then
    if wr z2 < wr w0 then
      some (.inr (.inr (z3 + w1)))
    else
      some (.inl ((10 * z2), (z3 + 1)))
  else
    some (.inr (.inl ()))
def fJ6_stringSize_0f7a4 (n : Nat) (p0 : Int) (μ : qMu) : Option (Int) :=
  (lp (fun x : Int × Int => bJ6_stringSize_0f7a4_16 n (if wr p0 < 0 then p0 else (-p0)) (if wr p0 < 0 then 1 else 0) x.1 x.2 μ) n ((-10), 1)).bind fun y7 =>
  Sum.elim (fun b8 =>
    some (10 + (if wr p0 < 0 then 1 else 0)))
    (fun r9 => some r9) y7
def fJ5_isLatin1_aae02 (o : Nat) (μ : qMu) : Option (Int) :=
  (qGi μ o 11 1).bind fun x2 =>
  if wr x2 = 0 then
    some 1
  else
    some 0
def bJ6_getChars_ba4f3_22 (n : Nat) (w2 : Nat) (w6 : Int) (z0 : Int) (z5 : Int) (μ : qMu) : Option ((Int × Int × qMu) ⊕ (Int × Int × qMu)) :=
  if (-100) < wr z0 then
    some (.inr (z0, z5, μ))
  else
    (qLb μ 1000300 (((idv z0 100) * 100) - z0)).bind fun x16 =>
    (qSb μ w2 (z5 + (-1)) x16).bind fun μ17 =>
    none
def fJ6_getChars_ba4f3 (n : Nat) (p0 : Int) (p1 : Int) (p2 : Nat) (μ : qMu) : Option (Int × qMu) :=
  if wr (if wr p0 < 0 then 1 else 0) = 0 then
    (lp (fun x : Int × Int × qMu => bJ6_getChars_ba4f3_22 n p2 (if wr p0 < 0 then 1 else 0) x.1 x.2.1 x.2.2) n ((-p0), p1, μ)).bind fun y8 =>
    (qLb y8.2.2 1000300 (-y8.1)).bind fun x9 =>
    (qSb y8.2.2 p2 (y8.2.1 + (-1)) x9).bind fun μ10 =>
    if wr y8.1 < (-9) then
      none
    else
      (if wr (if wr p0 < 0 then 1 else 0) = 0 then
        some ((y8.2.1 + (-1)), μ10)
      else
        (qSb μ10 p2 ((y8.2.1 + (-1)) + (-1)) 45).bind fun μ14 =>
        some (((y8.2.1 + (-1)) + (-1)), μ14) : Option (Int × qMu)).bind fun y13 =>
      some (y13.1, y13.2)
  else
    (lp (fun x : Int × Int × qMu => bJ6_getChars_ba4f3_22 n p2 (if wr p0 < 0 then 1 else 0) x.1 x.2.1 x.2.2) n (p0, p1, μ)).bind fun y18 =>
    (qLb y18.2.2 1000300 (-y18.1)).bind fun x19 =>
    (qSb y18.2.2 p2 (y18.2.1 + (-1)) x19).bind fun μ20 =>
    if wr y18.1 < (-9) then
      none
    else
      (if wr (if wr p0 < 0 then 1 else 0) = 0 then
        some ((y18.2.1 + (-1)), μ20)
      else
        (qSb μ20 p2 ((y18.2.1 + (-1)) + (-1)) 45).bind fun μ24 =>
        some (((y18.2.1 + (-1)) + (-1)), μ24) : Option (Int × qMu)).bind fun y23 =>
      some (y23.1, y23.2)
def fJ5_append_c97b9 (n : Nat) (o : Nat) (p0 : Int) (μ : qMu) : Option (Nat × qMu) :=
  (qGi μ o 11 3).bind fun x1 =>
  (fJ6_stringSize_0f7a4 n p0 μ).bind fun y2 =>
  (qCn μ o 11).bind fun u3 =>
  (fJ5_ensureCapacityInternal_d00df o (x1 + y2) μ).bind fun y4 =>
  (qCn y4 o 11).bind fun u5 =>
  (fJ5_isLatin1_aae02 o y4).bind fun y6 =>
  (if wr y6 = 0 then
    (qGr y4 o 11).bind fun x9 =>
    none
  else
    (qGr y4 o 11).bind fun x10 =>
    (fJ6_getChars_ba4f3 n p0 (x1 + y2) x10 y4).bind fun y11 =>
    some y11.2 : Option (qMu)).bind fun y8 =>
  (qPj y8 o 11 3 (x1 + y2)).bind fun μ12 =>
  some (o, μ12)
def fJ4_append_bf812 (n : Nat) (o : Nat) (p0 : Int) (μ : qMu) : Option (Nat × qMu) :=
  (qCn μ o 11).bind fun u1 =>
  (fJ5_append_c97b9 n o p0 μ).bind fun y2 =>
  some (o, y2.2)
def fJ5_getValue_6d5f1 (o : Nat) (μ : qMu) : Option (Nat) :=
  (qGr μ o 11).bind fun x1 =>
  some x1
def fJ5_length_8abf5 (o : Nat) (μ : qMu) : Option (Int) :=
  (qGi μ o 11 3).bind fun x1 =>
  some x1
def fJ4_length_8abf5 (o : Nat) (μ : qMu) : Option (Int) :=
  (qCn μ o 11).bind fun u1 =>
  (fJ5_length_8abf5 o μ).bind fun y2 =>
  some y2
def fJ7_checkLength_df160 (p0 : Int) (p1 : Int) (μ : qMu) : Option (Unit) :=
  if wr p1 < wr p0 then
    none
  else
    some ()
def fJ7_copyOfRangeByte_39247 (p0 : Nat) (p1 : Int) (p2 : Int) (μ : qMu) : Option (Nat × qMu) :=
  (fJ7_checkLength_df160 p1 p2 μ).bind fun y1 =>
  (qNw μ 1 (p2 - p1)).bind fun y2 =>
  (qAn y2.2 p0).bind fun x3 =>
  (qCp y2.2 p0 p1 y2.1 0 (mn (x3 - p1) (p2 - p1))).bind fun μ4 =>
  some (y2.1, μ4)
def fJ7_copyOfRange_39247 (p0 : Nat) (p1 : Int) (p2 : Int) (μ : qMu) : Option (Nat × qMu) :=
  if wr p1 = 0 then
    (qAn μ p0).bind fun x2 =>
    if wr p2 = wr x2 then
      (qCo μ p0).bind fun y4 =>
      (qCb y4.2 y4.1).bind fun u5 =>
      some (y4.1, y4.2)
    else
      (fJ7_copyOfRangeByte_39247 p0 p1 p2 μ).bind fun y6 =>
      some (y6.1, y6.2)
  else
    (fJ7_copyOfRangeByte_39247 p0 p1 p2 μ).bind fun y7 =>
    some (y7.1, y7.2)
def fJ0_init_db425 (o : Nat) (p0 : Nat) (μ : qMu) : Option (qMu) :=
  (qCn μ p0 11).bind fun u1 =>
  (fJ5_getValue_6d5f1 p0 μ).bind fun y2 =>
  (qCk μ p0 11).bind fun u3 =>
  (fJ4_length_8abf5 p0 μ).bind fun y4 =>
  (qCn μ p0 11).bind fun u5 =>
  (fJ5_isLatin1_aae02 p0 μ).bind fun y6 =>
  if wr y6 = 0 then
    (qGi μ p0 11 2).bind fun x9 =>
    if wr x9 = 0 then
      (qPj μ o 10 1 1).bind fun μ11 =>
      (fJ7_copyOfRange_39247 y2 0 (ishl y4 1) μ11).bind fun y12 =>
      (qPr y12.2 o 10 y12.1).bind fun μ13 =>
      some μ13
    else
      none
  else
    (qPj μ o 10 1 0).bind fun μ14 =>
    (fJ7_copyOfRange_39247 y2 0 y4 μ14).bind fun y15 =>
    (qPr y15.2 o 10 y15.1).bind fun μ16 =>
    some μ16
def fJ0_init_81219 (o : Nat) (p0 : Nat) (μ : qMu) : Option (qMu) :=
  (qCn μ o 10).bind fun u1 =>
  (fJ0_init_db425 o p0 μ).bind fun y2 =>
  some y2
def fJ4_toString_0e30d (o : Nat) (μ : qMu) : Option (Nat × qMu) :=
  (qNo μ 10).bind fun y1 =>
  (qCn y1.2 y1.1 10).bind fun u2 =>
  (fJ0_init_81219 y1.1 o y1.2).bind fun y3 =>
  some (y1.1, y3)
def bL_told_33 (n : Nat) (Ls : Nat) (w1 : Nat) (z2 : Nat) (z3 : Int) (z4 : Int) (μ : qMu) : Option ((Nat × Int × Int × qMu) ⊕ (Nat × qMu)) :=
  if wr z4 < wr (rd μ 78 2) then
    (fL_chosen Ls 4 μ).bind fun y7 =>
    (qSi y7.2 w1 z4 y7.1).bind fun μ8 =>
    (qLi μ8 w1 z4).bind fun x9 =>
    (if wr z4 = wr ((rd μ8 78 2) - 1) then
      if wr (irm (z3 + x9) 2) = 1 then
        (qLi μ8 w1 z4).bind fun x13 =>
        (qSi μ8 w1 z4 (x13 + 1)).bind fun μ14 =>
        some μ14
      else
        some μ8
    else
      some μ8 : Option (qMu)).bind fun y11 =>
    (qNo y11 11).bind fun y15 =>
    (qCn y15.2 y15.1 11).bind fun u16 =>
    (fJ4_init_da8c8 y15.1 y15.2).bind fun y17 =>
    (qCk y17 y15.1 11).bind fun u18 =>
    (fJ4_append_15ec4 y15.1 z2 y17).bind fun y19 =>
    (qCk y19.2 y19.1 11).bind fun u20 =>
    (fJ4_append_15ec4 y19.1 1000006 y19.2).bind fun y21 =>
    (qLi y21.2 w1 z4).bind fun x22 =>
    (qCk y21.2 y21.1 11).bind fun u23 =>
    (fJ4_append_bf812 n y21.1 x22 y21.2).bind fun y24 =>
    (qCk y24.2 y24.1 11).bind fun u25 =>
    (fJ4_toString_0e30d y24.1 y24.2).bind fun y26 =>
    some (.inl (y26.1, (z3 + x9), (z4 + 1), y26.2))
  else
    some (.inr (z2, μ))
def bL_told_123 (n : Nat) (Ls : Nat) (w1 : Nat) (w2 : Nat) (z4 : Int) (z5 : Int) (μ : qMu) : Option ((Int × Int × qMu) ⊕ (qMu)) :=
  if wr z5 < wr (rd μ 78 2) then
    (qLa qR80 z5).bind fun x29 =>
    (qLi μ w1 z5).bind fun x30 =>
    (qSa μ x29 6 z5 (idv x30 2)).bind fun μ31 =>
    (qLi μ31 w1 z5).bind fun x32 =>
    (if wr (irm x32 2) = 0 then
      some (z4, μ31)
    else
      (if wr z4 < 0 then
        some μ31
      else
        (qLa qR80 z4).bind fun x37 =>
        (qLd μ31 x37 6 z5).bind fun x38 =>
        (qSa μ31 x37 6 z5 (x38 + 1)).bind fun μ39 =>
        some μ39 : Option (qMu)).bind fun y36 =>
      some ((if wr z4 < 0 then z5 else (-1)), y36) : Option (Int × qMu)).bind fun y34 =>
    some (.inl (y34.1, (z5 + 1), y34.2))
  else
    some (.inr μ)
def bL_told_237 (n : Nat) (Ls : Nat) (z2 : Nat) (z5 : Int) (μ : qMu) : Option ((Nat × Int × qMu) ⊕ (Nat × qMu)) :=
  if 0 < wr z5 then
    (fL_chosen Ls (rd μ 78 2) μ).bind fun y59 =>
    (fL_chosen Ls (rd y59.2 78 2) y59.2).bind fun y60 =>
    (qNo y60.2 11).bind fun y61 =>
    (qCn y61.2 y61.1 11).bind fun u62 =>
    (fJ4_init_da8c8 y61.1 y61.2).bind fun y63 =>
    (qCk y63 y61.1 11).bind fun u64 =>
    (fJ4_append_15ec4 y61.1 z2 y63).bind fun y65 =>
    (qCk y65.2 y65.1 11).bind fun u66 =>
    (fJ4_append_15ec4 y65.1 1000009 y65.2).bind fun y67 =>
    (qCk y67.2 y67.1 11).bind fun u68 =>
    (fJ4_append_bf812 n y67.1 y59.1 y67.2).bind fun y69 =>
    (qCk y69.2 y69.1 11).bind fun u70 =>
    (fJ4_append_15ec4 y69.1 1000006 y69.2).bind fun y71 =>
    (qCk y71.2 y71.1 11).bind fun u72 =>
    (fJ4_append_bf812 n y71.1 y60.1 y71.2).bind fun y73 =>
    (qCk y73.2 y73.1 11).bind fun u74 =>
    (fJ4_append_15ec4 y73.1 1000008 y73.2).bind fun y75 =>
    (qCk y75.2 y75.1 11).bind fun u76 =>
    (fJ4_toString_0e30d y75.1 y75.2).bind fun y77 =>
    (qLa qR80 (mn y59.1 y60.1)).bind fun x78 =>
    (qLd y77.2 x78 6 (mx y59.1 y60.1)).bind fun x79 =>
    (qSa y77.2 x78 6 (mx y59.1 y60.1) (x79 + 1)).bind fun μ80 =>
    some (.inl (y77.1, (z5 + (-1)), μ80))
  else
    some (.inr (z2, μ))
def fL_told (n : Nat) (Ls : Nat) (μ : qMu) : Option (Nat × qMu) :=
  (fL_from Ls 1 6 μ).bind fun y1 =>
  (qPf y1.2 78 2 y1.1).bind fun μ2 =>
  (fL_chosen Ls 3 μ2).bind fun y3 =>
  (qPf y3.2 78 3 y3.1).bind fun μ4 =>
  (qNw μ4 0 6).bind fun y5 =>
  (lp (fun x : Nat × Int × Int × qMu => bL_told_33 n Ls y5.1 x.1 x.2.1 x.2.2.1 x.2.2.2) n (1000005, 0, 0, y5.2)).bind fun y27 =>
  (lp (fun x : Int × Int × qMu => bL_told_123 n Ls y5.1 y27.1 x.1 x.2.1 x.2.2) n ((-1), 0, y27.2)).bind fun y43 =>
  (qNo y43 11).bind fun y44 =>
  (qCn y44.2 y44.1 11).bind fun u45 =>
  (fJ4_init_da8c8 y44.1 y44.2).bind fun y46 =>
  (qCk y46 y44.1 11).bind fun u47 =>
  (fJ4_append_15ec4 y44.1 y27.1 y46).bind fun y48 =>
  (qCk y48.2 y48.1 11).bind fun u49 =>
  (fJ4_append_15ec4 y48.1 1000007 y48.2).bind fun y50 =>
  (qCk y50.2 y50.1 11).bind fun u51 =>
  (fJ4_append_bf812 n y50.1 (rd y50.2 78 3) y50.2).bind fun y52 =>
  (qCk y52.2 y52.1 11).bind fun u53 =>
  (fJ4_append_15ec4 y52.1 1000008 y52.2).bind fun y54 =>
  (qCk y54.2 y54.1 11).bind fun u55 =>
  (fJ4_toString_0e30d y54.1 y54.2).bind fun y56 =>
  (fL_chosen Ls 4 y56.2).bind fun y57 =>
  (lp (fun x : Nat × Int × qMu => bL_told_237 n Ls x.1 x.2.1 x.2.2) n (y56.1, y57.1, y57.2)).bind fun y81 =>
  some (y81.1, y81.2)
def bL_edges_14 (n : Nat) (w2 : Int) (z1 : Int) (z3 : Int) (μ : qMu) : Option ((Int × Int) ⊕ (Int)) :=
  if wr z3 < wr (rd μ 78 2) then
    (qLa qR80 w2).bind fun x3 =>
    (qLd μ x3 6 z3).bind fun x4 =>
    some (.inl ((z1 + x4), (z3 + 1)))
  else
    some (.inr z1)
def bL_edges_4 (n : Nat) (z1 : Int) (z2 : Int) (μ : qMu) : Option ((Int × Int) ⊕ (Int)) :=
  if wr z2 < wr (rd μ 78 2) then
    (lp (fun x : Int × Int => bL_edges_14 n z2 x.1 x.2 μ) n (z1, z2)).bind fun y5 =>
    some (.inl (y5, (z2 + 1)))
  else
    some (.inr z1)
def fL_edges (n : Nat) (μ : qMu) : Option (Int) :=
  (lp (fun x : Int × Int => bL_edges_4 n x.1 x.2 μ) n (0, 0)).bind fun y6 =>
  some y6
def fL_many (p0 : Int) (p1 : Int) (μ : qMu) : Option (Int) :=
  (qLa qR80 (mn p0 p1)).bind fun x1 =>
  (qLd μ x1 6 (mx p0 p1)).bind fun x2 =>
  some x2
def bL_degree_11 (n : Nat) (w1 : Int) (z2 : Int) (z3 : Int) (μ : qMu) : Option ((Int × Int) ⊕ (Int)) :=
  if wr z3 < wr (rd μ 78 2) then
    (fL_many w1 z3 μ).bind fun y4 =>
    some (.inl ((z2 + y4), (z3 + 1)))
  else
    some (.inr z2)
def fL_degree (n : Nat) (p0 : Int) (μ : qMu) : Option (Int) :=
  (qLa qR80 p0).bind fun x1 =>
  (qLd μ x1 6 p0).bind fun x2 =>
  (lp (fun x : Int × Int => bL_degree_11 n p0 x.1 x.2 μ) n (x2, 0)).bind fun y5 =>
  some y5
def bL_isGraph_130 (n : Nat) (w2 : Int) (w3 : Int) (w5 : Int) (w6 : Int) (z4 : Int) (z7 : Int) (μ : qMu) : Option ((Int × Int) ⊕ (Int)) :=
  if wr z7 < wr (rd μ 78 2) then
    if wr w5 < wr w6 then
      (fL_many w5 w6 μ).bind fun y27 =>
      (if 0 < wr y27 then
        (fL_many w6 z7 μ).bind fun y30 =>
        if 0 < wr y30 then
          (fL_many w5 z7 μ).bind fun y32 =>
          if 0 < wr y32 then
            some 1
          else
            some 0
        else
          some 0
      else
        some 0 : Option (Int)).bind fun y29 =>
      some (.inl ((z4 + y29), (z7 + 1)))
    else
      some (.inr z4)
  else
    some (.inr z4)
def bL_isGraph_53 (n : Nat) (w2 : Int) (w5 : Int) (z3 : Int) (z4 : Int) (z6 : Int) (μ : qMu) : Option ((Int × Int × Int) ⊕ ((Int × Int) ⊕ ((Int ⊕ Nat) × qMu))) :=
  if wr z6 < wr (rd μ 78 2) then
    (fX9_times w5 z6 0 μ).bind fun y11 =>
    Sum.elim (fun v13 =>
      (fL_many w5 z6 μ).bind fun y15 =>
      if wr v13 = wr y15 then
        (fX9_times w5 z6 1 μ).bind fun y17 =>
        Sum.elim (fun v19 =>
          if wr v19 = 0 then
            (if wr w5 < wr z6 then
              (fL_many w5 z6 μ).bind fun y24 =>
              some (mx 0 (y24 - 1))
            else
              some 0 : Option (Int)).bind fun y23 =>
            (lp (fun x : Int × Int => bL_isGraph_130 n w2 (z3 + y23) w5 z6 x.1 x.2 μ) n (z4, (z6 + 1))).bind fun y34 =>
            some (.inl ((z3 + y23), y34, (z6 + 1)))
          else
            some (.inr (.inr (.inl 0, μ))))
          (fun E20 =>
          some (.inr (.inr (.inr E20, μ)))) y17
      else
        some (.inr (.inr (.inl 0, μ))))
      (fun E14 =>
      some (.inr (.inr (.inr E14, μ)))) y11
  else
    some (.inr (.inl (z3, z4)))
def bL_isGraph_10 (n : Nat) (z2 : Int) (z3 : Int) (z4 : Int) (z5 : Int) (μ : qMu) : Option ((Int × Int × Int × Int) ⊕ ((Int × Int × Int) ⊕ ((Int ⊕ Nat) × qMu))) :=
  if wr z5 < wr (rd μ 78 2) then
    (qLa qR80 z5).bind fun x2 =>
    (qLd μ x2 6 z5).bind fun x3 =>
    (fX9_degree n z5 0 μ).bind fun y4 =>
    Sum.elim (fun v6 =>
      (fL_degree n z5 μ).bind fun y8 =>
      if wr v6 = wr y8 then
        (lp (fun x : Int × Int × Int => bL_isGraph_53 n (z2 + x3) z5 x.1 x.2.1 x.2.2 μ) n (z3, z4, 0)).bind fun y35 =>
        Sum.elim (fun b36 =>
          some (.inl ((z2 + x3), b36.1, b36.2, (z5 + 1))))
          (fun r37 => some (.inr (.inr r37))) y35
      else
        some (.inr (.inr (.inl 0, μ))))
      (fun E7 =>
      some (.inr (.inr (.inr E7, μ)))) y4
  else
    some (.inr (.inl (z2, z3, z4)))
def bL_isGraph_216 (n : Nat) (w2 : Int) (w3 : Int) (w4 : Int) (w5 : Nat) (z6 : Int) (μ : qMu) : Option ((Int × qMu) ⊕ (qMu)) :=
  if wr z6 < wr (rd μ 78 2) then
    (qSi μ w5 z6 z6).bind fun μ42 =>
    some (.inl ((z6 + 1), μ42))
  else
    some (.inr μ)
def bL_isGraph_265 (n : Nat) (w2 : Int) (w3 : Int) (w4 : Int) (w5 : Nat) (w6 : Int) (w7 : Int) (z8 : Int) (μ : qMu) : Option ((Int × qMu) ⊕ (qMu)) :=
  if wr z8 < wr (rd μ 78 2) then
    (fL_many w7 z8 μ).bind fun y47 =>
    (if 0 < wr y47 then
      (qLi μ w5 w7).bind fun x50 =>
      (qLi μ w5 z8).bind fun x51 =>
      (qSi μ w5 w7 (mn x50 x51)).bind fun μ52 =>
      some μ52
    else
      some μ : Option (qMu)).bind fun y49 =>
    some (.inl ((z8 + 1), y49))
  else
    some (.inr μ)
def bL_isGraph_253 (n : Nat) (w2 : Int) (w3 : Int) (w4 : Int) (w5 : Nat) (w6 : Int) (z7 : Int) (μ : qMu) : Option ((Int × qMu) ⊕ (qMu)) :=
  if wr z7 < wr (rd μ 78 2) then
    (lp (fun x : Int × qMu => bL_isGraph_265 n w2 w3 w4 w5 w6 z7 x.1 x.2) n (0, μ)).bind fun y53 =>
    some (.inl ((z7 + 1), y53))
  else
    some (.inr μ)
def bL_isGraph_241 (n : Nat) (w2 : Int) (w3 : Int) (w4 : Int) (w5 : Nat) (z6 : Int) (μ : qMu) : Option ((Int × qMu) ⊕ (qMu)) :=
  if wr z6 < wr (rd μ 78 2) then
    (lp (fun x : Int × qMu => bL_isGraph_253 n w2 w3 w4 w5 z6 x.1 x.2) n (0, μ)).bind fun y54 =>
    some (.inl ((z6 + 1), y54))
  else
    some (.inr μ)
def bL_isGraph_327 (n : Nat) (w2 : Int) (w3 : Int) (w4 : Int) (w5 : Nat) (z6 : Int) (z7 : Int) (μ : qMu) : Option ((Int × Int) ⊕ (Int)) :=
  if wr z7 < wr (rd μ 78 2) then
    (qLi μ w5 z7).bind fun x57 =>
    some (.inl ((z6 + (if wr x57 = wr z7 then 1 else 0)), (z7 + 1)))
  else
    some (.inr z6)
def fL_isGraph (n : Nat) (μ : qMu) : Option ((Int ⊕ Nat) × qMu) :=
  (lp (fun x : Int × Int × Int × Int => bL_isGraph_10 n x.1 x.2.1 x.2.2.1 x.2.2.2 μ) n (0, 0, 0, 0)).bind fun y38 =>
  Sum.elim (fun b39 =>
    (qNw μ 0 6).bind fun y40 =>
    (lp (fun x : Int × qMu => bL_isGraph_216 n b39.1 b39.2.1 b39.2.2 y40.1 x.1 x.2) n (0, y40.2)).bind fun y43 =>
    (lp (fun x : Int × qMu => bL_isGraph_241 n b39.1 b39.2.1 b39.2.2 y40.1 x.1 x.2) n (0, y43)).bind fun y55 =>
    (lp (fun x : Int × Int => bL_isGraph_327 n b39.1 b39.2.1 b39.2.2 y40.1 x.1 x.2 y55) n (0, 0)).bind fun y61 =>
    (fX9_loops n y55).bind fun y62 =>
    if wr y62 = wr b39.1 then
      (fX9_defects n y55).bind fun y64 =>
      if wr y64 = wr (b39.1 + b39.2.1) then
        (fX9_isSimple n y55).bind fun y66 =>
        if wr y66 = wr (if wr (b39.1 + b39.2.1) = 0 then 1 else 0) then
          (fX9_triangles n y55).bind fun y71 =>
          if wr y71 = wr b39.2.2 then
            (fX9_components n y55).bind fun y73 =>
            if wr y73.1 = wr y61 then
              (fX9_meanDegree y73.2).bind fun y75 =>
              (fL_edges n y73.2).bind fun y76 =>
              (dmu 4611686018427387904 (i2d y76)).bind fun x77 =>
              (ddv x77 (i2d (rd y73.2 78 2))).bind fun x78 =>
              if wr (dcm y75 x78 .l) = 0 then
                some (.inl 1, y73.2)
              else
                some (.inl 0, y73.2)
            else
              some (.inl 0, y73.2)
          else
            some (.inl 0, y55)
        else
          some (.inl 0, y55)
      else
        some (.inl 0, y55)
    else
      some (.inl 0, y55))
    (fun r80 => some r80) y38
def bL_isSequence_20 (n : Nat) (w2 : Nat) (w3 : Int) (z4 : Int) (μ : qMu) : Option ((Int × qMu) ⊕ (Int × qMu)) :=
  if 0 < wr z4 then
    (qLi μ w2 (z4 - 1)).bind fun x4 =>
    (fL_degree n w3 μ).bind fun y5 =>
    if wr x4 < wr y5 then
      (qLi μ w2 (z4 - 1)).bind fun x7 =>
      (qSi μ w2 z4 x7).bind fun μ8 =>
      some (.inl ((z4 + (-1)), μ8))
    else
      some (.inr (z4, μ))
  else
    some (.inr (z4, μ))
def bL_isSequence_9 (n : Nat) (w2 : Nat) (z3 : Int) (μ : qMu) : Option ((Int × qMu) ⊕ (qMu)) :=
  if wr z3 < wr (rd μ 78 2) then
    (lp (fun x : Int × qMu => bL_isSequence_20 n w2 z3 x.1 x.2) n (z3, μ)).bind fun y9 =>
    (fL_degree n z3 y9.2).bind fun y10 =>
    (qSi y9.2 w2 y9.1 y10).bind fun μ11 =>
    some (.inl ((z3 + 1), μ11))
  else
    some (.inr μ)
def bL_isSequence_96 (n : Nat) (w2 : Nat) (w3 : Int) (w4 : Int) (z5 : Int) (z6 : Int) (μ : qMu) : Option ((Int × Int) ⊕ (Int)) :=
  if wr z6 < wr (rd μ 78 2) then
    (if wr z6 < wr w4 then
      (qLi μ w2 z6).bind fun x17 =>
      some (-x17)
    else
      (qLi μ w2 z6).bind fun x18 =>
      some (mn w4 x18) : Option (Int)).bind fun y16 =>
    some (.inl ((z5 + y16), (z6 + 1)))
  else
    some (.inr z5)
def bL_isSequence_75 (n : Nat) (w2 : Nat) (z3 : Int) (z4 : Int) (μ : qMu) : Option ((Int × Int × qMu) ⊕ ((Int × qMu) ⊕ ((Int ⊕ Nat) × qMu))) :=
  if wr (rd μ 78 2) < wr z4 then
    some (.inr (.inl (z3, μ)))
  else
    (lp (fun x : Int × Int => bL_isSequence_96 n w2 z3 z4 x.1 x.2 μ) n ((z4 * (z4 - 1)), 0)).bind fun y19 =>
    (fX9_sorted n (z4 - 1) μ).bind fun y20 =>
    Sum.elim (fun v22 =>
      (qLi y20.2 w2 (z4 - 1)).bind fun x25 =>
      if wr v22 = wr x25 then
        (fX9_slack n z4 y20.2).bind fun y27 =>
        Sum.elim (fun v29 =>
          if wr v29 = wr y19 then
            some (.inl ((if wr z3 = 0 then 0 else if wr y19 < 0 then 0 else 1), (z4 + 1), y27.2))
          else
            some (.inr (.inr (.inl 0, y27.2))))
          (fun E30 =>
          some (.inr (.inr (.inr E30, y27.2)))) y27.1
      else
        some (.inr (.inr (.inl 0, y20.2))))
      (fun E23 =>
      some (.inr (.inr (.inr E23, y20.2)))) y20.1
def fL_isSequence (n : Nat) (μ : qMu) : Option ((Int ⊕ Nat) × qMu) :=
  (qNw μ 0 (rd μ 78 2)).bind fun y1 =>
  (lp (fun x : Int × qMu => bL_isSequence_9 n y1.1 x.1 x.2) n (0, y1.2)).bind fun y12 =>
  (lp (fun x : Int × Int × qMu => bL_isSequence_75 n y1.1 x.1 x.2.1 x.2.2) n (1, 1, y12)).bind fun y37 =>
  Sum.elim (fun b38 =>
    (fX9_isPossible n 0 b38.2).bind fun y39 =>
    Sum.elim (fun v41 =>
      if wr v41 = 0 then
        some (.inl 0, y39.2)
      else
        (fX9_isPossible n 1 y39.2).bind fun y45 =>
        Sum.elim (fun v47 =>
          (qLi y45.2 y1.1 0).bind fun x50 =>
          (fL_edges n y45.2).bind fun y51 =>
          (qLi y45.2 y1.1 0).bind fun x52 =>
          if wr v47 = wr (if wr ((2 * y51) - x52) < wr x50 then 0 else 1) then
            (fX9_isPossible n 2 y45.2).bind fun y57 =>
            Sum.elim (fun v59 =>
              if wr v59 = wr b38.1 then
                some (.inl 1, y57.2)
              else
                some (.inl 0, y57.2))
              (fun E60 =>
              some (.inr E60, y57.2)) y57.1
          else
            some (.inl 0, y45.2))
          (fun E48 =>
          some (.inr E48, y45.2)) y45.1)
      (fun E42 =>
      some (.inr E42, y39.2)) y39.1)
    (fun r63 => some r63) y37
def fL_isSame (p0 : Int) (p1 : Int) (p2 : Int) (p3 : Int) (μ : qMu) : Option (Int) :=
  if wr (mn p0 p1) = wr (mn p2 p3) then
    if wr (mx p0 p1) = wr (mx p2 p3) then
      some 1
    else
      some 0
  else
    some 0
def fL_isReason (Ls : Nat) (μ : qMu) : Option ((Int ⊕ Nat) × qMu) :=
  (fL_chosen Ls (rd μ 78 2) μ).bind fun y1 =>
  (fL_chosen Ls (rd y1.2 78 2) y1.2).bind fun y2 =>
  (fL_chosen Ls (rd y2.2 78 2) y2.2).bind fun y3 =>
  (fL_chosen Ls (rd y3.2 78 2) y3.2).bind fun y4 =>
  (fL_many y3.1 y4.1 y4.2).bind fun y5 =>
  (fL_isSame y1.1 y2.1 y3.1 y4.1 y4.2).bind fun y6 =>
  (fL_many y1.1 y3.1 y4.2).bind fun y10 =>
  (fL_isSame y1.1 y3.1 y1.1 y2.1 y4.2).bind fun y11 =>
  (fL_isSame y1.1 y3.1 y3.1 y4.1 y4.2).bind fun y15 =>
  (fL_many y2.1 y4.1 y4.2).bind fun y19 =>
  (fL_isSame y2.1 y4.1 y1.1 y2.1 y4.2).bind fun y20 =>
  (fL_isSame y2.1 y4.1 y3.1 y4.1 y4.2).bind fun y24 =>
  (fL_many y1.1 y2.1 y4.2).bind fun y28 =>
  (if wr y28 = 0 then
    some 1
  else
    if wr (y5 - (if wr y6 = 0 then 0 else 1)) < 1 then
      some 2
    else
      if wr y1.1 = wr y4.1 then
        some 3
      else
        if wr y2.1 = wr y3.1 then
          some 3
        else
          if 0 < wr (rd y4.2 78 3) then
            if wr y1.1 = wr y3.1 then
              some 4
            else
              if wr y2.1 = wr y4.1 then
                some 4
              else
                if wr (rd y4.2 78 3) = 2 then
                  if 0 < wr ((y10 - (if wr y11 = 0 then 0 else 1)) - (if wr y15 = 0 then 0 else 1)) then
                    some 5
                  else
                    if 0 < wr ((y19 - (if wr y20 = 0 then 0 else 1)) - (if wr y24 = 0 then 0 else 1)) then
                      some 5
                    else
                      (fL_isSame y1.1 y3.1 y2.1 y4.1 y4.2).bind fun y40 =>
                      if wr y40 = 0 then
                        some 0
                      else
                        some 5
                else
                  some 0
          else
            if wr (rd y4.2 78 3) = 2 then
              if 0 < wr ((y10 - (if wr y11 = 0 then 0 else 1)) - (if wr y15 = 0 then 0 else 1)) then
                some 5
              else
                if 0 < wr ((y19 - (if wr y20 = 0 then 0 else 1)) - (if wr y24 = 0 then 0 else 1)) then
                  some 5
                else
                  (fL_isSame y1.1 y3.1 y2.1 y4.1 y4.2).bind fun y45 =>
                  if wr y45 = 0 then
                    some 0
                  else
                    some 5
            else
              some 0 : Option (Int)).bind fun y30 =>
  (fX9_reason y1.1 y2.1 y3.1 y4.1 y4.2).bind fun y47 =>
  Sum.elim (fun v49 =>
    if wr v49 = wr y30 then
      some (.inl 1, y4.2)
    else
      some (.inl 0, y4.2))
    (fun E50 =>
    some (.inr E50, y4.2)) y47
def fL_isNoVertex (n : Nat) (t : Nat) (μ : qMu) : Option (Int × Nat) :=
  (fX9_degree n 8 0 μ).bind fun y1 =>
  Sum.elim (fun v3 =>
    if wr v3 = (-7) then
      some (1, t)
    else
      some (0, t))
    (fun E4 =>
    if E4 = 0 then
      some (1, (t + 1))
    else
      none) y1
def fL_isBad (n : Nat) (t : Nat) (μ : qMu) : Option (Int × Nat × qMu) :=
  (fX9_setMode n 3 μ).bind fun y1 =>
  Sum.elim (fun v3 =>
    if wr v3 = (-7) then
      some (1, t, y1.2)
    else
      some (0, t, y1.2))
    (fun E4 =>
    if E4 = 1 then
      some (1, (t + 1), y1.2)
    else
      none) y1.1
def fL_isNoEdge (n : Nat) (t : Nat) (μ : qMu) : Option (Int × Nat × qMu) :=
  (fX9_removeEdge n ((rd μ 78 2) - 1) ((rd μ 78 2) - 1) μ).bind fun y1 =>
  Sum.elim (fun v3 =>
    (qLa qR80 ((rd y1.2 78 2) - 1)).bind fun x6 =>
    (qLd y1.2 x6 6 ((rd y1.2 78 2) - 1)).bind fun x7 =>
    if wr v3 = wr (x7 - 1) then
      some (1, t, y1.2)
    else
      some (0, t, y1.2))
    (fun E4 =>
    if E4 = 2 then
      (qLa qR80 ((rd y1.2 78 2) - 1)).bind fun x9 =>
      (qLd y1.2 x9 6 ((rd y1.2 78 2) - 1)).bind fun x10 =>
      if wr x10 = 0 then
        some (1, (t + 1), y1.2)
      else
        some (0, (t + 1), y1.2)
    else
      none) y1.1
def bL_law_79 (n : Nat) (Ls : Nat) (t : Nat) (z4 : Int) (μ : qMu) : Option ((Int × qMu) ⊕ ((qMu) ⊕ ((Int ⊕ Nat) × Nat × qMu))) :=
  if wr z4 < 12 then
    (fL_isReason Ls μ).bind fun y26 =>
    Sum.elim (fun v28 =>
      if wr v28 = 0 then
        some (.inr (.inr (.inl 0, t, y26.2)))
      else
        some (.inl ((z4 + 1), y26.2)))
      (fun E29 =>
      some (.inr (.inr (.inr E29, t, y26.2)))) y26.1
  else
    some (.inr (.inl μ))
def fL_law (n : Nat) (Ls : Nat) (t : Nat) (μ : qMu) : Option ((Int ⊕ Nat) × Nat × qMu) :=
  (fL_told n Ls μ).bind fun y1 =>
  (fL_load n y1.1 y1.2).bind fun y2 =>
  Sum.elim (fun v4 =>
    (fL_edges n y2.2).bind fun y7 =>
    if wr v4 = wr y7 then
      (fX9_errorKind y2.2).bind fun y9 =>
      if wr y9 = 0 then
        (fX9_vertices y2.2).bind fun y11 =>
        if wr y11 = wr (rd y2.2 78 2) then
          (fL_isGraph n y2.2).bind fun y13 =>
          Sum.elim (fun v15 =>
            if wr v15 = 0 then
              some (.inl 0, t, y13.2)
            else
              (fL_isSequence n y13.2).bind fun y19 =>
              Sum.elim (fun v21 =>
                if wr v21 = 0 then
                  some (.inl 0, t, y19.2)
                else
                  (lp (fun x : Int × qMu => bL_law_79 n Ls t x.1 x.2) n (0, y19.2)).bind fun y32 =>
                  Sum.elim (fun b33 =>
                    (fL_isNoVertex n t b33).bind fun y34 =>
                    if wr y34.1 = 0 then
                      some (.inl 0, y34.2, b33)
                    else
                      (fL_isBad n y34.2 b33).bind fun y36 =>
                      if wr y36.1 = 0 then
                        some (.inl 0, y36.2.1, y36.2.2)
                      else
                        (fL_isNoEdge n y36.2.1 y36.2.2).bind fun y38 =>
                        if wr y38.1 = 0 then
                          some (.inl 0, y38.2.1, y38.2.2)
                        else
                          some (.inl 1, y38.2.1, y38.2.2))
                    (fun r40 => some r40) y32)
                (fun E22 =>
                some (.inr E22, t, y19.2)) y19.1)
            (fun E16 =>
            some (.inr E16, t, y13.2)) y13.1
        else
          some (.inl 0, t, y2.2)
      else
        some (.inl 0, t, y2.2)
    else
      some (.inl 0, t, y2.2))
    (fun E5 =>
    some (.inr E5, t, y2.2)) y2.1
